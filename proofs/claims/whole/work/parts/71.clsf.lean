/-! the class: covers worked out; counts -/
theorem cst_open {q : Nat → Int} (hw : WF q) (s : Nat) : (pcF q s = -1 → cstF q s = -1) ∧ (pcF q s ≠ -1 → suitB q s = true → 0 ≤ cstF q s) ∧ (suitB q s = false → cstF q s = -1) := by
  have h := cstF_pc q s
  have hb := pcF_bd hw (s := s)
  refine ⟨fun c => ?_, fun c c2 => ?_, fun c => ?_⟩
  · rw [h, c]; split <;> rfl
  · rw [h, if_pos c2]; omega
  · rw [h, if_neg (by rw [c]; decide)]
theorem hfold_same {c : Nat → Int} {hd : Int} {p : Nat} (hc : c p < 0) (s : Nat) : hfold c hd s (p + 1) = hfold c hd s p := by
  have e : hfold c hd s (p + 1) = hstep c hd s p (hfold c hd s p) := rfl
  rw [e, hstep, if_neg (by rintro ⟨-, z, -⟩; omega)]
section CLSF
variable {G : GE} {d : Nat} {M : Mem}
theorem c1_workOut {K : Mem → Prop} {t mk : Nat} {g q : Nat → Int} (ht : t = 28 ∨ t = 39) (hM : Mk mk g q M) (h : ∀ M', Fr (rg (t + 1) (t + 5)) M M' → CvM t q M' → K M') : CalV G miX1_workOut (d + 2) [.inr (.inr (some t)), .inr (.inr (some mk))] M K := by
  have hw := hM.2.1.2.1
  have hwg := hM.2.1.1
  have hA := hM.2.1.2.2
  have hmk := hM.2.2
  have hn := hw.n
  have hN := pow_le7 hn.2
  have hac := allF_cast q
  have hgq := ag_allF hA
  refine Cal.of (by decide) (Nat.le_of_ble_eq_true rfl) rfl (gX1_workOut_0 ht hmk ?_)
  refine cJ_fill (lyT2 ht) (by decide) (fun f2 hf2 => ?_)
  refine cJ_fill (lyT3 ht) (by decide) (fun f3 hf3 => ?_)
  have f0 : Fr (rg (t + 1) (t + 5)) M (mset (mset M (t + 2) f2) (t + 3) f3) := (Fr.rf.ms (fun _ => rg_yes (by omega))).ms (fun _ => rg_yes (by omega))
  have i2 : ∀ s, s < 128 → (mset (mset M (t + 2) f2) (t + 3) f3) (t + 2) s = -1 := fun s hs => by rw [mset_ne _ (by omega), mset_at]; exact hf2 s hs
  have i3 : ∀ s, s < 128 → (mset (mset M (t + 2) f2) (t + 3) f3) (t + 3) s = -1 := fun s hs => by rw [mset_at]; exact hf3 s hs
  generalize mset (mset M (t + 2) f2) (t + 3) f3 = M0 at *
  have mkf : ∀ {M'}, Fr (rg (t + 1) (t + 5)) M M' → Mk mk g q M' := fun hf => mk_rg hM hf (by omega)
  have all : ∀ {M' : Mem} {K' : Int → Mem → Prop} {d' : Nat}, Fr (rg (t + 1) (t + 5)) M M' → K' (((2 ^ nF q : Nat) : Int) - 1) M' → CalI G miX5_allFlights d' [.inr (.inr (some 1))] M' K' := fun hf hk => c5_allFlights (mkf hf).1.1 hwg (by rw [← hgq, hac]; exact hk)
  refine dn (P := fun s => 1 ≤ s → ∀ M' : Mem, Fr (rg (t + 1) (t + 5)) M M' → (∀ x, x ≠ 0 → x < s → M' (t + 1) x = bI (decide (0 ≤ cstF q x))) → (∀ x, x ≠ 0 → x < 2 ^ nF q → M' (t + 2) x = (hfold (cstF q) (q 90) x s).1 ∧ M' (t + 3) x = (hfold (cstF q) (q 90) x s).2) → OkV G miX1_workOut (d + 2) K 18 [some (.inr (.inr (some t))), some (.inr (.inr (some mk))), some (.inl (s : Int))] [] M') (2 ^ nF q) ?_ (fun s hs ih => ?_) 1 (pow_pos2 _) (Nat.le_refl _) M0 f0 (fun x h0 hx => by omega) (fun x h0 hx => ?_)
  · intro _ M1 f1 o1 c1
    refine gX1_workOut_18 ht hmk (all f1 ⟨fun _ => ?_, fun c => absurd c (by omega)⟩)
    have f2' : Fr (rg (t + 1) (t + 5)) M (mup (mup M1 (t + 5) 0 0) (t + 4) 0 0) := (f1.up (rg_yes (by omega))).up (rg_yes (by omega))
    have cs : ∀ s, s ≠ 0 → s < 2 ^ nF q → CsM t q s (mup (mup M1 (t + 5) 0 0) (t + 4) 0 0) := fun s h0 hs => by
      have e : ∀ c, c ≠ t + 5 → c ≠ t + 4 → (mup (mup M1 (t + 5) 0 0) (t + 4) 0 0) c = M1 c := fun c z1 z2 => by rw [mup_ne z2, mup_ne z1]
      refine ⟨by rw [e _ (by omega) (by omega)]; exact o1 s h0 hs, by rw [e _ (by omega) (by omega)]; exact (c1 s h0 hs).1, by rw [e _ (by omega) (by omega)]; exact (c1 s h0 hs).2⟩
    have t0 : CtM t q 0 (mup (mup M1 (t + 5) 0 0) (t + 4) 0 0) := ⟨by rw [mup_at, totF_0], by rw [mup_ne (by omega), mup_at, totF_0]; rfl⟩
    generalize (mup (mup M1 (t + 5) 0 0) (t + 4) 0 0) = M2 at *
    refine dn (P := fun F => 1 ≤ F → ∀ M' : Mem, Fr (rg (t + 1) (t + 5)) M M' → (∀ s, s ≠ 0 → s < 2 ^ nF q → CsM t q s M') → (∀ x, x < F → CtM t q x M') → OkV G miX1_workOut (d + 2) K 98 [some (.inr (.inr (some t))), none, some (.inl (F : Int))] [] M') (2 ^ nF q) ?_ (fun F hF ih => ?_) 1 (pow_pos2 _) (Nat.le_refl _) M2 f2' cs (fun x hx => by rw [show x = 0 by omega]; exact t0)
    · intro _ M3 f3 s3 t3
      exact gX1_workOut_98 ht hmk (all f3 ⟨fun _ => h M3 f3 ⟨s3, t3⟩, fun c => absurd c (by omega)⟩)
    · intro hF1 M3 f3 s3 t3
      refine gX1_workOut_98 ht hmk (all f3 ⟨fun c => absurd c (by omega), fun _ => ?_⟩)
      refine c1_choose ht (mkf f3) rfl (by omega) hF (fun s h0 hs => (s3 s h0 hs).2.1) (fun s hs => (t3 s hs).2) (fun M4 f4 t4 => ?_)
      rw [w32n (by omega)]
      refine ih (by omega) M4 (f3.tr (f4.mo (fun c i hc => by have := rg_of hc; unfold SH; simp; omega))) (fun s h0 hs => ?_) (fun x hx => ?_)
      · obtain ⟨a, b, c⟩ := s3 s h0 hs
        exact ⟨by rw [f4 _ _ (by unfold SH; simp)]; exact a, by rw [f4 _ _ (by unfold SH; simp)]; exact b, by rw [f4 _ _ (by unfold SH; simp)]; exact c⟩
      · by_cases e : x = F
        · subst e; exact t4
        · obtain ⟨a, b⟩ := t3 x (by omega)
          exact ⟨by rw [f4 _ _ (by unfold SH; simp; omega)]; exact a, by rw [f4 _ _ (by unfold SH; simp; omega)]; exact b⟩
  · intro hs1 M1 f1 o1 c1
    have h24 : M1 24 s = pcF q s := ((mkf f1).1.2.1.2.2.2 s (by omega) hs).1
    obtain ⟨k1, k2, k3⟩ := cst_open hw s
    have nx : ∀ (M2 : Mem), Fr (rg (t + 1) (t + 5)) M M2 → (∀ x, x ≠ 0 → x < s + 1 → M2 (t + 1) x = bI (decide (0 ≤ cstF q x))) → (∀ x, x ≠ 0 → x < 2 ^ nF q → M2 (t + 2) x = (hfold (cstF q) (q 90) x (s + 1)).1 ∧ M2 (t + 3) x = (hfold (cstF q) (q 90) x (s + 1)).2) → OkV G miX1_workOut (d + 2) K 18 [some (.inr (.inr (some t))), some (.inr (.inr (some mk))), some (.inl (w32 ((s : Int) + 1)))] [] M2 := fun M2 f2 o2 c2 => by
      rw [w32n (by omega)]
      exact ih (by omega) M2 f2 o2 c2
    have shut : cstF q s < 0 → OkV G miX1_workOut (d + 2) K 18 [some (.inr (.inr (some t))), some (.inr (.inr (some mk))), some (.inl (w32 ((s : Int) + 1)))] [] (mup M1 (t + 1) s 0) := fun hc => by
      refine nx _ (f1.up (rg_yes (by omega))) (fun x h0 hx => ?_) (fun x h0 hx => ?_)
      · by_cases e : x = s
        · subst e; rw [mup_at, decide_eq_false (by omega)]; rfl
        · rw [mup_at_ne e]; exact o1 x h0 (by omega)
      · rw [mup_ne (by omega), mup_ne (by omega), hfold_same hc]; exact c1 x h0 hx
    refine gX1_workOut_18 ht hmk (all f1 ⟨fun c => absurd c (by omega), fun _ => ⟨by omega, ?_⟩⟩)
    rw [Int.toNat_natCast, h24]
    refine ⟨fun c => ?_, fun c => ?_⟩
    · refine gX1_workOut_60 ht hmk ⟨by omega, by omega, ?_⟩
      rw [Int.toNat_natCast, mup_at]
      exact ⟨fun _ => shut (by rw [k1 c]; decide), fun c => absurd rfl c⟩
    · refine c1_suits ht (mkf f1) rfl (by omega) ?_
      cases hsu : suitB q s with
      | false =>
        have e0 : (if ¬ (bI false = 0) then (1 : Int) else 0) = 0 := rfl
        rw [e0, mup_at]
        exact ⟨by omega, .inl rfl, by omega, fun _ => shut (by rw [k3 hsu]; decide), fun c => absurd rfl c⟩
      | true =>
        have e0 : (if ¬ (bI true = 0) then (1 : Int) else 0) = 1 := rfl
        have hc := k2 c hsu
        rw [e0, mup_at]
        refine ⟨by omega, .inr rfl, by omega, fun c => absurd c (by decide), fun _ => ?_⟩
        have fu : Fr (rg (t + 1) (t + 5)) M (mup M1 (t + 1) s 1) := f1.up (rg_yes (by omega))
        refine c1_offer ht (mkf fu) rfl (by omega) hs hc (fun x h0 hx => by rw [mup_ne (by omega), mup_ne (by omega)]; exact c1 x h0 hx) (fun M2 f2 c2 => ?_)
        refine nx M2 (fu.tr (f2.mo (fun c i hc => by have := rg_of hc; unfold SO; simp; omega))) (fun x h0 hx => ?_) c2
        rw [f2 _ _ (by unfold SO; simp)]
        by_cases e : x = s
        · subst e; rw [mup_at, decide_eq_true hc]; rfl
        · rw [mup_at_ne e]; exact o1 x h0 (by omega)
  · have lo := hfold_lo (cstF q) (q 90) x 1 (by omega)
    rw [lo, i2 x (by omega), i3 x (by omega)]; exact ⟨rfl, rfl⟩
/-- the plan g, covers of q in t -/
def Cq (t : Nat) (g q : Nat → Int) (M : Mem) : Prop := (Pl g M ∧ CvM t q M) ∧ WF g ∧ WF q ∧ Ag g q
theorem cq_all {t : Nat} {g q : Nat → Int} {K : Int → Mem → Prop} (h : Cq t g q M) (hk : K (allF q : Int) M) : CalI G miX5_allFlights d [.inr (.inr (some 1))] M K := c5_allFlights h.1.1 h.2.1 (by rw [← ag_allF h.2.2.2]; exact hk)
variable {K : Int → Mem → Prop}
theorem c1_pairingCount {t : Nat} {g q : Nat → Int} (ht : t = 28 ∨ t = 39) (hC : Cq t g q M) (h : K (pcn (cstF q) (2 ^ nF q) : Int) M) : CalI G miX1_pairingCount (d + 1) [.inr (.inr (some t))] M K := by
  have hn := hC.2.2.1.n
  have hN := pow_le7 hn.2
  have hac := allF_cast q
  refine Cal.of (by decide) (Nat.le_of_ble_eq_true rfl) rfl (gX1_pairingCount_0 ht ?_)
  have key := dn (P := fun s => 1 ≤ s → OkI G miX1_pairingCount (d + 1) K 4 [some (.inr (.inr (some t))), some (.inl (pcn (cstF q) s : Int)), some (.inl (s : Int))] [] M) (2 ^ nF q) ?_ (fun s hs ih => ?_) 1 (pow_pos2 _) (Nat.le_refl _)
  · exact key
  · intro _
    exact gX1_pairingCount_4 ht (cq_all hC ⟨fun _ => h, fun c => absurd c (by omega)⟩)
  · intro hs1
    have hp := pcn_le (cstF q) s
    refine gX1_pairingCount_4 ht (cq_all hC ⟨fun c => absurd c (by omega), fun _ => ⟨by omega, ?_⟩⟩)
    rw [Int.toNat_natCast, (hC.1.2.1 s (by omega) hs).1, w32n (k := s) (by omega)]
    have ih := ih (by omega)
    rw [pcn] at ih
    by_cases c : 0 ≤ cstF q s
    · rw [decide_eq_true c]
      rw [if_pos ⟨hs1, c⟩] at ih
      rw [w32n (by omega)]
      exact ⟨fun z => absurd z (by decide), fun _ => ih⟩
    · rw [decide_eq_false c]
      rw [if_neg (fun z => c z.2)] at ih
      exact ⟨fun _ => ih, fun z => absurd rfl z⟩
theorem c1_hadCount {t : Nat} {g q : Nat → Int} (ht : t = 28 ∨ t = 39) (hC : Cq t g q M) (h : K (pcn (hadF q) (2 ^ nF q) : Int) M) : CalI G miX1_hadCount (d + 1) [.inr (.inr (some t))] M K := by
  have hn := hC.2.2.1.n
  have hN := pow_le7 hn.2
  have hac := allF_cast q
  refine Cal.of (by decide) (Nat.le_of_ble_eq_true rfl) rfl (gX1_hadCount_0 ht ?_)
  have key := dn (P := fun s => 1 ≤ s → OkI G miX1_hadCount (d + 1) K 4 [some (.inr (.inr (some t))), some (.inl (pcn (hadF q) s : Int)), some (.inl (s : Int))] [] M) (2 ^ nF q) ?_ (fun s hs ih => ?_) 1 (pow_pos2 _) (Nat.le_refl _)
  · exact key
  · intro _
    exact gX1_hadCount_4 ht (cq_all hC ⟨fun _ => h, fun c => absurd c (by omega)⟩)
  · intro hs1
    have hp := pcn_le (hadF q) s
    have hb := hadF_bd hC.2.2.1 (s := s) (by omega)
    refine gX1_hadCount_4 ht (cq_all hC ⟨fun c => absurd c (by omega), fun _ => ⟨by omega, ?_⟩⟩)
    rw [Int.toNat_natCast, (hC.1.2.1 s (by omega) hs).2.1, w32n (k := s) (by omega)]
    have ih := ih (by omega)
    rw [pcn] at ih
    by_cases c : 0 ≤ hadF q s
    · rw [if_pos ⟨hs1, c⟩] at ih
      rw [w32n (by omega)]
      exact ⟨fun z => absurd z (by omega), fun _ => ih⟩
    · rw [if_neg (fun z => c z.2)] at ih
      exact ⟨fun _ => ih, fun z => absurd (by omega) z⟩
theorem c1_pairingAt {t : Nat} {g q : Nat → Int} {x : Int} (ht : t = 28 ∨ t = 39) (hC : Cq t g q M) (h : K (fdI (pfd (cstF q) x (2 ^ nF q))) M) : CalI G miX1_pairingAt (d + 1) [.inr (.inr (some t)), .inl x] M K := by
  have hn := hC.2.2.1.n
  have hN := pow_le7 hn.2
  have hac := allF_cast q
  refine Cal.rng (fun hok _ => ?_)
  have hI : -2147483648 ≤ x ∧ x ≤ 2147483647 := hok (.inl x) (by simp)
  refine Cal.of (by decide) (Nat.le_of_ble_eq_true rfl) rfl (gX1_pairingAt_0 ht ?_)
  have neg : x < 0 → ∀ m, pfd (cstF q) x m = none := fun hx m => by
    induction m with
    | zero => rfl
    | succ m ih => rw [pfd, ih]; simp only; rw [if_neg (by omega)]
  have key := dn (P := fun s => 1 ≤ s → pfd (cstF q) x s = none → (0 ≤ x → (pcn (cstF q) s : Int) ≤ x) → OkI G miX1_pairingAt (d + 1) K 4 [some (.inr (.inr (some t))), none, some (.inl (x - (if 0 ≤ x then (pcn (cstF q) s : Int) else 0))), some (.inl (s : Int))] [] M) (2 ^ nF q) ?_ (fun s hs ih => ?_) 1 (pow_pos2 _) (Nat.le_refl _) rfl (fun hx => by show ((0 : Nat) : Int) ≤ x; omega)
  · have e : x - (if 0 ≤ x then (pcn (cstF q) 1 : Int) else 0) = x := by
      have : pcn (cstF q) 1 = 0 := rfl
      rw [this]; split <;> omega
    rw [e] at key; exact key
  · intro _ hno hle
    rw [hno] at h
    exact gX1_pairingAt_4 ht (cq_all hC ⟨fun _ => h, fun c => absurd c (by omega)⟩)
  · intro hs1 hno hle
    have hp := pcn_le (cstF q) s
    refine gX1_pairingAt_4 ht (cq_all hC ⟨fun c => absurd c (by omega), fun _ => ⟨fun c => ?_, fun c => ⟨by omega, ?_⟩⟩⟩)
    · have hx : x < 0 := by
        rcases Int.lt_or_le x 0 with z | z
        · exact z
        · have := hle z; rw [if_pos z] at c; omega
      rw [neg hx] at h; exact h
    · have hx : 0 ≤ x := by
        rcases Int.lt_or_le x 0 with z | z
        · rw [if_neg (by omega)] at c; omega
        · exact z
      have hl := hle hx
      rw [Int.toNat_natCast, (hC.1.2.1 s (by omega) hs).1, w32n (k := s) (by omega), if_pos hx]
      have hpf : pfd (cstF q) x (s + 1) = if 1 ≤ s ∧ 0 ≤ cstF q s ∧ (pcn (cstF q) s : Int) = x then some s else none := by rw [pfd, hno]
      by_cases c2 : 0 ≤ cstF q s
      · rw [decide_eq_true c2]
        refine ⟨fun z => absurd z (by decide), fun _ => ⟨fun c3 => ?_, fun c3 => ?_⟩⟩
        · have hpc : pcn (cstF q) (s + 1) = pcn (cstF q) s + 1 := by rw [pcn, if_pos ⟨hs1, c2⟩]
          have key := ih (by omega) (by rw [hpf, if_neg (by omega)]) (fun _ => by rw [hpc]; omega)
          rw [if_pos hx, hpc] at key
          rw [w32_eq (by omega) (by omega), show x - (pcn (cstF q) s : Int) + (-1) = x - ((pcn (cstF q) s + 1 : Nat) : Int) by omega]
          exact key
        · have := pfd_some (c := cstF q) (x := x) (k := s + 1) (s := s) (by rw [hpf, if_pos ⟨hs1, c2, by omega⟩]) (2 ^ nF q) hs
          rw [this] at h; exact h
      · rw [decide_eq_false c2]
        have hpc : pcn (cstF q) (s + 1) = pcn (cstF q) s := by rw [pcn, if_neg (fun z => c2 z.2)]; rfl
        have key := ih (by omega) (by rw [hpf, if_neg (fun z => c2 z.2.1)]) (fun _ => by rw [hpc]; omega)
        rw [if_pos hx, hpc] at key
        exact ⟨fun _ => key, fun z => absurd rfl z⟩
end CLSF
