/-! the class: pairings by marks, sets that are had, covers -/
def allB (P : Nat → Bool) : Bool := (List.range 128).all P
theorem allB_t {P : Nat → Bool} (h : allB P = true) {n : Nat} (hn : n < 128) : P n = true := List.all_eq_true.mp h n (List.mem_range.mpr hn)
theorem sub_nextB : (allB fun P => allB fun m => if m &&& P = m then (allB fun s => if s &&& P = s then decide (s < m → s ≤ (m - 1) &&& P) else true) else true) = true := by decide +kernel
theorem sub_next (P : Nat) (hP : P < 128) (m : Nat) (hm : m < 128) (h1 : m &&& P = m) (s : Nat) (hs : s < 128) (h2 : s &&& P = s) (h3 : s < m) : s ≤ (m - 1) &&& P := by
  have a := allB_t (allB_t sub_nextB hP) hm
  rw [if_pos h1] at a
  have b := allB_t a hs
  rw [if_pos h2, decide_eq_true_eq] at b
  exact b h3
theorem sub_next2 : ∀ P, P < 128 → ∀ m, m < 128 → 0 < m → ((m - 1) &&& P < m ∧ ((m - 1) &&& P) &&& P = (m - 1) &&& P) := by decide +kernel
theorem sdf_of_sub {s F : Nat} (h : s &&& F = s) : sdf s F = 0 := by unfold sdf; rw [h]; exact Nat.xor_self s
theorem low_sB : (allB fun F => if F ≠ 0 then (allB fun s => if s &&& lowN F ≠ 0 ∧ sdf s F = 0 then decide (sdf s (lowN F) &&& sdf F (lowN F) = sdf s (lowN F) ∧ s = lowN F + sdf s (lowN F) ∧ sdf F s = sdf (sdf F (lowN F)) (sdf s (lowN F))) else true) else true) = true := by decide +kernel
theorem low_s (F : Nat) (hF : F < 128) (h0 : F ≠ 0) (s : Nat) (hs : s < 128) (h : s &&& lowN F ≠ 0 ∧ sdf s F = 0) : sdf s (lowN F) &&& sdf F (lowN F) = sdf s (lowN F) ∧ s = lowN F + sdf s (lowN F) ∧ sdf F s = sdf (sdf F (lowN F)) (sdf s (lowN F)) := by
  have a := allB_t low_sB hF
  rw [if_pos h0] at a
  have b := allB_t a hs
  rw [if_pos h, decide_eq_true_eq] at b
  exact b
theorem low_mB : (allB fun F => if F ≠ 0 then (allB fun m => if m &&& sdf F (lowN F) = m then decide ((lowN F ||| m) = lowN F + m ∧ (lowN F ||| m) &&& lowN F ≠ 0 ∧ sdf (lowN F ||| m) F = 0 ∧ sdf F (lowN F ||| m) = sdf (sdf F (lowN F)) m ∧ (lowN F ||| m) ≤ F) else true) else true) = true := by decide +kernel
theorem low_m (F : Nat) (hF : F < 128) (h0 : F ≠ 0) (m : Nat) (hm : m < 128) (h : m &&& sdf F (lowN F) = m) : (lowN F ||| m) = lowN F + m ∧ (lowN F ||| m) &&& lowN F ≠ 0 ∧ sdf (lowN F ||| m) F = 0 ∧ sdf F (lowN F ||| m) = sdf (sdf F (lowN F)) m ∧ (lowN F ||| m) ≤ F := by
  have a := allB_t low_mB hF
  rw [if_pos h0] at a
  have b := allB_t a hm
  rw [if_pos h, decide_eq_true_eq] at b
  exact b
theorem low_o : ∀ F, F < 128 → F ≠ 0 → (sdf F (lowN F) < 128 ∧ lowN F + sdf F (lowN F) = F ∧ sdf F (lowN F) &&& sdf F (lowN F) = sdf F (lowN F)) := by decide +kernel
theorem suitB_iff (g : Nat → Int) (s : Nat) : suitB g s = true ↔ ∀ a, a < nF g → ∀ b, b < nF g → suit1 g s a b = true := by
  unfold suitB
  constructor
  · intro h a ha b hb
    exact List.all_eq_true.mp (List.all_eq_true.mp h a (List.mem_range.mpr ha)) b (List.mem_range.mpr hb)
  · intro h
    exact List.all_eq_true.mpr (fun a ha => List.all_eq_true.mpr (fun b hb => h a (List.mem_range.mp ha) b (List.mem_range.mp hb)))
/-- the best of candidates -/
def cdF (had T : Nat → Int) (F s : Nat) : Prop := (s &&& lowN F ≠ 0 ∧ sdf s F = 0) ∧ 0 ≤ had s ∧ T (sdf F s) < 1000000
def vlF (had T : Nat → Int) (F s : Nat) : Int := had s + T (sdf F s)
def BsP (had T : Nat → Int) (F : Nat) (P : Nat → Prop) (r : Int × Int) : Prop := (r = (1000000, 0) ∧ ∀ s, P s → ¬ cdF had T F s) ∨ ∃ s : Nat, P s ∧ cdF had T F s ∧ r = (vlF had T F s, (s : Int)) ∧ ∀ s', P s' → cdF had T F s' → vlF had T F s < vlF had T F s' ∨ (vlF had T F s = vlF had T F s' ∧ s ≤ s')
theorem BsP.one {had T : Nat → Int} {F : Nat} {P P' : Nat → Prop} {r r' : Int × Int} (h : BsP had T F P r) (h' : BsP had T F P' r') (e : ∀ s, cdF had T F s → (P s ↔ P' s)) : r = r' := by
  rcases h with ⟨h1, h2⟩ | ⟨s, h1, h2, h3, h4⟩
  · rcases h' with ⟨g1, g2⟩ | ⟨t, g1, g2, g3, g4⟩
    · rw [h1, g1]
    · exact absurd g2 (h2 t ((e t g2).mpr g1))
  · rcases h' with ⟨g1, g2⟩ | ⟨t, g1, g2, g3, g4⟩
    · exact absurd h2 (g2 s ((e s h2).mp h1))
    · have a := h4 t ((e t g2).mpr g1) g2
      have b := g4 s ((e s h2).mp h1) h2
      have : s = t := by omega
      subst this; rw [h3, g3]
theorem lfold_best {had T : Nat → Int} {F : Nat} (hb : ∀ s, cdF had T F s → vlF had T F s < 1000000) (hT : ∀ s, sdf s F = 0 → T (sdf F s) ≤ 1000000) : ∀ k, BsP had T F (fun s => s < k) (lfold had T F k) := by
  intro k
  induction k with
  | zero => exact .inl ⟨rfl, fun s hs => absurd hs (Nat.not_lt_zero _)⟩
  | succ k ih =>
    have hst : lfold had T F (k + 1) = lstep had T F k (lfold had T F k) := rfl
    rw [hst]
    by_cases hc : k &&& lowN F ≠ 0 ∧ sdf k F = 0 ∧ 0 ≤ had k ∧ had k + T (sdf F k) < (lfold had T F k).1
    · rw [lstep, if_pos hc]
      have hr1 : (lfold had T F k).1 ≤ 1000000 := by
        rcases ih with ⟨h1, _⟩ | ⟨s, h1, h2, h3, h4⟩
        · rw [h1]; exact Int.le_refl _
        · have := hb s h2; rw [h3]; show vlF had T F s ≤ 1000000; omega
      have hcd : cdF had T F k := ⟨⟨hc.1, hc.2.1⟩, hc.2.2.1, by omega⟩
      refine .inr ⟨k, by omega, hcd, rfl, fun s' hs' hc' => ?_⟩
      by_cases e : s' = k
      · subst e; exact .inr ⟨rfl, Nat.le_refl _⟩
      · refine .inl ?_
        rcases ih with ⟨h1, h2⟩ | ⟨s, h1, h2, h3, h4⟩
        · exact absurd hc' (h2 s' (by omega))
        · have := h4 s' (by omega) hc'
          have h3' : (lfold had T F k).1 = vlF had T F s := by rw [h3]
          unfold vlF at *; omega
    · rw [lstep, if_neg hc]
      rcases ih with ⟨h1, h2⟩ | ⟨s, h1, h2, h3, h4⟩
      · refine .inl ⟨h1, fun s hs hcd => ?_⟩
        by_cases e : s = k
        · subst e
          apply hc
          have := hb s hcd
          refine ⟨hcd.1.1, hcd.1.2, hcd.2.1, ?_⟩
          rw [h1]; exact this
        · exact h2 s (by omega) hcd
      · refine .inr ⟨s, by omega, h2, h3, fun s' hs' hc' => ?_⟩
        by_cases e : s' = k
        · subst e
          have h3' : (lfold had T F s').1 = vlF had T F s := by rw [h3]
          have : ¬ (had s' + T (sdf F s') < (lfold had T F s').1) := fun q => hc ⟨hc'.1.1, hc'.1.2, hc'.2.1, q⟩
          unfold vlF at *; omega
        · exact h4 s' (by omega) hc'
def enT (x : Int) : Int := if x < 1000000 then x else -1
/-- what the covers of t hold for the plan q -/
def CsM (t : Nat) (q : Nat → Int) (s : Nat) (M : Mem) : Prop := M (t + 1) s = bI (decide (0 ≤ cstF q s)) ∧ M (t + 2) s = hadF q s ∧ M (t + 3) s = byF q s
def CtM (t : Nat) (q : Nat → Int) (F : Nat) (M : Mem) : Prop := M (t + 4) F = (totF (hadF q) F).2 ∧ M (t + 5) F = enT (totF (hadF q) F).1
def CvM (t : Nat) (q : Nat → Int) (M : Mem) : Prop := (∀ s, s ≠ 0 → s < 2 ^ nF q → CsM t q s M) ∧ ∀ F, F < 2 ^ nF q → CtM t q F M
theorem CvM.fr {t : Nat} {q : Nat → Int} {M M' : Mem} {S : Nat → Nat → Bool} (h : CvM t q M) (hf : Fr S M M') (hS : ∀ c i, t + 1 ≤ c → c ≤ t + 5 → S c i = false) : CvM t q M' := by
  have e : ∀ c i, t + 1 ≤ c → c ≤ t + 5 → M' c i = M c i := fun c i h1 h2 => hf c i (hS c i h1 h2)
  refine ⟨fun s h0 hs => ?_, fun F hF => ?_⟩
  · obtain ⟨a, b, c⟩ := h.1 s h0 hs
    exact ⟨by rw [e _ _ (by omega) (by omega)]; exact a, by rw [e _ _ (by omega) (by omega)]; exact b, by rw [e _ _ (by omega) (by omega)]; exact c⟩
  · obtain ⟨a, b⟩ := h.2 F hF
    exact ⟨by rw [e _ _ (by omega) (by omega)]; exact a, by rw [e _ _ (by omega) (by omega)]; exact b⟩
theorem cv_rg {t : Nat} {q : Nat → Int} {M M' : Mem} {a b : Nat} (h : CvM t q M) (hf : Fr (rg a b) M M') (ha : b < t + 1 ∨ t + 5 < a) : CvM t q M' := h.fr hf fun c i h1 h2 => rg_no (by omega)
/-- the plan g, its marks in mk those of q -/
def Mk (mk : Nat) (g q : Nat → Int) (M : Mem) : Prop := (Pl g M ∧ NetM q M ∧ ∀ i, i < 49 → M mk i = q (29 + i)) ∧ (WF g ∧ WF q ∧ Ag g q) ∧ (mk = 9 ∨ mk = 45)
theorem Mk.fr {mk : Nat} {g q : Nat → Int} {M M' : Mem} {S : Nat → Nat → Bool} (h : Mk mk g q M) (hf : Fr S M M') (hS : ∀ c i, 1 ≤ c ∧ c ≤ 9 ∨ 20 ≤ c ∧ c ≤ 27 ∨ c = mk → S c i = false) : Mk mk g q M' := by
  obtain ⟨⟨h1, h2, h3⟩, h4, h5⟩ := h
  exact ⟨⟨h1.fr hf (fun c i a b => hS c i (by omega)), h2.fr hf (fun c i a b => hS c i (by omega)), fun i hi => by rw [hf mk i (hS mk i (by omega))]; exact h3 i hi⟩, h4, h5⟩
theorem mk_rg {mk : Nat} {g q : Nat → Int} {M M' : Mem} {a b : Nat} (h : Mk mk g q M) (hf : Fr (rg a b) M M') (ha : 27 < a ∧ (mk < a ∨ b < mk)) : Mk mk g q M' := h.fr hf fun c i hc => rg_no (by omega)
theorem Mk.n {mk : Nat} {g q : Nat → Int} {M : Mem} (h : Mk mk g q M) : M 1 8 = (nF q : Int) := by rw [ag_nF h.2.1.2.2]; exact h.1.1.n h.2.1.1
section CLSE
variable {G : GE} {d : Nat} {M : Mem}
theorem c1_suits {K : Int → Mem → Prop} {t mk : Nat} {g q : Nat → Int} {v : Int} {s : Nat} (ht : t = 28 ∨ t = 39) (hM : Mk mk g q M) (e : v = (s : Int)) (hs : s < 128) (h : K (bI (suitB q s)) M) : CalI G miX1_suits (d + 1) [.inr (.inr (some t)), .inl v, .inr (.inr (some mk))] M K := by
  subst e
  have hw := hM.2.1.2.1
  have hn := hw.n
  have h8 := hM.n
  have hmk := hM.1.2.2
  have hB := hM.1.2.1.2.2.1
  refine Cal.of (by decide) (Nat.le_of_ble_eq_true rfl) rfl (gX1_suits_0 ht hM.2.2 ?_)
  have bad : ∀ a b, a < nF q → b < nF q → suit1 q s a b = false → K 0 M := fun a b ha hb hc => by
    have : suitB q s = false := by
      cases hq : suitB q s with
      | false => rfl
      | true => have := (suitB_iff q s).mp hq a ha b hb; rw [hc] at this; cases this
    rw [this] at h; exact h
  refine dn (P := fun f => (∀ a, a < f → ∀ b, b < nF q → suit1 q s a b = true) → OkI G miX1_suits (d + 1) K 2 [some (.inr (.inr (some t))), some (.inl (s : Int)), some (.inr (.inr (some mk))), some (.inl (f : Int)), none, none, none, none] [] M) (nF q) ?_ (fun f hf ih => ?_) 0 (Nat.zero_le _) (fun a ha => absurd ha (Nat.not_lt_zero _))
  · intro hA
    refine gX1_suits_2 ht hM.2.2 ⟨fun _ => ?_, fun c => ?_⟩
    · rw [(suitB_iff q s).mpr hA] at h; exact h
    · rw [h8] at c; omega
  · intro hA
    refine gX1_suits_2 ht hM.2.2 ⟨fun c => ?_, fun _ => ?_⟩
    · rw [h8] at c; omega
    refine dn (P := fun k => (∀ b, b < k → suit1 q s f b = true) → OkI G miX1_suits (d + 1) K 16 [some (.inr (.inr (some t))), some (.inl (s : Int)), some (.inr (.inr (some mk))), some (.inl (f : Int)), some (.inl (k : Int)), none, none, none] [] M) (nF q) ?_ (fun k hk ih2 => ?_) 0 (Nat.zero_le _) (fun a ha => absurd ha (Nat.not_lt_zero _))
    · intro hB2
      refine gX1_suits_16 ht hM.2.2 ⟨fun _ => ?_, fun c => ?_⟩
      · rw [w32n (by omega)]
        refine ih (fun a ha => ?_)
        by_cases e : a = f
        · subst e; exact hB2
        · exact hA a (by omega)
      · rw [h8] at c; omega
    · intro hB2
      have nx : suit1 q s f k = true → OkI G miX1_suits (d + 1) K 16 [some (.inr (.inr (some t))), some (.inl (s : Int)), some (.inr (.inr (some mk))), some (.inl (f : Int)), some (.inl (w32 ((k : Int) + 1))), none, none, none] [] M := fun hc => by
        rw [w32n (by omega)]
        refine ih2 (fun b hb => ?_)
        by_cases e : b = k
        · subst e; exact hc
        · exact hB2 b (by omega)
      have ei : ((f : Int) * 7 + (k : Int)).toNat = 7 * f + k := by omega
      have hmr := hw.mk (i := 7 * f + k) (by omega)
      refine gX1_suits_16 ht hM.2.2 ⟨fun c => ?_, fun _ => ?_⟩
      · rw [h8] at c; omega
      rw [ei, hmk _ (by omega)]
      have p1 : (2 : Nat) ^ f < 256 := Nat.lt_of_le_of_lt (Nat.pow_le_pow_right (by decide) (show f ≤ 7 by omega)) (by decide)
      have p2 : (2 : Nat) ^ k < 256 := Nat.lt_of_le_of_lt (Nat.pow_le_pow_right (by decide) (show k ≤ 7 by omega)) (by decide)
      have eo : iand (s : Int) (ior (ishl 1 (f : Int)) (ishl 1 (k : Int))) = ((s &&& (2 ^ f ||| 2 ^ k) : Nat) : Int) := by rw [ishl1 _ (by omega), ishl1 _ (by omega), iorN p1 p2, iandN (by omega)]
      have et : (s &&& (2 ^ f ||| 2 ^ k) = 0) ↔ s.testBit f = false ∧ s.testBit k = false := by
        constructor
        · intro z
          constructor
          · have := congrArg (fun n => n.testBit f) z
            simp only [Nat.testBit_and, Nat.testBit_or, Nat.testBit_two_pow, Nat.zero_testBit] at this
            simpa using this
          · have := congrArg (fun n => n.testBit k) z
            simp only [Nat.testBit_and, Nat.testBit_or, Nat.testBit_two_pow, Nat.zero_testBit] at this
            simpa using this
        · rintro ⟨z1, z2⟩
          refine Nat.eq_of_testBit_eq (fun m => ?_)
          simp only [Nat.testBit_and, Nat.testBit_or, Nat.testBit_two_pow, Nat.zero_testBit]
          by_cases m1 : f = m
          · subst m1; simp [z1]
          · by_cases m2 : k = m
            · subst m2; simp [z2]
            · simp [m1, m2]
      refine ⟨by omega, fun c => ?_, fun c => nx (by unfold suit1; rw [c]; simp)⟩
      refine c4_isRightBehind hw hB rfl rfl rfl hs hf hk ?_
      rw [eo]
      cases hr : rbB q s f k with
      | true =>
        refine ⟨fun c1 => ⟨fun c2 => absurd c2 (by decide), fun _ => bad f k hf hk ?_⟩, fun c1 => ⟨fun _ => nx ?_, fun _ => ⟨fun _ => nx ?_, fun c3 => absurd c3 (by decide)⟩⟩⟩
        · have c2 : q (29 + (7 * f + k)) = 2 := by omega
          unfold suit1; rw [hr, c2]; rfl
        · unfold suit1; rw [hr, c1]; rfl
        · unfold suit1; rw [hr, c1]; rfl
      | false =>
        refine ⟨fun c1 => ⟨fun _ => nx ?_, fun c2 => absurd rfl c2⟩, fun c1 => ⟨fun c2 => nx ?_, fun c2 => ⟨fun c3 => absurd rfl c3, fun _ => bad f k hf hk ?_⟩⟩⟩
        · unfold suit1; rw [hr, decide_eq_false c1]; simp
        · have := et.mp (by omega)
          unfold suit1; rw [hr, c1, this.1, this.2]; rfl
        · have c2' : ¬ (s.testBit f = false ∧ s.testBit k = false) := fun z => c2 (by rw [et.mpr z]; rfl)
          unfold suit1; rw [hr, c1]
          cases b1' : s.testBit f <;> cases b2' : s.testBit k <;> simp_all
def SO (t : Nat) : Nat → Nat → Bool := fun c _ => c == t + 2 || c == t + 3
theorem c1_offer {K : Mem → Prop} {t mk : Nat} {g q : Nat → Int} {v : Int} {p : Nat} (ht : t = 28 ∨ t = 39) (hM : Mk mk g q M) (e : v = (p : Int)) (h0 : p ≠ 0) (hp : p < 2 ^ nF q) (hc : 0 ≤ cstF q p) (hI : ∀ s, s ≠ 0 → s < 2 ^ nF q → M (t + 2) s = (hfold (cstF q) (q 90) s p).1 ∧ M (t + 3) s = (hfold (cstF q) (q 90) s p).2) (h : ∀ M', Fr (SO t) M M' → (∀ s, s ≠ 0 → s < 2 ^ nF q → M' (t + 2) s = (hfold (cstF q) (q 90) s (p + 1)).1 ∧ M' (t + 3) s = (hfold (cstF q) (q 90) s (p + 1)).2) → K M') : CalV G miX1_offer (d + 1) [.inr (.inr (some t)), .inl v] M K := by
  subst e
  have hw := hM.2.1.2.1
  have hA := hM.2.1.2.2
  have hn := hw.n
  have hN := pow_le7 hn.2
  have h24 : M 24 p = cstF q p := by
    have a := (hM.1.2.1.2.2.2 p h0 hp).1
    have b := cstF_pc q p
    rw [a]
    split at b
    · exact b.symm
    · omega
  have h83 : M 8 3 = q 90 := by rw [hM.1.1.fe (i := 3) (by decide), ag_at hA (i := 90) (by omega)]
  have hcb := cstF_bd hw h0 hp
  refine Cal.of (by decide) (Nat.le_of_ble_eq_true rfl) rfl (gX1_offer_0 ht ?_)
  rw [h83]
  have hst : ∀ s, hfold (cstF q) (q 90) s (p + 1) = hstep (cstF q) (q 90) s p (hfold (cstF q) (q 90) s p) := fun s => rfl
  -- m is the next
  have go : ∀ n : Nat, ∀ m : Nat, m < n → m &&& p = m → ∀ M' : Mem, Fr (SO t) M M' → (∀ s, s ≠ 0 → s < 2 ^ nF q → M' (t + 2) s = (hfold (cstF q) (q 90) s (if s &&& p = s ∧ m < s then p + 1 else p)).1 ∧ M' (t + 3) s = (hfold (cstF q) (q 90) s (if s &&& p = s ∧ m < s then p + 1 else p)).2) → OkV G miX1_offer (d + 1) K 12 [some (.inr (.inr (some t))), some (.inl (p : Int)), some (.inl (q 90)), some (.inl (m : Int)), none] [] M' := by
    intro n
    induction n with
    | zero => intro m hm; omega
    | succ n ih =>
      intro m hmn hmp M' hf hI'
      have hm128 : m < 128 := by have := sub_le hmp; omega
      refine gX1_offer_12 ht ⟨fun c => h M' hf (fun s s0 hs => ?_), fun c => ⟨by omega, ?_⟩⟩
      · have := hI' s s0 hs
        by_cases z : s &&& p = s
        · rw [if_pos ⟨z, by omega⟩] at this; exact this
        · rw [if_neg (fun y => z y.1)] at this
          have e : hfold (cstF q) (q 90) s (p + 1) = hfold (cstF q) (q 90) s p := by rw [hst, hstep, if_neg (fun y => z y.1)]
          rw [e]; exact this
      · have m0 : m ≠ 0 := by omega
        have hsd := sdf_of_sub hmp
        have hcnt := cnt_sdf hsd
        have hmN : m < 2 ^ nF q := Nat.lt_of_le_of_lt (sub_le hmp) hp
        have hsl : sdf p m < 128 := by
          have := sdf_lt hsd m0; omega
        rw [iandnN p (by omega) m hm128]
        refine cJ_bitCount rfl hsl ⟨by omega, ?_⟩
        have hnx := sub_next p (by omega) m hm128 hmp
        have hnx2 := sub_next2 p (by omega) m hm128 (by omega)
        have eN : iand (w32 ((m : Int) - 1)) (p : Int) = (((m - 1) &&& p : Nat) : Int) := by
          rw [w32_eq (by omega) (by omega), show (m : Int) - 1 = ((m - 1 : Nat) : Int) by omega, iandN (by omega)]
        have h24' : M' 24 p = cstF q p := by rw [hf 24 p (by unfold SO; simp; omega)]; exact h24
        have k3 := cnt_le p
        have km := mul_bd hw.fe.2.2.2.1 (show 0 ≤ (cnt (sdf p m) : Int) ∧ (cnt (sdf p m) : Int) ≤ 7 by have := cnt_le (sdf p m); omega)
        have ea : w32 (cstF q p + q 90 * (cnt (sdf p m) : Int)) = cstF q p + q 90 * ((cnt p : Int) - cnt m) := by
          rw [show (cnt p : Int) - cnt m = (cnt (sdf p m) : Int) by omega]
          exact w32_eq (by omega) (by omega)
        have hIm := hI' m m0 hmN
        rw [if_neg (by omega)] at hIm
        have hbd := hfold_bd (cstF_ok hw) hw.fe.2.2.2.1 m0 p (by omega)
        rw [Int.toNat_natCast, Int.toNat_natCast, h24', ea, eN, hIm.1]
        have nxt : ∀ M2 : Mem, Fr (SO t) M' M2 → (∀ s, s ≠ m → M2 (t + 2) s = M' (t + 2) s ∧ M2 (t + 3) s = M' (t + 3) s) → (M2 (t + 2) m = (hfold (cstF q) (q 90) m (p + 1)).1 ∧ M2 (t + 3) m = (hfold (cstF q) (q 90) m (p + 1)).2) → OkV G miX1_offer (d + 1) K 12 [some (.inr (.inr (some t))), some (.inl (p : Int)), some (.inl (q 90)), some (.inl (((m - 1) &&& p : Nat) : Int)), none] [] M2 := fun M2 f2 hne hme => by
          refine ih _ (by omega) hnx2.2 M2 (hf.tr f2) (fun s s0 hs => ?_)
          by_cases e : s = m
          · subst e; rw [if_pos ⟨hmp, hnx2.1⟩]; exact hme
          · rw [(hne s e).1, (hne s e).2]
            have := hI' s s0 hs
            by_cases z : s &&& p = s ∧ m < s
            · rw [if_pos z] at this; rw [if_pos ⟨z.1, by omega⟩]; exact this
            · rw [if_neg z] at this
              rw [if_neg (fun y => ?_)]
              · exact this
              · have hs128 : s < 128 := by omega
                have := hnx s hs128 y.1 (by omega); omega
        have upd : (hfold (cstF q) (q 90) m p).1 < 0 ∨ cstF q p + q 90 * ((cnt p : Int) - cnt m) < (hfold (cstF q) (q 90) m p).1 → OkV G miX1_offer (d + 1) K 59 [some (.inr (.inr (some t))), some (.inl (p : Int)), some (.inl (q 90)), some (.inl (m : Int)), some (.inl (cstF q p + q 90 * ((cnt p : Int) - cnt m)))] [] M' := fun hu => by
          have e : hfold (cstF q) (q 90) m (p + 1) = (cstF q p + q 90 * ((cnt p : Int) - cnt m), (p : Int)) := by rw [hst, hstep, if_pos ⟨hmp, hc, hu⟩]
          refine gX1_offer_59 ht ⟨by omega, by omega, ?_⟩
          rw [eN, Int.toNat_natCast]
          refine nxt _ ((Fr.up1 (by unfold SO; simp)).up (by unfold SO; simp)) (fun s hs => ⟨?_, ?_⟩) ⟨?_, ?_⟩
          · rw [mup_ne (by omega), mup_at_ne hs]
          · rw [mup_at_ne hs, mup_ne (by omega)]
          · rw [mup_ne (by omega), mup_at, e]
          · rw [mup_at, e]
        have same : ¬ ((hfold (cstF q) (q 90) m p).1 < 0 ∨ cstF q p + q 90 * ((cnt p : Int) - cnt m) < (hfold (cstF q) (q 90) m p).1) → OkV G miX1_offer (d + 1) K 12 [some (.inr (.inr (some t))), some (.inl (p : Int)), some (.inl (q 90)), some (.inl (((m - 1) &&& p : Nat) : Int)), none] [] M' := fun hu => by
          have e : hfold (cstF q) (q 90) m (p + 1) = hfold (cstF q) (q 90) m p := by rw [hst, hstep, if_neg (fun y => hu y.2.2)]
          exact nxt M' Fr.rf (fun _ _ => ⟨rfl, rfl⟩) (by rw [e]; exact hIm)
        refine ⟨fun c1 => upd (.inl (by omega)), fun c1 => ⟨by omega, fun c2 => same ?_, fun c2 => upd (.inr c2)⟩⟩
        have hnn : 0 ≤ (hfold (cstF q) (q 90) m p).1 := by
          rcases hbd with hbd | hbd
          · rw [hbd] at c1; exact absurd rfl c1
          · exact hbd.1.1
        omega
  refine go (p + 1) p (by omega) (Nat.and_self p) M Fr.rf (fun s s0 hs => ?_)
  rw [if_neg (fun z => by have := sub_le z.1; omega)]
  exact hI s s0 hs
def SH (t F : Nat) : Nat → Nat → Bool := fun c i => (c == t + 4 || c == t + 5) && i == F
theorem c1_choose {K : Mem → Prop} {t mk : Nat} {g q : Nat → Int} {v : Int} {F : Nat} (ht : t = 28 ∨ t = 39) (hM : Mk mk g q M) (e : v = (F : Int)) (h0 : F ≠ 0) (hF : F < 2 ^ nF q) (hH : ∀ s, s ≠ 0 → s < 2 ^ nF q → M (t + 2) s = hadF q s) (hT : ∀ s, s < F → M (t + 5) s = enT (totF (hadF q) s).1) (h : ∀ M', Fr (SH t F) M M' → CtM t q F M' → K M') : CalV G miX1_choose d [.inr (.inr (some t)), .inl v] M K := by
  subst e
  have hw := hM.2.1.2.1
  have hn := hw.n
  have hN := pow_le7 hn.2
  have hF7 : F < 128 := by omega
  have hlow := low_in F hF7
  have hlo := low_o F hF7 h0
  have hok := hadF_ok hw
  have tb : ∀ x, x < F → 0 ≤ (totF (hadF q) x).1 ∧ ((totF (hadF q) x).1 ≤ 34251 ∨ (totF (hadF q) x).1 = 1000000) := fun x hx => by
    by_cases hz : x = 0
    · subst hz; rw [totF_0]; exact ⟨Int.le_refl _, .inl (by decide)⟩
    · rcases totF_inv hok hN x (by omega) hz with e | ⟨e, -⟩
      · rw [e]; exact ⟨by decide, .inr rfl⟩
      · have := cnt_le x; omega
  have vb : ∀ s, cdF (hadF q) (fun x => (totF (hadF q) x).1) F s → vlF (hadF q) (fun x => (totF (hadF q) x).1) F s < 1000000 := fun s hs => by
    have s0 : s ≠ 0 := fun z => hs.1.1 (by subst z; exact Nat.zero_and _)
    have := tb _ (sdf_lt hs.1.2 s0)
    have hb := hadF_bd hw s0
    have h3 : (totF (hadF q) (sdf F s)).1 < 1000000 := hs.2.2
    show hadF q s + (totF (hadF q) (sdf F s)).1 < 1000000
    omega
  have lb := lfold_best vb (fun s hs => by
    by_cases z : s = 0
    · subst z
      have e : sdf F 0 = F := by unfold sdf; simp
      simp only [e]
      rcases totF_inv hok hN F hF h0 with e2 | ⟨e2, -⟩
      · rw [e2]; exact Int.le_refl _
      · have := cnt_le F; omega
    · have := tb _ (sdf_lt hs z)
      show (totF (hadF q) (sdf F s)).1 ≤ 1000000
      omega) (F + 1)
  rw [← totF_eq (hadF q) h0] at lb
  refine Cal.of (by decide) (Nat.le_of_ble_eq_true rfl) rfl (gX1_choose_0 ht ?_)
  rw [low_is F hF7, iandnN F hF7 (lowN F) (by omega), Int.toNat_natCast]
  refine ⟨by omega, by omega, ?_⟩
  generalize hoth : sdf F (lowN F) = O at *
  have fin : ∀ (M' : Mem) (r : Int × Int), Fr (SH t F) M M' → M' (t + 5) F = enT r.1 → M' (t + 4) F = r.2 → BsP (hadF q) (fun x => (totF (hadF q) x).1) F (fun s => lowN F ≤ s) r → K M' := fun M' r hf a5 a4 hB => by
    have e : totF (hadF q) F = r := lb.one hB (fun s hs => by
      have hs128 : s < 128 := by have := sub_le (sdf0_sub hs.1.2); omega
      have h1 := (low_s F hF7 h0 s hs128 hs.1).2.1
      have h2 := sub_le (sdf0_sub hs.1.2)
      constructor <;> intro _ <;> omega)
    exact h M' hf ⟨by rw [a4, e], by rw [a5, e]⟩
  have go : ∀ n : Nat, ∀ m : Nat, m < n → m &&& O = m → ∀ (M' : Mem) (r : Int × Int), Fr (SH t F) M M' → M' (t + 5) F = enT r.1 → M' (t + 4) F = r.2 → BsP (hadF q) (fun x => (totF (hadF q) x).1) F (fun s => lowN F + m < s) r → OkV G miX1_choose d K 28 [some (.inr (.inr (some t))), some (.inl (F : Int)), some (.inl (lowN F : Int)), some (.inl (O : Int)), some (.inl (m : Int)), none, none, none] [] M' := by
    intro n
    induction n with
    | zero => intro m hm; omega
    | succ n ih =>
      intro m hmn hmO M' r hf a5 a4 hB
      have hm128 : m < 128 := by have := sub_le hmO; omega
      have hlm := low_m F hF7 h0 m hm128 (by rw [hoth]; exact hmO)
      rw [hoth] at hlm
      have s0 : (lowN F ||| m) ≠ 0 := fun z => by have := hlow.2.1 h0; omega
      have hss := sdf_lt hlm.2.2.1 s0
      rw [hlm.2.2.2.1] at hss
      have eo : ior (lowN F : Int) (m : Int) = ((lowN F ||| m : Nat) : Int) := iorN (by omega) (by omega)
      -- on to the next
      have nxt : ∀ (M2 : Mem) (r2 : Int × Int), Fr (SH t F) M M2 → M2 (t + 5) F = enT r2.1 → M2 (t + 4) F = r2.2 → BsP (hadF q) (fun x => (totF (hadF q) x).1) F (fun s => lowN F + m ≤ s) r2 → OkV G miX1_choose d K 121 [some (.inr (.inr (some t))), some (.inl (F : Int)), some (.inl (lowN F : Int)), some (.inl (O : Int)), some (.inl (m : Int)), none, none, none] [] M2 := fun M2 r2 f2 b5 b4 hB2 => by
        refine gX1_choose_121 ht ?_
        by_cases hm0 : m = 0
        · subst hm0
          rw [if_pos (show ((0 : Nat) : Int) = 0 from rfl)]
          exact gX1_choose_28 ht ⟨fun _ => fin M2 r2 f2 b5 b4 hB2, fun c => absurd c (by decide)⟩
        · rw [if_neg (by omega)]
          have hnx := sub_next O (by omega) m hm128 hmO
          have hnx2 := sub_next2 O (by omega) m hm128 (by omega)
          have eN : iand (w32 ((m : Int) - 1)) (O : Int) = (((m - 1) &&& O : Nat) : Int) := by
            rw [w32_eq (by omega) (by omega), show (m : Int) - 1 = ((m - 1 : Nat) : Int) by omega, iandN (by omega)]
          rw [eN]
          refine ih _ (by omega) hnx2.2 M2 r2 f2 b5 b4 ?_
          have conv : ∀ s, cdF (hadF q) (fun x => (totF (hadF q) x).1) F s → (lowN F + m ≤ s ↔ lowN F + ((m - 1) &&& O) < s) := fun s hs => by
            have hs128 : s < 128 := by have := sub_le (sdf0_sub hs.1.2); omega
            have h1 := low_s F hF7 h0 s hs128 hs.1
            rw [hoth] at h1
            constructor
            · intro _; omega
            · intro z
              rcases Nat.lt_or_ge s (lowN F + m) with y | y
              · have := hnx (sdf s (lowN F)) (by omega) h1.1 (by omega); omega
              · exact y
          rcases hB2 with ⟨g1, g2⟩ | ⟨s, g1, g2, g3, g4⟩
          · exact .inl ⟨g1, fun s hs hc => g2 s ((conv s hc).mpr hs) hc⟩
          · exact .inr ⟨s, (conv s g2).mp g1, g2, g3, fun s' hs' hc' => g4 s' ((conv s' hc').mpr hs') hc'⟩
      -- no candidate
      have skip : ¬ cdF (hadF q) (fun x => (totF (hadF q) x).1) F (lowN F ||| m) → OkV G miX1_choose d K 121 [some (.inr (.inr (some t))), some (.inl (F : Int)), some (.inl (lowN F : Int)), some (.inl (O : Int)), some (.inl (m : Int)), none, none, none] [] M' := fun hno => by
        refine nxt M' r hf a5 a4 ?_
        have conv : ∀ s, cdF (hadF q) (fun x => (totF (hadF q) x).1) F s → (lowN F + m < s ↔ lowN F + m ≤ s) := fun s hs => by
          constructor
          · intro z; omega
          · intro z
            rcases Nat.lt_or_ge (lowN F + m) s with y | y
            · exact y
            · have : s = (lowN F ||| m) := by omega
              subst this; exact absurd hs hno
        rcases hB with ⟨g1, g2⟩ | ⟨s, g1, g2, g3, g4⟩
        · exact .inl ⟨g1, fun s hs hc => g2 s ((conv s hc).mpr hs) hc⟩
        · exact .inr ⟨s, (conv s g2).mp g1, g2, g3, fun s' hs' hc' => g4 s' ((conv s' hc').mpr hs') hc'⟩
      have e2 : M' (t + 2) (lowN F ||| m) = hadF q (lowN F ||| m) := by rw [hf _ _ (by unfold SH; simp)]; exact hH _ s0 (by omega)
      have e5 : M' (t + 5) (sdf O m) = enT (totF (hadF q) (sdf O m)).1 := by rw [hf _ _ (by unfold SH; simp; omega)]; exact hT _ hss
      have hb := hadF_bd hw s0
      have ht2 := tb _ hss
      refine gX1_choose_28 ht ⟨fun c => absurd c (by omega), fun _ => ?_⟩
      rw [eo, iandnN O (by omega) m hm128, Int.toNat_natCast, Int.toNat_natCast, Int.toNat_natCast, e2, e5, a5]
      refine ⟨by omega, by omega, fun c => skip (fun z => by have := z.2.1; omega), fun c => ⟨fun c1 => ⟨by omega, by omega, ?_⟩, fun c1 => skip (fun z => ?_)⟩⟩
      · have hlt : (totF (hadF q) (sdf O m)).1 < 1000000 := by
          rcases Int.lt_or_le (totF (hadF q) (sdf O m)).1 1000000 with z | z
          · exact z
          · exact absurd (show enT (totF (hadF q) (sdf O m)).1 = -1 by unfold enT; rw [if_neg (by omega)]) c1
        have hen : enT (totF (hadF q) (sdf O m)).1 = (totF (hadF q) (sdf O m)).1 := by unfold enT; rw [if_pos hlt]
        have hcd : cdF (hadF q) (fun x => (totF (hadF q) x).1) F (lowN F ||| m) := ⟨⟨hlm.2.1, hlm.2.2.1⟩, by omega, by simp only; rw [hlm.2.2.2.1]; exact hlt⟩
        have hval : vlF (hadF q) (fun x => (totF (hadF q) x).1) F (lowN F ||| m) = hadF q (lowN F ||| m) + (totF (hadF q) (sdf O m)).1 := by unfold vlF; rw [hlm.2.2.2.1]
        have hvb := vb _ hcd
        rw [hen, w32_eq (by omega) (by omega), ← hval]
        have take : (∀ s', lowN F + m < s' → cdF (hadF q) (fun x => (totF (hadF q) x).1) F s' → vlF (hadF q) (fun x => (totF (hadF q) x).1) F (lowN F ||| m) ≤ vlF (hadF q) (fun x => (totF (hadF q) x).1) F s') → OkV G miX1_choose d K 105 [some (.inr (.inr (some t))), some (.inl (F : Int)), some (.inl (lowN F : Int)), some (.inl (O : Int)), some (.inl (m : Int)), some (.inl ((lowN F ||| m : Nat) : Int)), none, some (.inl (vlF (hadF q) (fun x => (totF (hadF q) x).1) F (lowN F ||| m)))] [] M' := fun hle => by
          refine gX1_choose_105 ht ⟨by omega, by omega, ?_⟩
          rw [Int.toNat_natCast]
          refine nxt _ (vlF (hadF q) (fun x => (totF (hadF q) x).1) F (lowN F ||| m), ((lowN F ||| m : Nat) : Int)) ((hf.up (by unfold SH; simp)).up (by unfold SH; simp)) ?_ ?_ (.inr ⟨_, by omega, hcd, rfl, fun s' hs' hc' => ?_⟩)
          · rw [mup_ne (by omega), mup_at]; unfold enT; rw [if_pos hvb]
          · rw [mup_at]
          · by_cases z : s' = (lowN F ||| m)
            · subst z; exact .inr ⟨rfl, Nat.le_refl _⟩
            · have := hle s' (by omega) hc'
              rcases Int.lt_or_le (vlF (hadF q) (fun x => (totF (hadF q) x).1) F (lowN F ||| m)) (vlF (hadF q) (fun x => (totF (hadF q) x).1) F s') with y | y
              · exact .inl y
              · exact .inr ⟨by omega, by omega⟩
        rcases hB with ⟨g1, g2⟩ | ⟨s, g1, g2, g3, g4⟩
        · rw [g1]
          have e1 : enT ((1000000 : Int), (0 : Int)).1 = -1 := by decide
          rw [e1]
          exact ⟨fun _ => take (fun s' hs' hc' => absurd hc' (g2 s' hs')), fun c2 => absurd rfl c2⟩
        · have hs0 : s ≠ 0 := fun z => g2.1.1 (by subst z; exact Nat.zero_and _)
          have hvs := vb s g2
          have hv0 : 0 ≤ vlF (hadF q) (fun x => (totF (hadF q) x).1) F s := by
            have := (tb _ (sdf_lt g2.1.2 hs0)).1
            have := g2.2.1
            unfold vlF; simp only at *; omega
          have e1 : enT r.1 = vlF (hadF q) (fun x => (totF (hadF q) x).1) F s := by rw [g3]; unfold enT; exact if_pos hvs
          rw [e1]
          refine ⟨fun c2 => absurd c2 (by omega), fun c2 => ⟨by omega, fun c3 => ?_, fun c3 => take (fun s' hs' hc' => ?_)⟩⟩
          · refine nxt M' r hf a5 a4 (.inr ⟨s, by omega, g2, g3, fun s' hs' hc' => ?_⟩)
            by_cases z : s' = (lowN F ||| m)
            · subst z; exact .inl c3
            · exact g4 s' (by omega) hc'
          · have := g4 s' hs' hc'; omega
      · have := z.2.2
        simp only at this
        rw [hlm.2.2.2.1] at this
        unfold enT at c1
        rw [if_pos this] at c1
        omega
  refine go (O + 1) O (by omega) hlo.2.2 _ (1000000, 0) ((Fr.up1 (by unfold SH; simp)).up (by unfold SH; simp)) ?_ ?_ (.inl ⟨rfl, fun s hs hc => ?_⟩)
  · rw [mup_ne (by omega), mup_at]; rfl
  · rw [mup_at]
  · have := sub_le (sdf0_sub hc.1.2); omega
end CLSE
