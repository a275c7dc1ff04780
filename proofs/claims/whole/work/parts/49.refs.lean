/-! the reference: load, what a sheet tells, images, counts -/
section REFS
variable {G : GE} {d : Nat} {M : Mem} {K : Int → Mem → Prop}
def ldA (it : Nat → Int) (v p k i : Nat) : Int := w32 (it (40 * v + (p + 4 * k + i)))
/-- after k of the flights told: the plan, how many came, whether it ended -/
def ldT (sz it : Nat → Int) (v : Nat) (p : Int) (g : Nat → Int) : Nat → (Nat → Int) × Nat × Bool
  | 0 => (g, 0, false)
  | k + 1 => if (ldT sz it v p g k).2.2 = true then ldT sz it v p g k else if p < 0 ∨ sz v - 4 * (k : Int) - 4 < p then ((ldT sz it v p g k).1, (ldT sz it v p g k).2.1, true) else (flyN (ldT sz it v p g k).1 (ldA it v p.toNat k 0) (ldA it v p.toNat k 1) (ldA it v p.toNat k 2) (ldA it v p.toNat k 3), (ldT sz it v p g k).2.1 + (if 0 ≤ flyR (ldT sz it v p g k).1 (ldA it v p.toNat k 0) (ldA it v p.toNat k 1) (ldA it v p.toNat k 2) (ldA it v p.toNat k 3) then 1 else 0), false)
def lodR (so sz it : Nat → Int) (g : Nat → Int) (v s p n : Int) : Int := if v < 0 ∨ 3 < v ∨ s < 0 ∨ 1 < s ∨ n < 0 ∨ 7 < n then -2 else if so v.toNat < 0 then -11 else if so v.toNat ≠ s then -13 else if (ldT sz it v.toNat p g n.toNat).2.2 = true then -12 else ((ldT sz it v.toNat p g n.toNat).2.1 : Int)
def lodN (so sz it : Nat → Int) (g : Nat → Int) (v s p n : Int) : Nat → Int := if v < 0 ∨ 3 < v ∨ s < 0 ∨ 1 < s ∨ n < 0 ∨ 7 < n then g else if so v.toNat < 0 then g else if so v.toNat ≠ s then g else (ldT sz it v.toNat p g n.toNat).1
theorem flyN_n {g : Nat → Int} {a b c e : Int} (h : 0 ≤ g 0 ∧ g 0 ≤ 7) : 0 ≤ flyN g a b c e 0 ∧ flyN g a b c e 0 ≤ 7 := by
  unfold flyN; split
  · exact h
  · split
    · exact h
    · rw [fup_at]; omega
theorem ldT_n {sz it g : Nat → Int} {v : Nat} {p : Int} (h : 0 ≤ g 0 ∧ g 0 ≤ 7) (k : Nat) : (0 ≤ (ldT sz it v p g k).1 0 ∧ (ldT sz it v p g k).1 0 ≤ 7) ∧ (ldT sz it v p g k).2.1 ≤ k := by
  induction k with
  | zero => exact ⟨h, Nat.le_refl _⟩
  | succ k ih =>
    rw [ldT]; split
    · exact ⟨ih.1, by omega⟩
    · split
      · exact ⟨ih.1, by simp only; omega⟩
      · exact ⟨flyN_n ih.1, by simp only; split <;> omega⟩
theorem ldT_stop {sz it g : Nat → Int} {v : Nat} {p : Int} {k : Nat} (h : (ldT sz it v p g k).2.2 = true) : ∀ m, k ≤ m → ldT sz it v p g m = ldT sz it v p g k := by
  intro m hm
  induction m with
  | zero => have : k = 0 := by omega
            subst this; rfl
  | succ m ih =>
    by_cases e : k = m + 1
    · subst e; rfl
    · rw [ldT, if_pos (by rw [ih (by omega)]; exact h), ih (by omega)]
theorem c11_load {g : Nat → Int} {v s p n : Int} (hg : M 67 = g) (hn0 : 0 ≤ g 0 ∧ g 0 ≤ 7) (hs : shW (M 80) (M 81)) (h : K (lodR (M 80) (M 81) (M 82) g v s p n) (mset M 67 (lodN (M 80) (M 81) (M 82) g v s p n))) : CalI G miX11_load (d + 3) [.inr (.inr (some 66)), .inl v, .inl s, .inl p, .inl n] M K := by
  have bad : (v < 0 ∨ 3 < v ∨ s < 0 ∨ 1 < s ∨ n < 0 ∨ 7 < n) → K (-2) M := fun hb => by
    simp only [lodR, lodN, if_pos hb] at h; rw [← hg, mset_self] at h; exact h
  refine Cal.rng (fun hok _ => ?_)
  have hI : -2147483648 ≤ p ∧ p ≤ 2147483647 := hok (.inl p) (by simp)
  refine Cal.of (by decide) (Nat.le_of_ble_eq_true rfl) rfl (gX11_load_0 ?_)
  refine c11_isSheet (fun p1 q1 => b1 ?_) (fun p1 => b0 (bad (by omega)))
  refine c11_in (fun p2 q2 => b1 ?_) (fun p2 => b0 (bad (by omega)))
  refine c11_in (fun p3 q3 => n1 ?_) (fun p3 => n0 (bad (by omega)))
  have hv := hs v.toNat (by omega)
  have hb : ¬ (v < 0 ∨ 3 < v ∨ s < 0 ∨ 1 < s ∨ n < 0 ∨ 7 < n) := by omega
  simp only [lodR, lodN, if_neg hb] at h
  refine ⟨by omega, fun c => ⟨by omega, fun c2 => ?_, fun c2 => ?_⟩, fun c => ?_⟩
  · have q1 : ¬ M 80 v.toNat < 0 := by omega
    have q2 : ¬ M 80 v.toNat ≠ s := fun q => q c2
    simp only [if_neg q1, if_neg q2] at h
    obtain ⟨nn, hnn⟩ : ∃ nn : Nat, n = (nn : Int) := ⟨n.toNat, by omega⟩
    subst hnn
    rw [Int.toNat_natCast] at h
    have key := dn (P := fun k => (ldT (M 81) (M 82) v.toNat p g k).2.2 = false → OkI G miX11_load (d + 3) K 64 [some (.inr (.inr (some 66))), some (.inl v), none, some (.inl p), some (.inl (nn : Int)), some (.inl ((ldT (M 81) (M 82) v.toNat p g k).2.1 : Int)), some (.inl (k : Int)), none] [] (mset M 67 (ldT (M 81) (M 82) v.toNat p g k).1)) nn ?_ (fun k hk ih => ?_) 0 (Nat.zero_le _) rfl
    · have e0 : (ldT (M 81) (M 82) v.toNat p g 0).1 = M 67 := hg.symm
      rw [e0, mset_self] at key; exact key
    · intro hf
      rw [hf] at h
      exact gX11_load_64 ⟨fun _ => h, fun c => absurd c (by omega)⟩
    · intro hf
      have hst := ldT_n (sz := M 81) (it := M 82) (v := v.toNat) (p := p) hn0 k
      have stop : (p < 0 ∨ M 81 v.toNat - 4 * (k : Int) - 4 < p) → K (-12) (mset M 67 (ldT (M 81) (M 82) v.toNat p g k).1) := fun hq => by
        have e1 : ldT (M 81) (M 82) v.toNat p g (k + 1) = ((ldT (M 81) (M 82) v.toNat p g k).1, (ldT (M 81) (M 82) v.toNat p g k).2.1, true) := by rw [ldT, if_neg (by rw [hf]; decide), if_pos hq]
        have e2 := ldT_stop (k := k + 1) (by rw [e1]) nn (by omega)
        rw [e2, e1] at h; exact h
      have e81 : (mset M 67 (ldT (M 81) (M 82) v.toNat p g k).1) 81 v.toNat = M 81 v.toNat := by rw [mset_ne _ (by decide)]
      refine gX11_load_64 ⟨fun c => absurd c (by omega), fun _ => ⟨fun c3 => stop (.inl c3), fun c3 => ⟨by omega, fun c4 => ?_, fun c4 => ?_⟩⟩⟩
      · rw [e81, w32_eq (by omega) (by omega)] at c4
        have it : ∀ i : Nat, i < 4 → ∀ M2 : Mem, M2 82 = M 82 → ∀ {K2 : Int → Mem → Prop}, K2 (M 82 (40 * v.toNat + (p.toNat + 4 * k + i))) M2 → CalL G miX11_itemOf (d + 2) [.inr (.inr (some 66)), .inl v, .inl ((p + (4 * (k : Int))) + (i : Int))] M2 K2 := fun i hi M2 e2 K2 hK => by
          refine c11_itemOf (s := v.toNat) (i := p.toNat + 4 * k + i) (by omega) (by omega) (by omega) (by omega) ?_
          rw [e2]; exact hK
        have e82 := mset_ne (M := M) (c := 67) (a := 82) (ldT (M 81) (M 82) v.toNat p g k).1 (by decide)
        rw [show w32 (p + (4 * (k : Int))) = (p + (4 * (k : Int))) + ((0 : Nat) : Int) by rw [w32_eq (by omega) (by omega)]; omega, w32_eq (x := (p + (4 * (k : Int))) + 1) (by omega) (by omega), w32_eq (x := (p + (4 * (k : Int))) + 2) (by omega) (by omega), w32_eq (x := (p + (4 * (k : Int))) + 3) (by omega) (by omega)]
        refine it 0 (by omega) _ e82 ?_
        refine it 1 (by omega) _ e82 ?_
        refine it 2 (by omega) _ e82 ?_
        refine it 3 (by omega) _ e82 ?_
        refine c11_fly (by rw [mset_at]; exact hst.1) ?_
        rw [mset_at, mset_mset, w32n (by omega)]
        have hq : ¬ (p < 0 ∨ M 81 v.toNat - 4 * (k : Int) - 4 < p) := by omega
        have e1 : ldT (M 81) (M 82) v.toNat p g (k + 1) = (flyN (ldT (M 81) (M 82) v.toNat p g k).1 (ldA (M 82) v.toNat p.toNat k 0) (ldA (M 82) v.toNat p.toNat k 1) (ldA (M 82) v.toNat p.toNat k 2) (ldA (M 82) v.toNat p.toNat k 3), (ldT (M 81) (M 82) v.toNat p g k).2.1 + (if 0 ≤ flyR (ldT (M 81) (M 82) v.toNat p g k).1 (ldA (M 82) v.toNat p.toNat k 0) (ldA (M 82) v.toNat p.toNat k 1) (ldA (M 82) v.toNat p.toNat k 2) (ldA (M 82) v.toNat p.toNat k 3) then 1 else 0), false) := by rw [ldT, if_neg (by rw [hf]; decide), if_neg hq]
        rw [e1] at ih
        have ih' := ih rfl
        change OkI G miX11_load (d + 3) K 64 [some (.inr (.inr (some 66))), some (.inl v), none, some (.inl p), some (.inl (nn : Int)), some (.inl (w32 (((ldT (M 81) (M 82) v.toNat p g k).2.1 : Int) + (if ¬ (flyR (ldT (M 81) (M 82) v.toNat p g k).1 (ldA (M 82) v.toNat p.toNat k 0) (ldA (M 82) v.toNat p.toNat k 1) (ldA (M 82) v.toNat p.toNat k 2) (ldA (M 82) v.toNat p.toNat k 3) < 0) then (1 : Int) else 0)))), some (.inl ((k + 1 : Nat) : Int)), none] [] (mset M 67 (flyN (ldT (M 81) (M 82) v.toNat p g k).1 (ldA (M 82) v.toNat p.toNat k 0) (ldA (M 82) v.toNat p.toNat k 1) (ldA (M 82) v.toNat p.toNat k 2) (ldA (M 82) v.toNat p.toNat k 3)))
        by_cases hc : flyR (ldT (M 81) (M 82) v.toNat p g k).1 (ldA (M 82) v.toNat p.toNat k 0) (ldA (M 82) v.toNat p.toNat k 1) (ldA (M 82) v.toNat p.toNat k 2) (ldA (M 82) v.toNat p.toNat k 3) < 0
        · rw [if_neg (show ¬ ¬ _ from fun q => q hc), w32_eq (by omega) (by omega), Int.add_zero]
          rw [if_neg (by omega)] at ih'; exact ih'
        · rw [if_pos hc, w32n (by omega)]
          rw [if_pos (by omega)] at ih'; exact ih'
      · rw [e81, w32_eq (by omega) (by omega)] at c4
        exact stop (.inr c4)
  · have q1 : ¬ M 80 v.toNat < 0 := by omega
    simp only [if_neg q1, if_pos c2] at h
    rw [← hg, mset_self] at h; exact h
  · simp only [if_pos c] at h
    rw [← hg, mset_self] at h; exact h
/-- prices that a sheet tells -/
def twB (it : Nat → Int) (v : Nat) (least : Int) (f : Nat) : Bool := decide (least ≤ it (40 * v + f)) && decide (it (40 * v + f) ≤ 999999)
def twR (g so sz it : Nat → Int) (v : Nat) (least : Int) : Int := if so v < 0 then -11 else if (decide (sz v = g 0) && (List.range (nF g)).all (twB it v least)) = true then 0 else -3
theorem c11_toldWrong {g : Nat → Int} {v least : Int} {s : Nat} (hg : M 67 = g) (hw : WF g) (hs : shW (M 80) (M 81)) (e : v = (s : Int)) (hs4 : s < 4) (h : K (twR g (M 80) (M 81) (M 82) s least) M) : CalI G miX11_toldWrong (d + 1) [.inr (.inr (some 66)), .inl v, .inr (.inl least)] M K := by
  have hn := hw.n
  have hv := hs s hs4
  subst e
  refine Cal.of (by decide) (Nat.le_of_ble_eq_true rfl) rfl (gX11_toldWrong_0 ?_)
  rw [Int.toNat_natCast]
  unfold twR at h
  refine ⟨by omega, fun c => ⟨by omega, ?_⟩, fun c => ?_⟩
  · rw [if_neg (by omega)] at h
    have key := dn (P := fun k => OkI G miX11_toldWrong (d + 1) K 37 [some (.inr (.inr (some 66))), some (.inl (s : Int)), some (.inr (.inl least)), none, some (.inl (bI (decide (M 81 s = g 0) && (List.range k).all (twB (M 82) s least)))), some (.inl (k : Int))] [] M) (nF g) ?_ (fun k hk ih => ?_) 0 (Nat.zero_le _)
    · rw [hg]
      have e0 : bI (decide (M 81 s = g 0) && (List.range 0).all (twB (M 82) s least)) = (if M 81 s = g 0 then (1 : Int) else 0) := by
        by_cases q : M 81 s = g 0
        · simp [q, bI]
        · simp [q, bI]
      rw [e0] at key; exact key
    · refine gX11_toldWrong_37 ⟨fun _ => ?_, fun c => absurd c (by rw [hg]; omega)⟩
      cases hb : (decide (M 81 s = g 0) && (List.range (nF g)).all (twB (M 82) s least)) with
      | false => rw [hb, if_neg (by decide)] at h; exact gX11_toldWrong_75 ⟨fun _ => h, fun c => absurd rfl c⟩
      | true => rw [hb, if_pos rfl] at h; exact gX11_toldWrong_75 ⟨fun c => absurd c (by decide), fun _ => h⟩
    · refine gX11_toldWrong_37 ⟨fun c => absurd c (by rw [hg]; omega), fun _ => ?_⟩
      rw [List.range_succ, List.all_append] at ih
      simp only [List.all_cons, List.all_nil, Bool.and_true] at ih
      cases hb : (decide (M 81 s = g 0) && (List.range k).all (twB (M 82) s least)) with
      | false =>
        refine b0 ?_
        have hfin : (decide (M 81 s = g 0) && (List.range (nF g)).all (twB (M 82) s least)) = false := by
          cases hd : decide (M 81 s = g 0) with
          | false => rfl
          | true =>
            rw [hd] at hb
            simp only [Bool.true_and] at hb ⊢
            obtain ⟨x, hx, hx2⟩ := List.all_eq_false.mp hb
            exact List.all_eq_false.mpr ⟨x, List.mem_range.mpr (by have := List.mem_range.mp hx; omega), hx2⟩
        rw [hfin, if_neg (by decide)] at h
        exact gX11_toldWrong_75 ⟨fun _ => h, fun c => absurd rfl c⟩
      | true =>
        refine b1 (c11_itemOf rfl rfl hs4 (by omega) ?_)
        have hd : decide (M 81 s = g 0) = true := by rw [Bool.and_eq_true] at hb; exact hb.1
        have ha : (List.range k).all (twB (M 82) s least) = true := by rw [Bool.and_eq_true] at hb; exact hb.2
        rw [hd, ha] at ih
        simp only [Bool.true_and] at ih
        refine c11_in (fun p q => ?_) (fun p => ?_)
        · rw [w32n (by omega)]
          have : twB (M 82) s least k = true := by unfold twB; simp [p, q]
          rw [this] at ih; exact ih
        · rw [w32n (by omega)]
          have : twB (M 82) s least k = false := by
            unfold twB
            rcases p with p | p
            · have : decide (least ≤ M 82 (40 * s + k)) = false := by simp; omega
              rw [this]; rfl
            · have : decide (M 82 (40 * s + k) ≤ 999999) = false := by simp; omega
              rw [this]; simp
          rw [this] at ih; exact ih
  · rw [if_pos c] at h; exact h
def cmF (it : Nat → Int) (v s : Nat) : Nat → Int := sumT (fun f => bitI s f * it (40 * v + f))
theorem c11_comeTo {K : Int → Mem → Prop} {g : Nat → Int} {v w : Int} {sh s : Nat} (hg : M 67 = g) (hw : WF g) (e : v = (sh : Int)) (e' : w = (s : Int)) (hs4 : sh < 4) (hs : s < 128) (hb : ∀ f, f < nF g → -999999 ≤ M 82 (40 * sh + f) ∧ M 82 (40 * sh + f) ≤ 999999) (h : K (cmF (M 82) sh s (nF g)) M) : CalL G miX11_comeTo (d + 1) [.inr (.inr (some 66)), .inl v, .inl w] M K := by
  have hn := hw.n
  subst e; subst e'
  have bd : ∀ k, k ≤ nF g → -999999 * (k : Int) ≤ cmF (M 82) sh s k ∧ cmF (M 82) sh s k ≤ 999999 * (k : Int) := by
    intro k
    induction k with
    | zero => intro _; exact ⟨Int.le_refl _, Int.le_refl _⟩
    | succ k ih =>
      intro hk
      have a := ih (by omega)
      have b := hb k (by omega)
      unfold cmF at a ⊢
      simp only [sumT]
      unfold bitI at a ⊢; split <;> omega
  refine Cal.of (by decide) (Nat.le_of_ble_eq_true rfl) rfl (gX11_comeTo_0 ?_)
  refine dn (P := fun k => OkL G miX11_comeTo (d + 1) K 5 [some (.inr (.inr (some 66))), some (.inl (sh : Int)), some (.inl (s : Int)), some (.inr (.inl (cmF (M 82) sh s k))), none, some (.inl (k : Int))] [] M) (nF g) ?_ (fun k hk ih => ?_) 0 (Nat.zero_le _)
  · exact gX11_comeTo_5 ⟨fun _ => h, fun c => absurd c (by rw [hg]; omega)⟩
  · have b1' := bd k (by omega)
    have b2' := hb k hk
    have e : cmF (M 82) sh s (k + 1) = cmF (M 82) sh s k + bitI s k * M 82 (40 * sh + k) := rfl
    refine gX11_comeTo_5 ⟨fun c => absurd c (by rw [hg]; omega), fun _ => ?_⟩
    rw [w32n (by omega)]
    refine c11_has rfl rfl hs (by omega) (fun b => b1 ?_) (fun b => b0 ?_)
    · refine c11_itemOf rfl rfl hs4 (by omega) ?_
      rw [w64_eq (by omega) (by omega)]
      rw [e] at ih; unfold bitI at ih; rw [if_pos b, Int.one_mul] at ih; exact ih
    · rw [w64_eq (by omega) (by omega)]
      rw [e] at ih; unfold bitI at ih; rw [if_neg (by rw [b]; decide), Int.zero_mul] at ih; exact ih
end REFS
