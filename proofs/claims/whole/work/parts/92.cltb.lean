/-! the class: tells, film, image, back, count -/
def tlI (o : Option Nat) : Int := fdI o
theorem tlT_down {g it : Nat → Int} {v k : Nat} (h : (tlT g it v (k + 1)).1 = none) : (tlT g it v k).1 = none := by
  cases hk : (tlT g it v k).1 with
  | none => rfl
  | some j =>
    have := tlT_stop hk (k + 1) (by omega)
    rw [this, hk] at h; cases h
theorem tlT_all {g it : Nat → Int} {v n : Nat} (h : (tlT g it v n).1 = none) : ∀ k, k ≤ n → (tlT g it v k).1 = none := by
  induction n with
  | zero => intro k hk; have : k = 0 := by omega
            subst this; exact h
  | succ n ih =>
    intro k hk
    by_cases e : k = n + 1
    · subst e; exact h
    · exact ih (tlT_down h) k (by omega)
/-- a set that is told rightly -/
theorem tlT_step {g it : Nat → Int} {v k : Nat} (h : (tlT g it v (k + 1)).1 = none) : ∃ s : Nat, it (40 * v + k) = (s : Int) ∧ s ≠ 0 ∧ s < 2 ^ nF g ∧ 0 ≤ hadF g s ∧ s &&& (tlT g it v k).2.1 = 0 ∧ tlT g it v (k + 1) = (none, (tlT g it v k).2.1 ||| s, (tlT g it v k).2.2.1 + hadF g s, (tlT g it v k).2.2.2 + alF g s) := by
  have hk := tlT_down h
  by_cases hc : 1 ≤ it (40 * v + k) ∧ it (40 * v + k) < ((2 ^ nF g : Nat) : Int) ∧ 0 ≤ hadF g (it (40 * v + k)).toNat ∧ (it (40 * v + k)).toNat &&& (tlT g it v k).2.1 = 0
  · obtain ⟨s, hs⟩ : ∃ s : Nat, it (40 * v + k) = (s : Int) := ⟨(it (40 * v + k)).toNat, by omega⟩
    rw [hs, Int.toNat_natCast] at hc
    exact ⟨s, hs, by omega, by have := hc.2.1; omega, hc.2.2.1, hc.2.2.2, tlT_ok hk hs hc.1 hc.2.1 hc.2.2.1 hc.2.2.2⟩
  · rw [tlT_no hk hc] at h; cases h
section CLTB
variable {G : GE} {d : Nat} {M : Mem} {K : Int → Mem → Prop}
theorem c10_firstWrong {g : Nat → Int} {s N : Nat} (hC : Cs g M) (wk : WkM g M) (hS : ShC M) (hs : s < 4) (hN : M 63 s = (N : Int)) (hN7 : N ≤ 7) (h : K (fdI (tlT g (M 64) s N).1) M) : CalI G miX10_firstWrong (d + 2) [.inr (.inr (some 0)), .inl (s : Int)] M K := by
  have hw := hC.1.2
  have hn := hw.n
  have hp7 := pow_le7 hn.2
  have hCq : Cq 28 g g M := ⟨⟨hC.1.1, wk.2.1⟩, hw, hw, ag_rf⟩
  refine Cal.of (by decide) (Nat.le_of_ble_eq_true rfl) rfl (gX10_firstWrong_0 ?_)
  have key := dn (P := fun k => (tlT g (M 64) s k).1 = none → OkI G miX10_firstWrong (d + 2) K 4 [some (.inr (.inr (some 0))), some (.inl (s : Int)), some (.inl ((tlT g (M 64) s k).2.1 : Int)), some (.inl (k : Int)), none, none] [] M) N ?_ (fun k hk ih => ?_) 0 (Nat.zero_le _) rfl
  · exact key
  · intro hno
    rw [hno] at h
    refine gX10_firstWrong_4 ⟨by omega, ?_⟩
    rw [Int.toNat_natCast, hN]
    exact ⟨fun _ => h, fun c => absurd c (by omega)⟩
  · intro hno
    have tb := (tlT_bd (g := g) (it := M 64) hw (v := s) k).1
    have bad : ¬ (1 ≤ M 64 (40 * s + k) ∧ M 64 (40 * s + k) < ((2 ^ nF g : Nat) : Int) ∧ 0 ≤ hadF g (M 64 (40 * s + k)).toNat ∧ (M 64 (40 * s + k)).toNat &&& (tlT g (M 64) s k).2.1 = 0) → K (k : Int) M := fun hb => by
      have e := tlT_no hno hb
      have e2 := tlT_stop (k := k + 1) (by rw [e]) N (by omega)
      rw [e2, e] at h; exact h
    refine gX10_firstWrong_4 ⟨by omega, ?_⟩
    rw [Int.toNat_natCast, hN]
    refine ⟨fun c => absurd c (by omega), fun _ => ?_⟩
    refine c7_read hS rfl hs ?_
    rw [hN, if_pos (by omega), Int.toNat_natCast]
    refine c1_isHad (.inl rfl) hCq (fun x ex x0 xs xh => b1 ?_) (fun hb => b0 (bad (fun z => hb ⟨z.1, z.2.1, z.2.2.1⟩)))
    rw [ex, w32_eq (x := (x : Int)) (by omega) (by omega), iandN (by omega)]
    refine ⟨fun c => ?_, fun c => bad (fun z => c ?_)⟩
    · have e := tlT_ok hno ex (by omega) (by omega) xh (by omega)
      have ih' := ih (by rw [e])
      rw [e] at ih'
      rw [iorN (by omega) (by omega), w32n (by omega)]; exact ih'
    · rw [ex, Int.toNat_natCast] at z; omega
theorem c10_hasAllFlights {g : Nat → Int} {s N : Nat} (hC : Cs g M) (hS : ShC M) (hs : s < 4) (hN : M 63 s = (N : Int)) (hN7 : N ≤ 7) (ht : (tlT g (M 64) s N).1 = none) (h1 : (tlT g (M 64) s N).2.1 = allF g → K 1 M) (h0 : (tlT g (M 64) s N).2.1 ≠ allF g → K 0 M) : CalI G miX10_hasAllFlights (d + 2) [.inr (.inr (some 0)), .inl (s : Int)] M K := by
  have hw := hC.1.2
  have hn := hw.n
  have hp7 := pow_le7 hn.2
  refine Cal.of (by decide) (Nat.le_of_ble_eq_true rfl) rfl (gX10_hasAllFlights_0 ?_)
  have key := dn (P := fun k => OkI G miX10_hasAllFlights (d + 2) K 4 [some (.inr (.inr (some 0))), some (.inl (s : Int)), some (.inl ((tlT g (M 64) s k).2.1 : Int)), some (.inl (k : Int))] [] M) N ?_ (fun k hk ih => ?_) 0 (Nat.zero_le _)
  · exact key
  · refine gX10_hasAllFlights_4 ⟨by omega, ?_⟩
    rw [Int.toNat_natCast, hN]
    refine ⟨fun _ => c5_allFlights hC.1.1 hw ⟨fun c => h0 (by omega), fun c => h1 (by omega)⟩, fun c => absurd c (by omega)⟩
  · have tb := (tlT_bd (g := g) (it := M 64) hw (v := s) k).1
    obtain ⟨x, ex, x0, xs, xh, xa, e⟩ := tlT_step (tlT_all ht (k + 1) (by omega))
    refine gX10_hasAllFlights_4 ⟨by omega, ?_⟩
    rw [Int.toNat_natCast, hN]
    refine ⟨fun c => absurd c (by omega), fun _ => ?_⟩
    refine c7_read hS rfl hs ?_
    rw [hN, if_pos (by omega), Int.toNat_natCast, ex, w32_eq (x := (x : Int)) (by omega) (by omega), iorN (by omega) (by omega), w32n (by omega)]
    rw [e] at ih; exact ih
theorem c10_totalOf {g : Nat → Int} {s N : Nat} (hC : Cs g M) (wk : WkM g M) (hS : ShC M) (hs : s < 4) (hN : M 63 s = (N : Int)) (hN7 : N ≤ 7) (ht : (tlT g (M 64) s N).1 = none) (h : K (tlT g (M 64) s N).2.2.1 M) : CalI G miX10_totalOf (d + 3) [.inr (.inr (some 0)), .inl (s : Int)] M K := by
  have hw := hC.1.2
  have hn := hw.n
  have hp7 := pow_le7 hn.2
  have hCq : Cq 28 g g M := ⟨⟨hC.1.1, wk.2.1⟩, hw, hw, ag_rf⟩
  refine Cal.of (by decide) (Nat.le_of_ble_eq_true rfl) rfl (gX10_totalOf_0 ?_)
  have key := dn (P := fun k => OkI G miX10_totalOf (d + 3) K 4 [some (.inr (.inr (some 0))), some (.inl (s : Int)), some (.inl (tlT g (M 64) s k).2.2.1), some (.inl (k : Int))] [] M) N ?_ (fun k hk ih => ?_) 0 (Nat.zero_le _)
  · exact key
  · refine gX10_totalOf_4 ⟨by omega, ?_⟩
    rw [Int.toNat_natCast, hN]
    exact ⟨fun _ => h, fun c => absurd c (by omega)⟩
  · have tb := (tlT_bd (g := g) (it := M 64) hw (v := s) k).2.1
    obtain ⟨x, ex, x0, xs, xh, xa, e⟩ := tlT_step (tlT_all ht (k + 1) (by omega))
    have hb := hadF_bd hw x0
    refine gX10_totalOf_4 ⟨by omega, ?_⟩
    rw [Int.toNat_natCast, hN]
    refine ⟨fun c => absurd c (by omega), fun _ => ?_⟩
    refine c7_read hS rfl hs ?_
    rw [hN, if_pos (by omega), Int.toNat_natCast]
    refine c1_costOf (.inl rfl) hCq ex x0 xs xh ?_
    rw [w32_eq (by omega) (by omega), w32n (by omega)]
    rw [e] at ih; exact ih
theorem c10_alongOf {g : Nat → Int} {s N : Nat} (hC : Cs g M) (wk : WkM g M) (hS : ShC M) (hs : s < 4) (hN : M 63 s = (N : Int)) (hN7 : N ≤ 7) (ht : (tlT g (M 64) s N).1 = none) (h : K (tlT g (M 64) s N).2.2.2 M) : CalI G miX10_alongOf (d + 3) [.inr (.inr (some 0)), .inl (s : Int)] M K := by
  have hw := hC.1.2
  have hn := hw.n
  have hp7 := pow_le7 hn.2
  have hCq : Cq 28 g g M := ⟨⟨hC.1.1, wk.2.1⟩, hw, hw, ag_rf⟩
  refine Cal.of (by decide) (Nat.le_of_ble_eq_true rfl) rfl (gX10_alongOf_0 ?_)
  have key := dn (P := fun k => OkI G miX10_alongOf (d + 3) K 4 [some (.inr (.inr (some 0))), some (.inl (s : Int)), some (.inl (tlT g (M 64) s k).2.2.2), some (.inl (k : Int))] [] M) N ?_ (fun k hk ih => ?_) 0 (Nat.zero_le _)
  · exact key
  · refine gX10_alongOf_4 ⟨by omega, ?_⟩
    rw [Int.toNat_natCast, hN]
    exact ⟨fun _ => h, fun c => absurd c (by omega)⟩
  · have tb := (tlT_bd (g := g) (it := M 64) hw (v := s) k).2.2
    obtain ⟨x, ex, x0, xs, xh, xa, e⟩ := tlT_step (tlT_all ht (k + 1) (by omega))
    have hb := alF_bd hw x0 xh
    refine gX10_alongOf_4 ⟨by omega, ?_⟩
    rw [Int.toNat_natCast, hN]
    refine ⟨fun c => absurd c (by omega), fun _ => ?_⟩
    refine c7_read hS rfl hs ?_
    rw [hN, if_pos (by omega), Int.toNat_natCast]
    refine c1_alongWith (.inl rfl) hCq ex x0 xs xh ?_
    rw [w32_eq (by omega) (by omega), w32n (by omega)]
    rw [e] at ih; exact ih
theorem shc_of {M M' : Mem} (h : ShC M) (hf : Fr SFc M M') : ShC M' := by
  obtain ⟨e1, e2, -⟩ := shc_same hf
  unfold ShC; rw [e1, e2]; exact h
theorem c10_tells {g : Nat → Int} {v x : Int} (hC : Cs g M) (hS : ShC M) (h : AskI g M (telR g (M 62) (M 63) (M 64) v x) K) : CalI G miX10_tells (d + 6) [.inr (.inr (some 0)), .inl v, .inl x] M K := by
  have hw := hC.1.2
  have hn := hw.n
  have bad : (v < 0 ∨ 3 < v ∨ x < 0 ∨ 2 < x) → K (-2) M := fun hb => kv (h M Fr.rf hC) (by unfold telR; rw [if_pos hb])
  refine Cal.of (by decide) (Nat.le_of_ble_eq_true rfl) rfl (gX10_tells_0 ?_)
  refine c7_isSheet (fun a b => b1 ?_) (fun a => b0 (bad (by omega)))
  refine ⟨fun c => bad (by omega), fun c => ⟨fun c2 => ?_, fun c2 => bad (by omega)⟩⟩
  have hb : ¬ (v < 0 ∨ 3 < v ∨ x < 0 ∨ 2 < x) := by omega
  obtain ⟨s, hs⟩ : ∃ s : Nat, v = (s : Int) := ⟨v.toNat, by omega⟩
  subst hs
  have hv := hS s (by omega)
  refine c7_isMissing rfl (by omega) (fun m => ⟨fun z => absurd z (by decide), fun _ => ?_⟩) (fun m => ⟨fun _ => ?_, fun z => absurd rfl z⟩)
  · have hK := h M Fr.rf hC
    unfold telR at hK
    rw [if_neg hb, Int.toNat_natCast, if_pos (by omega)] at hK
    exact hK
  · refine ⟨by omega, ?_⟩
    rw [Int.toNat_natCast]
    refine ⟨fun c3 => ?_, fun c3 => ?_⟩
    · refine c10_refresh hC (fun M1 f1 hC1 wk => ?_)
      obtain ⟨e62, e63, e64⟩ := shc_same f1
      have hS1 := shc_of hS f1
      have hK := h M1 f1 hC1
      unfold telR at hK
      rw [if_neg hb, Int.toNat_natCast, if_neg (by omega), if_neg (by omega)] at hK
      obtain ⟨N, hN⟩ : ∃ N : Nat, M 63 s = (N : Int) := ⟨(M 63 s).toNat, by omega⟩
      rw [hN, Int.toNat_natCast, ← e64] at hK
      have hN1 : M1 63 s = (N : Int) := by rw [e63, hN]
      refine c10_firstWrong hC1 wk hS1 (by omega) hN1 (by omega) ?_
      cases ht : (tlT g (M1 64) s N).1 with
      | some k =>
        rw [telE_s ht] at hK
        simp only [fdI]
        refine ⟨fun c4 => ⟨fun _ => ?_, fun z => absurd z (by omega)⟩, fun c4 => ?_⟩
        · rw [if_neg c4] at hK; exact hK
        · rw [if_pos c4] at hK; exact hK
      | none =>
        rw [telE_n ht] at hK
        refine ⟨fun c4 => ⟨fun z => absurd rfl z, fun _ => ?_⟩, fun c4 => ?_⟩
        · refine c10_hasAllFlights hC1 hS1 (by omega) hN1 (by omega) ht (fun ha => n1 ?_) (fun ha => n0 ?_)
          · rw [if_neg (by rintro (z | z); exact c4 z; exact z ha)] at hK
            refine ⟨fun c5 => c10_alongOf hC1 wk hS1 (by omega) hN1 (by omega) ht ?_, fun c5 => c10_totalOf hC1 wk hS1 (by omega) hN1 (by omega) ht ?_⟩
            · rw [if_neg c5] at hK; exact hK
            · rw [if_pos c5] at hK; exact hK
          · rw [if_pos (.inr ha)] at hK; exact hK
        · rw [if_pos (.inl c4)] at hK; exact hK
    · have hK := h M Fr.rf hC
      unfold telR at hK
      rw [if_neg hb, Int.toNat_natCast, if_neg (by omega), if_pos c3] at hK
      exact hK
end CLTB
