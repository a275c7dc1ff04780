/-! the reference: proves, tells, film, image, back, count, feed -/
theorem find_least {P : Nat → Bool} {N : Nat} (v : Int) (h : (v = -1 ∧ ∀ s, s < N → P s = false) ∨ ∃ s : Nat, v = (s : Int) ∧ s < N ∧ P s = true ∧ ∀ q, q < s → P q = false) : v = fdI ((List.range N).find? P) := by
  cases hf : (List.range N).find? P with
  | none =>
    have := List.find?_eq_none.mp hf
    rcases h with ⟨e, _⟩ | ⟨s, e, h1, h2, _⟩
    · exact e
    · exact absurd h2 (this s (List.mem_range.mpr h1))
  | some x =>
    have hx := List.find?_some hf
    have hxN := List.mem_range.mp (List.mem_of_find?_eq_some hf)
    have hmin : ∀ q, q < x → P q = false := by
      intro q hq
      have := (List.find?_range_eq_some.mp hf).2.2 q hq
      simpa using this
    rcases h with ⟨_, h⟩ | ⟨s, e, h1, h2, h3⟩
    · rw [h x hxN] at hx; cases hx
    · rcases Nat.lt_trichotomy s x with e2 | e2 | e2
      · rw [hmin s e2] at h2; cases h2
      · subst e2; exact e
      · rw [h3 x e2] at hx; cases hx
section REFT
variable {G : GE} {d : Nat} {M : Mem} {K : Int → Mem → Prop}
def unfB (g it : Nat → Int) (v : Nat) (n : Int) (s : Nat) : Bool := decide (1 ≤ s) && (decide (0 ≤ hadF g s) && decide (n * hadF g s < cmF it v s (nF g)))
def unfR (g it : Nat → Int) (v : Nat) (n : Int) : Int := fdI ((List.range (2 ^ nF g)).find? (unfB g it v n))
noncomputable def prvR (g so sz it : Nat → Int) (v n x : Int) : Int := if v < 0 ∨ 3 < v ∨ n < 1 ∨ 99 < n ∨ x < 0 ∨ 1 < x then -2 else if twR g so sz it v.toNat 0 ≠ 0 then twR g so sz it v.toNat 0 else if x = 0 then unfR g it v.toNat n else if unfR g it v.toNat n = -1 ∧ bndB g = true ∧ cmF it v.toNat (allF g) (nF g) * (optP g).2 = (optP g).1 0 * n then 1 else 0
theorem twR_0 {g so sz it : Nat → Int} {v : Nat} {least : Int} (h : twR g so sz it v least = 0) : ∀ f, f < nF g → least ≤ it (40 * v + f) ∧ it (40 * v + f) ≤ 999999 := by
  intro f hf
  unfold twR at h
  split at h
  · omega
  · split at h
    · rename_i hb
      rw [Bool.and_eq_true] at hb
      have := List.all_eq_true.mp hb.2 f (List.mem_range.mpr hf)
      unfold twB at this
      simp only [Bool.and_eq_true, decide_eq_true_eq] at this
      exact this
    · omega
theorem c11_proves {g : Nat → Int} {v n x : Int} (hg : M 67 = g) (hw : WF g) (hs : shW (M 80) (M 81)) (h : ∀ M', Fr SB2 M M' → K (prvR g (M 80) (M 81) (M 82) v n x) M') : CalI G miX11_proves (d + 7) [.inr (.inr (some 66)), .inl v, .inl n, .inl x] M K := by
  have hn := hw.n
  have hN := pow_le7 hn.2
  have hp1 := pow_pos2 (nF g)
  have bad : (v < 0 ∨ 3 < v ∨ n < 1 ∨ 99 < n ∨ x < 0 ∨ 1 < x) → K (-2) M := fun hb => kv (h M Fr.rf) (by unfold prvR; rw [if_pos hb])
  refine Cal.of (by decide) (Nat.le_of_ble_eq_true rfl) rfl (gX11_proves_0 ?_)
  refine c11_isSheet (fun p q => b1 ?_) (fun p => b0 (bad (by omega)))
  refine c11_in (fun p2 q2 => b1 ?_) (fun p2 => b0 (bad (by omega)))
  refine c11_in (fun p3 q3 => n1 ?_) (fun p3 => n0 (bad (by omega)))
  have hb : ¬ (v < 0 ∨ 3 < v ∨ n < 1 ∨ 99 < n ∨ x < 0 ∨ 1 < x) := by omega
  simp only [prvR, if_neg hb] at h
  obtain ⟨sh, hsh⟩ : ∃ sh : Nat, v = (sh : Int) := ⟨v.toNat, by omega⟩
  subst hsh
  rw [Int.toNat_natCast] at h
  refine c11_toldWrong hg hw hs rfl (by omega) ⟨fun c => ?_, fun c => ?_⟩
  · have hne : ¬ twR g (M 80) (M 81) (M 82) sh 0 ≠ 0 := fun q => q c
    simp only [if_neg hne] at h
    have hit := twR_0 c
    refine c11_reckons hg hw (fun M1 f1 rk => ?_)
    have e67 := SR67 hg f1
    have e82 : M1 82 = M 82 := by funext i; exact f1 82 i rfl
    have hall : w32 ((ishl 1 (M1 67 0)) - 1) = (allF g : Int) := by
      rw [e67, hn.1, ishl1 _ (by omega)]; unfold allF
      generalize 2 ^ nF g = N at *
      rw [w32_eq (by omega) (by omega)]; omega
    have hallN : allF g + 1 = 2 ^ nF g := by unfold allF; omega
    rw [hall]
    have hcm : ∀ s, s < 128 → 0 ≤ cmF (M 82) sh s (nF g) ∧ cmF (M 82) sh s (nF g) ≤ 6999993 := fun s hs => by
      have := sumT_bd (f := fun f => bitI s f * M 82 (40 * sh + f)) (n := nF g) (B := 999999) (fun i hi => by have := hit i hi; unfold bitI; split <;> omega)
      unfold cmF; omega
    have ct : ∀ {K2 : Int → Mem → Prop} {M2 : Mem} (s : Nat), s < 128 → M2 67 = g → M2 82 = M 82 → K2 (cmF (M 82) sh s (nF g)) M2 → CalL G miX11_comeTo (d + 6) [.inr (.inr (some 66)), .inl (sh : Int), .inl (s : Int)] M2 K2 := fun s hs e1 e2 hK => c11_comeTo e1 hw rfl rfl (by omega) hs (fun f hf => by rw [e2]; have := hit f hf; omega) (by rw [e2]; exact hK)
    -- from all downwards
    have key : ∀ k : Nat, k ≤ allF g → ∀ v6 : Int, ((v6 = -1 ∧ ∀ s, k < s → s < 2 ^ nF g → unfB g (M 82) sh n s = false) ∨ ∃ s : Nat, v6 = (s : Int) ∧ k < s ∧ s < 2 ^ nF g ∧ unfB g (M 82) sh n s = true ∧ ∀ q, k < q → q < s → unfB g (M 82) sh n q = false) → OkI G miX11_proves (d + 7) K 71 [some (.inr (.inr (some 66))), some (.inl (sh : Int)), some (.inl n), some (.inl x), none, some (.inl (allF g : Int)), some (.inl v6), some (.inl (k : Int))] [] M1 := by
      intro k
      induction k with
      | zero =>
        intro _ v6 hv6
        have hz : unfB g (M 82) sh n 0 = false := by unfold unfB; simp
        have e6 : v6 = unfR g (M 82) sh n := by
          unfold unfR
          refine find_least v6 ?_
          rcases hv6 with ⟨e, q1⟩ | ⟨s, e, q1, q2, q3, q4⟩
          · exact .inl ⟨e, fun s hs => by by_cases e0 : s = 0; subst e0; exact hz; exact q1 s (by omega) hs⟩
          · exact .inr ⟨s, e, q2, q3, fun q hq => by by_cases e0 : q = 0; subst e0; exact hz; exact q4 q (by omega) hq⟩
        refine gX11_proves_71 ⟨fun _ => ⟨fun c0 => ?_, fun c0 => ?_⟩, fun c => absurd c (by decide)⟩
        · simp only [if_neg c0] at h
          refine ⟨fun c1 => ?_, fun c1 => ?_⟩
          · refine kv (h M1 (f1.mo SR_SB2)) ?_
            rw [if_neg]; rintro ⟨q, -⟩; omega
          · have hm1 : unfR g (M 82) sh n = -1 := by
              rcases hv6 with ⟨e, -⟩ | ⟨s, e, -⟩
              · omega
              · omega
            refine c11_isBound e67 hw (fun s p q => (rk.2 s p q).2.1) (fun hbd M2 f2 ho => b1 ?_) (fun hbd => b0 ?_)
            · obtain ⟨R, hR, h18, h20, O, hz⟩ := ho
              have e67' := SB67 e67 f2
              have e82' : M2 82 = M 82 := by rw [← e82]; funext i; exact f2 82 i rfl
              refine ct (allF g) (by omega) e67' e82' ?_
              refine c11_boundAbove e67' hw hR h18 ?_
              have hB : BND = 197285760 := rfl
              have z0 := hz 0 (by omega)
              have c1 := hcm (allF g) (by omega)
              have m1 := mul_bd (a := cmF (M 82) sh (allF g) (nF g)) (b := M2 66 20) (A := 6999993) (B := BND) c1 ⟨by omega, h20.2⟩
              have m2 := mul_bd (a := M2 77 (8 * (R + 0) + nF g)) (b := n) (A := BND) (B := 99) z0 ⟨by omega, by omega⟩
              rw [w64_eq (by omega) (by omega), w64_eq (by omega) (by omega)]
              have hiff := eq_opt O (Nat.le_refl _) (by omega) (optP_ok O) (cmF (M 82) sh (allF g) (nF g)) n
              have hK := h M2 ((f1.mo SR_SB2).tr (f2.mo SB_SB2))
              refine ⟨fun c2 => kv hK (if_neg (fun q => c2 (hiff.mpr q.2.2))), fun c2 => kv hK (if_pos ⟨hm1, hbd, hiff.mp c2⟩)⟩
            · refine kv (h M1 (f1.mo SR_SB2)) (if_neg ?_)
              rintro ⟨-, q, -⟩; rw [hbd] at q; cases q
        · simp only [if_pos c0] at h
          rw [e6]; exact h M1 (f1.mo SR_SB2)
      | succ k ih =>
        intro hk v6 hv6
        have hk128 : k + 1 < 128 := by omega
        have e72 : M1 72 (k + 1) = hadF g (k + 1) := (rk.2 (k + 1) (by omega) (by omega)).2.1
        have hhb := hadF_bd hw (s := k + 1) (by omega)
        have no : unfB g (M 82) sh n (k + 1) = false → OkI G miX11_proves (d + 7) K 71 [some (.inr (.inr (some 66))), some (.inl (sh : Int)), some (.inl n), some (.inl x), none, some (.inl (allF g : Int)), some (.inl v6), some (.inl (k : Int))] [] M1 := fun hno => ih (by omega) v6 (by
          rcases hv6 with ⟨e, q1⟩ | ⟨s, e, q1, q2, q3, q4⟩
          · exact .inl ⟨e, fun s hs hs2 => by by_cases e0 : s = k + 1; subst e0; exact hno; exact q1 s (by omega) hs2⟩
          · exact .inr ⟨s, e, by omega, q2, q3, fun q hq hq2 => by by_cases e0 : q = k + 1; subst e0; exact hno; exact q4 q (by omega) hq2⟩)
        have ek : w32 (((k + 1 : Nat) : Int) + (-1)) = (k : Int) := by rw [w32_eq (by omega) (by omega)]; omega
        refine gX11_proves_71 ⟨fun c => absurd c (by omega), fun _ => ⟨by omega, ?_⟩⟩
        rw [Int.toNat_natCast, e72, ek]
        refine ⟨fun c => no (by unfold unfB; rw [show decide (0 ≤ hadF g (k + 1)) = false by simp; omega]; simp), fun c => ?_⟩
        refine ct (k + 1) hk128 e67 e82 ⟨by omega, ?_⟩
        have m := mul_bd (a := n) (b := hadF g (k + 1)) (A := 99) (B := 4893) ⟨by omega, by omega⟩ ⟨c, by omega⟩
        rw [e72, w64_eq (by omega) (by omega)]
        by_cases hlt : n * hadF g (k + 1) < cmF (M 82) sh (k + 1) (nF g)
        · rw [if_pos hlt]
          refine ih (by omega) _ (.inr ⟨k + 1, rfl, by omega, by omega, ?_, fun q hq hq2 => by omega⟩)
          unfold unfB; simp [c, hlt]
        · rw [if_neg hlt]
          refine no ?_
          unfold unfB; rw [show decide (n * hadF g (k + 1) < cmF (M 82) sh (k + 1) (nF g)) = false by simp; omega]; simp
    exact key (allF g) (Nat.le_refl _) (-1) (.inl ⟨rfl, fun s hs hs2 => by omega⟩)
  · simp only [if_pos c] at h
    exact h M Fr.rf
end REFT
