/-! the class: the first two that stand behind one another -/
theorem wfold_last2 {g : Nat → Int} {s : Nat} : ∀ {k : Nat} {w : WSt}, wfold g s k = some w → w.2.1 = lastP g s k := by
  intro k
  induction k with
  | zero => intro w h; simp only [wfold, Option.some.injEq] at h; subst h; rfl
  | succ k ih =>
    intro w h
    cases h0 : wfold g s k with
    | none => rw [wfold, h0] at h; cases h
    | some w0 =>
      rw [wfold_succ h0] at h
      rw [lastP]
      cases hb : s.testBit (oN g k) with
      | false =>
        rw [wstep_no hb] at h; cases h
        rw [if_neg (by decide)]; exact ih h0
      | true =>
        rw [if_pos rfl]
        by_cases hc : wBad g (oN g k) (wY g (oN g k) w0) (wFi (oN g k) w0) (wSt g (oN g k) w0) (wLe g (oN g k) w0) (wDu g (oN g k) w0)
        · rw [wstep_bad hb hc] at h; cases h
        · rw [wstep_ok hb hc] at h; cases h; rfl
/-- in a pairing one that is right behind follows -/
theorem rb_how {g : Nat → Int} {s f k : Nat} (hc : 0 ≤ cstF g s) (hr : rbB g s f k = true) : howF g f k ≠ 0 := by
  have hp : prF g s ≠ none := fun z => by unfold cstF at hc; rw [z] at hc; exact absurd (show (0 : Int) ≤ -1 from hc) (by decide)
  obtain ⟨w, hw⟩ : ∃ w, prF g s = some w := by
    cases h : prF g s with
    | none => exact absurd h hp
    | some w => exact ⟨w, rfl⟩
  obtain ⟨hwf, -⟩ := prF_both hw
  unfold rbB at hr
  obtain ⟨j, hj, h2⟩ := List.any_eq_true.mp hr
  simp only [Bool.and_eq_true, decide_eq_true_eq] at h2
  obtain ⟨e1, hb, hl⟩ := h2
  have hjn := List.mem_range.mp hj
  cases h0 : wfold g s j with
  | none => rw [wfold_none h0 (by omega)] at hwf; cases hwf
  | some w0 =>
    have hla := wfold_last2 h0
    rw [hl] at hla
    intro hz
    have hbad : wBad g (oN g j) (wY g (oN g j) w0) (wFi (oN g j) w0) (wSt g (oN g j) w0) (wLe g (oN g j) w0) (wDu g (oN g j) w0) := by
      refine .inl ?_
      unfold wY
      rw [if_neg (by omega), hla, Int.toNat_natCast, e1]; exact hz
    have : wfold g s (j + 1) = none := by rw [wfold_succ h0, wstep_bad (by rw [e1]; exact hb) hbad]
    rw [wfold_none this (by omega)] at hwf; cases hwf
section CLSH
variable {G : GE} {d : Nat} {M : Mem} {K : Int → Mem → Prop}
theorem c1_standSomewhere {t mk : Nat} {g q : Nat → Int} {v w : Int} {f k : Nat} (ht : t = 28 ∨ t = 39) (hM : Mk mk g q M) (hC : CvM t q M) (e : v = (f : Int)) (e' : w = (k : Int)) (hf : f < nF q) (hk : k < nF q) (h : K (bI (behB q f k)) M) : CalI G miX1_standSomewhere (d + 1) [.inr (.inr (some t)), .inl v, .inl w] M K := by
  subst e; subst e'
  have hw := hM.2.1.2.1
  have hn := hw.n
  have hN := pow_le7 hn.2
  have hac := allF_cast q
  have hCq : Cq t g q M := ⟨⟨hM.1.1, hC⟩, hM.2.1⟩
  have hB := hM.1.2.1.2.2.1
  have ei : ((f : Int) * 7 + (k : Int)).toNat = 7 * f + k := by omega
  refine Cal.of (by decide) (Nat.le_of_ble_eq_true rfl) rfl (gX1_standSomewhere_0 ht ?_)
  rw [ei, (hM.1.2.1.2.1 f k hf hk).1]
  refine ⟨by omega, fun c => ?_, fun c => ?_⟩
  · have key := dn (P := fun s => 1 ≤ s → (∀ x, x < s → (decide (1 ≤ x) && (decide (0 ≤ cstF q x) && rbB q x f k)) = false) → OkI G miX1_standSomewhere (d + 1) K 21 [some (.inr (.inr (some t))), some (.inl (f : Int)), some (.inl (k : Int)), some (.inl (s : Int))] [] M) (2 ^ nF q) ?_ (fun s hs ih => ?_) 1 (pow_pos2 _) (Nat.le_refl _) (fun x hx => by rw [show x = 0 by omega]; rfl)
    · exact key
    · intro _ hno
      refine gX1_standSomewhere_21 ht (cq_all hCq ⟨fun _ => ?_, fun c => absurd c (by omega)⟩)
      have : behB q f k = false := by
        unfold behB
        rw [List.any_eq_false]
        intro x hx
        rw [hno x (List.mem_range.mp hx)]; decide
      rw [this] at h; exact h
    · intro hs1 hno
      have nx : (decide (1 ≤ s) && (decide (0 ≤ cstF q s) && rbB q s f k)) = false → OkI G miX1_standSomewhere (d + 1) K 21 [some (.inr (.inr (some t))), some (.inl (f : Int)), some (.inl (k : Int)), some (.inl (w32 ((s : Int) + 1)))] [] M := fun hz => by
        rw [w32n (by omega)]
        refine ih (by omega) (fun x hx => ?_)
        by_cases e : x = s
        · subst e; exact hz
        · exact hno x (by omega)
      refine gX1_standSomewhere_21 ht (cq_all hCq ⟨fun c => absurd c (by omega), fun _ => ⟨by omega, ?_⟩⟩)
      rw [Int.toNat_natCast, (hC.1 s (by omega) hs).1]
      by_cases c2 : 0 ≤ cstF q s
      · rw [decide_eq_true c2]
        refine ⟨fun z => absurd z (by decide), fun _ => c4_isRightBehind hw hB rfl rfl rfl (by omega) hf hk ?_⟩
        cases hr : rbB q s f k with
        | false => exact b0 (nx (by rw [hr]; simp))
        | true =>
          refine b1 ?_
          have : behB q f k = true := by
            unfold behB
            exact List.any_eq_true.mpr ⟨s, List.mem_range.mpr hs, by rw [hr, decide_eq_true hs1, decide_eq_true c2]; rfl⟩
          rw [this] at h; exact h
      · rw [decide_eq_false c2]
        exact ⟨fun _ => nx (by rw [decide_eq_false c2]; simp), fun z => absurd rfl z⟩
  · have : behB q f k = false := by
      unfold behB
      rw [List.any_eq_false]
      intro x hx hz
      simp only [Bool.and_eq_true, decide_eq_true_eq] at hz
      exact rb_how hz.2.1 hz.2.2 c
    rw [this] at h; exact h
theorem ft_none {q : Nat → Int} : ∀ m, (∀ j, j < m → ¬ (j / 7 < nF q ∧ j % 7 < nF q ∧ j / 7 ≠ j % 7 ∧ q (29 + j) = 0 ∧ behB q (j / 7) (j % 7) = true)) → ftT q m = none := by
  intro m
  induction m with
  | zero => intro _; rfl
  | succ m ih =>
    intro h
    rw [ftT, ih (fun j hj => h j (by omega))]
    exact if_neg (h m (by omega))
theorem ft_first {q : Nat → Int} {m : Nat} (hm : m < 49) (hno : ∀ j, j < m → ¬ (j / 7 < nF q ∧ j % 7 < nF q ∧ j / 7 ≠ j % 7 ∧ q (29 + j) = 0 ∧ behB q (j / 7) (j % 7) = true)) (hy : m / 7 < nF q ∧ m % 7 < nF q ∧ m / 7 ≠ m % 7 ∧ q (29 + m) = 0 ∧ behB q (m / 7) (m % 7) = true) : ft49 q = some m := by
  have h1 : ftT q (m + 1) = some m := by rw [ftT, ft_none m hno]; exact if_pos hy
  exact ftT_some h1 49 (by omega)
theorem beh_self {q : Nat → Int} (hw : WF q) {f : Nat} (hf : f < nF q) : behB q f f = false := by
  unfold behB
  rw [List.any_eq_false]
  intro x hx hz
  simp only [Bool.and_eq_true, decide_eq_true_eq] at hz
  exact rb_how hz.2.1 hz.2.2 (howF_self hw hf)
theorem c1_firstFree {t mk : Nat} {g q : Nat → Int} (ht : t = 28 ∨ t = 39) (hM : Mk mk g q M) (hC : CvM t q M) (h : K (fdI (ft49 q)) M) : CalI G miX1_firstFree (d + 2) [.inr (.inr (some t)), .inr (.inr (some mk))] M K := by
  have hw := hM.2.1.2.1
  have hn := hw.n
  have h8 := hM.n
  have hmk := hM.1.2.2
  refine Cal.of (by decide) (Nat.le_of_ble_eq_true rfl) rfl (gX1_firstFree_0 ht hM.2.2 ?_)
  refine dn (P := fun f => (∀ j, j < 7 * f → ¬ (j / 7 < nF q ∧ j % 7 < nF q ∧ j / 7 ≠ j % 7 ∧ q (29 + j) = 0 ∧ behB q (j / 7) (j % 7) = true)) → OkI G miX1_firstFree (d + 2) K 2 [some (.inr (.inr (some t))), some (.inr (.inr (some mk))), some (.inl (f : Int)), none] [] M) (nF q) ?_ (fun f hf ih => ?_) 0 (Nat.zero_le _) (fun j hj => absurd hj (by omega))
  · intro hno
    refine gX1_firstFree_2 ht hM.2.2 ⟨fun _ => ?_, fun c => absurd c (by rw [h8]; omega)⟩
    have : ft49 q = none := ft_none 49 (fun j hj hz => by
      rcases Nat.lt_or_ge j (7 * nF q) with z | z
      · exact hno j z hz
      · have := hz.1; omega)
    rw [this] at h; exact h
  · intro hno
    refine gX1_firstFree_2 ht hM.2.2 ⟨fun c => absurd c (by rw [h8]; omega), fun _ => ?_⟩
    refine dn (P := fun k => (∀ j, j < 7 * f + k → ¬ (j / 7 < nF q ∧ j % 7 < nF q ∧ j / 7 ≠ j % 7 ∧ q (29 + j) = 0 ∧ behB q (j / 7) (j % 7) = true)) → OkI G miX1_firstFree (d + 2) K 15 [some (.inr (.inr (some t))), some (.inr (.inr (some mk))), some (.inl (f : Int)), some (.inl (k : Int))] [] M) (nF q) ?_ (fun k hk ih2 => ?_) 0 (Nat.zero_le _) (fun j hj => hno j (by omega))
    · intro hno2
      refine gX1_firstFree_15 ht hM.2.2 ⟨fun _ => ?_, fun c => absurd c (by rw [h8]; omega)⟩
      rw [w32n (by omega)]
      refine ih (fun j hj hz => ?_)
      rcases Nat.lt_or_ge j (7 * f + nF q) with z | z
      · exact hno2 j z hz
      · have := hz.2.1; omega
    · intro hno2
      have ei : ((f : Int) * 7 + (k : Int)).toNat = 7 * f + k := by omega
      have q1 : (7 * f + k) / 7 = f := by omega
      have q2 : (7 * f + k) % 7 = k := by omega
      have nx : ¬ (f ≠ k ∧ q (29 + (7 * f + k)) = 0 ∧ behB q f k = true) → OkI G miX1_firstFree (d + 2) K 15 [some (.inr (.inr (some t))), some (.inr (.inr (some mk))), some (.inl (f : Int)), some (.inl (w32 ((k : Int) + 1)))] [] M := fun hz => by
        rw [w32n (by omega)]
        refine ih2 (fun j hj hy => ?_)
        by_cases e : j = 7 * f + k
        · subst e
          rw [q1, q2] at hy
          exact hz hy.2.2
        · exact hno2 j (by omega) hy
      refine gX1_firstFree_15 ht hM.2.2 ⟨fun c => absurd c (by rw [h8]; omega), fun _ => ⟨by omega, ?_⟩⟩
      rw [ei, hmk _ (by omega)]
      refine ⟨fun c => nx (fun z => c z.2.1), fun c => ?_⟩
      refine c1_standSomewhere ht hM hC rfl rfl hf hk ?_
      cases hb : behB q f k with
      | false => exact b0 (nx (fun z => by rw [hb] at z; exact absurd z.2.2 (by decide)))
      | true =>
        refine b1 ?_
        have hne : f ≠ k := fun z => by subst z; rw [beh_self hw hf] at hb; cases hb
        have := ft_first (q := q) (m := 7 * f + k) (by omega) hno2 (by rw [q1, q2]; exact ⟨hf, hk, hne, c, hb⟩)
        rw [this] at h
        rw [w32_eq (by omega) (by omega), show (f : Int) * 7 + (k : Int) = ((7 * f + k : Nat) : Int) by omega]
        exact h
end CLSH
