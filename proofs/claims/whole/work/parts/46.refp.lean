/-! the reference: the tree -/
def behB (g : Nat → Int) (f k : Nat) : Bool := (List.range (2 ^ nF g)).any fun s => decide (1 ≤ s) && (decide (0 ≤ cstF g s) && rbB g s f k)
def ftT (g : Nat → Int) : Nat → Option Nat
  | 0 => none
  | k + 1 => match ftT g k with
    | some j => some j
    | none => if k / 7 < nF g ∧ k % 7 < nF g ∧ k / 7 ≠ k % 7 ∧ g (29 + k) = 0 ∧ behB g (k / 7) (k % 7) = true then some k else none
/-- nodes shut by themselves: no cover; the bound -/
noncomputable def eqB (g : Nat → Int) : Bool := bndB g && decide ((optP g).1 0 = totG g * (optP g).2)
def covb (g : Nat → Int) : Bool := decide (totG g < 1000000)
theorem covb_t {g : Nat → Int} (h : covB g) : covb g = true := decide_eq_true h
theorem covb_f {g : Nat → Int} (h : ¬ covB g) : covb g = false := decide_eq_false h
def growP (cv eq : (Nat → Int) → Bool) (ft : (Nat → Int) → Option Nat) : Nat → (Nat → Int) → Nat → Nat → Bool × Nat × Nat
  | 0, _, nd, sh => (false, nd, sh)
  | f + 1, g, nd, sh => if 40 < nd + 1 then (false, nd + 1, sh) else if cv g = false then (true, nd + 1, sh + 1) else if eq g = true then (true, nd + 1, sh) else match ft g with
    | none => (true, nd + 1, sh)
    | some k => if (growP cv eq ft f (fup g (29 + k) 1) (nd + 1) sh).1 = true then growP cv eq ft f (fup g (29 + k) 2) (growP cv eq ft f (fup g (29 + k) 1) (nd + 1) sh).2.1 (growP cv eq ft f (fup g (29 + k) 1) (nd + 1) sh).2.2 else growP cv eq ft f (fup g (29 + k) 1) (nd + 1) sh
def ft49 (g : Nat → Int) : Option Nat := ftT g 49
noncomputable def growF (f : Nat) (g : Nat → Int) (nd sh : Nat) : Bool × Nat × Nat := growP covb eqB ft49 f g nd sh
section GROW
variable {cv eq : (Nat → Int) → Bool} {ft : (Nat → Int) → Option Nat} {f : Nat} {g : Nat → Int} {nd sh k : Nat}
theorem growP_0 : growP cv eq ft 0 g nd sh = (false, nd, sh) := rfl
theorem growP_1 (h : 40 < nd + 1) : growP cv eq ft (f + 1) g nd sh = (false, nd + 1, sh) := by rw [growP, if_pos h]
theorem growP_2 (h : ¬ 40 < nd + 1) (h2 : cv g = false) : growP cv eq ft (f + 1) g nd sh = (true, nd + 1, sh + 1) := by rw [growP, if_neg h, if_pos h2]
theorem growP_3 (h : ¬ 40 < nd + 1) (h2 : cv g = true) (h3 : eq g = true) : growP cv eq ft (f + 1) g nd sh = (true, nd + 1, sh) := by rw [growP, if_neg h, if_neg (by rw [h2]; decide), if_pos h3]
theorem growP_4 (h : ¬ 40 < nd + 1) (h2 : cv g = true) (h3 : eq g = false) (h4 : ft g = none) : growP cv eq ft (f + 1) g nd sh = (true, nd + 1, sh) := by rw [growP, if_neg h, if_neg (by rw [h2]; decide), if_neg (by rw [h3]; decide), h4]
theorem growP_5 (h : ¬ 40 < nd + 1) (h2 : cv g = true) (h3 : eq g = false) (h4 : ft g = some k) (h5 : (growP cv eq ft f (fup g (29 + k) 1) (nd + 1) sh).1 = true) : growP cv eq ft (f + 1) g nd sh = growP cv eq ft f (fup g (29 + k) 2) (growP cv eq ft f (fup g (29 + k) 1) (nd + 1) sh).2.1 (growP cv eq ft f (fup g (29 + k) 1) (nd + 1) sh).2.2 := by
  rw [growP, if_neg h, if_neg (by rw [h2]; decide), if_neg (by rw [h3]; decide), h4]
  exact if_pos h5
theorem growP_6 (h : ¬ 40 < nd + 1) (h2 : cv g = true) (h3 : eq g = false) (h4 : ft g = some k) (h5 : (growP cv eq ft f (fup g (29 + k) 1) (nd + 1) sh).1 = false) : growP cv eq ft (f + 1) g nd sh = growP cv eq ft f (fup g (29 + k) 1) (nd + 1) sh := by
  rw [growP, if_neg h, if_neg (by rw [h2]; decide), if_neg (by rw [h3]; decide), h4]
  exact if_neg (by rw [h5]; decide)
theorem growP_bd : ∀ (f : Nat) (g : Nat → Int) (nd sh : Nat), sh ≤ nd → nd ≤ 40 → (growP cv eq ft f g nd sh).2.2 ≤ (growP cv eq ft f g nd sh).2.1 ∧ (growP cv eq ft f g nd sh).2.1 ≤ 41 ∧ ((growP cv eq ft f g nd sh).1 = true → (growP cv eq ft f g nd sh).2.1 ≤ 40) ∧ nd ≤ (growP cv eq ft f g nd sh).2.1 := by
  intro f
  induction f with
  | zero => intro g nd sh h1 h2; rw [growP_0]; exact ⟨h1, Nat.le_trans h2 (by decide), fun h => (by cases h), Nat.le_refl _⟩
  | succ f ih =>
    intro g nd sh h1 h2
    by_cases c1 : 40 < nd + 1
    · rw [growP_1 c1]; exact ⟨Nat.le_succ_of_le h1, by simp only; omega, fun h => (by cases h), Nat.le_succ _⟩
    · cases c2 : cv g with
      | false => rw [growP_2 c1 c2]; exact ⟨by simp only; omega, by simp only; omega, fun _ => by simp only; omega, Nat.le_succ _⟩
      | true =>
        cases c3 : eq g with
        | true => rw [growP_3 c1 c2 c3]; exact ⟨by simp only; omega, by simp only; omega, fun _ => by simp only; omega, Nat.le_succ _⟩
        | false =>
          cases c4 : ft g with
          | none => rw [growP_4 c1 c2 c3 c4]; exact ⟨by simp only; omega, by simp only; omega, fun _ => by simp only; omega, Nat.le_succ _⟩
          | some k =>
            have a := ih (fup g (29 + k) 1) (nd + 1) sh (by omega) (by omega)
            cases c5 : (growP cv eq ft f (fup g (29 + k) 1) (nd + 1) sh).1 with
            | false => rw [growP_6 c1 c2 c3 c4 c5]; exact ⟨a.1, a.2.1, a.2.2.1, by have := a.2.2.2; omega⟩
            | true =>
              rw [growP_5 c1 c2 c3 c4 c5]
              have b := ih (fup g (29 + k) 2) _ _ a.1 (a.2.2.1 c5)
              exact ⟨b.1, b.2.1, b.2.2.1, by have := a.2.2.2; have := b.2.2.2; omega⟩
end GROW
section GROW2
variable {f : Nat} {g : Nat → Int} {nd sh k : Nat}
theorem growF_1 (h : 40 < nd + 1) : growF (f + 1) g nd sh = (false, nd + 1, sh) := growP_1 h
theorem growF_2 (h : ¬ 40 < nd + 1) (h2 : covb g = false) : growF (f + 1) g nd sh = (true, nd + 1, sh + 1) := growP_2 h h2
theorem growF_3 (h : ¬ 40 < nd + 1) (h2 : covb g = true) (h3 : eqB g = true) : growF (f + 1) g nd sh = (true, nd + 1, sh) := growP_3 h h2 h3
theorem growF_4 (h : ¬ 40 < nd + 1) (h2 : covb g = true) (h3 : eqB g = false) (h4 : ft49 g = none) : growF (f + 1) g nd sh = (true, nd + 1, sh) := growP_4 h h2 h3 h4
theorem growF_5 (h : ¬ 40 < nd + 1) (h2 : covb g = true) (h3 : eqB g = false) (h4 : ft49 g = some k) (h5 : (growF f (fup g (29 + k) 1) (nd + 1) sh).1 = true) : growF (f + 1) g nd sh = growF f (fup g (29 + k) 2) (growF f (fup g (29 + k) 1) (nd + 1) sh).2.1 (growF f (fup g (29 + k) 1) (nd + 1) sh).2.2 := growP_5 h h2 h3 h4 h5
theorem growF_6 (h : ¬ 40 < nd + 1) (h2 : covb g = true) (h3 : eqB g = false) (h4 : ft49 g = some k) (h5 : (growF f (fup g (29 + k) 1) (nd + 1) sh).1 = false) : growF (f + 1) g nd sh = growF f (fup g (29 + k) 1) (nd + 1) sh := growP_6 h h2 h3 h4 h5
theorem growF_bd (f : Nat) (g : Nat → Int) (nd sh : Nat) (h1 : sh ≤ nd) (h2 : nd ≤ 40) : (growF f g nd sh).2.2 ≤ (growF f g nd sh).2.1 ∧ (growF f g nd sh).2.1 ≤ 41 ∧ ((growF f g nd sh).1 = true → (growF f g nd sh).2.1 ≤ 40) ∧ nd ≤ (growF f g nd sh).2.1 := growP_bd f g nd sh h1 h2
end GROW2
noncomputable def treeR (g : Nat → Int) (x : Int) : Int := if x < 0 ∨ 1 < x then -2 else if (growF 42 g 0 0).1 = true then (if x = 0 then ((growF 42 g 0 0).2.1 : Int) else ((growF 42 g 0 0).2.2 : Int)) else -5
theorem ftT_ok {g : Nat → Int} {k : Nat} : ∀ m, ftT g m = some k → k < m ∧ k / 7 < nF g ∧ k % 7 < nF g ∧ k / 7 ≠ k % 7 ∧ g (29 + k) = 0 := by
  intro m
  induction m with
  | zero => intro h; cases h
  | succ m ih =>
    intro h
    rw [ftT] at h
    cases hm : ftT g m with
    | some j => rw [hm] at h; cases h; have := ih hm; exact ⟨by omega, this.2⟩
    | none =>
      rw [hm] at h
      simp only at h
      by_cases c : m / 7 < nF g ∧ m % 7 < nF g ∧ m / 7 ≠ m % 7 ∧ g (29 + m) = 0 ∧ behB g (m / 7) (m % 7) = true
      · rw [if_pos c] at h; cases h; exact ⟨by omega, c.1, c.2.1, c.2.2.1, c.2.2.2.1⟩
      · rw [if_neg c] at h; cases h
theorem ftT_some {g : Nat → Int} {k j : Nat} (h : ftT g k = some j) : ∀ m, k ≤ m → ftT g m = some j := by
  intro m hm
  induction m with
  | zero => have : k = 0 := by omega
            subst this; exact h
  | succ m ih =>
    by_cases e : k = m + 1
    · subst e; exact h
    · rw [ftT, ih (by omega)]
theorem mkK_WF {g : Nat → Int} (hw : WF g) {k : Nat} {m : Int} (h : k / 7 < nF g ∧ k % 7 < nF g ∧ k / 7 ≠ k % 7) (hm : 0 ≤ m ∧ m ≤ 2) : WF (fup g (29 + k) m) := by
  have := mkG_WF hw h.1 h.2.1 h.2.2 hm
  unfold mkG at this
  rw [show 7 * (k / 7) + k % 7 = k by omega] at this; exact this
section REFP
variable {G : GE} {d : Nat} {M : Mem}
theorem rb_bit {g : Nat → Int} {s f k : Nat} (h : rbB g s f k = true) : s.testBit k = true := by
  unfold rbB at h
  obtain ⟨j, _, h2⟩ := List.any_eq_true.mp h
  simp only [Bool.and_eq_true, decide_eq_true_eq] at h2
  exact h2.2.1
def SLi : Nat → Nat → Bool := fun c _ => c == 70
theorem c11_isBehind {K : Int → Mem → Prop} {g : Nat → Int} {v w : Int} {f k : Nat} (hg : M 67 = g) (hw : WF g) (h69 : ∀ i, i < nF g → M 69 i = (oN g i : Int)) (h71 : ∀ s, s ≠ 0 → s < 2 ^ nF g → M 71 s = cstF g s) (e : v = (f : Int)) (e' : w = (k : Int)) (hk : k < nF g) (h : ∀ M', Fr SLi M M' → K (bI (behB g f k)) M') : CalI G miX11_isBehind (d + 2) [.inr (.inr (some 66)), .inl v, .inl w] M K := by
  have hn := hw.n
  have hN := pow_le7 hn.2
  subst e; subst e'
  refine Cal.of (by decide) (Nat.le_of_ble_eq_true rfl) rfl (gX11_isBehind_0 ?_)
  have fr67 : ∀ {M' : Mem}, Fr SLi M M' → M' 67 = g := fun hf => by rw [← hg]; funext i; exact hf 67 i rfl
  unfold behB at h
  refine dn (P := fun m => 1 ≤ m → ∀ M' : Mem, Fr SLi M M' → OkI G miX11_isBehind (d + 2) K 5 [some (.inr (.inr (some 66))), some (.inl (f : Int)), some (.inl (k : Int)), some (.inl (bI ((List.range m).any fun s => decide (1 ≤ s) && (decide (0 ≤ cstF g s) && rbB g s f k)))), some (.inl (m : Int))] [] M') (2 ^ nF g) ?_ (fun m hm ih => ?_) 1 (pow_pos2 _) (Nat.le_refl _) M Fr.rf
  · intro _ M' hf
    refine gX11_isBehind_5 ⟨fun _ => ⟨bI_01 _, h M' hf⟩, fun c => absurd c (by rw [fr67 hf, hn.1, ishl1 _ (by omega)]; omega)⟩
  · intro hm1 M' hf
    have ih' : ∀ M2, Fr SLi M M2 → ∀ x : Int, x = bI ((List.range (m + 1)).any fun s => decide (1 ≤ s) && (decide (0 ≤ cstF g s) && rbB g s f k)) → OkI G miX11_isBehind (d + 2) K 5 [some (.inr (.inr (some 66))), some (.inl (f : Int)), some (.inl (k : Int)), some (.inl x), some (.inl ((m + 1 : Nat) : Int))] [] M2 := fun M2 f2 x hx => by rw [hx]; exact ih (by omega) M2 f2
    rw [List.range_succ, List.any_append] at ih'
    simp only [List.any_cons, List.any_nil, Bool.or_false] at ih'
    generalize ((List.range m).any fun s => decide (1 ≤ s) && (decide (0 ≤ cstF g s) && rbB g s f k)) = A at *
    refine gX11_isBehind_5 ⟨fun c => absurd c (by rw [fr67 hf, hn.1, ishl1 _ (by omega)]; omega), fun _ => ⟨by omega, ?_⟩⟩
    rw [Int.toNat_natCast, hf 71 m rfl, h71 m (by omega) hm, w32n (by omega)]
    refine ⟨fun c => ih' M' hf _ ?_, fun c => ?_⟩
    · rw [show decide (0 ≤ cstF g m) = false by simp; omega]; simp
    · have hd : (decide (1 ≤ m) && (decide (0 ≤ cstF g m) && rbB g m f k)) = rbB g m f k := by
        rw [show decide (1 ≤ m) = true by simp; omega, show decide (0 ≤ cstF g m) = true by simp; omega]; rfl
      rw [hd] at ih'
      refine c11_has rfl rfl (by omega) (by omega) (fun b => b1 ?_) (fun b => b0 (ih' M' hf _ ?_))
      · refine c11_lines (fr67 hf) hw (fun i hi => by rw [hf 69 i rfl]; exact h69 i hi) rfl (by omega) (fun a ha => ?_)
        have hf2 : Fr SLi M (mset M' 70 a) := hf.ms (fun _ => rfl)
        have hl := (lin_rb (g := g) (s := m) (a := a) ha (f := f) hk).1 b
        refine ⟨fun c2 => ih' _ hf2 _ ?_, fun c2 => ⟨by omega, ih' _ hf2 _ ?_⟩⟩
        · have : A = true := by cases A <;> simp_all [bI]
          rw [this]; rfl
        · have : A = false := by cases A <;> simp_all [bI]
          rw [this, mset_at, Int.toNat_natCast]
          by_cases c3 : a k = (f : Int)
          · rw [if_pos c3, hl.mp c3]; rfl
          · rw [if_neg c3]
            have : rbB g m f k = false := by cases hr : rbB g m f k <;> simp_all
            rw [this]; rfl
      · have : rbB g m f k = false := by
          cases hr : rbB g m f k with
          | false => rfl
          | true => have := rb_bit hr; rw [b] at this; cases this
        rw [this]; simp
def ftI (o : Option Nat) : Int := match o with
  | some k => (k : Int)
  | none => -1
theorem div7 {k : Nat} : idiv (k : Int) 7 = ((k / 7 : Nat) : Int) ∨ ¬ k < 49 := by
  by_cases h : k < 49
  · refine .inl ?_
    have : ∀ k : Nat, k < 49 → idiv (k : Int) 7 = ((k / 7 : Nat) : Int) := by decide +kernel
    exact this k h
  · exact .inr h
theorem rem7 : ∀ k : Nat, k < 49 → irem (k : Int) 7 = ((k % 7 : Nat) : Int) := by decide +kernel
theorem c11_firstTwo {K : Int → Mem → Prop} {g : Nat → Int} (hg : M 67 = g) (hw : WF g) (h69 : ∀ i, i < nF g → M 69 i = (oN g i : Int)) (h71 : ∀ s, s ≠ 0 → s < 2 ^ nF g → M 71 s = cstF g s) (h : ∀ M', Fr SLi M M' → K (ftI (ft49 g)) M') : CalI G miX11_firstTwo (d + 3) [.inr (.inr (some 66))] M K := by
  have hn := hw.n
  refine Cal.of (by decide) (Nat.le_of_ble_eq_true rfl) rfl (gX11_firstTwo_0 ?_)
  have fr67 : ∀ {M' : Mem}, Fr SLi M M' → M' 67 = g := fun hf => by rw [← hg]; funext i; exact hf 67 i rfl
  refine dn (P := fun m => ftT g m = none → ∀ M' : Mem, Fr SLi M M' → OkI G miX11_firstTwo (d + 3) K 2 [some (.inr (.inr (some 66))), some (.inl (m : Int)), none, none] [] M') 49 ?_ (fun m hm ih => ?_) 0 (by omega) rfl M Fr.rf
  · intro hno M' hf
    have e : ft49 g = none := hno
    rw [e] at h
    exact gX11_firstTwo_2 ⟨fun _ => h M' hf, fun c => absurd c (by omega)⟩
  · intro hno M' hf
    have hd7 : idiv (m : Int) 7 = ((m / 7 : Nat) : Int) := div7.resolve_right (fun q => q hm)
    have hr7 := rem7 m hm
    have nxt : ¬ (m / 7 < nF g ∧ m % 7 < nF g ∧ m / 7 ≠ m % 7 ∧ g (29 + m) = 0 ∧ behB g (m / 7) (m % 7) = true) → ∀ M2, Fr SLi M M2 → OkI G miX11_firstTwo (d + 3) K 2 [some (.inr (.inr (some 66))), some (.inl (w32 ((m : Int) + 1))), none, none] [] M2 := fun hc M2 f2 => by
      rw [w32n (by omega)]
      exact ih (by rw [ftT, hno]; simp only; rw [if_neg hc]) M2 f2
    refine gX11_firstTwo_2 ⟨fun c => absurd c (by omega), fun _ => ?_⟩
    rw [hd7, hr7]
    have e67 := fr67 hf
    refine c11_areTwo (by rw [e67]; exact hw.1) (fun a b a' b' c => b1 ?_) (fun a => b0 (nxt ?_ M' hf))
    · rw [e67] at b b'
      refine c11_markOf rfl rfl (by omega) (by omega) ?_
      rw [e67, show 29 + (7 * (m / 7) + m % 7) = 29 + m by omega]
      refine ⟨fun c2 => nxt (fun q => c2 q.2.2.2.1) M' hf, fun c2 => ?_⟩
      refine c11_isBehind e67 hw (fun i hi => by rw [hf 69 i rfl]; exact h69 i hi) (fun s p q => by rw [hf 71 s rfl]; exact h71 s p q) rfl rfl (by omega) (fun M2 f2 => ?_)
      cases hb : behB g (m / 7) (m % 7) with
      | false => exact b0 (nxt (fun q => by rw [hb] at q; exact absurd q.2.2.2.2 (by decide)) M2 (hf.tr f2))
      | true =>
        refine b1 ?_
        have e : ft49 g = some m := ftT_some (k := m + 1) (by rw [ftT, hno]; simp only; rw [if_pos ⟨by omega, by omega, by omega, c2, hb⟩]) 49 (by omega)
        rw [e] at h
        exact h M2 (hf.tr f2)
    · rw [e67] at a
      rintro ⟨q1, q2, q3, -⟩
      omega
def ST : Nat → Nat → Bool := fun c i => SV c i || (SB c i || (c == 66 && (i == 21 || i == 22)))
theorem SV_ST : ∀ c i, ST c i = false → SV c i = false := fun c i h => by unfold ST at h; simp only [Bool.or_eq_false_iff] at h; exact h.1
theorem SB_ST : ∀ c i, ST c i = false → SB c i = false := fun c i h => by unfold ST at h; simp only [Bool.or_eq_false_iff] at h; exact h.2.1
theorem SLi_ST : ∀ c i, ST c i = false → SLi c i = false := fun c i h => by
  unfold ST SV SR at h; unfold SLi
  simp only [Bool.or_eq_false_iff] at h; exact h.1.1.2.1
theorem ST67 {g : Nat → Int} (hg : M 67 = g) : ∀ {M' : Mem}, Fr ST M M' → M' 67 = g := fun hf => by rw [← hg]; funext i; exact hf 67 i rfl
theorem fr_back {g : Nat → Int} {M0 M1 M2 : Mem} {i : Nat} (hg : M0 67 = g) (h1 : Fr ST M0 M1) {x : Int} (h2 : Fr ST (mup M1 67 i x) M2) (y : Int) : Fr ST (mup M0 67 i y) (mup M2 67 i y) := by
  intro c j hcj
  unfold mup
  by_cases hc : c = 67
  · subst hc
    rw [if_pos rfl, if_pos rfl]
    by_cases hj : j = i
    · rw [if_pos hj, if_pos hj]
    · rw [if_neg hj, if_neg hj, h2 67 j hcj, mup_at_ne hj, h1 67 j hcj]
  · rw [if_neg hc, if_neg hc, h2 c j hcj, mup_ne hc, h1 c j hcj]
theorem c11_grows : ∀ (fuel : Nat) {M : Mem} {K : Int → Mem → Prop} {g : Nat → Int} {nd sh : Nat}, M 67 = g → WF g → M 66 21 = (nd : Int) → M 66 22 = (sh : Int) → 41 ≤ nd + fuel → sh ≤ nd → nd ≤ 40 → (∀ M', Fr ST M M' → M' 66 21 = ((growF fuel g nd sh).2.1 : Int) → M' 66 22 = ((growF fuel g nd sh).2.2 : Int) → K (bI (growF fuel g nd sh).1) M') → CalI G miX11_grows (d + fuel + 8) [.inr (.inr (some 66))] M K := by
  intro fuel
  induction fuel with
  | zero => intro M K g nd sh _ _ _ _ h1 _ h3 _; omega
  | succ fuel ih =>
    intro M K g nd sh hg hw h21 h22 hfu hsn hnd h
    have hn := hw.n
    have m21 : (mup M 66 21 (w32 ((M 66 21) + 1))) = mup M 66 21 ((nd + 1 : Nat) : Int) := by rw [h21, w32n (by omega)]
    refine Cal.of (d := d + fuel + 9) (by decide) (Nat.le_of_ble_eq_true rfl) rfl (gX11_grows_0 ?_)
    rw [m21, mup_at]
    have f0 : Fr ST M (mup M 66 21 ((nd + 1 : Nat) : Int)) := Fr.up1 rfl
    refine ⟨fun c => ?_, fun c => ?_⟩
    · have c40 : ¬ 40 < nd + 1 := by omega
      have hg1 : (mup M 66 21 ((nd + 1 : Nat) : Int)) 67 = g := by rw [mup_ne (by decide), hg]
      refine l11_rc (y := miX11_covers) hg1 hw (fun M2 f2 rk cv hc => ?_) (fun M2 f2 rk z hc => ?_)
      · have hc' := covb_t hc
        have ht := totG_nn hw hc
        have g21 : M2 66 21 = ((nd + 1 : Nat) : Int) := by rw [f2 66 21 rfl, mup_at]
        have g22 : M2 66 22 = (sh : Int) := by rw [f2 66 22 rfl, mup_at_ne (by decide), h22]
        refine ⟨fun c => absurd c (by omega), fun _ => ?_⟩
        have e22 : mup M2 66 22 (w32 ((M2 66 22) + (if totG g < 0 then (1 : Int) else 0))) = mup M2 66 22 (sh : Int) := by
          rw [g22, if_neg (by omega), w32_eq (by omega) (by omega), Int.add_zero]
        rw [e22]
        have f3 : Fr ST M (mup M2 66 22 (sh : Int)) := (f0.tr (f2.mo SV_ST)).up rfl
        have hg3 := ST67 hg f3
        have h69 : ∀ i, i < nF g → (mup M2 66 22 (sh : Int)) 69 i = (oN g i : Int) := fun i hi => by rw [mup_ne (by decide)]; exact rk.1 i hi
        have h71 : ∀ s, s ≠ 0 → s < 2 ^ nF g → (mup M2 66 22 (sh : Int)) 71 s = cstF g s := fun s a b => by rw [mup_ne (by decide)]; exact (rk.2 s a b).1
        have h72 : ∀ s, s ≠ 0 → s < 2 ^ nF g → (mup M2 66 22 (sh : Int)) 72 s = hadF g s := fun s a b => by rw [mup_ne (by decide)]; exact (rk.2 s a b).2.1
        have k21 : (mup M2 66 22 (sh : Int)) 66 21 = ((nd + 1 : Nat) : Int) := by rw [mup_at_ne (by decide), g21]
        have k22 : (mup M2 66 22 (sh : Int)) 66 22 = (sh : Int) := mup_at _ _ _ _
        generalize mup M2 66 22 (sh : Int) = M3 at *
        -- the two below
        have below : ∀ M4, Fr SB M3 M4 → eqB g = false → OkI G miX11_grows (d + (fuel + 1) + 8) K 76 [some (.inr (.inr (some 66))), none, none, none] [] M4 := by
          intro M4 f4 hne
          have f5 : Fr ST M M4 := f3.tr (f4.mo SB_ST)
          refine gX11_grows_76 ?_
          refine c11_firstTwo (ST67 hg f5) hw (fun i hi => by rw [f4 69 i rfl]; exact h69 i hi) (fun s a b => by rw [f4 71 s rfl]; exact h71 s a b) (fun M5 f6 => ?_)
          have f7 : Fr ST M M5 := f5.tr (f6.mo SLi_ST)
          have q21 : M5 66 21 = ((nd + 1 : Nat) : Int) := by rw [f6 66 21 rfl, f4 66 21 rfl, k21]
          have q22 : M5 66 22 = (sh : Int) := by rw [f6 66 22 rfl, f4 66 22 rfl, k22]
          have q67 := ST67 hg f7
          cases hft : ft49 g with
          | none =>
            rw [growF_4 c40 hc' hne hft] at h
            refine ⟨fun c => absurd c (by simp [ftI]), fun _ => h M5 f7 q21 q22⟩
          | some k =>
            obtain ⟨k49, kk⟩ := ftT_ok 49 hft
            have kz := kk.2.2.2
            have kw : k / 7 < nF g ∧ k % 7 < nF g ∧ k / 7 ≠ k % 7 := ⟨kk.1, kk.2.1, kk.2.2.1⟩
            simp only [ftI]
            have ei : (29 + (k : Int)).toNat = 29 + k := by omega
            rw [ei]
            refine ⟨fun _ => ⟨by omega, ?_⟩, fun c => absurd c (by omega)⟩
            have gb := growF_bd fuel (fup g (29 + k) 1) (nd + 1) sh (by omega) (by omega)
            -- what is laid back
            have back : ∀ (M6 : Mem) (x : Int), Fr ST (mup M5 67 (29 + k) x) M6 → Fr ST M (mup M6 67 (29 + k) 0) := by
              intro M6 x f8
              have := fr_back hg f7 f8 0
              have e0 : mup M 67 (29 + k) 0 = M := by
                rw [mup_mset, hg]
                have : fup g (29 + k) 0 = g := by
                  funext i; unfold fup; split
                  · subst_vars; exact kz.symm
                  · rfl
                rw [this, ← hg, mset_self]
              rw [e0] at this; exact this
            refine ih (g := fup g (29 + k) 1) (nd := nd + 1) (sh := sh) (by rw [mup_mset, mset_at, q67]) (mkK_WF hw kw ⟨by decide, by decide⟩) (by rw [mup_ne (by decide), q21]) (by rw [mup_ne (by decide), q22]) (by omega) (by omega) (by omega) (fun M6 f8 p21 p22 => ⟨by omega, ?_⟩)
            have b6 := back M6 1 f8
            cases hr1 : (growF fuel (fup g (29 + k) 1) (nd + 1) sh).1 with
            | false =>
              rw [growF_6 c40 hc' hne hft hr1, hr1] at h
              refine ⟨fun _ => ?_, fun c => absurd rfl c⟩
              refine gX11_grows_127 ⟨by omega, ?_⟩
              rw [ei]
              have e2 : mup (mup M6 67 (29 + k) 2) 67 (29 + k) 0 = mup M6 67 (29 + k) 0 := by
                rw [mup_mset, mup_mset M6, mset_at, mset_mset, mup_mset M6]
                congr 1; funext i; unfold fup; split <;> rfl
              rw [e2]
              exact h _ b6 (by rw [mup_ne (by decide), p21]) (by rw [mup_ne (by decide), p22])
            | true =>
              rw [growF_5 c40 hc' hne hft hr1] at h
              refine ⟨fun c => absurd c (by decide), fun _ => ?_⟩
              have hle := gb.2.2.1 hr1
              have q6 : (mup M6 67 (29 + k) 2) 67 = fup g (29 + k) 2 := by
                rw [mup_mset, mset_at]
                funext i; unfold fup
                split
                · rfl
                · rename_i hne
                  have := f8 67 i rfl
                  rw [this, mup_at_ne hne, q67]
              refine ih (g := fup g (29 + k) 2) (nd := (growF fuel (fup g (29 + k) 1) (nd + 1) sh).2.1) (sh := (growF fuel (fup g (29 + k) 1) (nd + 1) sh).2.2) q6 (mkK_WF hw kw ⟨by decide, by decide⟩) (by rw [mup_ne (by decide), p21]) (by rw [mup_ne (by decide), p22]) ?_ gb.1 hle (fun M7 f9 r21 r22 => ⟨by omega, ?_⟩)
              · have := gb.2.2.2
                omega
              · have b7 : Fr ST M (mup M7 67 (29 + k) 0) := by
                  have a := fr_back (i := 29 + k) (g := (mup M5 67 (29 + k) 1) 67) rfl f8 f9 0
                  have e3 : mup (mup M5 67 (29 + k) 1) 67 (29 + k) 0 = mup M5 67 (29 + k) 0 := by
                    rw [mup_mset, mup_mset M5, mset_at, mset_mset, mup_mset M5]
                    congr 1; funext i; unfold fup; split <;> rfl
                  rw [e3] at a
                  have q := back (mup M5 67 (29 + k) 1) 1 Fr.rf
                  rw [e3] at q
                  exact q.tr a
                have hK := h _ b7 (by rw [mup_ne (by decide), r21]) (by rw [mup_ne (by decide), r22])
                cases hr2 : (growF fuel (fup g (29 + k) 2) (growF fuel (fup g (29 + k) 1) (nd + 1) sh).2.1 (growF fuel (fup g (29 + k) 1) (nd + 1) sh).2.2).1 with
                | false => rw [hr2] at hK; exact ⟨.inl rfl, hK⟩
                | true => rw [hr2] at hK; exact ⟨.inr rfl, hK⟩
        refine c11_isBound hg3 hw h72 (fun hb M4 f4 ho => b1 ?_) (fun hb => b0 (below M3 Fr.rf (by unfold eqB; rw [hb]; rfl)))
        obtain ⟨R, hR, h18, h20, O, hz⟩ := ho
        refine c11_boundAbove (SB67 hg3 f4) hw hR h18 ?_
        have hB : BND = 197285760 := rfl
        have htb : totG g < 1000000 := hc
        have mb := mul_bd (a := totG g) (b := M4 66 20) (A := 1000000) (B := BND) ⟨ht, by omega⟩ ⟨by omega, h20.2⟩
        rw [w64_eq (by omega) (by omega)]
        have hiff := eq_opt O (Nat.le_refl _) (by omega) (optP_ok O) (totG g) 1
        rw [Int.mul_one, Int.mul_one] at hiff
        refine ⟨fun c => below M4 f4 ?_, fun c => ?_⟩
        · unfold eqB
          have : ¬ (optP g).1 0 = totG g * (optP g).2 := fun q => c (hiff.mpr q.symm).symm
          simp [this]
        · have he : eqB g = true := by
            unfold eqB; rw [hb]
            have : (optP g).1 0 = totG g * (optP g).2 := (hiff.mp c.symm).symm
            simp [this]
          rw [growF_3 c40 hc' he] at h
          refine h M4 (f3.tr (f4.mo SB_ST)) (by rw [f4 66 21 rfl, k21]) (by rw [f4 66 22 rfl, k22])
      · rw [growF_2 c40 (covb_f hc)] at h
        have g21 : M2 66 21 = ((nd + 1 : Nat) : Int) := by rw [f2 66 21 rfl, mup_at]
        have g22 : M2 66 22 = (sh : Int) := by rw [f2 66 22 rfl, mup_at_ne (by decide), h22]
        refine ⟨fun _ => ?_, fun c => absurd c (by decide)⟩
        rw [g22, if_pos (by decide), w32n (by omega)]
        exact h _ ((f0.tr (f2.mo SV_ST)).up rfl) (by rw [mup_at_ne (by decide), g21]) (mup_at _ _ _ _)
    · have c40 : 40 < nd + 1 := by omega
      rw [growF_1 c40] at h
      exact h _ f0 (mup_at _ _ _ _) (by rw [mup_at_ne (by decide), h22])
theorem c11_tree {K : Int → Mem → Prop} {M : Mem} {g : Nat → Int} {x : Int} (hg : M 67 = g) (hw : WF g) (h : ∀ M', Fr ST M M' → K (treeR g x) M') : CalI G miX11_tree (d + 51) [.inr (.inr (some 66)), .inl x] M K := by
  refine Cal.of (d := d + 51) (by decide) (Nat.le_of_ble_eq_true rfl) rfl (gX11_tree_0 ?_)
  refine c11_in (fun a b => n1 ?_) (fun a => n0 (kv (h M Fr.rf) (by unfold treeR; rw [if_pos (by omega)])))
  have hbad : ¬ (x < 0 ∨ 1 < x) := by omega
  have f0 : Fr ST M (mup (mup M 66 21 0) 66 22 0) := (Fr.up1 rfl).up rfl
  refine c11_grows (d := d) 42 (g := g) (nd := 0) (sh := 0) (ST67 hg f0) hw (by rw [mup_at_ne (by decide), mup_at]; rfl) (by rw [mup_at]; rfl) (by decide) (Nat.le_refl _) (by decide) (fun M2 f2 p21 p22 => ?_)
  have hK := h M2 (f0.tr f2)
  unfold treeR at hK
  rw [if_neg hbad] at hK
  cases hr : (growF 42 g 0 0).1 with
  | false => rw [hr, if_neg (by decide)] at hK; exact n0 hK
  | true =>
    rw [hr, if_pos rfl] at hK
    refine n1 ⟨fun c => ?_, fun c => ?_⟩
    · rw [if_neg c] at hK; rw [p22]; exact hK
    · rw [if_pos c] at hK; rw [p21]; exact hK
end REFP
