/-! the plan as one row g (92 numbers: how many, FROM, TO, DEP, ARR, MARKS, KINDS, FIGURES, BASES, FEES) and what is reckoned from it -/
def nF (g : Nat → Int) : Nat := (g 0).toNat
def sitF (g : Nat → Int) (a : Nat) : Int := if g (78 + a) = 1 ∨ g (78 + a) = 3 then 3 + irem (g (82 + a)) 3 else if g (78 + a) = 2 then 2 else if g (78 + a) = 4 then 1 else if g (78 + a) = 5 then 4 + g (82 + a) else 3
def restF (g : Nat → Int) (a : Nat) : Int := if g (78 + a) = 1 then 20 + g (82 + a) else if g (78 + a) = 3 then 15 + g (82 + a) else if g (78 + a) = 4 then 20 - g (82 + a) else 20
def legsF (g : Nat → Int) (a : Nat) : Int := if g (78 + a) = 2 ∨ g (78 + a) = 4 then 4 else if g (78 + a) = 3 ∨ g (78 + a) = 5 then 2 else 3
def spanF (g : Nat → Int) (a : Nat) : Int := if g (78 + a) = 1 ∨ g (78 + a) = 3 then 40 - g (82 + a) else if g (78 + a) = 2 then 40 + g (82 + a) else if g (78 + a) = 4 then 50 + g (82 + a) else 40
def dutF (g : Nat → Int) (a : Nat) : Int := if g (78 + a) = 4 ∨ g (78 + a) = 5 then 2 else 3
def WF (g : Nat → Int) : Prop := (0 ≤ g 0 ∧ g 0 ≤ 7) ∧ (∀ i, i < 7 → (0 ≤ g (1 + i) ∧ g (1 + i) ≤ 3) ∧ (0 ≤ g (8 + i) ∧ g (8 + i) ≤ 3) ∧ (0 ≤ g (15 + i) ∧ g (15 + i) ≤ 299) ∧ (0 ≤ g (22 + i) ∧ g (22 + i) ≤ 299)) ∧ (∀ i, i < nF g → g (1 + i) ≠ g (8 + i) ∧ g (15 + i) < g (22 + i)) ∧ (∀ a, a < 4 → (0 ≤ g (78 + a) ∧ g (78 + a) ≤ 5) ∧ (0 ≤ g (82 + a) ∧ g (82 + a) ≤ 9)) ∧ (0 ≤ g 86 ∧ g 86 ≤ 15) ∧ ((0 ≤ g 87 ∧ g 87 ≤ 99) ∧ (0 ≤ g 88 ∧ g 88 ≤ 9) ∧ (0 ≤ g 89 ∧ g 89 ≤ 99) ∧ (0 ≤ g 90 ∧ g 90 ≤ 99) ∧ (0 ≤ g 91 ∧ g 91 ≤ 20)) ∧ (∀ i, i < 49 → 0 ≤ g (29 + i) ∧ g (29 + i) ≤ 2) ∧ (∀ f h, f < 7 → h < 7 → (nF g ≤ f ∨ nF g ≤ h ∨ f = h) → g (29 + (7 * f + h)) = 0)
def howF (g : Nat → Int) (f h : Nat) : Int := if g (1 + h) ≠ g (8 + f) then 0 else if restF g (g (8 + f)).toNat ≤ g (15 + h) - g (22 + f) then 2 else if sitF g (g (8 + f)).toNat ≤ g (15 + h) - g (22 + f) then 1 else 0
def slkF (g : Nat → Int) (f h : Nat) : Int := if howF g f h = 2 then g (15 + h) - g (22 + f) - restF g (g (8 + f)).toNat else if howF g f h = 1 then g (15 + h) - g (22 + f) - sitF g (g (8 + f)).toNat else 0
def tgtB (g : Nat → Int) (f h : Nat) : Bool := decide (howF g f h = 1) && decide (slkF g f h < g 91)
/-! order -/
def fup (o : Nat → Int) (p : Nat) (v : Int) : Nat → Int := fun i => if i = p then v else o i
def shft (dep : Nat → Int) (v : Int) : Nat → (Nat → Int) → (Nat → Int) × Nat
  | 0, o => (o, 0)
  | p + 1, o => if v < dep (o p).toNat then shft dep v p (fup o (p + 1) (o p)) else (o, p + 1)
def insO (dep : Nat → Int) (f : Nat) (o : Nat → Int) : Nat → Int := fup (shft dep (dep f) f o).1 (shft dep (dep f) f o).2 (f : Int)
def ordT (dep : Nat → Int) : Nat → Nat → Int
  | 0 => fun _ => 0
  | k + 1 => insO dep k (ordT dep k)
def ordF (g : Nat → Int) : Nat → Int := ordT (fun i => g (15 + i)) (nF g)
def oN (g : Nat → Int) (i : Nat) : Nat := (ordF g i).toNat
/-- sorted by dep, like ones by number; all below k -/
def IsOrd (dep : Nat → Int) (k : Nat) (o : Nat → Int) : Prop := (∀ i, i < k → 0 ≤ o i ∧ o i < k) ∧ (∀ i j, i < j → j < k → dep (o i).toNat < dep (o j).toNat ∨ (dep (o i).toNat = dep (o j).toNat ∧ o i < o j)) ∧ ∀ f, f < k → ∃ i, i < k ∧ o i = (f : Int)
theorem shft_spec (dep : Nat → Int) (v : Int) : ∀ (p : Nat) (o : Nat → Int), (∀ i j, i < j → j < p → dep (o i).toNat ≤ dep (o j).toNat) → (shft dep v p o).2 ≤ p ∧ (∀ i, i < (shft dep v p o).2 → (shft dep v p o).1 i = o i ∧ dep (o i).toNat ≤ v) ∧ (∀ i, (shft dep v p o).2 < i → i ≤ p → (shft dep v p o).1 i = o (i - 1) ∧ v < dep (o (i - 1)).toNat) ∧ ∀ i, p < i → (shft dep v p o).1 i = o i := by
  intro p
  induction p with
  | zero => intro o _; exact ⟨Nat.le_refl _, fun i h => absurd h (Nat.not_lt_zero _), fun i h1 h2 => absurd (Nat.lt_of_lt_of_le h1 h2) (Nat.lt_irrefl _), fun i _ => rfl⟩
  | succ p ih =>
    intro o hs
    by_cases hv : v < dep (o p).toNat
    · have hu : shft dep v (p + 1) o = shft dep v p (fup o (p + 1) (o p)) := by rw [shft, if_pos hv]
      have hf : ∀ i, i ≤ p → fup o (p + 1) (o p) i = o i := fun i hi => by unfold fup; rw [if_neg (by omega)]
      obtain ⟨a1, a2, a3, a4⟩ := ih (fup o (p + 1) (o p)) (fun i j h1 h2 => by rw [hf i (by omega), hf j (by omega)]; exact hs i j h1 (by omega))
      rw [hu]
      refine ⟨by omega, fun i hi => ?_, fun i h1 h2 => ?_, fun i hi => ?_⟩
      · have := a2 i hi; rw [hf i (by omega)] at this; exact this
      · by_cases hip : i = p + 1
        · subst hip
          refine ⟨?_, ?_⟩
          · rw [a4 _ (by omega)]; unfold fup; rw [if_pos rfl]; rfl
          · exact hv
        · have := a3 i h1 (by omega); rw [hf (i - 1) (by omega)] at this; exact this
      · rw [a4 i (by omega)]; unfold fup; rw [if_neg (by omega)]
    · have hu : shft dep v (p + 1) o = (o, p + 1) := by rw [shft, if_neg hv]
      rw [hu]
      refine ⟨Nat.le_refl _, fun i hi => ⟨rfl, ?_⟩, fun i h1 h2 => absurd (Nat.lt_of_lt_of_le h1 h2) (Nat.lt_irrefl _), fun i _ => rfl⟩
      replace hi : i < p + 1 := hi
      rcases Nat.lt_or_ge i p with h | h
      · have := hs i p h (by omega); omega
      · have : i = p := by omega
        subst this; omega
theorem ordT_ord (dep : Nat → Int) : ∀ k, IsOrd dep k (ordT dep k) := by
  intro k
  induction k with
  | zero => exact ⟨fun i h => absurd h (Nat.not_lt_zero _), fun i j _ h => absurd h (Nat.not_lt_zero _), fun i h => absurd h (Nat.not_lt_zero _)⟩
  | succ k ih =>
    obtain ⟨h1, h2, h3⟩ := ih
    obtain ⟨a1, a2, a3, a4⟩ := shft_spec dep (dep k) k (ordT dep k) (fun i j hij hj => by rcases h2 i j hij hj with h | h <;> omega)
    show IsOrd dep (k + 1) (insO dep k (ordT dep k))
    generalize hr : shft dep (dep k) k (ordT dep k) = r at a1 a2 a3 a4
    have hI : insO dep k (ordT dep k) = fup r.1 r.2 (k : Int) := by unfold insO; rw [hr]
    rw [hI]
    have e1 : ∀ i, i < r.2 → fup r.1 r.2 (k : Int) i = ordT dep k i := fun i hi => by unfold fup; rw [if_neg (by omega)]; exact (a2 i hi).1
    have e2 : fup r.1 r.2 (k : Int) r.2 = k := by unfold fup; rw [if_pos rfl]
    have e3 : ∀ i, r.2 < i → i ≤ k → fup r.1 r.2 (k : Int) i = ordT dep k (i - 1) := fun i hi hk => by unfold fup; rw [if_neg (by omega)]; exact (a3 i hi hk).1
    refine ⟨fun i hi => ?_, fun i j hij hj => ?_, fun f hf => ?_⟩
    · rcases Nat.lt_trichotomy i r.2 with h | h | h
      · rw [e1 i h]; have := h1 i (by omega); omega
      · subst h; rw [e2]; omega
      · rw [e3 i h (by omega)]; have := h1 (i - 1) (by omega); omega
    · rcases Nat.lt_trichotomy j r.2 with h | h | h
      · rw [e1 i (by omega), e1 j h]; exact h2 i j hij (by omega)
      · subst h; rw [e1 i hij, e2, Int.toNat_natCast]
        have := (a2 i hij).2
        have := h1 i (by omega)
        omega
      · rw [e3 j h (by omega)]
        rcases Nat.lt_trichotomy i r.2 with hi | hi | hi
        · rw [e1 i hi]
          exact h2 i (j - 1) (by omega) (by omega)
        · subst hi; rw [e2, Int.toNat_natCast]; exact .inl (a3 j h (by omega)).2
        · rw [e3 i hi (by omega)]; exact h2 (i - 1) (j - 1) (by omega) (by omega)
    · by_cases hfk : f = k
      · exact ⟨r.2, by omega, by rw [e2, hfk]⟩
      · obtain ⟨i, hi, hoi⟩ := h3 f (by omega)
        rcases Nat.lt_or_ge i r.2 with h | h
        · exact ⟨i, by omega, by rw [e1 i h, hoi]⟩
        · exact ⟨i + 1, by omega, by rw [e3 (i + 1) (by omega) (by omega)]; exact hoi⟩
theorem ordF_ord (g : Nat → Int) : IsOrd (fun i => g (15 + i)) (nF g) (ordF g) := ordT_ord _ _
theorem oN_lt (g : Nat → Int) {i : Nat} (h : i < nF g) : oN g i < nF g := by have := (ordF_ord g).1 i h; unfold oN; omega
theorem ordF_N (g : Nat → Int) {i : Nat} (h : i < nF g) : ordF g i = (oN g i : Int) := by have := (ordF_ord g).1 i h; unfold oN; omega
theorem oN_inj (g : Nat → Int) {i j : Nat} (hi : i < nF g) (hj : j < nF g) (h : oN g i = oN g j) : i = j := by
  have h' : ordF g i = ordF g j := by rw [ordF_N g hi, ordF_N g hj, h]
  rcases Nat.lt_trichotomy i j with h2 | h2 | h2
  · have := (ordF_ord g).2.1 i j h2 hj; rw [h'] at this; omega
  · exact h2
  · have := (ordF_ord g).2.1 j i h2 hi; rw [h'] at this; omega
theorem oN_sur (g : Nat → Int) {f : Nat} (hf : f < nF g) : ∃ i, i < nF g ∧ oN g i = f := by
  obtain ⟨i, hi, h⟩ := (ordF_ord g).2.2 f hf
  exact ⟨i, hi, by unfold oN; rw [h, Int.toNat_natCast]⟩
theorem oN_dep (g : Nat → Int) {i j : Nat} (hi : i < nF g) (hj : j < nF g) (h : g (15 + oN g i) < g (15 + oN g j)) : i < j := by
  rcases Nat.lt_or_ge i j with h2 | h2
  · exact h2
  · rcases Nat.eq_or_lt_of_le h2 with h3 | h3
    · subst h3; omega
    · have := (ordF_ord g).2.1 j i h3 hi; unfold oN at h; simp only at this; omega
/-! pairings -/
abbrev WSt : Type := Int × Int × Int × Int × Int × Int
/-- state: first, last, begun, legs, duties, tights -/
def wstep (g : Nat → Int) (set h : Nat) (s : WSt) : Option WSt :=
  if set.testBit h then
    let y : Int := if s.2.1 < 0 then 2 else howF g s.2.1.toNat h
    let fi : Int := if s.2.1 < 0 then (h : Int) else s.1
    let a : Nat := (g (1 + fi.toNat)).toNat
    let st : Int := if y = 2 then g (15 + h) else s.2.2.1
    let le : Int := if y = 2 then 1 else s.2.2.2.1 + 1
    let du : Int := if y = 2 then s.2.2.2.2.1 + 1 else s.2.2.2.2.1
    let ti : Int := if 0 ≤ s.2.1 ∧ tgtB g s.2.1.toNat h = true then s.2.2.2.2.2 + 1 else s.2.2.2.2.2
    if y = 0 ∨ legsF g a < le ∨ spanF g a < g (22 + h) - st ∨ dutF g a < du then none else some (fi, (h : Int), st, le, du, ti)
  else some s
def wfold (g : Nat → Int) (set : Nat) : Nat → Option WSt
  | 0 => some (-1, -1, 0, 0, 0, 0)
  | k + 1 => (wfold g set k).bind (wstep g set (oN g k))
def prEnd (g : Nat → Int) (s : WSt) : Bool := decide (0 ≤ s.2.1) && ((g 86).toNat.testBit (g (1 + s.1.toNat)).toNat && decide (g (8 + s.2.1.toNat) = g (1 + s.1.toNat)))
def prCost (g : Nat → Int) (s : WSt) : Int := g 87 * s.2.2.2.2.1 + g 88 * (g (22 + s.2.1.toNat) - g (15 + s.1.toNat)) + g 89 * s.2.2.2.2.2
/-- a set as a pairing, marks aside -/
def prF (g : Nat → Int) (set : Nat) : Option WSt := match wfold g set (nF g) with
  | none => none
  | some s => if prEnd g s then some s else none
def lastP (g : Nat → Int) (set : Nat) : Nat → Int
  | 0 => -1
  | j + 1 => if set.testBit (oN g j) then (oN g j : Int) else lastP g set j
/-- h is right behind f in a set -/
def rbB (g : Nat → Int) (set f h : Nat) : Bool := (List.range (nF g)).any fun j => decide (oN g j = h) && (set.testBit h && decide (lastP g set j = (f : Int)))
def suit1 (g : Nat → Int) (set f h : Nat) : Bool := !((decide (g (29 + (7 * f + h)) = 2) && rbB g set f h) || (decide (g (29 + (7 * f + h)) = 1) && (!rbB g set f h && (set.testBit f || set.testBit h))))
def suitB (g : Nat → Int) (set : Nat) : Bool := (List.range (nF g)).all fun f => (List.range (nF g)).all fun h => suit1 g set f h
def cstF (g : Nat → Int) (set : Nat) : Int := match prF g set with
  | none => -1
  | some s => if suitB g set then prCost g s else -1
/-! sets that are had -/
def hstep (c : Nat → Int) (hd : Int) (s p : Nat) (r : Int × Int) : Int × Int :=
  if s &&& p = s ∧ 0 ≤ c p ∧ (r.1 < 0 ∨ c p + hd * ((cnt p : Int) - cnt s) < r.1) then (c p + hd * ((cnt p : Int) - cnt s), (p : Int)) else r
def hfold (c : Nat → Int) (hd : Int) (s : Nat) : Nat → Int × Int
  | 0 => (-1, -1)
  | p + 1 => hstep c hd s p (hfold c hd s p)
def hadF (g : Nat → Int) (s : Nat) : Int := (hfold (cstF g) (g 90) s (2 ^ nF g)).1
def byF (g : Nat → Int) (s : Nat) : Int := (hfold (cstF g) (g 90) s (2 ^ nF g)).2
