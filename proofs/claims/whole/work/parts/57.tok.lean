/-! tokens of a text -/
def byt (t : Nat → Int) (m i : Nat) : Int := if i < m then t i else -1
def isLb (x : Int) : Bool := decide (97 ≤ x) && decide (x ≤ 122)
def isDb (x : Int) : Bool := decide (48 ≤ x) && decide (x ≤ 57)
def isBb (x : Int) : Bool := decide (x = 32) || decide (x = 10)
/-- the first place from a on whose byte isn't such a one -/
def runE (q : Int → Bool) (t : Nat → Int) (m : Nat) : Nat → Nat → Nat
  | 0, a => a
  | f + 1, a => if q (byt t m a) = true then runE q t m f (a + 1) else a
def skE (t : Nat → Int) (m a : Nat) : Nat := runE isBb t m (m - a) a
def leE (t : Nat → Int) (m a : Nat) : Nat := runE isLb t m (m - a) a
def diE (t : Nat → Int) (m a : Nat) : Nat := runE isDb t m (m - a) a
theorem byt_end {t : Nat → Int} {m a : Nat} (h : m ≤ a) : byt t m a = -1 := by unfold byt; rw [if_neg (by omega)]
theorem runE_yes {q : Int → Bool} (hq : q (-1) = false) {t : Nat → Int} {m a : Nat} (h : q (byt t m a) = true) : runE q t m (m - a) a = runE q t m (m - (a + 1)) (a + 1) := by
  have ha : a < m := by
    rcases Nat.lt_or_ge a m with h2 | h2
    · exact h2
    · rw [byt_end h2, hq] at h; cases h
  rw [show m - a = (m - (a + 1)) + 1 by omega, runE, if_pos h]
theorem runE_no {q : Int → Bool} {t : Nat → Int} {m a : Nat} (h : q (byt t m a) = false) : runE q t m (m - a) a = a := by
  cases hm : m - a with
  | zero => rfl
  | succ f => rw [runE, if_neg (by rw [h]; decide)]
theorem runE_bd {q : Int → Bool} {t : Nat → Int} {m : Nat} : ∀ f a, a ≤ runE q t m f a ∧ runE q t m f a ≤ a + f := by
  intro f
  induction f with
  | zero => intro a; exact ⟨Nat.le_refl _, Nat.le_refl _⟩
  | succ f ih =>
    intro a
    rw [runE]; split
    · have := ih (a + 1); omega
    · omega
theorem runE_le {q : Int → Bool} {t : Nat → Int} {m a : Nat} (h : a ≤ m) : a ≤ runE q t m (m - a) a ∧ runE q t m (m - a) a ≤ m := by
  have := runE_bd (q := q) (t := t) (m := m) (m - a) a
  omega
def wdT : Nat → Nat → Int := fun w k => match w, k with
  | 0, 0 => 102 | 0, 1 => 108 | 0, 2 => 121
  | 1, 0 => 107 | 1, 1 => 105 | 1, 2 => 110 | 1, 3 => 100
  | 2, 0 => 98 | 2, 1 => 97 | 2, 2 => 115 | 2, 3 => 101
  | 3, 0 => 102 | 3, 1 => 101 | 3, 2 => 101
  | 4, 0 => 109 | 4, 1 => 117 | 4, 2 => 115 | 4, 3 => 116
  | 5, 0 => 110 | 5, 1 => 111 | 5, 2 => 116
  | 6, 0 => 102 | 6, 1 => 114 | 6, 2 => 101 | 6, 3 => 101
  | _, _ => 0
/-- the letters from b to e are word w -/
def isWb (t : Nat → Int) (b e w : Nat) : Bool := decide (e - b ≤ 4) && (List.range 4).all fun k => decide (wdT w k = if b + k < e then t (b + k) else 0)
def wcode (t : Nat → Int) (b e : Nat) : Option Nat := (List.range 7).find? (isWb t b e)
theorem wd_inj : ∀ w, w < 7 → ∀ w', w' < 7 → (∀ k, k < 4 → wdT w k = wdT w' k) → w = w' := by decide +kernel
theorem isWb_one {t : Nat → Int} {b e w w' : Nat} (hw : w < 7) (hw' : w' < 7) (h : isWb t b e w = true) (h' : isWb t b e w' = true) : w = w' := by
  refine wd_inj w hw w' hw' (fun k hk => ?_)
  unfold isWb at h h'
  rw [Bool.and_eq_true] at h h'
  have a := List.all_eq_true.mp h.2 k (List.mem_range.mpr hk)
  have b := List.all_eq_true.mp h'.2 k (List.mem_range.mpr hk)
  simp only [decide_eq_true_eq] at a b
  rw [a, b]
def numV (t : Nat → Int) (b : Nat) : Nat → Int
  | 0 => 0
  | k + 1 => 10 * numV t b k + t (b + k) - 48
theorem numV_bd {t : Nat → Int} {b : Nat} : ∀ k, k ≤ 3 → (∀ j, j < k → 48 ≤ t (b + j) ∧ t (b + j) ≤ 57) → 0 ≤ numV t b k ∧ numV t b k ≤ 999 := by
  intro k hk h
  match k, hk with
  | 0, _ => simp [numV]
  | 1, _ => have := h 0 (by omega); simp only [numV]; omega
  | 2, _ => have := h 0 (by omega); have := h 1 (by omega); simp only [numV]; omega
  | 3, _ => have := h 0 (by omega); have := h 1 (by omega); have := h 2 (by omega); simp only [numV]; omega
/-- the token from a on: its kind, its value, where it begins, where it ends -/
def tokE (t : Nat → Int) (m b : Nat) : Nat × Int × Nat × Nat :=
  if m ≤ b then (0, 0, b, b)
  else if isLb (byt t m b) = true then (match wcode t b (leE t m b) with
    | some w => (1, (w : Int), b, leE t m b)
    | none => (4, 0, b, leE t m b))
  else if isDb (byt t m b) = true then (if diE t m b - b ≤ 3 then (2, numV t b (diE t m b - b), b, diE t m b) else (4, 0, b, diE t m b))
  else (if t b = 59 then 3 else 4, 0, b, b + 1)
def tok (t : Nat → Int) (m a : Nat) : Nat × Int × Nat × Nat := tokE t m (skE t m a)
theorem runE_all {q : Int → Bool} {t : Nat → Int} {m : Nat} : ∀ f a j, a ≤ j → j < runE q t m f a → q (byt t m j) = true := by
  intro f
  induction f with
  | zero => intro a j h1 h2; rw [runE] at h2; omega
  | succ f ih =>
    intro a j h1 h2
    rw [runE] at h2
    split at h2
    · rename_i h
      by_cases e : j = a
      · subst e; exact h
      · exact ih (a + 1) j (by omega) h2
    · omega
