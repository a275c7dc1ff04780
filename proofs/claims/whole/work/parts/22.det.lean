/-! determinants of rows of vectors, by the last coordinate -/
def sumT (f : Nat → Int) : Nat → Int
  | 0 => 0
  | k + 1 => sumT f k + f k
theorem sumT_congr {f h : Nat → Int} {k : Nat} (e : ∀ i, i < k → f i = h i) : sumT f k = sumT h k := by
  induction k with
  | zero => rfl
  | succ k ih => simp only [sumT]; rw [ih (fun i hi => e i (by omega)), e k (by omega)]
theorem sumT_lin {f h : Nat → Int} {k : Nat} (a b : Int) : sumT (fun i => a * f i + b * h i) k = a * sumT f k + b * sumT h k := by
  induction k with
  | zero => simp [sumT]
  | succ k ih => simp only [sumT]; rw [ih]; grind
theorem sumT_mul {f : Nat → Int} {k : Nat} (a : Int) : sumT (fun i => a * f i) k = a * sumT f k := by
  induction k with
  | zero => simp [sumT]
  | succ k ih => simp only [sumT]; rw [ih]; grind
theorem sumT_zero {f : Nat → Int} {k : Nat} (e : ∀ i, i < k → f i = 0) : sumT f k = 0 := by
  induction k with
  | zero => rfl
  | succ k ih => simp only [sumT]; rw [ih (fun i hi => e i (by omega)), e k (by omega)]; rfl
theorem sumT_one {f : Nat → Int} {k c : Nat} (hc : c < k) (e : ∀ i, i < k → i ≠ c → f i = 0) : sumT f k = f c := by
  induction k with
  | zero => exact absurd hc (Nat.not_lt_zero _)
  | succ k ih =>
    simp only [sumT]
    by_cases h : c = k
    · subst h; rw [sumT_zero (fun i hi => e i (by omega) (by omega))]; omega
    · rw [ih (by omega) (fun i hi => e i (by omega)), e k (by omega) (by omega)]; omega
theorem sumT_two {f : Nat → Int} {k p c : Nat} (hp : p < k) (hc : c < k) (hpc : p ≠ c) (e : ∀ i, i < k → i ≠ p → i ≠ c → f i = 0) : sumT f k = f p + f c := by
  induction k with
  | zero => exact absurd hc (Nat.not_lt_zero _)
  | succ k ih =>
    simp only [sumT]
    by_cases h : c = k
    · subst h; rw [sumT_one (c := p) (by omega) (fun i hi h2 => e i (by omega) h2 (by omega))]
    · by_cases h2 : p = k
      · subst h2; rw [sumT_one (c := c) (by omega) (fun i hi h3 => e i (by omega) (by omega) h3)]; omega
      · rw [ih (by omega) (by omega) (fun i hi => e i (by omega)), e k (by omega) (by omega) (by omega)]; omega
theorem sumT_le {f h : Nat → Int} {k : Nat} (e : ∀ i, i < k → f i ≤ h i) : sumT f k ≤ sumT h k := by
  induction k with
  | zero => exact Int.le_refl _
  | succ k ih => simp only [sumT]; have := ih (fun i hi => e i (by omega)); have := e k (by omega); omega
theorem sumT_add {f h : Nat → Int} {k : Nat} : sumT (fun i => f i + h i) k = sumT f k + sumT h k := by
  induction k with
  | zero => rfl
  | succ k ih => simp only [sumT]; rw [ih]; omega
theorem sumT_swap (f : Nat → Nat → Int) (a b : Nat) : sumT (fun i => sumT (fun j => f i j) b) a = sumT (fun j => sumT (fun i => f i j) a) b := by
  induction a with
  | zero => simp only [sumT]; exact (sumT_zero (fun _ _ => rfl)).symm
  | succ a ih => simp only [sumT]; rw [ih, ← sumT_add]
def skp (j : Nat) (N : Nat → Nat → Int) : Nat → Nat → Int := fun i => if i < j then N i else N (i + 1)
def vup (N : Nat → Nat → Int) (c : Nat) (u : Nat → Int) : Nat → Nat → Int := fun i => if i = c then u else N i
def sgn (k j : Nat) : Int := if (k + j) % 2 = 0 then 1 else -1
def det : Nat → (Nat → Nat → Int) → Int
  | 0, _ => 1
  | k + 1, N => sumT (fun j => sgn k j * (N j k * det k (skp j N))) (k + 1)
theorem det_congr : ∀ (k : Nat) (N N' : Nat → Nat → Int), (∀ i, i < k → ∀ l, l < k → N i l = N' i l) → det k N = det k N' := by
  intro k
  induction k with
  | zero => intro _ _ _; rfl
  | succ k ih =>
    intro N N' h
    simp only [det]
    refine sumT_congr (fun j hj => ?_)
    rw [h j hj k (by omega), ih (skp j N) (skp j N') (fun i hi l hl => ?_)]
    unfold skp; split
    · exact h i (by omega) l (by omega)
    · exact h (i + 1) (by omega) l (by omega)
theorem vup_at (N : Nat → Nat → Int) (c : Nat) (u : Nat → Int) : vup N c u c = u := by unfold vup; rw [if_pos rfl]
theorem vup_ne {N : Nat → Nat → Int} {c i : Nat} (u : Nat → Int) (h : i ≠ c) : vup N c u i = N i := by unfold vup; rw [if_neg h]
theorem vup_self (N : Nat → Nat → Int) (c : Nat) : vup N c (N c) = N := by funext i; unfold vup; split <;> simp_all
theorem vup_vup (N : Nat → Nat → Int) (c : Nat) (u w : Nat → Int) : vup (vup N c u) c w = vup N c w := by funext i; unfold vup; split <;> rfl
theorem vup_comm {N : Nat → Nat → Int} {p c : Nat} (u w : Nat → Int) (h : p ≠ c) : vup (vup N p u) c w = vup (vup N c w) p u := by
  funext i; unfold vup; by_cases h1 : i = c <;> by_cases h2 : i = p <;> simp_all
theorem skp_at (N : Nat → Nat → Int) (c : Nat) (u : Nat → Int) : skp c (vup N c u) = skp c N := by
  funext i; unfold skp vup; split
  · rw [if_neg (by omega)]
  · rw [if_neg (by omega)]
theorem skp_lt {N : Nat → Nat → Int} {c j : Nat} (u : Nat → Int) (h : c < j) : skp j (vup N c u) = vup (skp j N) c u := by
  funext i
  show (if i < j then (if i = c then u else N i) else (if i + 1 = c then u else N (i + 1))) = (if i = c then u else (if i < j then N i else N (i + 1)))
  by_cases h1 : i < j
  · rw [if_pos h1, if_pos h1]
  · rw [if_neg h1, if_neg h1, if_neg (by omega), if_neg (by omega)]
theorem skp_gt {N : Nat → Nat → Int} {c j : Nat} (u : Nat → Int) (h : j < c) : skp j (vup N c u) = vup (skp j N) (c - 1) u := by
  funext i
  show (if i < j then (if i = c then u else N i) else (if i + 1 = c then u else N (i + 1))) = (if i = c - 1 then u else (if i < j then N i else N (i + 1)))
  by_cases h1 : i < j
  · rw [if_pos h1, if_neg (by omega), if_neg (by omega), if_pos h1]
  · rw [if_neg h1, if_neg h1]
    by_cases h2 : i + 1 = c
    · rw [if_pos h2, if_pos (by omega)]
    · rw [if_neg h2, if_neg (by omega)]
theorem det_lin (a b : Int) (u w : Nat → Int) : ∀ (k : Nat) (N : Nat → Nat → Int) (c : Nat), c < k → det k (vup N c (fun i => a * u i + b * w i)) = a * det k (vup N c u) + b * det k (vup N c w) := by
  intro k
  induction k with
  | zero => intro N c h; exact absurd h (Nat.not_lt_zero _)
  | succ k ih =>
    intro N c h
    simp only [det]
    rw [← sumT_lin]
    refine sumT_congr (fun j hj => ?_)
    rcases Nat.lt_trichotomy j c with h1 | h1 | h1
    · rw [skp_gt _ h1, skp_gt _ h1, skp_gt _ h1, vup_ne _ (by omega), vup_ne _ (by omega), vup_ne _ (by omega), ih (skp j N) (c - 1) (by omega)]; grind
    · subst h1; rw [skp_at, skp_at, skp_at, vup_at, vup_at, vup_at]; grind
    · rw [skp_lt _ h1, skp_lt _ h1, skp_lt _ h1, vup_ne _ (by omega), vup_ne _ (by omega), vup_ne _ (by omega), ih (skp j N) c (by omega)]; grind
theorem sgn_succ (k j : Nat) : sgn k (j + 1) = - sgn k j := by unfold sgn; split <;> split <;> omega
theorem sgn_self (k : Nat) : sgn k k = 1 := by unfold sgn; rw [if_pos (by omega)]
theorem det_adj : ∀ (k : Nat) (N : Nat → Nat → Int) (c : Nat), c + 1 < k → N c = N (c + 1) → det k N = 0 := by
  intro k
  induction k with
  | zero => intro N c h; exact absurd h (Nat.not_lt_zero _)
  | succ k ih =>
    intro N c h e
    simp only [det]
    rw [sumT_two (p := c) (c := c + 1) (by omega) h (by omega)]
    · have e2 : skp c N = skp (c + 1) N := by
        funext i; unfold skp
        rcases Nat.lt_trichotomy i c with h1 | h1 | h1
        · rw [if_pos h1, if_pos (by omega)]
        · subst h1; rw [if_neg (by omega), if_pos (by omega), e]
        · rw [if_neg (by omega), if_neg (by omega)]
      rw [sgn_succ, e2, e]; grind
    · intro j hj h1 h2
      have : det k (skp j N) = 0 := by
        rcases Nat.lt_or_ge j c with h3 | h3
        · refine ih (skp j N) (c - 1) (by omega) ?_
          unfold skp; rw [if_neg (by omega), if_neg (by omega), show c - 1 + 1 = c by omega, e]
        · refine ih (skp j N) c (by omega) ?_
          unfold skp; rw [if_pos (by omega), if_pos (by omega), e]
      rw [this]; simp
theorem det_lin2 {k : Nat} {N : Nat → Nat → Int} {p c : Nat} (a b : Int) (u w x : Nat → Int) (hp : p < k) (h : p ≠ c) : det k (vup (vup N p (fun i => a * u i + b * w i)) c x) = a * det k (vup (vup N p u) c x) + b * det k (vup (vup N p w) c x) := by
  rw [vup_comm (fun i => a * u i + b * w i) x h, vup_comm u x h, vup_comm w x h]
  exact det_lin a b u w k _ p hp
theorem det_sw0 {k : Nat} {N : Nat → Nat → Int} {p c : Nat} (u w : Nat → Int) (hp : p < k) (hc : c < k) (h : p ≠ c) (z : ∀ x : Nat → Int, det k (vup (vup N p x) c x) = 0) : det k (vup (vup N p u) c w) = - det k (vup (vup N p w) c u) := by
  have hz := z (fun i => 1 * u i + 1 * w i)
  rw [det_lin 1 1 u w k _ c hc, det_lin2 1 1 u w u hp h, det_lin2 1 1 u w w hp h] at hz
  have z1 := z u
  have z2 := z w
  omega
theorem det_sw1 {k : Nat} {N : Nat → Nat → Int} {c : Nat} (u w : Nat → Int) (h : c + 1 < k) : det k (vup (vup N c u) (c + 1) w) = - det k (vup (vup N c w) (c + 1) u) :=
  det_sw0 u w (by omega) h (by omega) (fun x => det_adj k _ c h (by rw [vup_at, vup_ne _ (by omega), vup_at]))
theorem det_alt {k : Nat} : ∀ (j : Nat) (N : Nat → Nat → Int) (p : Nat), p + (j + 1) < k → N p = N (p + (j + 1)) → det k N = 0 := by
  intro j
  induction j with
  | zero => intro N p h e; exact det_adj k N p h e
  | succ j ih =>
    intro N p h e
    have e1 : N = vup (vup N (p + (j + 1)) (N (p + (j + 1)))) (p + (j + 1) + 1) (N (p + (j + 1) + 1)) := by rw [vup_self, vup_self]
    rw [e1, det_sw1 _ _ (by omega), ih _ p (by omega)]
    · rfl
    · rw [vup_ne _ (by omega), vup_ne _ (by omega), vup_ne _ (by omega), vup_at, e]; rfl
theorem det_eq0 {k : Nat} {N : Nat → Nat → Int} {p c : Nat} (hp : p < k) (hc : c < k) (hpc : p ≠ c) (e : N p = N c) : det k N = 0 := by
  rcases Nat.lt_or_ge p c with h | h
  · exact det_alt (c - p - 1) N p (by omega) (by rw [show p + (c - p - 1 + 1) = c by omega]; exact e)
  · exact det_alt (p - c - 1) N c (by omega) (by rw [show c + (p - c - 1 + 1) = p by omega]; exact e.symm)
theorem det_sw {k : Nat} {N : Nat → Nat → Int} {p c : Nat} (u w : Nat → Int) (hp : p < k) (hc : c < k) (hpc : p ≠ c) : det k (vup (vup N p u) c w) = - det k (vup (vup N p w) c u) :=
  det_sw0 u w hp hc hpc (fun x => det_eq0 hp hc hpc (by rw [vup_at, vup_ne _ hpc, vup_at]))
/-- a sum in one place -/
theorem det_sum {k : Nat} {N : Nat → Nat → Int} {c : Nat} (hc : c < k) (a : Nat → Int) (V : Nat → Nat → Int) : ∀ m, det k (vup N c (fun i => sumT (fun j => a j * V j i) m)) = sumT (fun j => a j * det k (vup N c (V j))) m := by
  intro m
  induction m with
  | zero =>
    have := det_lin 0 0 (N c) (N c) k N c hc
    simp only [sumT]
    simpa using this
  | succ m ih =>
    have := det_lin 1 (a m) (fun i => sumT (fun j => a j * V j i) m) (V m) k N c hc
    simp only [sumT]
    rw [← ih]
    simpa using this
theorem det_mul {k : Nat} {N : Nat → Nat → Int} {c : Nat} (hc : c < k) (a : Int) (u : Nat → Int) : det k (vup N c (fun i => a * u i)) = a * det k (vup N c u) := by
  have := det_lin a 0 u u k N c hc
  simpa using this
def eV (f : Nat) : Nat → Int := fun i => if i = f then 1 else 0
theorem det_id : ∀ k, det k eV = 1 := by
  intro k
  induction k with
  | zero => rfl
  | succ k ih =>
    simp only [det]
    rw [sumT_one (c := k) (by omega)]
    · have : det k (skp k eV) = det k eV := det_congr k _ _ (fun i hi l hl => by unfold skp; rw [if_pos hi])
      rw [sgn_self, this, ih]; simp [eV]
    · intro j hj hjk
      have : eV j k = 0 := by unfold eV; rw [if_neg (by omega)]
      rw [this]; simp
theorem det_unit {k c : Nat} (hc : c < k) (v : Nat → Int) : det k (vup eV c v) = v c := by
  have e : det k (vup eV c v) = det k (vup eV c (fun i => sumT (fun j => v j * eV j i) k)) := by
    refine det_congr k _ _ (fun i _ l hl => ?_)
    unfold vup; split
    · show v l = sumT (fun j => v j * eV j l) k
      rw [sumT_one (c := l) hl]
      · simp [eV]
      · intro j _ hj; unfold eV; rw [if_neg (by omega)]; simp
    · rfl
  rw [e, det_sum hc, sumT_one (c := c) hc]
  · rw [vup_self, det_id]; simp
  · intro j hj hjc
    have : det k (vup eV c (eV j)) = 0 := det_eq0 hj hc hjc (by rw [vup_at, vup_ne _ hjc])
    rw [this]; simp
/-- bounds -/
def fct : Nat → Int
  | 0 => 1
  | k + 1 => (k + 1 : Nat) * fct k
theorem fct_nn : ∀ k, 0 ≤ fct k := by
  intro k
  induction k with
  | zero => decide
  | succ k ih => simp only [fct]; exact Int.mul_nonneg (by omega) ih
theorem sumT_const (a : Int) (k : Nat) : sumT (fun _ => a) k = k * a := by
  induction k with
  | zero => simp [sumT]
  | succ k ih => simp only [sumT]; rw [ih]; grind
theorem bd_mul {x y a b : Int} (hx : -a ≤ x ∧ x ≤ a) (hy : -b ≤ y ∧ y ≤ b) : -(a * b) ≤ x * y ∧ x * y ≤ a * b := by
  have h1 : x.natAbs ≤ a.natAbs := by omega
  have h2 : y.natAbs ≤ b.natAbs := by omega
  have h3 := Nat.mul_le_mul h1 h2
  rw [← Int.natAbs_mul, ← Int.natAbs_mul] at h3
  have h4 : 0 ≤ a * b := Int.mul_nonneg (by omega) (by omega)
  omega
theorem det_bd : ∀ (k : Nat) (N : Nat → Nat → Int), (∀ i, i < k → ∀ l, l < k → -1 ≤ N i l ∧ N i l ≤ 1) → -fct k ≤ det k N ∧ det k N ≤ fct k := by
  intro k
  induction k with
  | zero => intro N _; exact ⟨by show (-1 : Int) ≤ 1; decide, by show (1 : Int) ≤ 1; decide⟩
  | succ k ih =>
    intro N h
    have hj : ∀ j, j < k + 1 → -fct k ≤ sgn k j * (N j k * det k (skp j N)) ∧ sgn k j * (N j k * det k (skp j N)) ≤ fct k := by
      intro j hj
      have h1 := ih (skp j N) (fun i hi l hl => by unfold skp; split <;> exact h _ (by omega) l (by omega))
      have h2 := bd_mul (h j hj k (by omega)) h1
      rw [Int.one_mul] at h2
      unfold sgn; split <;> omega
    simp only [det, fct]
    have a1 := sumT_le (f := fun j => sgn k j * (N j k * det k (skp j N))) (h := fun _ => fct k) (k := k + 1) (fun j hj' => (hj j hj').2)
    have a2 := sumT_le (f := fun _ => -fct k) (h := fun j => sgn k j * (N j k * det k (skp j N))) (k := k + 1) (fun j hj' => (hj j hj').1)
    rw [sumT_const] at a1 a2
    have : ((k + 1 : Nat) : Int) * -fct k = -(((k + 1 : Nat) : Int) * fct k) := by grind
    omega
theorem det_bd1 (k : Nat) (N : Nat → Nat → Int) (b : Int) (h : ∀ i, i < k + 1 → ∀ l, l < k → -1 ≤ N i l ∧ N i l ≤ 1) (hb : ∀ i, i < k + 1 → -b ≤ N i k ∧ N i k ≤ b) : -((k + 1 : Nat) * (b * fct k)) ≤ det (k + 1) N ∧ det (k + 1) N ≤ (k + 1 : Nat) * (b * fct k) := by
  have hj : ∀ j, j < k + 1 → -(b * fct k) ≤ sgn k j * (N j k * det k (skp j N)) ∧ sgn k j * (N j k * det k (skp j N)) ≤ b * fct k := by
    intro j hj
    have h1 := det_bd k (skp j N) (fun i hi l hl => by unfold skp; split <;> exact h _ (by omega) l (by omega))
    have h2 := bd_mul (hb j hj) h1
    unfold sgn; split <;> omega
  simp only [det]
  have a1 := sumT_le (f := fun j => sgn k j * (N j k * det k (skp j N))) (h := fun _ => b * fct k) (k := k + 1) (fun j hj' => (hj j hj').2)
  have a2 := sumT_le (f := fun _ => -(b * fct k)) (h := fun j => sgn k j * (N j k * det k (skp j N))) (k := k + 1) (fun j hj' => (hj j hj').1)
  rw [sumT_const] at a1 a2
  have : ((k + 1 : Nat) : Int) * -(b * fct k) = -(((k + 1 : Nat) : Int) * (b * fct k)) := by grind
  omega
