/-! prices: what both tables begin with, what both come to -/
theorem SX_init {n H : Nat} {V T : Nat → Nat → Int} (h : ∀ r, r < H → (∀ c, c < n → T r c = -V r c) ∧ T r n = V r n) : SX n 1 1 eV H V T := by
  refine ⟨.inl rfl, by decide, rfl, Cr_id _, by rw [det_id]; rfl, fun r hr => ⟨fun c hc => ?_, ?_⟩⟩
  · rw [det_unit (by omega), (h r hr).1 c hc]; omega
  · rw [det_unit (by omega), (h r hr).2]; omega
/-- what is left of a set's cost over its prices -/
def slv (n : Nat) (cost : Int) (s : Nat) : Nat → Int := fun i => if i < n then (if s.testBit i then -1 else 0) else if i = n then cost else 0
def bitI (s i : Nat) : Int := if s.testBit i then 1 else 0
theorem ev_slv (n : Nat) (cost : Int) (s : Nat) (φ : Nat → Int) : ev n φ (slv n cost s) = cost * φ n - sumT (fun f => bitI s f * φ f) n := by
  unfold ev
  simp only [sumT]
  have e : sumT (fun i => φ i * slv n cost s i) n = -1 * sumT (fun f => bitI s f * φ f) n := by
    rw [← sumT_mul]
    refine sumT_congr (fun i hi => ?_)
    unfold slv bitI; rw [if_pos hi]; split <;> omega
  rw [e]
  unfold slv; rw [if_neg (by omega), if_pos rfl]
  grind
theorem ev_gm0 (n : Nat) (φ : Nat → Int) : ev n φ (gm n 0) = sumT φ n := by
  unfold ev
  simp only [sumT]
  rw [sumT_congr (h := φ) (fun i hi => by unfold gm; simp [hi])]
  unfold gm; simp
theorem ev_gmS {n f : Nat} (φ : Nat → Int) (h : f ≤ n) : ev n φ (gm n (f + 1)) = φ f := ev_unit φ h
/-- fair prices, over t = φ n -/
def feasP (g : Nat → Int) (φ : Nat → Int) : Prop := 0 < φ (nF g) ∧ (∀ f, f < nF g → 0 ≤ φ f) ∧ ∀ s, s ≠ 0 → s < 2 ^ nF g → 0 ≤ hadF g s → sumT (fun f => bitI s f * φ f) (nF g) ≤ hadF g s * φ (nF g)
noncomputable def optP (g : Nat → Int) : (Nat → Int) × Int := Classical.epsilon (fun zd : (Nat → Int) × Int => Opt (nF g) (feasP g) (nF g + 1) zd.1 zd.2)
theorem optP_ok {g : Nat → Int} {z : Nat → Int} {d : Int} (h : Opt (nF g) (feasP g) (nF g + 1) z d) : Opt (nF g) (feasP g) (nF g + 1) (optP g).1 (optP g).2 :=
  Classical.epsilon_spec (p := fun zd : (Nat → Int) × Int => Opt (nF g) (feasP g) (nF g + 1) zd.1 zd.2) ⟨(z, d), h⟩
theorem feasP_z {g φ : Nat → Int} (h : feasP g φ) {k : Nat} (hk : k < nF g + 1) : 0 ≤ ev (nF g) φ (gm (nF g) k) := by
  cases k with
  | zero => rw [ev_gm0]; exact sumT_nn h.2.1
  | succ k => rw [ev_gmS φ (by omega)]; exact h.2.1 k (by omega)
theorem Opt.nn {g : Nat → Int} {K : Nat} {z : Nat → Int} {d : Int} (h : Opt (nF g) (feasP g) K z d) (hK : K ≤ nF g + 1) {k : Nat} (hk : k < K) : 0 ≤ z k := by
  obtain ⟨-, ⟨φ, f1, f2, f3⟩, -⟩ := h
  rw [← f3 k hk]; exact feasP_z f1 (by omega)
theorem low_eq {a b a' b' : Nat} (hb : 0 < b) (hb' : 0 < b') (h : a * b' = a' * b) (x : Int) : lowR a b x = lowR a' b' x := by
  have g1 : Nat.gcd (a * b') (b * b') = Nat.gcd a b * b' := Nat.gcd_mul_right a b' b
  have g2 : Nat.gcd (a' * b) (b' * b) = Nat.gcd a' b' * b := Nat.gcd_mul_right a' b b'
  rw [h, Nat.mul_comm b b', g2] at g1
  unfold lowR
  congr 1
  split
  · rw [← Nat.mul_div_mul_right a (Nat.gcd a b) hb', ← Nat.mul_div_mul_right a' (Nat.gcd a' b') hb, h, g1]
  · rw [← Nat.mul_div_mul_right b (Nat.gcd a b) hb', ← Nat.mul_div_mul_right b' (Nat.gcd a' b') hb, g1, Nat.mul_comm b b']
theorem low_opt {g : Nat → Int} {K : Nat} {z : Nat → Int} {d : Int} (h : Opt (nF g) (feasP g) K z d) (hK : K ≤ nF g + 1) (h2 : Opt (nF g) (feasP g) (nF g + 1) (optP g).1 (optP g).2) {k : Nat} (hk : k < K) (x : Int) : lowR (z k).toNat d.toNat x = lowR ((optP g).1 k).toNat (optP g).2.toNat x := by
  have e := Opt.one h h2 hK k hk
  have n1 := h.nn hK hk
  have n2 := h2.nn (Nat.le_refl _) (show k < nF g + 1 by omega)
  have d1 := h.1
  have d2 := h2.1
  refine low_eq (by omega) (by omega) ?_ x
  have : ((z k).toNat : Int) * ((optP g).2.toNat : Int) = (((optP g).1 k).toNat : Int) * (d.toNat : Int) := by
    rw [Int.toNat_of_nonneg n1, Int.toNat_of_nonneg n2, Int.toNat_of_nonneg (by omega), Int.toNat_of_nonneg (by omega)]; exact e
  exact_mod_cast this
theorem eq_opt {g : Nat → Int} {K : Nat} {z : Nat → Int} {d : Int} (h : Opt (nF g) (feasP g) K z d) (hK : K ≤ nF g + 1) (hK0 : 0 < K) (h2 : Opt (nF g) (feasP g) (nF g + 1) (optP g).1 (optP g).2) (t m : Int) : t * d = z 0 * m ↔ t * (optP g).2 = (optP g).1 0 * m := by
  have e := Opt.one h h2 hK 0 hK0
  have d1 := h.1
  have d2 := h2.1
  constructor
  · intro hh
    have : d * (t * (optP g).2) = d * ((optP g).1 0 * m) := by
      have : d * (t * (optP g).2) = (t * d) * (optP g).2 := by grind
      rw [this, hh]; grind
    exact Int.eq_of_mul_eq_mul_left (by omega) this
  · intro hh
    have : (optP g).2 * (t * d) = (optP g).2 * (z 0 * m) := by
      have : (optP g).2 * (t * d) = (t * (optP g).2) * d := by grind
      rw [this, hh]; grind
    exact Int.eq_of_mul_eq_mul_left (by omega) this
/-- every flight is in a set that is had -/
def bndB (g : Nat → Int) : Bool := (List.range (nF g)).all fun f => decide (0 ≤ hadF g (2 ^ f))
/-- a part of a set that is had is had -/
theorem hfold_hit {c : Nat → Int} {hd : Int} {m : Nat} (hc : cOK c m) (hh : 0 ≤ hd ∧ hd ≤ 99) {s q : Nat} (h0 : s ≠ 0) (hs : s &&& q = s) (hq : q < m) (hcq : 0 ≤ c q) : ∀ p, p ≤ m → q < p → 0 ≤ (hfold c hd s p).1 ∧ (hfold c hd s p).1 ≤ c q + hd * ((cnt q : Int) - cnt s) := by
  intro p
  induction p with
  | zero => intro _ h; omega
  | succ p ih =>
    intro hp hqp
    have hbd := hfold_bd hc hh h0 p (by omega)
    rw [hfold, hstep]
    by_cases e : q = p
    · subst e
      have a := cnt_sub hs
      have k3 := cnt_le q
      have b := mul_bd hh (show 0 ≤ (cnt q : Int) - cnt s ∧ (cnt q : Int) - cnt s ≤ 7 by omega)
      split
      · simp only; omega
      · rename_i hn
        have : ¬ ((hfold c hd s q).1 < 0 ∨ c q + hd * ((cnt q : Int) - cnt s) < (hfold c hd s q).1) := fun h => hn ⟨hs, hcq, h⟩
        omega
    · have ih' := ih (by omega) (by omega)
      split
      · rename_i h
        have a := cnt_sub h.1
        have k3 := cnt_le p
        have b := mul_bd hh (show 0 ≤ (cnt p : Int) - cnt s ∧ (cnt p : Int) - cnt s ≤ 7 by omega)
        simp only; omega
      · exact ih'
theorem had_hit {g : Nat → Int} (hw : WF g) {s q : Nat} (h0 : s ≠ 0) (hs : s &&& q = s) (hq : q < 2 ^ nF g) (hc : 0 ≤ cstF g q) : 0 ≤ hadF g s ∧ hadF g s ≤ cstF g q + g 90 * ((cnt q : Int) - cnt s) :=
  hfold_hit (cstF_ok hw) hw.fe.2.2.2.1 h0 hs hq hc _ (Nat.le_refl _) hq
theorem had_val {g : Nat → Int} (hw : WF g) {s : Nat} (h0 : s ≠ 0) (hh : 0 ≤ hadF g s) : ∃ q : Nat, byF g s = (q : Int) ∧ s &&& q = s ∧ q < 2 ^ nF g ∧ 0 ≤ cstF g q ∧ hadF g s = cstF g q + g 90 * ((cnt q : Int) - cnt s) := by
  have key : ∀ p, p ≤ 2 ^ nF g → hfold (cstF g) (g 90) s p = (-1, -1) ∨ ∃ q : Nat, (hfold (cstF g) (g 90) s p).2 = (q : Int) ∧ s &&& q = s ∧ q < p ∧ 0 ≤ cstF g q ∧ (hfold (cstF g) (g 90) s p).1 = cstF g q + g 90 * ((cnt q : Int) - cnt s) := by
    intro p
    induction p with
    | zero => intro _; exact .inl rfl
    | succ p ih =>
      intro hp
      rw [hfold, hstep]
      split
      · rename_i h; exact .inr ⟨p, rfl, h.1, by omega, h.2.1, rfl⟩
      · rcases ih (by omega) with h | ⟨q, h1, h2, h3, h4, h5⟩
        · exact .inl h
        · exact .inr ⟨q, h1, h2, by omega, h4, h5⟩
  have := key (2 ^ nF g) (Nat.le_refl _)
  unfold hadF at hh ⊢; unfold byF
  rcases this with h | h
  · rw [h] at hh; exact absurd hh (by decide)
  · exact h
theorem bit_sub {f q : Nat} (h : q.testBit f = true) : 2 ^ f &&& q = 2 ^ f := by
  refine Nat.eq_of_testBit_eq (fun k => ?_)
  rw [Nat.testBit_and, Nat.testBit_two_pow]
  by_cases e : f = k
  · subst e; simp [h]
  · simp [e]
theorem pow_lt2 {f n : Nat} (h : f < n) : 2 ^ f < 2 ^ n := Nat.pow_lt_pow_right (by decide) h
theorem bndB_iff {g : Nat → Int} (hw : WF g) : bndB g = true ↔ ∀ f, f < nF g → ∃ s, s ≠ 0 ∧ s < 2 ^ nF g ∧ s.testBit f = true ∧ 0 ≤ hadF g s := by
  unfold bndB
  rw [List.all_eq_true]
  constructor
  · intro h f hf
    have := h f (List.mem_range.mpr hf)
    exact ⟨2 ^ f, Nat.ne_of_gt (Nat.two_pow_pos f), pow_lt2 hf, by rw [Nat.testBit_two_pow]; simp, by simpa using this⟩
  · intro h f hf
    obtain ⟨s, h0, hs, hb, hh⟩ := h f (List.mem_range.mp hf)
    obtain ⟨q, -, q2, q3, q4, -⟩ := had_val hw h0 hh
    have hbq := sub_bit q2 f hb
    have := (had_hit hw (s := 2 ^ f) (q := q) (Nat.ne_of_gt (Nat.two_pow_pos f)) (bit_sub hbq) q3 q4).1
    simpa using this
/-- fair by pairings alone is fair -/
def feasC (g : Nat → Int) (φ : Nat → Int) : Prop := 0 < φ (nF g) ∧ (∀ f, f < nF g → 0 ≤ φ f) ∧ ∀ s, s ≠ 0 → s < 2 ^ nF g → 0 ≤ cstF g s → sumT (fun f => bitI s f * φ f) (nF g) ≤ hadF g s * φ (nF g)
theorem and_self' (s : Nat) : s &&& s = s := Nat.and_self s
theorem feasC_P {g : Nat → Int} (hw : WF g) (φ : Nat → Int) : feasC g φ ↔ feasP g φ := by
  constructor
  · rintro ⟨h1, h2, h3⟩
    refine ⟨h1, h2, fun s h0 hs hh => ?_⟩
    obtain ⟨q, -, q2, q3, q4, q5⟩ := had_val hw h0 hh
    have hq0 : q ≠ 0 := fun e => by subst e; rw [Nat.and_zero] at q2; exact h0 q2.symm
    have a := h3 q hq0 q3 q4
    have b : sumT (fun f => bitI s f * φ f) (nF g) ≤ sumT (fun f => bitI q f * φ f) (nF g) := by
      refine sumT_le (fun f hf => ?_)
      have := h2 f hf
      unfold bitI
      have hsb := sub_bit q2 f
      cases hb : s.testBit f <;> cases hb' : q.testBit f <;> simp_all
    have c := (had_hit hw hq0 (and_self' q) q3 q4).2
    have e : (cnt q : Int) - cnt q = 0 := by omega
    rw [e, Int.mul_zero] at c
    have k2 := cnt_sub q2
    have k3 := cnt_le q
    have d := mul_bd hw.fe.2.2.2.1 (show 0 ≤ (cnt q : Int) - cnt s ∧ (cnt q : Int) - cnt s ≤ 7 by omega)
    have f := Int.mul_le_mul_of_nonneg_right (show hadF g q ≤ hadF g s by omega) (Int.le_of_lt h1)
    omega
  · rintro ⟨h1, h2, h3⟩
    exact ⟨h1, h2, fun s h0 hs hc => h3 s h0 hs (had_hit hw h0 (and_self' s) hs hc).1⟩
/-- shares, by cross products -/
theorem rt1 {a b c d e f : Int} (hb : 0 < b) (hd : 0 < d) (hf : 0 < f) (h1 : a * d ≤ c * b) (h2 : c * f ≤ e * d) : a * f ≤ e * b := by
  have x := Int.mul_le_mul_of_nonneg_right h1 (Int.le_of_lt hf)
  have y := Int.mul_le_mul_of_nonneg_right h2 (Int.le_of_lt hb)
  refine Int.le_of_mul_le_mul_left (a := d) ?_ hd
  have e1 : d * (a * f) = a * d * f := by grind
  have e2 : d * (e * b) = e * d * b := by grind
  have e3 : c * b * f = c * f * b := by grind
  omega
theorem rt2 {a b c d e f : Int} (hb : 0 < b) (hd : 0 < d) (hf : 0 < f) (h1 : a * d < c * b) (h2 : c * f ≤ e * d) : a * f < e * b := by
  have x := Int.mul_lt_mul_of_pos_right h1 hf
  have y := Int.mul_le_mul_of_nonneg_right h2 (Int.le_of_lt hb)
  refine Int.lt_of_mul_lt_mul_left (a := d) ?_ (Int.le_of_lt hd)
  have e1 : d * (a * f) = a * d * f := by grind
  have e2 : d * (e * b) = e * d * b := by grind
  have e3 : c * b * f = c * f * b := by grind
  omega
theorem rt3 {a b c d e f : Int} (hb : 0 < b) (h1 : a * d = c * b) (h3 : a * f = e * b) : c * f = e * d := by
  refine Int.eq_of_mul_eq_mul_left (a := b) (by omega) ?_
  have e1 : b * (c * f) = (c * b) * f := by grind
  have e2 : b * (e * d) = (e * b) * d := by grind
  rw [e1, e2, ← h1, ← h3]; grind
theorem bnd_le : ∀ n : Nat, n ≤ 7 → ((n + 1 : Nat) : Int) * (4893 * fct n) ≤ 197285760 := by decide +kernel
