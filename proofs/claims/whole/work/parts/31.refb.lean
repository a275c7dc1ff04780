/-! the reference: airports, who follows whom -/
theorem kv {K : Int → Mem → Prop} {M : Mem} {x y : Int} (h : K x M) (e : x = y) : K y M := e ▸ h
theorem b1 {A B : Prop} (h : B) : ((1 : Int) = 0 → A) ∧ (¬ (1 : Int) = 0 → B) := ⟨fun c => absurd c (by decide), fun _ => h⟩
theorem b0 {A B : Prop} (h : A) : ((0 : Int) = 0 → A) ∧ (¬ (0 : Int) = 0 → B) := ⟨fun _ => h, fun c => absurd rfl c⟩
theorem n1 {A B : Prop} (h : B) : (¬ (1 : Int) = 0 → B) ∧ ((1 : Int) = 0 → A) := ⟨fun _ => h, fun c => absurd c (by decide)⟩
theorem n0 {A B : Prop} (h : A) : (¬ (0 : Int) = 0 → B) ∧ ((0 : Int) = 0 → A) := ⟨fun c => absurd rfl c, fun _ => h⟩
theorem irem3 {x : Int} (h : 0 ≤ x) : irem x 3 = x % 3 := Int.tmod_eq_emod_of_nonneg h
section REFB
variable {G : GE} {d : Nat} {K : Int → Mem → Prop} {M : Mem}
theorem WF.kd {g : Nat → Int} (hw : WF g) {a : Nat} (ha : a < 4) : (0 ≤ g (78 + a) ∧ g (78 + a) ≤ 5) ∧ (0 ≤ g (82 + a) ∧ g (82 + a) ≤ 9) := hw.2.2.2.1 a ha
theorem WF.fl {g : Nat → Int} (hw : WF g) {i : Nat} (hi : i < 7) : (0 ≤ g (1 + i) ∧ g (1 + i) ≤ 3) ∧ (0 ≤ g (8 + i) ∧ g (8 + i) ≤ 3) ∧ (0 ≤ g (15 + i) ∧ g (15 + i) ≤ 299) ∧ (0 ≤ g (22 + i) ∧ g (22 + i) ≤ 299) := hw.2.1 i hi
theorem WF.n {g : Nat → Int} (hw : WF g) : g 0 = (nF g : Int) ∧ nF g ≤ 7 := by have := hw.1; unfold nF; omega
theorem WF.ft {g : Nat → Int} (hw : WF g) {i : Nat} (hi : i < nF g) : g (1 + i) ≠ g (8 + i) ∧ g (15 + i) < g (22 + i) := hw.2.2.1 i hi
theorem WF.bs {g : Nat → Int} (hw : WF g) : 0 ≤ g 86 ∧ g 86 ≤ 15 := hw.2.2.2.2.1
theorem WF.fe {g : Nat → Int} (hw : WF g) : (0 ≤ g 87 ∧ g 87 ≤ 99) ∧ (0 ≤ g 88 ∧ g 88 ≤ 9) ∧ (0 ≤ g 89 ∧ g 89 ≤ 99) ∧ (0 ≤ g 90 ∧ g 90 ≤ 99) ∧ (0 ≤ g 91 ∧ g 91 ≤ 20) := hw.2.2.2.2.2.1
theorem WF.mk {g : Nat → Int} (hw : WF g) {i : Nat} (hi : i < 49) : 0 ≤ g (29 + i) ∧ g (29 + i) ≤ 2 := hw.2.2.2.2.2.2.1 i hi
theorem sitF_bd {g : Nat → Int} (hw : WF g) {a : Nat} (ha : a < 4) : 1 ≤ sitF g a ∧ sitF g a ≤ 13 := by
  have := hw.kd ha
  have := irem3 this.2.1
  unfold sitF; (repeat' split) <;> omega
theorem restF_bd {g : Nat → Int} (hw : WF g) {a : Nat} (ha : a < 4) : 11 ≤ restF g a ∧ restF g a ≤ 29 := by
  have := hw.kd ha
  unfold restF; (repeat' split) <;> omega
theorem legsF_bd (g : Nat → Int) (a : Nat) : 2 ≤ legsF g a ∧ legsF g a ≤ 4 := by unfold legsF; (repeat' split) <;> omega
theorem dutF_bd (g : Nat → Int) (a : Nat) : 2 ≤ dutF g a ∧ dutF g a ≤ 3 := by unfold dutF; (repeat' split) <;> omega
theorem spanF_bd {g : Nat → Int} (hw : WF g) {a : Nat} (ha : a < 4) : 31 ≤ spanF g a ∧ spanF g a ≤ 59 := by
  have := hw.kd ha
  unfold spanF; (repeat' split) <;> omega
theorem c11_sit {v : Int} {a : Nat} {g : Nat → Int} (hg : M 67 = g) (hw : WF g) (e : v = (a : Int)) (ha : a < 4) (h : K (sitF g a) M) : CalI G miX11_sit d [.inr (.inr (some 66)), .inl v] M K := by
  subst hg
  subst e
  have hk := hw.kd ha
  have hr := irem3 hk.2.1
  have e1 : (82 + (a : Int)).toNat = 82 + a := by omega
  have e2 : (78 + (a : Int)).toNat = 78 + a := by omega
  refine Cal.of (by decide) (Nat.le_of_ble_eq_true rfl) rfl (gX11_sit_0 ?_)
  rw [e1, e2]
  refine ⟨by omega, by omega, fun c => ?_, fun c => ?_, fun c => ?_, fun c => ?_, fun c => ?_, fun c => ?_⟩
  all_goals exact kv h (by unfold sitF; (try unfold w32); (repeat' split) <;> omega)
theorem c11_rest {v : Int} {a : Nat} {g : Nat → Int} (hg : M 67 = g) (hw : WF g) (e : v = (a : Int)) (ha : a < 4) (h : K (restF g a) M) : CalI G miX11_rest d [.inr (.inr (some 66)), .inl v] M K := by
  subst hg
  subst e
  have hk := hw.kd ha
  have e1 : (82 + (a : Int)).toNat = 82 + a := by omega
  have e2 : (78 + (a : Int)).toNat = 78 + a := by omega
  refine Cal.of (by decide) (Nat.le_of_ble_eq_true rfl) rfl (gX11_rest_0 ?_)
  rw [e1, e2]
  refine ⟨by omega, by omega, fun c => ?_, fun c => ?_, fun c => ?_, fun c => ?_, fun c => ?_⟩
  all_goals exact kv h (by unfold restF; (try unfold w32); (repeat' split) <;> omega)
theorem c11_span {v : Int} {a : Nat} {g : Nat → Int} (hg : M 67 = g) (hw : WF g) (e : v = (a : Int)) (ha : a < 4) (h : K (spanF g a) M) : CalI G miX11_span d [.inr (.inr (some 66)), .inl v] M K := by
  subst hg
  subst e
  have hk := hw.kd ha
  have e1 : (82 + (a : Int)).toNat = 82 + a := by omega
  have e2 : (78 + (a : Int)).toNat = 78 + a := by omega
  refine Cal.of (by decide) (Nat.le_of_ble_eq_true rfl) rfl (gX11_span_0 ?_)
  rw [e1, e2]
  repeat' (first | (with_reducible refine And.intro ?_ ?_) | (with_reducible intro c) | exact kv h (by unfold spanF; (try unfold w32); (repeat' split) <;> omega) | omega)
theorem c11_legs {v : Int} {a : Nat} {g : Nat → Int} (hg : M 67 = g) (e : v = (a : Int)) (ha : a < 4) (h : K (legsF g a) M) : CalI G miX11_legs d [.inr (.inr (some 66)), .inl v] M K := by
  subst hg
  subst e
  have e2 : (78 + (a : Int)).toNat = 78 + a := by omega
  refine Cal.of (by decide) (Nat.le_of_ble_eq_true rfl) rfl (gX11_legs_0 ?_)
  rw [e2]
  repeat' (first | (with_reducible refine And.intro ?_ ?_) | (with_reducible intro c) | exact kv h (by unfold legsF; (repeat' split) <;> omega) | omega)
theorem c11_duties {v : Int} {a : Nat} {g : Nat → Int} (hg : M 67 = g) (e : v = (a : Int)) (ha : a < 4) (h : K (dutF g a) M) : CalI G miX11_duties d [.inr (.inr (some 66)), .inl v] M K := by
  subst hg
  subst e
  have e2 : (78 + (a : Int)).toNat = 78 + a := by omega
  refine Cal.of (by decide) (Nat.le_of_ble_eq_true rfl) rfl (gX11_duties_0 ?_)
  rw [e2]
  repeat' (first | (with_reducible refine And.intro ?_ ?_) | (with_reducible intro c) | exact kv h (by unfold dutF; (repeat' split) <;> omega) | omega)
theorem c11_gap {v w : Int} {f k : Nat} {g : Nat → Int} (hg : M 67 = g) (hw : WF g) (e : v = (f : Int)) (e' : w = (k : Int)) (hf : f < 7) (hk : k < 7) (h : K (M 67 (15 + k) - M 67 (22 + f)) M) : CalI G miX11_gap d [.inr (.inr (some 66)), .inl v, .inl w] M K := by
  subst hg
  subst e; subst e'
  have h1 := hw.fl hf
  have h2 := hw.fl hk
  have e1 : (15 + (k : Int)).toNat = 15 + k := by omega
  have e2 : (22 + (f : Int)).toNat = 22 + f := by omega
  refine Cal.of (by decide) (Nat.le_of_ble_eq_true rfl) rfl (gX11_gap_0 ?_)
  rw [e1, e2, w32_eq (by omega) (by omega)]
  exact ⟨by omega, by omega, h⟩
theorem howF_bd (g : Nat → Int) (f k : Nat) : 0 ≤ howF g f k ∧ howF g f k ≤ 2 := by unfold howF; (repeat' split) <;> omega
theorem howF_self {g : Nat → Int} (hw : WF g) {f : Nat} (hf : f < nF g) : howF g f f = 0 := by
  unfold howF; rw [if_pos (hw.ft hf).1]
theorem c11_followsBy {v w : Int} {f k : Nat} {g : Nat → Int} (hg : M 67 = g) (hw : WF g) (e : v = (f : Int)) (e' : w = (k : Int)) (hf : f < nF g) (hk : k < 7) (h : K (howF g f k) M) : CalI G miX11_followsBy (d + 1) [.inr (.inr (some 66)), .inl v, .inl w] M K := by
  subst hg
  subst e; subst e'
  have hn := hw.n
  have h1 := hw.fl (show f < 7 by omega)
  have h2 := hw.fl hk
  have e1 : (8 + (f : Int)).toNat = 8 + f := by omega
  have e2 : (1 + (k : Int)).toNat = 1 + k := by omega
  have ea : M 67 (8 + f) = ((M 67 (8 + f)).toNat : Int) := by omega
  have ha : (M 67 (8 + f)).toNat < 4 := by omega
  refine Cal.of (by decide) (Nat.le_of_ble_eq_true rfl) rfl (gX11_followsBy_0 ?_)
  rw [e1, e2]
  refine ⟨by omega, fun c => ?_, fun c => ⟨by omega, fun c2 => ?_, fun c2 => ?_⟩⟩
  · have : f = k := by omega
    subst this
    exact kv h (howF_self hw hf)
  · refine c11_gap rfl hw rfl rfl (by omega) hk ?_
    refine c11_rest rfl hw ea ha ?_
    refine ⟨fun c3 => ?_, fun c3 => ?_⟩
    · refine c11_gap rfl hw rfl rfl (by omega) hk ?_
      refine c11_sit rfl hw ea ha ?_
      refine ⟨fun c4 => ?_, fun c4 => ?_⟩
      · exact kv h (by unfold howF; (repeat' split) <;> omega)
      · exact kv h (by unfold howF; (repeat' split) <;> omega)
    · exact kv h (by unfold howF; (repeat' split) <;> omega)
  · exact kv h (by unfold howF; rw [if_pos c2])
def slk0 (g : Nat → Int) (f k : Nat) : Int := g (15 + k) - g (22 + f) - (if howF g f k = 2 then restF g (g (8 + f)).toNat else sitF g (g (8 + f)).toNat)
theorem slk0_F {g : Nat → Int} {f k : Nat} (h : howF g f k ≠ 0) : slk0 g f k = slkF g f k := by
  have := howF_bd g f k
  unfold slk0 slkF; (repeat' split) <;> omega
theorem c11_slack {v w : Int} {f k : Nat} {g : Nat → Int} (hg : M 67 = g) (hw : WF g) (e : v = (f : Int)) (e' : w = (k : Int)) (hf : f < nF g) (hk : k < 7) (h : K (slk0 g f k) M) : CalI G miX11_slack (d + 2) [.inr (.inr (some 66)), .inl v, .inl w] M K := by
  subst hg
  subst e; subst e'
  have hn := hw.n
  have h1 := hw.fl (show f < 7 by omega)
  have h2 := hw.fl hk
  have e1 : (8 + (f : Int)).toNat = 8 + f := by omega
  have ea : M 67 (8 + f) = ((M 67 (8 + f)).toNat : Int) := by omega
  have ha : (M 67 (8 + f)).toNat < 4 := by omega
  have hs := sitF_bd hw ha
  have hr := restF_bd hw ha
  refine Cal.of (by decide) (Nat.le_of_ble_eq_true rfl) rfl (gX11_slack_0 ?_)
  rw [e1]
  refine ⟨by omega, c11_gap rfl hw rfl rfl (by omega) hk ?_⟩
  refine c11_followsBy rfl hw rfl rfl hf hk ⟨fun c => ?_, fun c => ?_⟩
  · refine c11_sit rfl hw ea ha ?_
    rw [w32_eq (by omega) (by omega)]
    exact kv h (by unfold slk0; rw [if_neg c])
  · refine c11_rest rfl hw ea ha ?_
    rw [w32_eq (by omega) (by omega)]
    exact kv h (by unfold slk0; rw [if_pos c])
theorem c11_isTight {v w : Int} {f k : Nat} {g : Nat → Int} (hg : M 67 = g) (hw : WF g) (e : v = (f : Int)) (e' : w = (k : Int)) (hf : f < nF g) (hk : k < 7) (h1 : tgtB g f k = true → K 1 M) (h0 : tgtB g f k = false → K 0 M) : CalI G miX11_isTight (d + 3) [.inr (.inr (some 66)), .inl v, .inl w] M K := by
  subst hg
  refine Cal.of (by decide) (Nat.le_of_ble_eq_true rfl) rfl (gX11_isTight_0 ?_)
  refine c11_followsBy rfl hw e e' hf hk ⟨fun c => h0 (by unfold tgtB; simp [c]), fun c => ?_⟩
  refine c11_slack rfl hw e e' hf hk ?_
  rw [slk0_F (by omega)]
  refine ⟨fun c2 => h0 ?_, fun c2 => h1 ?_⟩
  · unfold tgtB; simp; intro _; exact c2
  · unfold tgtB; simp; exact ⟨c, c2⟩
theorem c11_follows {v w : Int} {g : Nat → Int} (hg : M 67 = g) (hw : WF g) (h1 : ∀ f k : Nat, v = (f : Int) → w = (k : Int) → f < nF g → k < nF g → v ≠ w → K (howF g f k) M) (h0 : v < 0 ∨ g 0 ≤ v ∨ w < 0 ∨ g 0 ≤ w ∨ v = w → K (-2) M) : CalI G miX11_follows (d + 3) [.inr (.inr (some 66)), .inl v, .inl w] M K := by
  subst hg
  have hn := hw.n
  refine Cal.of (by decide) (Nat.le_of_ble_eq_true rfl) rfl (gX11_follows_0 ?_)
  refine c11_areTwo hw.1 (fun a b a' b' c => b1 ?_) (fun a => b0 (h0 a))
  exact c11_followsBy (f := v.toNat) (k := w.toNat) rfl hw (by omega) (by omega) (by omega) (by omega) (h1 _ _ (by omega) (by omega) (by omega) (by omega) c)
/-- who follows f, as bits: what 4, 5, 6 -/
def fol1 (g : Nat → Int) (f : Nat) (w : Int) (k : Nat) : Bool := if w = 6 then tgtB g f k else decide (howF g f k = if w = 4 then 1 else 2)
def folT (g : Nat → Int) (f : Nat) (w : Int) : Nat → Nat
  | 0 => 0
  | k + 1 => if fol1 g f w k then folT g f w k ||| 2 ^ k else folT g f w k
theorem folT_lt (g : Nat → Int) (f : Nat) (w : Int) (k : Nat) (hk : k ≤ 7) : folT g f w k < 2 ^ k := by
  induction k with
  | zero => unfold folT; decide
  | succ k ih =>
    have h1 := ih (by omega)
    have h2 : (2 : Nat) ^ k < 2 ^ (k + 1) := Nat.pow_lt_pow_right (by decide) (by omega)
    unfold folT; split
    · exact Nat.or_lt_two_pow (by omega) h2
    · omega
theorem pow_le7 {k : Nat} (hk : k ≤ 7) : 2 ^ k ≤ 128 := Nat.pow_le_pow_right (n := 2) (by decide) hk
theorem c11_followers {v w : Int} {f : Nat} {g : Nat → Int} (hg : M 67 = g) (hw : WF g) (e : v = (f : Int)) (hf : f < nF g) (h : K (folT g f w (nF g) : Int) M) : CalI G miX11_followers (d + 4) [.inr (.inr (some 66)), .inl v, .inl w] M K := by
  subst hg
  have hn := hw.n
  refine Cal.of (by decide) (Nat.le_of_ble_eq_true rfl) rfl (gX11_followers_0 ?_)
  refine dn (P := fun k => OkI G miX11_followers (d + 4) K 5 [some (.inr (.inr (some 66))), some (.inl v), some (.inl w), some (.inl (folT (M 67) f w k : Int)), some (.inl (k : Int)), none] [] M) (nF (M 67)) ?_ (fun k hk ih => ?_) 0 (by omega)
  · exact gX11_followers_5 ⟨fun _ => h, fun c => absurd c (by omega)⟩
  · have hlt := folT_lt (M 67) f w k (by omega)
    have hp := pow_le7 (show k ≤ 7 by omega)
    have hp1 := pow_le7 (show k + 1 ≤ 7 by omega)
    have hp2 : (2 : Nat) ^ (k + 1) = 2 * 2 ^ k := by rw [Nat.pow_succ]; omega
    have st : ∀ x : Int, x = (if fol1 (M 67) f w k then ishl 1 (k : Int) else 0) → ior (folT (M 67) f w k : Int) x = (folT (M 67) f w (k + 1) : Int) := by
      intro x hx
      rw [hx]
      conv => rhs; unfold folT
      split
      · rw [ishl1 k (by omega), iorN (by omega) (by omega)]
      · have := iorN (a := folT (M 67) f w k) (b := 0) (by omega) (by decide)
        rw [Nat.or_zero] at this; exact this
    refine gX11_followers_5 ⟨fun c => absurd c (by omega), fun _ => ⟨fun c => ?_, fun c => ?_⟩⟩
    · refine c11_followsBy rfl hw e rfl hf (by omega) ?_
      rw [w32n (by omega), st]
      · exact ih
      · unfold fol1; rw [if_neg c]
        by_cases h4 : howF (M 67) f k = if w = 4 then 1 else 2
        · simp [h4]
        · simp [h4]
    · refine c11_isTight rfl hw e rfl hf (by omega) (fun b => ?_) (fun b => ?_)
      · rw [w32n (by omega), st]
        · exact ih
        · unfold fol1; rw [if_pos c, b]; rfl
      · rw [w32n (by omega), st]
        · exact ih
        · unfold fol1; rw [if_pos c, b]; rfl
end REFB
