/-! the class: rules, the plan, small helpers -/
def rg (a b : Nat) : Nat → Nat → Bool := fun c _ => decide (a ≤ c) && decide (c ≤ b)
theorem rg_yes {a b c i : Nat} (h : a ≤ c ∧ c ≤ b) : rg a b c i = true := by unfold rg; simp [h.1, h.2]
theorem rg_no {a b c i : Nat} (h : c < a ∨ b < c) : rg a b c i = false := by unfold rg; simp; omega
theorem rg_of {a b c i : Nat} (h : rg a b c i = false) : c < a ∨ b < c := by unfold rg at h; simp at h; omega
theorem fr_rg {a b c i : Nat} {M M' : Mem} (h : Fr (rg a b) M M') (hc : c < a ∨ b < c) : M' c i = M c i := h c i (rg_no hc)
theorem fr_rgf {a b c : Nat} {M M' : Mem} (h : Fr (rg a b) M M') (hc : c < a ∨ b < c) : M' c = M c := funext fun _ => fr_rg h hc
theorem fr_wide {a b a' b' : Nat} {M M' : Mem} (h : Fr (rg a b) M M') (h2 : a' ≤ a ∧ b ≤ b') : Fr (rg a' b') M M' := h.mo fun c i hc => by have := rg_of hc; exact rg_no (by omega)
/-- the plan stands in cells 1 to 9 -/
def Pl (g : Nat → Int) (M : Mem) : Prop := (M 1 8 = g 0 ∧ M 1 9 = g 86) ∧ (∀ i, i < 7 → M 2 i = g (1 + i) ∧ M 3 i = g (8 + i) ∧ M 4 i = g (15 + i) ∧ M 5 i = g (22 + i)) ∧ (∀ i, i < 4 → M 6 i = g (78 + i) ∧ M 7 i = g (82 + i)) ∧ (∀ i, i < 5 → M 8 i = g (87 + i)) ∧ (∀ i, i < 49 → M 9 i = g (29 + i))
theorem Pl.fr {S : Nat → Nat → Bool} {g : Nat → Int} {M M' : Mem} (h : Pl g M) (hf : Fr S M M') (hS : ∀ c i, 1 ≤ c → c ≤ 9 → S c i = false) : Pl g M' := by
  have e : ∀ c i, 1 ≤ c → c ≤ 9 → M' c i = M c i := fun c i h1 h2 => hf c i (hS c i h1 h2)
  obtain ⟨⟨h1, h2⟩, h3, h4, h5, h6⟩ := h
  refine ⟨⟨by rw [e 1 8 (by decide) (by decide)]; exact h1, by rw [e 1 9 (by decide) (by decide)]; exact h2⟩, fun i hi => ?_, fun i hi => ?_, fun i hi => ?_, fun i hi => ?_⟩
  · rw [e 2 i (by decide) (by decide), e 3 i (by decide) (by decide), e 4 i (by decide) (by decide), e 5 i (by decide) (by decide)]; exact h3 i hi
  · rw [e 6 i (by decide) (by decide), e 7 i (by decide) (by decide)]; exact h4 i hi
  · rw [e 8 i (by decide) (by decide)]; exact h5 i hi
  · rw [e 9 i (by decide) (by decide)]; exact h6 i hi
theorem pl_rg {a b : Nat} {g : Nat → Int} {M M' : Mem} (h : Pl g M) (hf : Fr (rg a b) M M') (ha : 9 < a) : Pl g M' := h.fr hf fun c i h1 h2 => rg_no (by omega)
theorem Pl.n {g : Nat → Int} {M : Mem} (h : Pl g M) (hw : WF g) : M 1 8 = (nF g : Int) := h.1.1.trans hw.n.1
theorem Pl.fl {g : Nat → Int} {M : Mem} (h : Pl g M) {i : Nat} (hi : i < 7) : M 2 i = g (1 + i) ∧ M 3 i = g (8 + i) ∧ M 4 i = g (15 + i) ∧ M 5 i = g (22 + i) := h.2.1 i hi
theorem Pl.kd {g : Nat → Int} {M : Mem} (h : Pl g M) {i : Nat} (hi : i < 4) : M 6 i = g (78 + i) ∧ M 7 i = g (82 + i) := h.2.2.1 i hi
theorem Pl.fe {g : Nat → Int} {M : Mem} (h : Pl g M) {i : Nat} (hi : i < 5) : M 8 i = g (87 + i) := h.2.2.2.1 i hi
theorem Pl.mk {g : Nat → Int} {M : Mem} (h : Pl g M) {i : Nat} (hi : i < 49) : M 9 i = g (29 + i) := h.2.2.2.2 i hi
theorem allF_cast (g : Nat → Int) : ((allF g : Nat) : Int) = ((2 ^ nF g : Nat) : Int) - 1 := by
  have := pow_pos2 (nF g); unfold allF; omega
section CLSA
variable {G : GE} {d : Nat} {K : Int → Mem → Prop} {M : Mem}
theorem c6_sit {k f : Int} (hk : 0 ≤ k ∧ k ≤ 5) (hf : 0 ≤ f ∧ f ≤ 9) (h : K (if k = 1 ∨ k = 3 then 3 + irem f 3 else if k = 2 then 2 else if k = 4 then 1 else if k = 5 then 4 + f else 3) M) : CalI G miX6_sit d [.inl k, .inl f] M K := by
  have hr := irem3 hf.1
  refine Cal.of (by decide) (Nat.le_of_ble_eq_true rfl) rfl (gX6_sit_0 ?_)
  refine ⟨fun c => ?_, fun c => ?_, fun c => ?_, fun c => ?_, fun c => ?_, fun c => ?_⟩
  all_goals exact kv h (by (try unfold w32); (repeat' split) <;> omega)
theorem c6_rest {k f : Int} (hk : 0 ≤ k ∧ k ≤ 5) (hf : 0 ≤ f ∧ f ≤ 9) (h : K (if k = 1 then 20 + f else if k = 3 then 15 + f else if k = 4 then 20 - f else 20) M) : CalI G miX6_rest d [.inl k, .inl f] M K := by
  refine Cal.of (by decide) (Nat.le_of_ble_eq_true rfl) rfl (gX6_rest_0 ?_)
  refine ⟨fun c => ?_, fun c => ?_, fun c => ?_, fun c => ?_, fun c => ?_⟩
  all_goals exact kv h (by (try unfold w32); (repeat' split) <;> omega)
theorem c6_legs {k : Int} (h : K (if k = 2 ∨ k = 4 then 4 else if k = 3 ∨ k = 5 then 2 else 3) M) : CalI G miX6_legs d [.inl k] M K := by
  refine Cal.of (by decide) (Nat.le_of_ble_eq_true rfl) rfl (gX6_legs_0 ?_)
  refine ⟨fun c => ?_, fun c => ?_, fun c => ?_, fun c => ?_, fun c => ?_⟩
  all_goals exact kv h (by (repeat' split) <;> omega)
theorem c6_span {k f : Int} (hk : 0 ≤ k ∧ k ≤ 5) (hf : 0 ≤ f ∧ f ≤ 9) (h : K (if k = 1 ∨ k = 3 then 40 - f else if k = 2 then 40 + f else if k = 4 then 50 + f else 40) M) : CalI G miX6_span d [.inl k, .inl f] M K := by
  refine Cal.of (by decide) (Nat.le_of_ble_eq_true rfl) rfl (gX6_span_0 ?_)
  refine ⟨fun c => ?_, fun c => ?_, fun c => ?_, fun c => ?_, fun c => ?_⟩
  all_goals exact kv h (by (try unfold w32); (repeat' split) <;> omega)
theorem c6_duties {k : Int} (h : K (if k = 4 ∨ k = 5 then 2 else 3) M) : CalI G miX6_duties d [.inl k] M K := by
  refine Cal.of (by decide) (Nat.le_of_ble_eq_true rfl) rfl (gX6_duties_0 ?_)
  refine ⟨fun c => ?_, fun c => ⟨fun c2 => ?_, fun c2 => ?_⟩⟩
  all_goals exact kv h (by (repeat' split) <;> omega)
def parK (k : Int) : Int := if k = 1 ∨ k = 2 ∨ k = 5 then 0 else if k = 3 then 1 else if k = 4 then 2 else -1
theorem c6_parentOf {k : Int} (h : K (parK k) M) : CalI G miX6_parentOf d [.inl k] M K := by
  refine Cal.of (by decide) (Nat.le_of_ble_eq_true rfl) rfl (gX6_parentOf_0 ?_)
  refine ⟨fun c => ?_, fun c => ?_, fun c => ?_, fun c => ?_, fun c => ?_, fun c => ?_⟩
  all_goals exact kv h (by unfold parK; (repeat' split) <;> omega)
theorem c6_isUnder {k o : Int} (hk : 0 ≤ k ∧ k ≤ 5) (ho : 0 ≤ o ∧ o ≤ 5) (h : K (bI (undB k o)) M) : CalI G miX6_isUnder (d + 1) [.inl k, .inl o] M K := by
  refine Cal.of (by decide) (Nat.le_of_ble_eq_true rfl) rfl (gX6_isUnder_0 ?_)
  have endg : ∀ i : Int, K 0 M → OkI G miX6_isUnder (d + 1) K 4 [none, some (.inl o), some (.inl (-1)), some (.inl i)] [] M := fun i h0 =>
    gX6_isUnder_4 ⟨fun _ => h0, fun _ => ⟨fun _ => h0, fun c => absurd rfl c⟩⟩
  have step : ∀ a i : Int, 0 ≤ a → 0 ≤ i → i < 6 → (a = o → K 1 M) → (¬ a = o → OkI G miX6_isUnder (d + 1) K 4 [none, some (.inl o), some (.inl (parK a)), some (.inl (i + 1))] [] M) → OkI G miX6_isUnder (d + 1) K 4 [none, some (.inl o), some (.inl a), some (.inl i)] [] M := fun a i ha hi hi6 hy hn =>
    gX6_isUnder_4 ⟨fun c => absurd c (by omega), fun _ => ⟨fun c => absurd c (by omega), fun _ => ⟨fun c => c6_parentOf (by rw [w32_eq (by omega) (by omega)]; exact hn c), hy⟩⟩⟩
  have hk6 : k = 0 ∨ k = 1 ∨ k = 2 ∨ k = 3 ∨ k = 4 ∨ k = 5 := by omega
  have ho6 : o = 0 ∨ o = 1 ∨ o = 2 ∨ o = 3 ∨ o = 4 ∨ o = 5 := by omega
  rcases hk6 with rfl | rfl | rfl | rfl | rfl | rfl
  · refine step 0 0 (by decide) (by decide) (by decide) (fun c => ?_) (fun c => endg _ ?_)
    · subst c; exact h
    · rcases ho6 with rfl | rfl | rfl | rfl | rfl | rfl <;> first | exact absurd rfl c | exact h
  · refine step 1 0 (by decide) (by decide) (by decide) (fun c => ?_) (fun c => step 0 1 (by decide) (by decide) (by decide) (fun c2 => ?_) (fun c2 => endg _ ?_))
    · subst c; exact h
    · subst c2; exact h
    · rcases ho6 with rfl | rfl | rfl | rfl | rfl | rfl <;> first | exact absurd rfl c | exact absurd rfl c2 | exact h
  · refine step 2 0 (by decide) (by decide) (by decide) (fun c => ?_) (fun c => step 0 1 (by decide) (by decide) (by decide) (fun c2 => ?_) (fun c2 => endg _ ?_))
    · subst c; exact h
    · subst c2; exact h
    · rcases ho6 with rfl | rfl | rfl | rfl | rfl | rfl <;> first | exact absurd rfl c | exact absurd rfl c2 | exact h
  · refine step 3 0 (by decide) (by decide) (by decide) (fun c => ?_) (fun c => step 1 1 (by decide) (by decide) (by decide) (fun c2 => ?_) (fun c2 => step 0 2 (by decide) (by decide) (by decide) (fun c3 => ?_) (fun c3 => endg _ ?_)))
    · subst c; exact h
    · subst c2; exact h
    · subst c3; exact h
    · rcases ho6 with rfl | rfl | rfl | rfl | rfl | rfl <;> first | exact absurd rfl c | exact absurd rfl c2 | exact absurd rfl c3 | exact h
  · refine step 4 0 (by decide) (by decide) (by decide) (fun c => ?_) (fun c => step 2 1 (by decide) (by decide) (by decide) (fun c2 => ?_) (fun c2 => step 0 2 (by decide) (by decide) (by decide) (fun c3 => ?_) (fun c3 => endg _ ?_)))
    · subst c; exact h
    · subst c2; exact h
    · subst c3; exact h
    · rcases ho6 with rfl | rfl | rfl | rfl | rfl | rfl <;> first | exact absurd rfl c | exact absurd rfl c2 | exact absurd rfl c3 | exact h
  · refine step 5 0 (by decide) (by decide) (by decide) (fun c => ?_) (fun c => step 0 1 (by decide) (by decide) (by decide) (fun c2 => ?_) (fun c2 => endg _ ?_))
    · subst c; exact h
    · subst c2; exact h
    · rcases ho6 with rfl | rfl | rfl | rfl | rfl | rfl <;> first | exact absurd rfl c | exact absurd rfl c2 | exact h
theorem c5_sitAt {g : Nat → Int} {v : Int} {a : Nat} (hP : Pl g M) (hw : WF g) (e : v = (a : Int)) (ha : a < 4) (h : K (sitF g a) M) : CalI G miX5_sitAt (d + 1) [.inr (.inr (some 1)), .inl v] M K := by
  subst e
  have hk := hw.kd ha
  have hp := hP.kd ha
  refine Cal.of (by decide) (Nat.le_of_ble_eq_true rfl) rfl (gX5_sitAt_0 ⟨by omega, by omega, ?_⟩)
  rw [Int.toNat_natCast, hp.1, hp.2]
  exact c6_sit hk.1 hk.2 h
theorem c5_restAt {g : Nat → Int} {v : Int} {a : Nat} (hP : Pl g M) (hw : WF g) (e : v = (a : Int)) (ha : a < 4) (h : K (restF g a) M) : CalI G miX5_restAt (d + 1) [.inr (.inr (some 1)), .inl v] M K := by
  subst e
  have hk := hw.kd ha
  have hp := hP.kd ha
  refine Cal.of (by decide) (Nat.le_of_ble_eq_true rfl) rfl (gX5_restAt_0 ⟨by omega, by omega, ?_⟩)
  rw [Int.toNat_natCast, hp.1, hp.2]
  exact c6_rest hk.1 hk.2 h
theorem c5_spanOf {g : Nat → Int} {v : Int} {a : Nat} (hP : Pl g M) (hw : WF g) (e : v = (a : Int)) (ha : a < 4) (h : K (spanF g a) M) : CalI G miX5_spanOf (d + 1) [.inr (.inr (some 1)), .inl v] M K := by
  subst e
  have hk := hw.kd ha
  have hp := hP.kd ha
  refine Cal.of (by decide) (Nat.le_of_ble_eq_true rfl) rfl (gX5_spanOf_0 ⟨by omega, by omega, ?_⟩)
  rw [Int.toNat_natCast, hp.1, hp.2]
  exact c6_span hk.1 hk.2 h
theorem c5_legsOf {g : Nat → Int} {v : Int} {a : Nat} (hP : Pl g M) (e : v = (a : Int)) (ha : a < 4) (h : K (legsF g a) M) : CalI G miX5_legsOf (d + 1) [.inr (.inr (some 1)), .inl v] M K := by
  subst e
  have hp := hP.kd ha
  refine Cal.of (by decide) (Nat.le_of_ble_eq_true rfl) rfl (gX5_legsOf_0 ⟨by omega, ?_⟩)
  rw [Int.toNat_natCast, hp.1]
  exact c6_legs h
theorem c5_dutiesOf {g : Nat → Int} {v : Int} {a : Nat} (hP : Pl g M) (e : v = (a : Int)) (ha : a < 4) (h : K (dutF g a) M) : CalI G miX5_dutiesOf (d + 1) [.inr (.inr (some 1)), .inl v] M K := by
  subst e
  have hp := hP.kd ha
  refine Cal.of (by decide) (Nat.le_of_ble_eq_true rfl) rfl (gX5_dutiesOf_0 ⟨by omega, ?_⟩)
  rw [Int.toNat_natCast, hp.1]
  exact c6_duties h
theorem c5_hasFlight {v : Int} (h1 : 0 ≤ v → v < M 1 8 → K 1 M) (h0 : v < 0 ∨ M 1 8 ≤ v → K 0 M) : CalI G miX5_hasFlight d [.inr (.inr (some 1)), .inl v] M K := by
  refine Cal.of (by decide) (Nat.le_of_ble_eq_true rfl) rfl (gX5_hasFlight_0 ⟨fun c => h0 (.inl c), fun c => ⟨fun c2 => h0 (.inr c2), fun c2 => h1 c c2⟩⟩)
theorem c5_areTwo {v w : Int} (h1 : 0 ≤ v → v < M 1 8 → 0 ≤ w → w < M 1 8 → v ≠ w → K 1 M) (h0 : v < 0 ∨ M 1 8 ≤ v ∨ w < 0 ∨ M 1 8 ≤ w ∨ v = w → K 0 M) : CalI G miX5_areTwo (d + 1) [.inr (.inr (some 1)), .inl v, .inl w] M K := by
  refine Cal.of (by decide) (Nat.le_of_ble_eq_true rfl) rfl (gX5_areTwo_0 ?_)
  refine c5_hasFlight (fun a b => b1 ?_) (fun a => b0 (h0 (by omega)))
  refine c5_hasFlight (fun a' b' => b1 ⟨fun c => h0 (by omega), fun c => h1 a b a' b' c⟩) (fun a => b0 (h0 (by omega)))
theorem c5_allFlights {g : Nat → Int} (hP : Pl g M) (hw : WF g) (h : K (allF g : Int) M) : CalI G miX5_allFlights d [.inr (.inr (some 1))] M K := by
  have hn := hw.n
  have hN := pow_le7 hn.2
  refine Cal.of (by decide) (Nat.le_of_ble_eq_true rfl) rfl (gX5_allFlights_0 ?_)
  rw [hP.n hw, ishl1 _ (by omega)]
  rw [allF_cast] at h
  generalize 2 ^ nF g = N at *
  rw [w32_eq (by omega) (by omega)]; exact h
theorem c5_isSet {g : Nat → Int} {v : Int} (hP : Pl g M) (hw : WF g) (h1 : ∀ s : Nat, v = (s : Int) → s ≠ 0 → s < 2 ^ nF g → K 1 M) (h0 : v < 1 ∨ ((2 ^ nF g : Nat) : Int) ≤ v → K 0 M) : CalI G miX5_isSet (d + 1) [.inr (.inr (some 1)), .inl v] M K := by
  have hac := allF_cast g
  refine Cal.of (by decide) (Nat.le_of_ble_eq_true rfl) rfl (gX5_isSet_0 ⟨fun c => h0 (by omega), fun c => c5_allFlights hP hw ⟨fun c2 => h0 (by omega), fun c2 => ?_⟩⟩)
  exact h1 v.toNat (by omega) (by omega) (by generalize 2 ^ nF g = N at *; omega)
theorem c5_isBase {g : Nat → Int} {v : Int} {a : Nat} (hP : Pl g M) (hw : WF g) (e : v = (a : Int)) (ha : a < 4) (h1 : (g 86).toNat.testBit a = true → K 1 M) (h0 : (g 86).toNat.testBit a = false → K 0 M) : CalI G miX5_isBase d [.inr (.inr (some 1)), .inl v] M K := by
  subst e
  have hb := hw.bs
  have eb : M 1 9 = ((g 86).toNat : Int) := by rw [hP.1.2]; omega
  refine Cal.of (by decide) (Nat.le_of_ble_eq_true rfl) rfl (gX5_isBase_0 ?_)
  rw [eb]
  refine ⟨fun c => h0 ((bit0 (by omega) (by omega)).mp c), fun c => h1 ?_⟩
  rw [bit0 (by omega) (by omega)] at c
  cases hq : (g 86).toNat.testBit a
  · exact absurd hq c
  · rfl
theorem c10_isBelow {v w : Int} (h1 : 0 ≤ v → v < w → K 1 M) (h0 : v < 0 ∨ w ≤ v → K 0 M) : CalI G miX10_isBelow d [.inl v, .inl w] M K := by
  refine Cal.of (by decide) (Nat.le_of_ble_eq_true rfl) rfl (gX10_isBelow_0 ⟨fun c => h0 (.inl c), fun c => ⟨fun c2 => h0 (.inr c2), fun c2 => h1 c c2⟩⟩)
theorem c10_isHalf {v : Int} (h1 : 0 ≤ v → v ≤ 1 → K 1 M) (h0 : v < 0 ∨ 1 < v → K 0 M) : CalI G miX10_isHalf d [.inl v] M K := by
  refine Cal.of (by decide) (Nat.le_of_ble_eq_true rfl) rfl (gX10_isHalf_0 ⟨fun c => h1 (by omega) (by omega), fun c => ⟨fun c2 => h0 (by omega), fun c2 => h1 (by omega) (by omega)⟩⟩)
theorem c10_isByte {v : Int} (h1 : 0 ≤ v → v ≤ 255 → K 1 M) (h0 : v < 0 ∨ 255 < v → K 0 M) : CalI G miX10_isByte (d + 1) [.inl v] M K := by
  refine Cal.of (by decide) (Nat.le_of_ble_eq_true rfl) rfl (gX10_isByte_0 ?_)
  exact c10_isBelow (fun a b => ⟨.inr rfl, h1 a (by omega)⟩) (fun a => ⟨.inl rfl, h0 (by omega)⟩)
theorem c10_isAirport {v : Int} (h1 : 0 ≤ v → v ≤ 3 → K 1 M) (h0 : v < 0 ∨ 3 < v → K 0 M) : CalI G miX10_isAirport (d + 1) [.inl v] M K := by
  refine Cal.of (by decide) (Nat.le_of_ble_eq_true rfl) rfl (gX10_isAirport_0 ?_)
  exact c10_isBelow (fun a b => ⟨.inr rfl, h1 a (by omega)⟩) (fun a => ⟨.inl rfl, h0 (by omega)⟩)
theorem c10_areTimes {v w : Int} (h1 : 0 ≤ v → v < w → w ≤ 299 → K 1 M) (h0 : v < 0 ∨ 299 < w ∨ w ≤ v → K 0 M) : CalI G miX10_areTimes (d + 1) [.inl v, .inl w] M K := by
  refine Cal.of (by decide) (Nat.le_of_ble_eq_true rfl) rfl (gX10_areTimes_0 ?_)
  refine c10_isBelow (fun a b => b1 ?_) (fun a => b0 (h0 (by omega)))
  exact c10_isBelow (fun a' b' => b1 ⟨fun c => h0 (by omega), fun c => h1 a c (by omega)⟩) (fun a => b0 (h0 (by omega)))
end CLSA
