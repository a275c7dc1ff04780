/-! the class: calls that change the plan -/
theorem Pl.of {g : Nat → Int} {M : Mem} (h8 : M 1 8 = g 0) (h9 : M 1 9 = g 86) (h2 : ∀ i, i < 7 → M 2 i = g (1 + i)) (h3 : ∀ i, i < 7 → M 3 i = g (8 + i)) (h4 : ∀ i, i < 7 → M 4 i = g (15 + i)) (h5 : ∀ i, i < 7 → M 5 i = g (22 + i)) (h6 : ∀ i, i < 4 → M 6 i = g (78 + i)) (h7 : ∀ i, i < 4 → M 7 i = g (82 + i)) (hf : ∀ i, i < 5 → M 8 i = g (87 + i)) (hm : ∀ i, i < 49 → M 9 i = g (29 + i)) : Pl g M :=
  ⟨⟨h8, h9⟩, fun i hi => ⟨h2 i hi, h3 i hi, h4 i hi, h5 i hi⟩, fun i hi => ⟨h6 i hi, h7 i hi⟩, hf, hm⟩
theorem Pl.ver {g : Nat → Int} {M : Mem} (h : Pl g M) (x : Int) : Pl g (mup M 1 10 x) := by
  refine Pl.of ?_ ?_ (fun i hi => ?_) (fun i hi => ?_) (fun i hi => ?_) (fun i hi => ?_) (fun i hi => ?_) (fun i hi => ?_) (fun i hi => ?_) (fun i hi => ?_)
  · rw [mup_at_ne (by decide)]; exact h.1.1
  · rw [mup_at_ne (by decide)]; exact h.1.2
  · rw [mup_ne (by decide)]; exact (h.fl hi).1
  · rw [mup_ne (by decide)]; exact (h.fl hi).2.1
  · rw [mup_ne (by decide)]; exact (h.fl hi).2.2.1
  · rw [mup_ne (by decide)]; exact (h.fl hi).2.2.2
  · rw [mup_ne (by decide)]; exact (h.kd hi).1
  · rw [mup_ne (by decide)]; exact (h.kd hi).2
  · rw [mup_ne (by decide)]; exact h.fe hi
  · rw [mup_ne (by decide)]; exact h.mk hi
theorem Pl.times {g : Nat → Int} {M : Mem} {n : Nat} (h : Pl g M) (hn : n < 7) (a b : Int) : Pl (fup (fup g (22 + n) b) (15 + n) a) (mup (mup M 4 n a) 5 n b) := by
  refine Pl.of ?_ ?_ (fun i hi => ?_) (fun i hi => ?_) (fun i hi => ?_) (fun i hi => ?_) (fun i hi => ?_) (fun i hi => ?_) (fun i hi => ?_) (fun i hi => ?_)
  · rw [mup_ne (by decide), mup_ne (by decide), fup_ne _ (by omega), fup_ne _ (by omega)]; exact h.1.1
  · rw [mup_ne (by decide), mup_ne (by decide), fup_ne _ (by omega), fup_ne _ (by omega)]; exact h.1.2
  · rw [mup_ne (by decide), mup_ne (by decide), fup_ne _ (by omega), fup_ne _ (by omega)]; exact (h.fl hi).1
  · rw [mup_ne (by decide), mup_ne (by decide), fup_ne _ (by omega), fup_ne _ (by omega)]; exact (h.fl hi).2.1
  · rw [mup_ne (by decide)]
    by_cases e : i = n
    · subst e; rw [mup_at, fup_at]
    · rw [mup_at_ne e, fup_ne _ (by omega), fup_ne _ (by omega)]; exact (h.fl hi).2.2.1
  · by_cases e : i = n
    · subst e; rw [mup_at, fup_ne _ (by omega), fup_at]
    · rw [mup_at_ne e, mup_ne (by decide), fup_ne _ (by omega), fup_ne _ (by omega)]; exact (h.fl hi).2.2.2
  · rw [mup_ne (by decide), mup_ne (by decide), fup_ne _ (by omega), fup_ne _ (by omega)]; exact (h.kd hi).1
  · rw [mup_ne (by decide), mup_ne (by decide), fup_ne _ (by omega), fup_ne _ (by omega)]; exact (h.kd hi).2
  · rw [mup_ne (by decide), mup_ne (by decide), fup_ne _ (by omega), fup_ne _ (by omega)]; exact h.fe hi
  · rw [mup_ne (by decide), mup_ne (by decide), fup_ne _ (by omega), fup_ne _ (by omega)]; exact h.mk hi
theorem Pl.add {g : Nat → Int} {M : Mem} {n : Nat} (h : Pl g M) (hn : n < 7) (hg : g 0 = (n : Int)) (a b c e : Int) : Pl (fup (fup (fup (fup (fup g (1 + n) a) (8 + n) b) (15 + n) c) (22 + n) e) 0 (g 0 + 1)) (mup (mup (mup (mup (mup M 2 n a) 3 n b) 1 8 ((n : Int) + 1)) 4 n c) 5 n e) := by
  refine Pl.of ?_ ?_ (fun i hi => ?_) (fun i hi => ?_) (fun i hi => ?_) (fun i hi => ?_) (fun i hi => ?_) (fun i hi => ?_) (fun i hi => ?_) (fun i hi => ?_)
  · rw [mup_ne (by decide), mup_ne (by decide), mup_at, fup_at, hg]
  · rw [mup_ne (by decide), mup_ne (by decide), mup_at_ne (by decide), mup_ne (by decide), mup_ne (by decide), fup_ne _ (by omega), fup_ne _ (by omega), fup_ne _ (by omega), fup_ne _ (by omega), fup_ne _ (by omega)]; exact h.1.2
  · rw [mup_ne (by decide), mup_ne (by decide), mup_ne (by decide), mup_ne (by decide), fup_ne _ (by omega), fup_ne _ (by omega), fup_ne _ (by omega), fup_ne _ (by omega)]
    by_cases q : i = n
    · subst q; rw [mup_at, fup_at]
    · rw [mup_at_ne q, fup_ne _ (by omega)]; exact (h.fl hi).1
  · rw [mup_ne (by decide), mup_ne (by decide), mup_ne (by decide), fup_ne _ (by omega), fup_ne _ (by omega), fup_ne _ (by omega)]
    by_cases q : i = n
    · subst q; rw [mup_at, fup_at]
    · rw [mup_at_ne q, mup_ne (by decide), fup_ne _ (by omega), fup_ne _ (by omega)]; exact (h.fl hi).2.1
  · rw [mup_ne (by decide), fup_ne _ (by omega), fup_ne _ (by omega)]
    by_cases q : i = n
    · subst q; rw [mup_at, fup_at]
    · rw [mup_at_ne q, mup_ne (by decide), mup_ne (by decide), mup_ne (by decide), fup_ne _ (by omega), fup_ne _ (by omega), fup_ne _ (by omega)]; exact (h.fl hi).2.2.1
  · rw [fup_ne _ (by omega)]
    by_cases q : i = n
    · subst q; rw [mup_at, fup_at]
    · rw [mup_at_ne q, mup_ne (by decide), mup_ne (by decide), mup_ne (by decide), mup_ne (by decide), fup_ne _ (by omega), fup_ne _ (by omega), fup_ne _ (by omega), fup_ne _ (by omega)]; exact (h.fl hi).2.2.2
  · rw [mup_ne (by decide), mup_ne (by decide), mup_ne (by decide), mup_ne (by decide), mup_ne (by decide), fup_ne _ (by omega), fup_ne _ (by omega), fup_ne _ (by omega), fup_ne _ (by omega), fup_ne _ (by omega)]; exact (h.kd hi).1
  · rw [mup_ne (by decide), mup_ne (by decide), mup_ne (by decide), mup_ne (by decide), mup_ne (by decide), fup_ne _ (by omega), fup_ne _ (by omega), fup_ne _ (by omega), fup_ne _ (by omega), fup_ne _ (by omega)]; exact (h.kd hi).2
  · rw [mup_ne (by decide), mup_ne (by decide), mup_ne (by decide), mup_ne (by decide), mup_ne (by decide), fup_ne _ (by omega), fup_ne _ (by omega), fup_ne _ (by omega), fup_ne _ (by omega), fup_ne _ (by omega)]; exact h.fe hi
  · rw [mup_ne (by decide), mup_ne (by decide), mup_ne (by decide), mup_ne (by decide), mup_ne (by decide), fup_ne _ (by omega), fup_ne _ (by omega), fup_ne _ (by omega), fup_ne _ (by omega), fup_ne _ (by omega)]; exact h.mk hi
theorem Pl.kinds {g : Nat → Int} {M : Mem} {n : Nat} (h : Pl g M) (hn : n < 4) (a b : Int) : Pl (fup (fup g (78 + n) a) (82 + n) b) (mup (mup M 6 n a) 7 n b) := by
  refine Pl.of ?_ ?_ (fun i hi => ?_) (fun i hi => ?_) (fun i hi => ?_) (fun i hi => ?_) (fun i hi => ?_) (fun i hi => ?_) (fun i hi => ?_) (fun i hi => ?_)
  · rw [mup_ne (by decide), mup_ne (by decide), fup_ne _ (by omega), fup_ne _ (by omega)]; exact h.1.1
  · rw [mup_ne (by decide), mup_ne (by decide), fup_ne _ (by omega), fup_ne _ (by omega)]; exact h.1.2
  · rw [mup_ne (by decide), mup_ne (by decide), fup_ne _ (by omega), fup_ne _ (by omega)]; exact (h.fl hi).1
  · rw [mup_ne (by decide), mup_ne (by decide), fup_ne _ (by omega), fup_ne _ (by omega)]; exact (h.fl hi).2.1
  · rw [mup_ne (by decide), mup_ne (by decide), fup_ne _ (by omega), fup_ne _ (by omega)]; exact (h.fl hi).2.2.1
  · rw [mup_ne (by decide), mup_ne (by decide), fup_ne _ (by omega), fup_ne _ (by omega)]; exact (h.fl hi).2.2.2
  · rw [mup_ne (by decide), fup_ne _ (by omega)]
    by_cases q : i = n
    · subst q; rw [mup_at, fup_at]
    · rw [mup_at_ne q, fup_ne _ (by omega)]; exact (h.kd hi).1
  · by_cases q : i = n
    · subst q; rw [mup_at, fup_at]
    · rw [mup_at_ne q, mup_ne (by decide), fup_ne _ (by omega), fup_ne _ (by omega)]; exact (h.kd hi).2
  · rw [mup_ne (by decide), mup_ne (by decide), fup_ne _ (by omega), fup_ne _ (by omega)]; exact h.fe hi
  · rw [mup_ne (by decide), mup_ne (by decide), fup_ne _ (by omega), fup_ne _ (by omega)]; exact h.mk hi
theorem Pl.bases {g : Nat → Int} {M : Mem} (h : Pl g M) (a : Int) : Pl (fup g 86 a) (mup M 1 9 a) := by
  refine Pl.of ?_ ?_ (fun i hi => ?_) (fun i hi => ?_) (fun i hi => ?_) (fun i hi => ?_) (fun i hi => ?_) (fun i hi => ?_) (fun i hi => ?_) (fun i hi => ?_)
  · rw [mup_at_ne (by decide), fup_ne _ (by omega)]; exact h.1.1
  · rw [mup_at, fup_at]
  · rw [mup_ne (by decide), fup_ne _ (by omega)]; exact (h.fl hi).1
  · rw [mup_ne (by decide), fup_ne _ (by omega)]; exact (h.fl hi).2.1
  · rw [mup_ne (by decide), fup_ne _ (by omega)]; exact (h.fl hi).2.2.1
  · rw [mup_ne (by decide), fup_ne _ (by omega)]; exact (h.fl hi).2.2.2
  · rw [mup_ne (by decide), fup_ne _ (by omega)]; exact (h.kd hi).1
  · rw [mup_ne (by decide), fup_ne _ (by omega)]; exact (h.kd hi).2
  · rw [mup_ne (by decide), fup_ne _ (by omega)]; exact h.fe hi
  · rw [mup_ne (by decide), fup_ne _ (by omega)]; exact h.mk hi
theorem Pl.fees {g : Nat → Int} {M : Mem} {n : Nat} (h : Pl g M) (hn : n < 5) (a : Int) : Pl (fup g (87 + n) a) (mup M 8 n a) := by
  refine Pl.of ?_ ?_ (fun i hi => ?_) (fun i hi => ?_) (fun i hi => ?_) (fun i hi => ?_) (fun i hi => ?_) (fun i hi => ?_) (fun i hi => ?_) (fun i hi => ?_)
  · rw [mup_ne (by decide), fup_ne _ (by omega)]; exact h.1.1
  · rw [mup_ne (by decide), fup_ne _ (by omega)]; exact h.1.2
  · rw [mup_ne (by decide), fup_ne _ (by omega)]; exact (h.fl hi).1
  · rw [mup_ne (by decide), fup_ne _ (by omega)]; exact (h.fl hi).2.1
  · rw [mup_ne (by decide), fup_ne _ (by omega)]; exact (h.fl hi).2.2.1
  · rw [mup_ne (by decide), fup_ne _ (by omega)]; exact (h.fl hi).2.2.2
  · rw [mup_ne (by decide), fup_ne _ (by omega)]; exact (h.kd hi).1
  · rw [mup_ne (by decide), fup_ne _ (by omega)]; exact (h.kd hi).2
  · by_cases q : i = n
    · subst q; rw [mup_at, fup_at]
    · rw [mup_at_ne q, fup_ne _ (by omega)]; exact h.fe hi
  · rw [mup_ne (by decide), fup_ne _ (by omega)]; exact h.mk hi
theorem Pl.mark {g : Nat → Int} {M : Mem} {n : Nat} (h : Pl g M) (hn : n < 49) (a : Int) : Pl (fup g (29 + n) a) (mup M 9 n a) := by
  refine Pl.of ?_ ?_ (fun i hi => ?_) (fun i hi => ?_) (fun i hi => ?_) (fun i hi => ?_) (fun i hi => ?_) (fun i hi => ?_) (fun i hi => ?_) (fun i hi => ?_)
  · rw [mup_ne (by decide), fup_ne _ (by omega)]; exact h.1.1
  · rw [mup_ne (by decide), fup_ne _ (by omega)]; exact h.1.2
  · rw [mup_ne (by decide), fup_ne _ (by omega)]; exact (h.fl hi).1
  · rw [mup_ne (by decide), fup_ne _ (by omega)]; exact (h.fl hi).2.1
  · rw [mup_ne (by decide), fup_ne _ (by omega)]; exact (h.fl hi).2.2.1
  · rw [mup_ne (by decide), fup_ne _ (by omega)]; exact (h.fl hi).2.2.2
  · rw [mup_ne (by decide), fup_ne _ (by omega)]; exact (h.kd hi).1
  · rw [mup_ne (by decide), fup_ne _ (by omega)]; exact (h.kd hi).2
  · rw [mup_ne (by decide), fup_ne _ (by omega)]; exact h.fe hi
  · by_cases q : i = n
    · subst q; rw [mup_at, fup_at]
    · rw [mup_at_ne q, fup_ne _ (by omega)]; exact h.mk hi
/-- the version is small -/
def Vs (M : Mem) : Prop := 0 ≤ M 1 10 ∧ M 1 10 ≤ 2000000000
/-- a change of the plan: to g, the version one more -/
def Chg (g : Nat → Int) (M M' : Mem) : Prop := Fr (rg 1 9) M M' ∧ Pl g M' ∧ M' 1 10 = M 1 10 + 1
/-- the plan is g, changed or as it was -/
def Chs (g g' : Nat → Int) (M M' : Mem) : Prop := Chg g' M M' ∨ (M' = M ∧ g' = g)
section CLSB
variable {G : GE} {d : Nat} {K : Int → Mem → Prop} {M : Mem}
theorem c5_addFlight {g : Nat → Int} {a b c e : Int} (hP : Pl g M) (hw : WF g) (hv : Vs M) (hn : nF g < 7) (h : ∀ M', Chg (fup (fup (fup (fup (fup g (1 + nF g) a) (8 + nF g) b) (15 + nF g) c) (22 + nF g) e) 0 (g 0 + 1)) M M' → K (g 0) M') : CalI G miX5_addFlight (d + 1) [.inr (.inr (some 1)), .inl a, .inl b, .inl c, .inl e] M K := by
  have h8 := hP.n hw
  have hg0 := hw.n.1
  have key := hP.add hn hg0 a b c e
  generalize nF g = n at *
  refine Cal.of (by decide) (Nat.le_of_ble_eq_true rfl) rfl (gX5_addFlight_0 ?_)
  rw [h8, Int.toNat_natCast]
  refine ⟨by omega, by omega, ?_⟩
  rw [mup_ne (show (1 : Nat) ≠ 3 by decide), mup_ne (show (1 : Nat) ≠ 2 by decide), h8, w32n (by omega)]
  refine Cal.of (by decide) (Nat.le_of_ble_eq_true rfl) rfl (gX5_setTimes_0 ⟨by omega, by omega, ?_⟩)
  rw [Int.toNat_natCast]
  have e10 : (mup (mup (mup (mup (mup M 2 n a) 3 n b) 1 8 ((n : Int) + 1)) 4 n c) 5 n e) 1 10 = M 1 10 := by
    rw [mup_ne (by decide), mup_ne (by decide), mup_at_ne (by decide), mup_ne (by decide), mup_ne (by decide)]
  rw [show ((n + 1 : Nat) : Int) = (n : Int) + 1 by omega, e10, w32_eq (by unfold Vs at hv; omega) (by unfold Vs at hv; omega)]
  refine kv (h _ ⟨?_, key.ver (M 1 10 + 1), mup_at _ _ _ _⟩) hg0
  exact (((((Fr.up1 (rg_yes (by decide))).up (rg_yes (by decide))).up (rg_yes (by decide))).up (rg_yes (by decide))).up (rg_yes (by decide))).up (rg_yes (by decide))
theorem c10_fly {g : Nat → Int} {a b c e : Int} (hP : Pl g M) (hw : WF g) (hv : Vs M) (h : ∀ M', Chs g (flyN g a b c e) M M' → K (flyR g a b c e) M') : CalI G miX10_fly (d + 2) [.inr (.inr (some 0)), .inl a, .inl b, .inl c, .inl e] M K := by
  have hn := hw.n
  have h8 := hP.n hw
  have hbad : (a < 0 ∨ 3 < a ∨ b < 0 ∨ 3 < b ∨ a = b ∨ c < 0 ∨ 299 < e ∨ e ≤ c) → K (-2) M := fun hb => by
    simp only [flyR, flyN, if_pos hb] at h; exact h M (.inr ⟨rfl, rfl⟩)
  refine Cal.of (by decide) (Nat.le_of_ble_eq_true rfl) rfl (gX10_fly_0 ?_)
  refine c10_isAirport (fun a1 a2 => b1 ?_) (fun q => b0 (hbad (by omega)))
  refine c10_isAirport (fun a3 a4 => b1 ⟨fun q => hbad (by omega), fun q0 => ?_⟩) (fun q => b0 (hbad (by omega)))
  refine c10_areTimes (fun a5 a6 a7 => n1 ?_) (fun q => n0 (hbad (by omega)))
  have hb : ¬ (a < 0 ∨ 3 < a ∨ b < 0 ∨ 3 < b ∨ a = b ∨ c < 0 ∨ 299 < e ∨ e ≤ c) := by omega
  simp only [flyR, flyN, if_neg hb] at h
  refine ⟨fun c7 => ?_, fun c7 => ?_⟩
  · have q7 : ¬ g 0 = 7 := by omega
    simp only [if_neg q7] at h
    rw [show (1 + g 0).toNat = 1 + nF g by omega, show (8 + g 0).toNat = 8 + nF g by omega, show (15 + g 0).toNat = 15 + nF g by omega, show (22 + g 0).toNat = 22 + nF g by omega] at h
    exact c5_addFlight hP hw hv (by omega) (fun M' hM' => h M' (.inl hM'))
  · have q7 : g 0 = 7 := by omega
    simp only [if_pos q7] at h; exact h M (.inr ⟨rfl, rfl⟩)
theorem c10_shift {g : Nat → Int} {v a b : Int} (hP : Pl g M) (hw : WF g) (hv : Vs M) (h : ∀ M', Chs g (shiN g v a b) M M' → K (shiR g v a b) M') : CalI G miX10_shift (d + 2) [.inr (.inr (some 0)), .inl v, .inl a, .inl b] M K := by
  have hn := hw.n
  have h8 := hP.1.1
  have bad : (v < 0 ∨ g 0 ≤ v ∨ a < 0 ∨ 299 < b ∨ b ≤ a) → K (-2) M := fun hb => by
    simp only [shiR, shiN, if_pos hb] at h; exact h M (.inr ⟨rfl, rfl⟩)
  refine Cal.of (by decide) (Nat.le_of_ble_eq_true rfl) rfl (gX10_shift_0 ?_)
  refine c5_hasFlight (fun p q => b1 ?_) (fun p => b0 (bad (by omega)))
  refine c10_areTimes (fun p2 q2 r2 => n1 ⟨by omega, ?_⟩) (fun p2 => n0 (bad (by omega)))
  have hb : ¬ (v < 0 ∨ g 0 ≤ v ∨ a < 0 ∨ 299 < b ∨ b ≤ a) := by omega
  simp only [shiR, shiN, if_neg hb] at h
  have key := hP.times (n := v.toNat) (by omega) a b
  rw [(hP.fl (i := v.toNat) (by omega)).2.2.1]
  refine Cal.of (by decide) (Nat.le_of_ble_eq_true rfl) rfl (gX5_setTimes_0 ⟨by omega, by omega, ?_⟩)
  have e10 : (mup (mup M 4 v.toNat a) 5 v.toNat b) 1 10 = M 1 10 := by rw [mup_ne (by decide), mup_ne (by decide)]
  rw [e10, w32_eq (by unfold Vs at hv; omega) (by unfold Vs at hv; omega)]
  exact h _ (.inl ⟨((Fr.up1 (rg_yes (by decide))).up (rg_yes (by decide))).up (rg_yes (by decide)), key.ver _, mup_at _ _ _ _⟩)
theorem c10_kind {g : Nat → Int} {a k f : Int} (hP : Pl g M) (hw : WF g) (hv : Vs M) (h : ∀ M', Chs g (kindN g a k f) M M' → K (kindR g a k f) M') : CalI G miX10_kind (d + 2) [.inr (.inr (some 0)), .inl a, .inl k, .inl f] M K := by
  have bad : (a < 0 ∨ 3 < a ∨ k < 0 ∨ 5 < k ∨ f < 0 ∨ 9 < f) → K (-2) M := fun hb => by
    simp only [kindR, kindN, if_pos hb] at h; exact h M (.inr ⟨rfl, rfl⟩)
  refine Cal.of (by decide) (Nat.le_of_ble_eq_true rfl) rfl (gX10_kind_0 ?_)
  refine c10_isAirport (fun p q => b1 ?_) (fun p => b0 (bad (by omega)))
  refine c10_isBelow (fun p2 q2 => b1 ?_) (fun p2 => b0 (bad (by omega)))
  refine c10_isBelow (fun p3 q3 => n1 ⟨by omega, by omega, ?_⟩) (fun p3 => n0 (bad (by omega)))
  have hb : ¬ (a < 0 ∨ 3 < a ∨ k < 0 ∨ 5 < k ∨ f < 0 ∨ 9 < f) := by omega
  simp only [kindR, kindN, if_neg hb] at h
  have hk := hw.kd (a := a.toNat) (by omega)
  have hp := hP.kd (i := a.toNat) (by omega)
  have key := hP.kinds (n := a.toNat) (by omega) k f
  rw [hp.1, hp.2, w32_eq (x := 10 * g (78 + a.toNat) + g (82 + a.toNat)) (by omega) (by omega)]
  refine Cal.of (by decide) (Nat.le_of_ble_eq_true rfl) rfl (gX5_setKind_0 ⟨by omega, by omega, ?_⟩)
  have e10 : (mup (mup M 6 a.toNat k) 7 a.toNat f) 1 10 = M 1 10 := by rw [mup_ne (by decide), mup_ne (by decide)]
  rw [e10, w32_eq (by unfold Vs at hv; omega) (by unfold Vs at hv; omega)]
  exact h _ (.inl ⟨((Fr.up1 (rg_yes (by decide))).up (rg_yes (by decide))).up (rg_yes (by decide)), key.ver _, mup_at _ _ _ _⟩)
theorem c10_told {g : Nat → Int} {a w : Int} (hP : Pl g M) (hw : WF g) (h : K (toldR g a w) M) : CalI G miX10_told (d + 2) [.inr (.inr (some 0)), .inl a, .inl w] M K := by
  refine Cal.of (by decide) (Nat.le_of_ble_eq_true rfl) rfl (gX10_told_0 ?_)
  refine c10_isAirport (fun p q => n1 ?_) (fun p => n0 (kv h (by unfold toldR; rw [if_pos (by omega)])))
  unfold toldR at h
  rw [if_neg (by omega)] at h
  have hp := hP.kd (i := a.toNat) (by omega)
  rw [hp.1, hp.2]
  refine ⟨fun c => ⟨by omega, ?_⟩, fun c => ⟨by omega, ?_⟩, fun c => ?_, fun c => ?_, fun c => ?_, fun c => ?_, fun c => ?_, fun c => ?_⟩
  · subst c; exact h
  · subst c; exact h
  · subst c; exact c5_sitAt (a := a.toNat) hP hw (by omega) (by omega) h
  · subst c; exact c5_restAt (a := a.toNat) hP hw (by omega) (by omega) h
  · subst c; exact c5_legsOf (a := a.toNat) hP (by omega) (by omega) h
  · subst c; exact c5_spanOf (a := a.toNat) hP hw (by omega) (by omega) h
  · subst c; exact c5_dutiesOf (a := a.toNat) hP (by omega) (by omega) h
  · exact kv h (by (repeat' split) <;> omega)
theorem c10_taken {g : Nat → Int} {a k : Int} (hP : Pl g M) (hw : WF g) (h : K (takR g a k) M) : CalI G miX10_taken (d + 2) [.inr (.inr (some 0)), .inl a, .inl k] M K := by
  refine Cal.of (by decide) (Nat.le_of_ble_eq_true rfl) rfl (gX10_taken_0 ?_)
  refine c10_isAirport (fun p q => b1 ?_) (fun p => b0 (kv h (by unfold takR; rw [if_pos (by omega)])))
  refine c10_isBelow (fun p2 q2 => n1 ⟨by omega, ?_⟩) (fun p2 => n0 (kv h (by unfold takR; rw [if_pos (by omega)])))
  unfold takR at h
  rw [if_neg (by omega)] at h
  have hk := hw.kd (a := a.toNat) (by omega)
  rw [(hP.kd (i := a.toNat) (by omega)).1]
  refine c6_isUnder hk.1 (by omega) ?_
  cases hu : undB (g (78 + a.toNat)) k with
  | false => rw [hu] at h; exact b0 h
  | true => rw [hu] at h; exact b1 (c5_spanOf (a := a.toNat) hP hw (by omega) (by omega) h)
theorem c10_base {g : Nat → Int} {b : Int} (hP : Pl g M) (hv : Vs M) (h : ∀ M', Chs g (baseN g b) M M' → K (baseR g b) M') : CalI G miX10_base (d + 1) [.inr (.inr (some 0)), .inl b] M K := by
  refine Cal.of (by decide) (Nat.le_of_ble_eq_true rfl) rfl (gX10_base_0 ?_)
  refine c10_isBelow (fun p q => n1 ?_) (fun p => n0 ?_)
  · have hb : ¬ (b < 0 ∨ 15 < b) := by omega
    simp only [baseR, baseN, if_neg hb] at h
    rw [hP.1.2]
    have key := hP.bases b
    refine Cal.of (by decide) (Nat.le_of_ble_eq_true rfl) rfl (gX5_setBases_0 ?_)
    have e10 : (mup M 1 9 b) 1 10 = M 1 10 := by rw [mup_at_ne (by decide)]
    rw [e10, w32_eq (by unfold Vs at hv; omega) (by unfold Vs at hv; omega)]
    exact h _ (.inl ⟨(Fr.up1 (rg_yes (by decide))).up (rg_yes (by decide)), key.ver _, mup_at _ _ _ _⟩)
  · have hb : b < 0 ∨ 15 < b := by omega
    simp only [baseR, baseN, if_pos hb] at h; exact h M (.inr ⟨rfl, rfl⟩)
theorem c10_fee {g : Nat → Int} {w v : Int} (hP : Pl g M) (hv : Vs M) (h : ∀ M', Chs g (feeN g w v) M M' → K (feeR g w v) M') : CalI G miX10_fee (d + 1) [.inr (.inr (some 0)), .inl w, .inl v] M K := by
  have bad : (w < 0 ∨ 4 < w ∨ v < 0 ∨ feeTop w < v) → K (-2) M := fun hb => by
    simp only [feeR, feeN, if_pos hb] at h; exact h M (.inr ⟨rfl, rfl⟩)
  refine Cal.of (by decide) (Nat.le_of_ble_eq_true rfl) rfl (gX10_fee_0 ?_)
  refine c10_isBelow (fun p q => b1 ⟨fun c => bad (by omega), fun c => ⟨by omega, ?_⟩⟩) (fun p => b0 (bad (by omega)))
  have ht : feeT w.toNat = feeTop w := by
    have hw5 : w = 0 ∨ w = 1 ∨ w = 2 ∨ w = 3 ∨ w = 4 := by omega
    rcases hw5 with rfl | rfl | rfl | rfl | rfl <;> rfl
  rw [ht]
  refine ⟨fun c2 => ⟨by omega, ?_⟩, fun c2 => bad (by omega)⟩
  have hb : ¬ (w < 0 ∨ 4 < w ∨ v < 0 ∨ feeTop w < v) := by omega
  simp only [feeR, feeN, if_neg hb] at h
  have key := hP.fees (n := w.toNat) (by omega) v
  rw [hP.fe (i := w.toNat) (by omega)]
  refine Cal.of (by decide) (Nat.le_of_ble_eq_true rfl) rfl (gX5_setFee_0 ⟨by omega, ?_⟩)
  have e10 : (mup M 8 w.toNat v) 1 10 = M 1 10 := by rw [mup_ne (by decide)]
  rw [e10, w32_eq (by unfold Vs at hv; omega) (by unfold Vs at hv; omega)]
  exact h _ (.inl ⟨(Fr.up1 (rg_yes (by decide))).up (rg_yes (by decide)), key.ver _, mup_at _ _ _ _⟩)
theorem c10_mark {g : Nat → Int} {v w m : Int} (hP : Pl g M) (hw : WF g) (hv : Vs M) (h : ∀ M', Chs g (markN g v w m) M M' → K (markR g v w m) M') : CalI G miX10_mark (d + 2) [.inr (.inr (some 0)), .inl v, .inl w, .inl m] M K := by
  have hn := hw.n
  have h8 := hP.1.1
  have bad : (v < 0 ∨ g 0 ≤ v ∨ w < 0 ∨ g 0 ≤ w ∨ v = w ∨ m < 0 ∨ 2 < m) → K (-2) M := fun hb => by
    simp only [markR, markN, if_pos hb] at h; exact h M (.inr ⟨rfl, rfl⟩)
  refine Cal.of (by decide) (Nat.le_of_ble_eq_true rfl) rfl (gX10_mark_0 ?_)
  refine c5_areTwo (fun a b a' b' c => b1 ⟨fun q => bad (by omega), fun q => ⟨fun q2 => ⟨by omega, ?_⟩, fun q2 => bad (by omega)⟩⟩) (fun a => b0 (bad (by omega)))
  have hb : ¬ (v < 0 ∨ g 0 ≤ v ∨ w < 0 ∨ g 0 ≤ w ∨ v = w ∨ m < 0 ∨ 2 < m) := by omega
  simp only [markR, markN, if_neg hb] at h
  have ei : ((v * 7) + w).toNat = 7 * v.toNat + w.toNat := by omega
  have key := hP.mark (n := 7 * v.toNat + w.toNat) (by omega) m
  rw [ei, hP.mk (i := 7 * v.toNat + w.toNat) (by omega)]
  refine Cal.of (by decide) (Nat.le_of_ble_eq_true rfl) rfl (gX5_setMark_0 ⟨by omega, ?_⟩)
  have e10 : (mup M 9 (7 * v.toNat + w.toNat) m) 1 10 = M 1 10 := by rw [mup_ne (by decide)]
  rw [ei, e10, w32_eq (by unfold Vs at hv; omega) (by unfold Vs at hv; omega)]
  exact h _ (.inl ⟨(Fr.up1 (rg_yes (by decide))).up (rg_yes (by decide)), key.ver _, mup_at _ _ _ _⟩)
theorem c5_dropLatest {g : Nat → Int} (hP : Pl g M) (hw : WF g) (hv : Vs M) (hn0 : nF g ≠ 0) (h : ∀ M', Chg (drT g (nF g - 1) 7) M M' → K ((nF g - 1 : Nat) : Int) M') : CalI G miX5_dropLatest d [.inr (.inr (some 1))] M K := by
  have hn := hw.n
  have h8 := hP.n hw
  have hlt : nF g - 1 < 7 := by omega
  refine Cal.of (by decide) (Nat.le_of_ble_eq_true rfl) rfl (gX5_dropLatest_0 ?_)
  rw [h8, w32_eq (by omega) (by omega), show ((nF g : Int) - 1) = ((nF g - 1 : Nat) : Int) by omega]
  have e0 : ∀ i, i ≠ 0 → drT g (nF g - 1) 0 i = g i := fun i h0 => fup_ne _ h0
  have lo := drT_lo g hlt 7 (Nat.le_refl _)
  have z0 := drT_0 g (nF g - 1) 7
  generalize nF g - 1 = n at *
  have f1 : ∀ q : Nat → Int, Fr (rg 1 9) M (mset (mup M 1 8 (n : Int)) 9 q) := fun q => (Fr.up1 (rg_yes (by decide))).ms (fun i => rg_yes (by decide))
  have key := dn (P := fun k => ∀ q : Nat → Int, (∀ i, i < 49 → q i = drT g n k (29 + i)) → OkI G miX5_dropLatest d K 12 [some (.inr (.inr (some 1))), some (.inl (k : Int))] [] (mset (mup M 1 8 (n : Int)) 9 q)) 7 ?_ (fun k hk ih => ?_) 0 (by omega) (M 9) (fun i hi => by rw [e0 _ (by omega)]; exact hP.mk hi)
  · have e9 : mset (mup M 1 8 (n : Int)) 9 (M 9) = mup M 1 8 (n : Int) := by
      have := mset_self (mup M 1 8 (n : Int)) 9
      rw [mup_ne (show (9 : Nat) ≠ 1 by decide)] at this; exact this
    rw [e9] at key; exact key
  · intro q hq
    refine gX5_dropLatest_12 ⟨fun _ => ?_, fun c => absurd c (by decide)⟩
    rw [mup_at_ne (show (8 : Nat) ≠ 10 by decide), mset_ne _ (show (1 : Nat) ≠ 9 by decide), mup_at, mup_at_ne (show (10 : Nat) ≠ 8 by decide), w32_eq (by unfold Vs at hv; omega) (by unfold Vs at hv; omega)]
    refine h _ ⟨(f1 q).up (rg_yes (by decide)), Pl.ver ?_ _, mup_at _ _ _ _⟩
    refine Pl.of ?_ ?_ (fun i hi => ?_) (fun i hi => ?_) (fun i hi => ?_) (fun i hi => ?_) (fun i hi => ?_) (fun i hi => ?_) (fun i hi => ?_) (fun i hi => ?_)
    · rw [mset_ne _ (by decide), mup_at, z0]
    · rw [mset_ne _ (by decide), mup_at_ne (by decide), lo _ (by omega) (by omega)]; exact hP.1.2
    · rw [mset_ne _ (by decide), mup_ne (by decide), lo _ (by omega) (by omega)]; exact (hP.fl hi).1
    · rw [mset_ne _ (by decide), mup_ne (by decide), lo _ (by omega) (by omega)]; exact (hP.fl hi).2.1
    · rw [mset_ne _ (by decide), mup_ne (by decide), lo _ (by omega) (by omega)]; exact (hP.fl hi).2.2.1
    · rw [mset_ne _ (by decide), mup_ne (by decide), lo _ (by omega) (by omega)]; exact (hP.fl hi).2.2.2
    · rw [mset_ne _ (by decide), mup_ne (by decide), lo _ (by omega) (by omega)]; exact (hP.kd hi).1
    · rw [mset_ne _ (by decide), mup_ne (by decide), lo _ (by omega) (by omega)]; exact (hP.kd hi).2
    · rw [mset_ne _ (by decide), mup_ne (by decide), lo _ (by omega) (by omega)]; exact hP.fe hi
    · rw [mset_at]; exact hq i hi
  · intro q hq
    refine gX5_dropLatest_12 ⟨fun c => absurd c (by omega), fun _ => ?_⟩
    have e18 : (mset (mup M 1 8 (n : Int)) 9 q) 1 8 = (n : Int) := by rw [mset_ne _ (by decide), mup_at]
    rw [e18, show (((n : Int) * 7) + (k : Int)).toNat = 7 * n + k by omega, mup_ne (show (1 : Nat) ≠ 9 by decide), e18, show (((k : Int) * 7) + (n : Int)).toNat = 7 * k + n by omega, w32n (by omega)]
    refine ⟨by omega, by omega, ?_⟩
    rw [mup_mset, mup_mset (mset (mup M 1 8 (n : Int)) 9 q), mset_at, mset_mset, mset_mset, mset_at]
    refine ih _ (fun i hi => ?_)
    rw [drT]
    by_cases c1 : i = 7 * k + n
    · subst c1
      rw [fup_at]
      by_cases c2 : k = n
      · subst c2; rw [fup_at]
      · rw [fup_ne _ (by omega), fup_at]
    · rw [fup_ne _ c1]
      by_cases c2 : i = 7 * n + k
      · subst c2; rw [fup_at, fup_at]
      · rw [fup_ne _ c2, fup_ne _ (by omega), fup_ne _ (by omega)]; exact hq i hi
theorem c10_drop {g : Nat → Int} (hP : Pl g M) (hw : WF g) (hv : Vs M) (h : ∀ M', Chs g (dropN g) M M' → K (dropR g) M') : CalI G miX10_drop (d + 1) [.inr (.inr (some 0))] M K := by
  have hn := hw.n
  have h8 := hP.1.1
  refine Cal.of (by decide) (Nat.le_of_ble_eq_true rfl) rfl (gX10_drop_0 ⟨fun c => ?_, fun c => ?_⟩)
  · have hz : ¬ g 0 = 0 := by omega
    simp only [dropR, dropN, if_neg hz] at h
    refine c5_dropLatest hP hw hv (by omega) (fun M' hM' => ?_)
    rw [show ((nF g - 1 : Nat) : Int) = g 0 - 1 by omega]
    exact h M' (.inl hM')
  · have hz : g 0 = 0 := by omega
    simp only [dropR, dropN, if_pos hz] at h; exact h M (.inr ⟨rfl, rfl⟩)
end CLSB
