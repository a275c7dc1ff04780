/-! sums of sums: one wrap; an index that is a wrapped sum -/
section FLAT
variable {G : GE} {y : MI} {d mc ms : Nat} {Q : Option MV → Lay → Mem → Prop} {pc : Nat} {L : List (Option MV)} {S : List MV} {lay : Lay} {M : Mem} {kc ks : Nat}
theorem w32_al (a b : Int) : w32 (w32 a + b) = w32 (a + b) := by unfold w32; omega
theorem w32_ar (a b : Int) : w32 (a + w32 b) = w32 (a + b) := by unfold w32; omega
theorem w32_sl (a b : Int) : w32 (w32 a - b) = w32 (a - b) := by unfold w32; omega
theorem w32_sr (a b : Int) : w32 (a - w32 b) = w32 (a - b) := by unfold w32; omega
theorem w32_dv (a : Int) : ∃ k, w32 a = a + 4294967296 * k := ⟨-((a + 2147483648) / 4294967296), by unfold w32; omega⟩
theorem w64_dv (a : Int) : ∃ k, w64 a = a + 18446744073709551616 * k := ⟨-((a + 9223372036854775808) / 18446744073709551616), by unfold w64; omega⟩
theorem w32_ml (a b : Int) : w32 (w32 a * b) = w32 (a * b) := by
  obtain ⟨k, hk⟩ := w32_dv a
  rw [hk, Int.add_mul, Int.mul_assoc]
  generalize a * b = u; generalize k * b = v
  unfold w32; omega
theorem w32_mr (a b : Int) : w32 (a * w32 b) = w32 (a * b) := by rw [Int.mul_comm, w32_ml, Int.mul_comm]
theorem w64_al (a b : Int) : w64 (w64 a + b) = w64 (a + b) := by unfold w64; omega
theorem w64_ar (a b : Int) : w64 (a + w64 b) = w64 (a + b) := by unfold w64; omega
theorem w64_sl (a b : Int) : w64 (w64 a - b) = w64 (a - b) := by unfold w64; omega
theorem w64_sr (a b : Int) : w64 (a - w64 b) = w64 (a - b) := by unfold w64; omega
theorem w64_ml (a b : Int) : w64 (w64 a * b) = w64 (a * b) := by
  obtain ⟨k, hk⟩ := w64_dv a
  rw [hk, Int.add_mul, Int.mul_assoc]
  generalize a * b = u; generalize k * b = v
  unfold w64; omega
theorem w64_mr (a b : Int) : w64 (a * w64 b) = w64 (a * b) := by rw [Int.mul_comm, w64_ml, Int.mul_comm]
theorem w32_in {e : Int} {n : Nat} (hn : n ≤ 2147483647) (h0 : 0 ≤ e) (h1 : e < n) : w32 e = e := w32_eq (by omega) (by omega)
theorem r_iadd_l {a b : Int} (hd : decode y.2.1 pc = .ok (.iadd, 1)) (k : Ok G y d mc ms Q (pc + 1) L (.inl (w32 (a + b)) :: S) lay M kc ks) : Ok G y d mc ms Q pc L (.inl b :: .inl (w32 a) :: S) lay M kc ks := r_iadd hd (by rw [w32_al]; exact k)
theorem r_iadd_r {a b : Int} (hd : decode y.2.1 pc = .ok (.iadd, 1)) (k : Ok G y d mc ms Q (pc + 1) L (.inl (w32 (a + b)) :: S) lay M kc ks) : Ok G y d mc ms Q pc L (.inl (w32 b) :: .inl a :: S) lay M kc ks := r_iadd hd (by rw [w32_ar]; exact k)
theorem r_iadd_lr {a b : Int} (hd : decode y.2.1 pc = .ok (.iadd, 1)) (k : Ok G y d mc ms Q (pc + 1) L (.inl (w32 (a + b)) :: S) lay M kc ks) : Ok G y d mc ms Q pc L (.inl (w32 b) :: .inl (w32 a) :: S) lay M kc ks := r_iadd hd (by rw [w32_al, w32_ar]; exact k)
theorem r_isub_l {a b : Int} (hd : decode y.2.1 pc = .ok (.isub, 1)) (k : Ok G y d mc ms Q (pc + 1) L (.inl (w32 (a - b)) :: S) lay M kc ks) : Ok G y d mc ms Q pc L (.inl b :: .inl (w32 a) :: S) lay M kc ks := r_isub hd (by rw [w32_sl]; exact k)
theorem r_isub_r {a b : Int} (hd : decode y.2.1 pc = .ok (.isub, 1)) (k : Ok G y d mc ms Q (pc + 1) L (.inl (w32 (a - b)) :: S) lay M kc ks) : Ok G y d mc ms Q pc L (.inl (w32 b) :: .inl a :: S) lay M kc ks := r_isub hd (by rw [w32_sr]; exact k)
theorem r_isub_lr {a b : Int} (hd : decode y.2.1 pc = .ok (.isub, 1)) (k : Ok G y d mc ms Q (pc + 1) L (.inl (w32 (a - b)) :: S) lay M kc ks) : Ok G y d mc ms Q pc L (.inl (w32 b) :: .inl (w32 a) :: S) lay M kc ks := r_isub hd (by rw [w32_sl, w32_sr]; exact k)
theorem r_imul_l {a b : Int} (hd : decode y.2.1 pc = .ok (.imul, 1)) (k : Ok G y d mc ms Q (pc + 1) L (.inl (w32 (a * b)) :: S) lay M kc ks) : Ok G y d mc ms Q pc L (.inl b :: .inl (w32 a) :: S) lay M kc ks := r_imul hd (by rw [w32_ml]; exact k)
theorem r_imul_r {a b : Int} (hd : decode y.2.1 pc = .ok (.imul, 1)) (k : Ok G y d mc ms Q (pc + 1) L (.inl (w32 (a * b)) :: S) lay M kc ks) : Ok G y d mc ms Q pc L (.inl (w32 b) :: .inl a :: S) lay M kc ks := r_imul hd (by rw [w32_mr]; exact k)
theorem r_imul_lr {a b : Int} (hd : decode y.2.1 pc = .ok (.imul, 1)) (k : Ok G y d mc ms Q (pc + 1) L (.inl (w32 (a * b)) :: S) lay M kc ks) : Ok G y d mc ms Q pc L (.inl (w32 b) :: .inl (w32 a) :: S) lay M kc ks := r_imul hd (by rw [w32_ml, w32_mr]; exact k)
theorem r_ladd_l {a b : Int} (hd : decode y.2.1 pc = .ok (.ladd, 1)) (k : Ok G y d mc ms Q (pc + 1) L (.inr (.inl (w64 (a + b))) :: S) lay M kc ks) : Ok G y d mc ms Q pc L (.inr (.inl b) :: .inr (.inl (w64 a)) :: S) lay M kc ks := r_ladd hd (by rw [w64_al]; exact k)
theorem r_ladd_r {a b : Int} (hd : decode y.2.1 pc = .ok (.ladd, 1)) (k : Ok G y d mc ms Q (pc + 1) L (.inr (.inl (w64 (a + b))) :: S) lay M kc ks) : Ok G y d mc ms Q pc L (.inr (.inl (w64 b)) :: .inr (.inl a) :: S) lay M kc ks := r_ladd hd (by rw [w64_ar]; exact k)
theorem r_ladd_lr {a b : Int} (hd : decode y.2.1 pc = .ok (.ladd, 1)) (k : Ok G y d mc ms Q (pc + 1) L (.inr (.inl (w64 (a + b))) :: S) lay M kc ks) : Ok G y d mc ms Q pc L (.inr (.inl (w64 b)) :: .inr (.inl (w64 a)) :: S) lay M kc ks := r_ladd hd (by rw [w64_al, w64_ar]; exact k)
theorem r_lsub_l {a b : Int} (hd : decode y.2.1 pc = .ok (.lsub, 1)) (k : Ok G y d mc ms Q (pc + 1) L (.inr (.inl (w64 (a - b))) :: S) lay M kc ks) : Ok G y d mc ms Q pc L (.inr (.inl b) :: .inr (.inl (w64 a)) :: S) lay M kc ks := r_lsub hd (by rw [w64_sl]; exact k)
theorem r_lsub_r {a b : Int} (hd : decode y.2.1 pc = .ok (.lsub, 1)) (k : Ok G y d mc ms Q (pc + 1) L (.inr (.inl (w64 (a - b))) :: S) lay M kc ks) : Ok G y d mc ms Q pc L (.inr (.inl (w64 b)) :: .inr (.inl a) :: S) lay M kc ks := r_lsub hd (by rw [w64_sr]; exact k)
theorem r_lsub_lr {a b : Int} (hd : decode y.2.1 pc = .ok (.lsub, 1)) (k : Ok G y d mc ms Q (pc + 1) L (.inr (.inl (w64 (a - b))) :: S) lay M kc ks) : Ok G y d mc ms Q pc L (.inr (.inl (w64 b)) :: .inr (.inl (w64 a)) :: S) lay M kc ks := r_lsub hd (by rw [w64_sl, w64_sr]; exact k)
theorem r_lmul_l {a b : Int} (hd : decode y.2.1 pc = .ok (.lmul, 1)) (k : Ok G y d mc ms Q (pc + 1) L (.inr (.inl (w64 (a * b))) :: S) lay M kc ks) : Ok G y d mc ms Q pc L (.inr (.inl b) :: .inr (.inl (w64 a)) :: S) lay M kc ks := r_lmul hd (by rw [w64_ml]; exact k)
theorem r_lmul_r {a b : Int} (hd : decode y.2.1 pc = .ok (.lmul, 1)) (k : Ok G y d mc ms Q (pc + 1) L (.inr (.inl (w64 (a * b))) :: S) lay M kc ks) : Ok G y d mc ms Q pc L (.inr (.inl (w64 b)) :: .inr (.inl a) :: S) lay M kc ks := r_lmul hd (by rw [w64_mr]; exact k)
theorem r_lmul_lr {a b : Int} (hd : decode y.2.1 pc = .ok (.lmul, 1)) (k : Ok G y d mc ms Q (pc + 1) L (.inr (.inl (w64 (a * b))) :: S) lay M kc ks) : Ok G y d mc ms Q pc L (.inr (.inl (w64 b)) :: .inr (.inl (w64 a)) :: S) lay M kc ks := r_lmul hd (by rw [w64_ml, w64_mr]; exact k)
theorem r_iald_w {a n : Nat} {rs : List (Option Nat)} {e : Int} (hd : decode y.2.1 pc = .ok (.iaload, 1)) (hc : lay[a]? = some (0, n, rs)) (hn : n ≤ 2147483647) (h0 : 0 ≤ e) (h1 : e < n) (k : Ok G y d mc ms Q (pc + 1) L (.inl (M a e.toNat) :: S) lay M kc ks) : Ok G y d mc ms Q pc L (.inl (w32 e) :: .inr (.inr (some a)) :: S) lay M kc ks := by
  rw [w32_in hn h0 h1]
  exact r_iald hd hc h0 h1 k
theorem r_lald_w {a n : Nat} {rs : List (Option Nat)} {e : Int} (hd : decode y.2.1 pc = .ok (.laload, 1)) (hc : lay[a]? = some (1, n, rs)) (hn : n ≤ 2147483647) (h0 : 0 ≤ e) (h1 : e < n) (k : Ok G y d mc ms Q (pc + 1) L (.inr (.inl (M a e.toNat)) :: S) lay M kc ks) : Ok G y d mc ms Q pc L (.inl (w32 e) :: .inr (.inr (some a)) :: S) lay M kc ks := by
  rw [w32_in hn h0 h1]
  exact r_lald hd hc h0 h1 k
theorem r_zald_w {a n : Nat} {rs : List (Option Nat)} {e : Int} (hd : decode y.2.1 pc = .ok (.baload, 1)) (hc : lay[a]? = some (2, n, rs)) (hn : n ≤ 2147483647) (h0 : 0 ≤ e) (h1 : e < n) (k : Ok G y d mc ms Q (pc + 1) L (.inl (M a e.toNat) :: S) lay M kc ks) : Ok G y d mc ms Q pc L (.inl (w32 e) :: .inr (.inr (some a)) :: S) lay M kc ks := by
  rw [w32_in hn h0 h1]
  exact r_zald hd hc h0 h1 k
theorem r_iast_w {a n : Nat} {rs : List (Option Nat)} {e x : Int} {M' : Mem} (hd : decode y.2.1 pc = .ok (.iastore, 1)) (hc : lay[a]? = some (0, n, rs)) (hn : n ≤ 2147483647) (h0 : 0 ≤ e) (h1 : e < n) (hM' : mup M a e.toNat x = M') (k : Ok G y d mc ms Q (pc + 1) L S lay M' kc ks) : Ok G y d mc ms Q pc L (.inl x :: .inl (w32 e) :: .inr (.inr (some a)) :: S) lay M kc ks := by
  rw [w32_in hn h0 h1]
  exact r_iast hd hc h0 h1 hM' k
theorem r_last_w {a n : Nat} {rs : List (Option Nat)} {e x : Int} {M' : Mem} (hd : decode y.2.1 pc = .ok (.lastore, 1)) (hc : lay[a]? = some (1, n, rs)) (hn : n ≤ 2147483647) (h0 : 0 ≤ e) (h1 : e < n) (hM' : mup M a e.toNat x = M') (k : Ok G y d mc ms Q (pc + 1) L S lay M' kc ks) : Ok G y d mc ms Q pc L (.inr (.inl x) :: .inl (w32 e) :: .inr (.inr (some a)) :: S) lay M kc ks := by
  rw [w32_in hn h0 h1]
  exact r_last hd hc h0 h1 hM' k
theorem r_zast_w {a n : Nat} {rs : List (Option Nat)} {e x : Int} {M' : Mem} (hd : decode y.2.1 pc = .ok (.bastore, 1)) (hc : lay[a]? = some (2, n, rs)) (hn : n ≤ 2147483647) (h0 : 0 ≤ e) (h1 : e < n) (hx01 : x = 0 ∨ x = 1) (hM' : mup M a e.toNat x = M') (k : Ok G y d mc ms Q (pc + 1) L S lay M' kc ks) : Ok G y d mc ms Q pc L (.inl x :: .inl (w32 e) :: .inr (.inr (some a)) :: S) lay M kc ks := by
  rw [w32_in hn h0 h1]
  exact r_zast hd hc h0 h1 hx01 hM' k
theorem r_iald_fee_w {e : Int} (hd : decode y.2.1 pc = .ok (.iaload, 1)) (h0 : 0 ≤ e) (h1 : e < 5) (k : Ok G y d mc ms Q (pc + 1) L (.inl (feeT e.toNat) :: S) lay M kc ks) : Ok G y d mc ms Q pc L (.inl (w32 e) :: .inr (.inr (some 1000)) :: S) lay M kc ks := by
  rw [w32_in (n := 5) (by decide) h0 h1]
  exact r_iald_fee hd h0 h1 k
theorem r_iald_scr_w {e : Int} (hd : decode y.2.1 pc = .ok (.iaload, 1)) (hn : G.2.2.2.2.1 ≤ 2147483647) (h0 : 0 ≤ e) (h1 : e < G.2.2.2.2.1) (k : Ok G y d mc ms Q (pc + 1) L (.inl (G.2.2.2.2.2 e.toNat).toInt :: S) lay M kc ks) : Ok G y d mc ms Q pc L (.inl (w32 e) :: .inr (.inr (some 1001)) :: S) lay M kc ks := by
  rw [w32_in hn h0 h1]
  exact r_iald_scr hd h0 h1 k
end FLAT
