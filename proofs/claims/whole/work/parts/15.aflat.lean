/-! sums of sums: one wrap; an index that is a wrapped sum -/
section FLAT
variable {G : GE} {y : MI} {d mc ms : Nat} {Q : Option MV → Lay → Mem → Prop} {pc : Nat} {L : List (Option MV)} {S : List MV} {lay : Lay} {M : Mem} {kc ks : Nat}
theorem w32_al (a b : Int) : w32 (w32 a + b) = w32 (a + b) := by unfold w32; omega
theorem w32_ar (a b : Int) : w32 (a + w32 b) = w32 (a + b) := by unfold w32; omega
theorem w32_sl (a b : Int) : w32 (w32 a - b) = w32 (a - b) := by unfold w32; omega
theorem w32_sr (a b : Int) : w32 (a - w32 b) = w32 (a - b) := by unfold w32; omega
theorem w32_dv (a : Int) : ∃ k, w32 a = a + 4294967296 * k := ⟨-((a + 2147483648) / 4294967296), by unfold w32; omega⟩
theorem w64_dv (a : Int) : ∃ k, w64 a = a + 18446744073709551616 * k := ⟨-((a + 9223372036854775808) / 18446744073709551616), by unfold w64; omega⟩
theorem w32_ml (a b : Int) : w32 (w32 a * b) = w32 (a * b) := by
  obtain ⟨k, hk⟩ := w32_dv a
  rw [hk, Int.add_mul, Int.mul_assoc]
  generalize a * b = u; generalize k * b = v
  unfold w32; omega
theorem w32_mr (a b : Int) : w32 (a * w32 b) = w32 (a * b) := by rw [Int.mul_comm, w32_ml, Int.mul_comm]
theorem w64_al (a b : Int) : w64 (w64 a + b) = w64 (a + b) := by unfold w64; omega
theorem w64_ar (a b : Int) : w64 (a + w64 b) = w64 (a + b) := by unfold w64; omega
theorem w64_sl (a b : Int) : w64 (w64 a - b) = w64 (a - b) := by unfold w64; omega
theorem w64_sr (a b : Int) : w64 (a - w64 b) = w64 (a - b) := by unfold w64; omega
theorem w64_ml (a b : Int) : w64 (w64 a * b) = w64 (a * b) := by
  obtain ⟨k, hk⟩ := w64_dv a
  rw [hk, Int.add_mul, Int.mul_assoc]
  generalize a * b = u; generalize k * b = v
  unfold w64; omega
theorem w64_mr (a b : Int) : w64 (a * w64 b) = w64 (a * b) := by rw [Int.mul_comm, w64_ml, Int.mul_comm]
theorem w32_in {e : Int} {n : Nat} (hn : n ≤ 2147483647) (h0 : 0 ≤ e) (h1 : e < n) : w32 e = e := w32_eq (by omega) (by omega)
theorem r_iadd_l {a b : Int} (hd : decode y.2.1 pc = .ok (.iadd, 1)) (k : Ok G y d mc ms Q (pc + 1) L (.inl (w32 (a + b)) :: S) lay M kc ks) : Ok G y d mc ms Q pc L (.inl b :: .inl (w32 a) :: S) lay M kc ks := r_iadd hd (by rw [w32_al]; exact k)
theorem r_iadd_r {a b : Int} (hd : decode y.2.1 pc = .ok (.iadd, 1)) (k : Ok G y d mc ms Q (pc + 1) L (.inl (w32 (a + b)) :: S) lay M kc ks) : Ok G y d mc ms Q pc L (.inl (w32 b) :: .inl a :: S) lay M kc ks := r_iadd hd (by rw [w32_ar]; exact k)
theorem r_iadd_lr {a b : Int} (hd : decode y.2.1 pc = .ok (.iadd, 1)) (k : Ok G y d mc ms Q (pc + 1) L (.inl (w32 (a + b)) :: S) lay M kc ks) : Ok G y d mc ms Q pc L (.inl (w32 b) :: .inl (w32 a) :: S) lay M kc ks := r_iadd hd (by rw [w32_al, w32_ar]; exact k)
theorem r_isub_l {a b : Int} (hd : decode y.2.1 pc = .ok (.isub, 1)) (k : Ok G y d mc ms Q (pc + 1) L (.inl (w32 (a - b)) :: S) lay M kc ks) : Ok G y d mc ms Q pc L (.inl b :: .inl (w32 a) :: S) lay M kc ks := r_isub hd (by rw [w32_sl]; exact k)
theorem r_isub_r {a b : Int} (hd : decode y.2.1 pc = .ok (.isub, 1)) (k : Ok G y d mc ms Q (pc + 1) L (.inl (w32 (a - b)) :: S) lay M kc ks) : Ok G y d mc ms Q pc L (.inl (w32 b) :: .inl a :: S) lay M kc ks := r_isub hd (by rw [w32_sr]; exact k)
theorem r_isub_lr {a b : Int} (hd : decode y.2.1 pc = .ok (.isub, 1)) (k : Ok G y d mc ms Q (pc + 1) L (.inl (w32 (a - b)) :: S) lay M kc ks) : Ok G y d mc ms Q pc L (.inl (w32 b) :: .inl (w32 a) :: S) lay M kc ks := r_isub hd (by rw [w32_sl, w32_sr]; exact k)
theorem r_imul_l {a b : Int} (hd : decode y.2.1 pc = .ok (.imul, 1)) (k : Ok G y d mc ms Q (pc + 1) L (.inl (w32 (a * b)) :: S) lay M kc ks) : Ok G y d mc ms Q pc L (.inl b :: .inl (w32 a) :: S) lay M kc ks := r_imul hd (by rw [w32_ml]; exact k)
theorem r_imul_r {a b : Int} (hd : decode y.2.1 pc = .ok (.imul, 1)) (k : Ok G y d mc ms Q (pc + 1) L (.inl (w32 (a * b)) :: S) lay M kc ks) : Ok G y d mc ms Q pc L (.inl (w32 b) :: .inl a :: S) lay M kc ks := r_imul hd (by rw [w32_mr]; exact k)
theorem r_imul_lr {a b : Int} (hd : decode y.2.1 pc = .ok (.imul, 1)) (k : Ok G y d mc ms Q (pc + 1) L (.inl (w32 (a * b)) :: S) lay M kc ks) : Ok G y d mc ms Q pc L (.inl (w32 b) :: .inl (w32 a) :: S) lay M kc ks := r_imul hd (by rw [w32_ml, w32_mr]; exact k)
theorem r_ladd_l {a b : Int} (hd : decode y.2.1 pc = .ok (.ladd, 1)) (k : Ok G y d mc ms Q (pc + 1) L (.inr (.inl (w64 (a + b))) :: S) lay M kc ks) : Ok G y d mc ms Q pc L (.inr (.inl b) :: .inr (.inl (w64 a)) :: S) lay M kc ks := r_ladd hd (by rw [w64_al]; exact k)
theorem r_ladd_r {a b : Int} (hd : decode y.2.1 pc = .ok (.ladd, 1)) (k : Ok G y d mc ms Q (pc + 1) L (.inr (.inl (w64 (a + b))) :: S) lay M kc ks) : Ok G y d mc ms Q pc L (.inr (.inl (w64 b)) :: .inr (.inl a) :: S) lay M kc ks := r_ladd hd (by rw [w64_ar]; exact k)
theorem r_ladd_lr {a b : Int} (hd : decode y.2.1 pc = .ok (.ladd, 1)) (k : Ok G y d mc ms Q (pc + 1) L (.inr (.inl (w64 (a + b))) :: S) lay M kc ks) : Ok G y d mc ms Q pc L (.inr (.inl (w64 b)) :: .inr (.inl (w64 a)) :: S) lay M kc ks := r_ladd hd (by rw [w64_al, w64_ar]; exact k)
theorem r_lsub_l {a b : Int} (hd : decode y.2.1 pc = .ok (.lsub, 1)) (k : Ok G y d mc ms Q (pc + 1) L (.inr (.inl (w64 (a - b))) :: S) lay M kc ks) : Ok G y d mc ms Q pc L (.inr (.inl b) :: .inr (.inl (w64 a)) :: S) lay M kc ks := r_lsub hd (by rw [w64_sl]; exact k)
theorem r_lsub_r {a b : Int} (hd : decode y.2.1 pc = .ok (.lsub, 1)) (k : Ok G y d mc ms Q (pc + 1) L (.inr (.inl (w64 (a - b))) :: S) lay M kc ks) : Ok G y d mc ms Q pc L (.inr (.inl (w64 b)) :: .inr (.inl a) :: S) lay M kc ks := r_lsub hd (by rw [w64_sr]; exact k)
theorem r_lsub_lr {a b : Int} (hd : decode y.2.1 pc = .ok (.lsub, 1)) (k : Ok G y d mc ms Q (pc + 1) L (.inr (.inl (w64 (a - b))) :: S) lay M kc ks) : Ok G y d mc ms Q pc L (.inr (.inl (w64 b)) :: .inr (.inl (w64 a)) :: S) lay M kc ks := r_lsub hd (by rw [w64_sl, w64_sr]; exact k)
theorem r_lmul_l {a b : Int} (hd : decode y.2.1 pc = .ok (.lmul, 1)) (k : Ok G y d mc ms Q (pc + 1) L (.inr (.inl (w64 (a * b))) :: S) lay M kc ks) : Ok G y d mc ms Q pc L (.inr (.inl b) :: .inr (.inl (w64 a)) :: S) lay M kc ks := r_lmul hd (by rw [w64_ml]; exact k)
theorem r_lmul_r {a b : Int} (hd : decode y.2.1 pc = .ok (.lmul, 1)) (k : Ok G y d mc ms Q (pc + 1) L (.inr (.inl (w64 (a * b))) :: S) lay M kc ks) : Ok G y d mc ms Q pc L (.inr (.inl (w64 b)) :: .inr (.inl a) :: S) lay M kc ks := r_lmul hd (by rw [w64_mr]; exact k)
theorem r_lmul_lr {a b : Int} (hd : decode y.2.1 pc = .ok (.lmul, 1)) (k : Ok G y d mc ms Q (pc + 1) L (.inr (.inl (w64 (a * b))) :: S) lay M kc ks) : Ok G y d mc ms Q pc L (.inr (.inl (w64 b)) :: .inr (.inl (w64 a)) :: S) lay M kc ks := r_lmul hd (by rw [w64_ml, w64_mr]; exact k)
theorem r_iald_w {a n : Nat} {rs : List (Option Nat)} {e : Int} (hd : decode y.2.1 pc = .ok (.iaload, 1)) (hc : lay[a]? = some (0, n, rs)) (hn : n ≤ 2147483647) (h0 : 0 ≤ e) (h1 : e < n) (k : Ok G y d mc ms Q (pc + 1) L (.inl (M a e.toNat) :: S) lay M kc ks) : Ok G y d mc ms Q pc L (.inl (w32 e) :: .inr (.inr (some a)) :: S) lay M kc ks := by
  rw [w32_in hn h0 h1]
  exact r_iald hd hc h0 h1 k
theorem r_lald_w {a n : Nat} {rs : List (Option Nat)} {e : Int} (hd : decode y.2.1 pc = .ok (.laload, 1)) (hc : lay[a]? = some (1, n, rs)) (hn : n ≤ 2147483647) (h0 : 0 ≤ e) (h1 : e < n) (k : Ok G y d mc ms Q (pc + 1) L (.inr (.inl (M a e.toNat)) :: S) lay M kc ks) : Ok G y d mc ms Q pc L (.inl (w32 e) :: .inr (.inr (some a)) :: S) lay M kc ks := by
  rw [w32_in hn h0 h1]
  exact r_lald hd hc h0 h1 k
theorem r_zald_w {a n : Nat} {rs : List (Option Nat)} {e : Int} (hd : decode y.2.1 pc = .ok (.baload, 1)) (hc : lay[a]? = some (2, n, rs)) (hn : n ≤ 2147483647) (h0 : 0 ≤ e) (h1 : e < n) (k : Ok G y d mc ms Q (pc + 1) L (.inl (M a e.toNat) :: S) lay M kc ks) : Ok G y d mc ms Q pc L (.inl (w32 e) :: .inr (.inr (some a)) :: S) lay M kc ks := by
  rw [w32_in hn h0 h1]
  exact r_zald hd hc h0 h1 k
theorem r_iast_w {a n : Nat} {rs : List (Option Nat)} {e x : Int} {M' : Mem} (hd : decode y.2.1 pc = .ok (.iastore, 1)) (hc : lay[a]? = some (0, n, rs)) (hn : n ≤ 2147483647) (h0 : 0 ≤ e) (h1 : e < n) (hM' : mup M a e.toNat x = M') (k : Ok G y d mc ms Q (pc + 1) L S lay M' kc ks) : Ok G y d mc ms Q pc L (.inl x :: .inl (w32 e) :: .inr (.inr (some a)) :: S) lay M kc ks := by
  rw [w32_in hn h0 h1]
  exact r_iast hd hc h0 h1 hM' k
theorem r_last_w {a n : Nat} {rs : List (Option Nat)} {e x : Int} {M' : Mem} (hd : decode y.2.1 pc = .ok (.lastore, 1)) (hc : lay[a]? = some (1, n, rs)) (hn : n ≤ 2147483647) (h0 : 0 ≤ e) (h1 : e < n) (hM' : mup M a e.toNat x = M') (k : Ok G y d mc ms Q (pc + 1) L S lay M' kc ks) : Ok G y d mc ms Q pc L (.inr (.inl x) :: .inl (w32 e) :: .inr (.inr (some a)) :: S) lay M kc ks := by
  rw [w32_in hn h0 h1]
  exact r_last hd hc h0 h1 hM' k
theorem r_zast_w {a n : Nat} {rs : List (Option Nat)} {e x : Int} {M' : Mem} (hd : decode y.2.1 pc = .ok (.bastore, 1)) (hc : lay[a]? = some (2, n, rs)) (hn : n ≤ 2147483647) (h0 : 0 ≤ e) (h1 : e < n) (hx01 : x = 0 ∨ x = 1) (hM' : mup M a e.toNat x = M') (k : Ok G y d mc ms Q (pc + 1) L S lay M' kc ks) : Ok G y d mc ms Q pc L (.inl x :: .inl (w32 e) :: .inr (.inr (some a)) :: S) lay M kc ks := by
  rw [w32_in hn h0 h1]
  exact r_zast hd hc h0 h1 hx01 hM' k
theorem r_iald_fee_w {e : Int} (hd : decode y.2.1 pc = .ok (.iaload, 1)) (h0 : 0 ≤ e) (h1 : e < 5) (k : Ok G y d mc ms Q (pc + 1) L (.inl (feeT e.toNat) :: S) lay M kc ks) : Ok G y d mc ms Q pc L (.inl (w32 e) :: .inr (.inr (some 1000)) :: S) lay M kc ks := by
  rw [w32_in (n := 5) (by decide) h0 h1]
  exact r_iald_fee hd h0 h1 k
theorem r_iald_scr_w {e : Int} (hd : decode y.2.1 pc = .ok (.iaload, 1)) (hn : G.2.2.2.2.1 ≤ 2147483647) (h0 : 0 ≤ e) (h1 : e < G.2.2.2.2.1) (k : Ok G y d mc ms Q (pc + 1) L (.inl (G.2.2.2.2.2 e.toNat).toInt :: S) lay M kc ks) : Ok G y d mc ms Q pc L (.inl (w32 e) :: .inr (.inr (some 1001)) :: S) lay M kc ks := by
  rw [w32_in hn h0 h1]
  exact r_iald_scr hd h0 h1 k
theorem q_if_eq {a : Int} {off : Int} {tgt : Nat} (hd : decode y.2.1 pc = .ok (.ifCond .eq off, 3)) (ht : (pc : Int) + off = (tgt : Int)) (kt : a = 0 → Ok G y d mc ms Q tgt L S lay M kc ks) (kf : ¬ a = 0 → Ok G y d mc ms Q (pc + 3) L S lay M kc ks) : Ok G y d mc ms Q pc L (.inl a :: S) lay M kc ks := r_if_eq hd ht kt (fun c => kf (c))
theorem q_icmp_eq {a b : Int} {off : Int} {tgt : Nat} (hd : decode y.2.1 pc = .ok (.if_icmp .eq off, 3)) (ht : (pc : Int) + off = (tgt : Int)) (kt : a = b → Ok G y d mc ms Q tgt L S lay M kc ks) (kf : ¬ a = b → Ok G y d mc ms Q (pc + 3) L S lay M kc ks) : Ok G y d mc ms Q pc L (.inl b :: .inl a :: S) lay M kc ks := r_icmp_eq hd ht kt (fun c => kf (c))
theorem lcmp_eq (a b : Int) : (lcmp a b = 0) ↔ (a = b) := by unfold lcmp; split <;> (try split) <;> omega
theorem q_lif_eq {a b : Int} {off : Int} {tgt : Nat} (hd : decode y.2.1 pc = .ok (.ifCond .eq off, 3)) (ht : (pc : Int) + off = (tgt : Int)) (kt : a = b → Ok G y d mc ms Q tgt L S lay M kc ks) (kf : ¬ a = b → Ok G y d mc ms Q (pc + 3) L S lay M kc ks) : Ok G y d mc ms Q pc L (.inl (lcmp a b) :: S) lay M kc ks := r_if_eq hd ht (fun q => kt ((lcmp_eq a b).mp q)) (fun q => kf (have c := (fun z => q ((lcmp_eq a b).mpr z)); c))
theorem q_if_ne {a : Int} {off : Int} {tgt : Nat} (hd : decode y.2.1 pc = .ok (.ifCond .ne off, 3)) (ht : (pc : Int) + off = (tgt : Int)) (kt : ¬ a = 0 → Ok G y d mc ms Q tgt L S lay M kc ks) (kf : a = 0 → Ok G y d mc ms Q (pc + 3) L S lay M kc ks) : Ok G y d mc ms Q pc L (.inl a :: S) lay M kc ks := r_if_ne hd ht kt (fun c => kf (Decidable.not_not.mp c))
theorem q_icmp_ne {a b : Int} {off : Int} {tgt : Nat} (hd : decode y.2.1 pc = .ok (.if_icmp .ne off, 3)) (ht : (pc : Int) + off = (tgt : Int)) (kt : ¬ a = b → Ok G y d mc ms Q tgt L S lay M kc ks) (kf : a = b → Ok G y d mc ms Q (pc + 3) L S lay M kc ks) : Ok G y d mc ms Q pc L (.inl b :: .inl a :: S) lay M kc ks := r_icmp_ne hd ht kt (fun c => kf (Decidable.not_not.mp c))
theorem lcmp_ne (a b : Int) : (¬ lcmp a b = 0) ↔ (¬ a = b) := by unfold lcmp; split <;> (try split) <;> omega
theorem q_lif_ne {a b : Int} {off : Int} {tgt : Nat} (hd : decode y.2.1 pc = .ok (.ifCond .ne off, 3)) (ht : (pc : Int) + off = (tgt : Int)) (kt : ¬ a = b → Ok G y d mc ms Q tgt L S lay M kc ks) (kf : a = b → Ok G y d mc ms Q (pc + 3) L S lay M kc ks) : Ok G y d mc ms Q pc L (.inl (lcmp a b) :: S) lay M kc ks := r_if_ne hd ht (fun q => kt ((lcmp_ne a b).mp q)) (fun q => kf (have c := (fun z => q ((lcmp_ne a b).mpr z)); Decidable.not_not.mp c))
theorem q_if_lt {a : Int} {off : Int} {tgt : Nat} (hd : decode y.2.1 pc = .ok (.ifCond .lt off, 3)) (ht : (pc : Int) + off = (tgt : Int)) (kt : a < 0 → Ok G y d mc ms Q tgt L S lay M kc ks) (kf : 0 ≤ a → Ok G y d mc ms Q (pc + 3) L S lay M kc ks) : Ok G y d mc ms Q pc L (.inl a :: S) lay M kc ks := r_if_lt hd ht kt (fun c => kf (Int.not_lt.mp c))
theorem q_icmp_lt {a b : Int} {off : Int} {tgt : Nat} (hd : decode y.2.1 pc = .ok (.if_icmp .lt off, 3)) (ht : (pc : Int) + off = (tgt : Int)) (kt : a < b → Ok G y d mc ms Q tgt L S lay M kc ks) (kf : b ≤ a → Ok G y d mc ms Q (pc + 3) L S lay M kc ks) : Ok G y d mc ms Q pc L (.inl b :: .inl a :: S) lay M kc ks := r_icmp_lt hd ht kt (fun c => kf (Int.not_lt.mp c))
theorem lcmp_lt (a b : Int) : (lcmp a b < 0) ↔ (a < b) := by unfold lcmp; split <;> (try split) <;> omega
theorem q_lif_lt {a b : Int} {off : Int} {tgt : Nat} (hd : decode y.2.1 pc = .ok (.ifCond .lt off, 3)) (ht : (pc : Int) + off = (tgt : Int)) (kt : a < b → Ok G y d mc ms Q tgt L S lay M kc ks) (kf : b ≤ a → Ok G y d mc ms Q (pc + 3) L S lay M kc ks) : Ok G y d mc ms Q pc L (.inl (lcmp a b) :: S) lay M kc ks := r_if_lt hd ht (fun q => kt ((lcmp_lt a b).mp q)) (fun q => kf (have c := (fun z => q ((lcmp_lt a b).mpr z)); Int.not_lt.mp c))
theorem q_if_ge {a : Int} {off : Int} {tgt : Nat} (hd : decode y.2.1 pc = .ok (.ifCond .ge off, 3)) (ht : (pc : Int) + off = (tgt : Int)) (kt : 0 ≤ a → Ok G y d mc ms Q tgt L S lay M kc ks) (kf : a < 0 → Ok G y d mc ms Q (pc + 3) L S lay M kc ks) : Ok G y d mc ms Q pc L (.inl a :: S) lay M kc ks := r_if_ge hd ht kt (fun c => kf (Int.not_le.mp c))
theorem q_icmp_ge {a b : Int} {off : Int} {tgt : Nat} (hd : decode y.2.1 pc = .ok (.if_icmp .ge off, 3)) (ht : (pc : Int) + off = (tgt : Int)) (kt : b ≤ a → Ok G y d mc ms Q tgt L S lay M kc ks) (kf : a < b → Ok G y d mc ms Q (pc + 3) L S lay M kc ks) : Ok G y d mc ms Q pc L (.inl b :: .inl a :: S) lay M kc ks := r_icmp_ge hd ht kt (fun c => kf (Int.not_le.mp c))
theorem lcmp_ge (a b : Int) : (0 ≤ lcmp a b) ↔ (b ≤ a) := by unfold lcmp; split <;> (try split) <;> omega
theorem q_lif_ge {a b : Int} {off : Int} {tgt : Nat} (hd : decode y.2.1 pc = .ok (.ifCond .ge off, 3)) (ht : (pc : Int) + off = (tgt : Int)) (kt : b ≤ a → Ok G y d mc ms Q tgt L S lay M kc ks) (kf : a < b → Ok G y d mc ms Q (pc + 3) L S lay M kc ks) : Ok G y d mc ms Q pc L (.inl (lcmp a b) :: S) lay M kc ks := r_if_ge hd ht (fun q => kt ((lcmp_ge a b).mp q)) (fun q => kf (have c := (fun z => q ((lcmp_ge a b).mpr z)); Int.not_le.mp c))
theorem q_if_gt {a : Int} {off : Int} {tgt : Nat} (hd : decode y.2.1 pc = .ok (.ifCond .gt off, 3)) (ht : (pc : Int) + off = (tgt : Int)) (kt : 0 < a → Ok G y d mc ms Q tgt L S lay M kc ks) (kf : a ≤ 0 → Ok G y d mc ms Q (pc + 3) L S lay M kc ks) : Ok G y d mc ms Q pc L (.inl a :: S) lay M kc ks := r_if_gt hd ht kt (fun c => kf (Int.not_lt.mp c))
theorem q_icmp_gt {a b : Int} {off : Int} {tgt : Nat} (hd : decode y.2.1 pc = .ok (.if_icmp .gt off, 3)) (ht : (pc : Int) + off = (tgt : Int)) (kt : b < a → Ok G y d mc ms Q tgt L S lay M kc ks) (kf : a ≤ b → Ok G y d mc ms Q (pc + 3) L S lay M kc ks) : Ok G y d mc ms Q pc L (.inl b :: .inl a :: S) lay M kc ks := r_icmp_gt hd ht kt (fun c => kf (Int.not_lt.mp c))
theorem lcmp_gt (a b : Int) : (0 < lcmp a b) ↔ (b < a) := by unfold lcmp; split <;> (try split) <;> omega
theorem q_lif_gt {a b : Int} {off : Int} {tgt : Nat} (hd : decode y.2.1 pc = .ok (.ifCond .gt off, 3)) (ht : (pc : Int) + off = (tgt : Int)) (kt : b < a → Ok G y d mc ms Q tgt L S lay M kc ks) (kf : a ≤ b → Ok G y d mc ms Q (pc + 3) L S lay M kc ks) : Ok G y d mc ms Q pc L (.inl (lcmp a b) :: S) lay M kc ks := r_if_gt hd ht (fun q => kt ((lcmp_gt a b).mp q)) (fun q => kf (have c := (fun z => q ((lcmp_gt a b).mpr z)); Int.not_lt.mp c))
theorem q_if_le {a : Int} {off : Int} {tgt : Nat} (hd : decode y.2.1 pc = .ok (.ifCond .le off, 3)) (ht : (pc : Int) + off = (tgt : Int)) (kt : a ≤ 0 → Ok G y d mc ms Q tgt L S lay M kc ks) (kf : 0 < a → Ok G y d mc ms Q (pc + 3) L S lay M kc ks) : Ok G y d mc ms Q pc L (.inl a :: S) lay M kc ks := r_if_le hd ht kt (fun c => kf (Int.not_le.mp c))
theorem q_icmp_le {a b : Int} {off : Int} {tgt : Nat} (hd : decode y.2.1 pc = .ok (.if_icmp .le off, 3)) (ht : (pc : Int) + off = (tgt : Int)) (kt : a ≤ b → Ok G y d mc ms Q tgt L S lay M kc ks) (kf : b < a → Ok G y d mc ms Q (pc + 3) L S lay M kc ks) : Ok G y d mc ms Q pc L (.inl b :: .inl a :: S) lay M kc ks := r_icmp_le hd ht kt (fun c => kf (Int.not_le.mp c))
theorem lcmp_le (a b : Int) : (lcmp a b ≤ 0) ↔ (a ≤ b) := by unfold lcmp; split <;> (try split) <;> omega
theorem q_lif_le {a b : Int} {off : Int} {tgt : Nat} (hd : decode y.2.1 pc = .ok (.ifCond .le off, 3)) (ht : (pc : Int) + off = (tgt : Int)) (kt : a ≤ b → Ok G y d mc ms Q tgt L S lay M kc ks) (kf : b < a → Ok G y d mc ms Q (pc + 3) L S lay M kc ks) : Ok G y d mc ms Q pc L (.inl (lcmp a b) :: S) lay M kc ks := r_if_le hd ht (fun q => kt ((lcmp_le a b).mp q)) (fun q => kf (have c := (fun z => q ((lcmp_le a b).mpr z)); Int.not_le.mp c))
theorem q_bif_eq {P : Prop} {inst : Decidable P} {off : Int} {tgt : Nat} (hd : decode y.2.1 pc = .ok (.ifCond .eq off, 3)) (ht : (pc : Int) + off = (tgt : Int)) (kt : ¬ P → Ok G y d mc ms Q tgt L S lay M kc ks) (kf : P → Ok G y d mc ms Q (pc + 3) L S lay M kc ks) : Ok G y d mc ms Q pc L (.inl (@ite Int P inst 1 0) :: S) lay M kc ks := r_if_eq hd ht (fun q => kt (fun z => by rw [if_pos z] at q; exact absurd q (by decide))) (fun q => kf (Decidable.byContradiction fun z => q (if_neg z)))
theorem q_bif_ne {P : Prop} {inst : Decidable P} {off : Int} {tgt : Nat} (hd : decode y.2.1 pc = .ok (.ifCond .ne off, 3)) (ht : (pc : Int) + off = (tgt : Int)) (kt : P → Ok G y d mc ms Q tgt L S lay M kc ks) (kf : ¬ P → Ok G y d mc ms Q (pc + 3) L S lay M kc ks) : Ok G y d mc ms Q pc L (.inl (@ite Int P inst 1 0) :: S) lay M kc ks := r_if_ne hd ht (fun q => kt (Decidable.byContradiction fun z => q (if_neg z))) (fun q => kf (fun z => q (by rw [if_pos z]; decide)))
theorem q_nbif_eq {P : Prop} {inst : Decidable (¬ P)} {off : Int} {tgt : Nat} (hd : decode y.2.1 pc = .ok (.ifCond .eq off, 3)) (ht : (pc : Int) + off = (tgt : Int)) (kt : P → Ok G y d mc ms Q tgt L S lay M kc ks) (kf : ¬ P → Ok G y d mc ms Q (pc + 3) L S lay M kc ks) : Ok G y d mc ms Q pc L (.inl (@ite Int (¬ P) inst 1 0) :: S) lay M kc ks := q_bif_eq hd ht (fun q => kt (Classical.byContradiction q)) kf
theorem q_nbif_ne {P : Prop} {inst : Decidable (¬ P)} {off : Int} {tgt : Nat} (hd : decode y.2.1 pc = .ok (.ifCond .ne off, 3)) (ht : (pc : Int) + off = (tgt : Int)) (kt : ¬ P → Ok G y d mc ms Q tgt L S lay M kc ks) (kf : P → Ok G y d mc ms Q (pc + 3) L S lay M kc ks) : Ok G y d mc ms Q pc L (.inl (@ite Int (¬ P) inst 1 0) :: S) lay M kc ks := q_bif_ne hd ht kt (fun q => kf (Classical.byContradiction q))
theorem ite01 {P : Prop} {inst : Decidable P} : (@ite Int P inst 1 0) = 0 ∨ (@ite Int P inst 1 0) = 1 := by
  by_cases h : P
  · rw [if_pos h]; exact Or.inr rfl
  · rw [if_neg h]; exact Or.inl rfl
theorem r_iald_k {a n k0 : Nat} {rs : List (Option Nat)} {e : Int} (hd : decode y.2.1 pc = .ok (.iaload, 1)) (hc : lay[a]? = some (0, n, rs)) (hk : e.toNat = k0) (h0 : 0 ≤ e) (h1 : e < n) (k : Ok G y d mc ms Q (pc + 1) L (.inl (M a k0) :: S) lay M kc ks) : Ok G y d mc ms Q pc L (.inl e :: .inr (.inr (some a)) :: S) lay M kc ks := by
  subst hk
  exact r_iald hd hc h0 h1 k
theorem r_lald_k {a n k0 : Nat} {rs : List (Option Nat)} {e : Int} (hd : decode y.2.1 pc = .ok (.laload, 1)) (hc : lay[a]? = some (1, n, rs)) (hk : e.toNat = k0) (h0 : 0 ≤ e) (h1 : e < n) (k : Ok G y d mc ms Q (pc + 1) L (.inr (.inl (M a k0)) :: S) lay M kc ks) : Ok G y d mc ms Q pc L (.inl e :: .inr (.inr (some a)) :: S) lay M kc ks := by
  subst hk
  exact r_lald hd hc h0 h1 k
theorem r_zald_k {a n k0 : Nat} {rs : List (Option Nat)} {e : Int} (hd : decode y.2.1 pc = .ok (.baload, 1)) (hc : lay[a]? = some (2, n, rs)) (hk : e.toNat = k0) (h0 : 0 ≤ e) (h1 : e < n) (k : Ok G y d mc ms Q (pc + 1) L (.inl (M a k0) :: S) lay M kc ks) : Ok G y d mc ms Q pc L (.inl e :: .inr (.inr (some a)) :: S) lay M kc ks := by
  subst hk
  exact r_zald hd hc h0 h1 k
theorem r_iast_k {a n k0 : Nat} {rs : List (Option Nat)} {e x : Int} {M' : Mem} (hd : decode y.2.1 pc = .ok (.iastore, 1)) (hc : lay[a]? = some (0, n, rs)) (hk : e.toNat = k0) (h0 : 0 ≤ e) (h1 : e < n) (hM' : mup M a k0 x = M') (k : Ok G y d mc ms Q (pc + 1) L S lay M' kc ks) : Ok G y d mc ms Q pc L (.inl x :: .inl e :: .inr (.inr (some a)) :: S) lay M kc ks := by
  subst hk
  exact r_iast hd hc h0 h1 hM' k
theorem r_last_k {a n k0 : Nat} {rs : List (Option Nat)} {e x : Int} {M' : Mem} (hd : decode y.2.1 pc = .ok (.lastore, 1)) (hc : lay[a]? = some (1, n, rs)) (hk : e.toNat = k0) (h0 : 0 ≤ e) (h1 : e < n) (hM' : mup M a k0 x = M') (k : Ok G y d mc ms Q (pc + 1) L S lay M' kc ks) : Ok G y d mc ms Q pc L (.inr (.inl x) :: .inl e :: .inr (.inr (some a)) :: S) lay M kc ks := by
  subst hk
  exact r_last hd hc h0 h1 hM' k
theorem r_zast_k {a n k0 : Nat} {rs : List (Option Nat)} {e x : Int} {M' : Mem} (hd : decode y.2.1 pc = .ok (.bastore, 1)) (hc : lay[a]? = some (2, n, rs)) (hk : e.toNat = k0) (h0 : 0 ≤ e) (h1 : e < n) (hx01 : x = 0 ∨ x = 1) (hM' : mup M a k0 x = M') (k : Ok G y d mc ms Q (pc + 1) L S lay M' kc ks) : Ok G y d mc ms Q pc L (.inl x :: .inl e :: .inr (.inr (some a)) :: S) lay M kc ks := by
  subst hk
  exact r_zast hd hc h0 h1 hx01 hM' k
def mcp (M : Mem) (a0 a1 sp dp n : Nat) : Mem := fun c => if c = a1 then va_cpy (M a0) (M a1) sp dp n else M c
theorem mcp_ne {M : Mem} {a0 a1 sp dp n c : Nat} (h : c ≠ a1) : mcp M a0 a1 sp dp n c = M c := by unfold mcp; rw [if_neg h]
theorem mcp_at (M : Mem) (a0 a1 sp dp n : Nat) : mcp M a0 a1 sp dp n a1 = va_cpy (M a0) (M a1) sp dp n := by unfold mcp; rw [if_pos rfl]
end FLAT
