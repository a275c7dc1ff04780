/-! rules, an instruction each (by wip/gen/rules.py) -/
section RULES
variable {G : GE} {y : MI} {d mc ms : Nat} {Q : Option MV → Lay → Mem → Prop} {pc : Nat} {L : List (Option MV)} {S : List MV} {lay : Lay} {M : Mem} {kc ks : Nat}
theorem okS_tl {v : MV} (h : okS (v :: S)) : okS S := fun w hw => h w (List.mem_cons_of_mem _ hw)
theorem okS_hd {v : MV} (h : okS (v :: S)) : okV v := h v List.mem_cons_self
theorem okS_cons {v : MV} (hv : okV v) (h : okS S) : okS (v :: S) := fun w hw => (List.mem_cons.mp hw).elim (fun e => e ▸ hv) (h w)
theorem okS_nil : okS [] := fun _ h => absurd h List.not_mem_nil
theorem Ok.rng_l (i : Nat) {v : MV} (hi : L[i]? = some (some v)) (k : okV v → Ok G y d mc ms Q pc L S lay M kc ks) : Ok G y d mc ms Q pc L S lay M kc ks := by
  intro p l e s m args below meth c H locs ls X hS hP hl hL hs hM
  exact k (hL i v hi) p l e s m args below meth c H locs ls X hS hP hl hL hs hM
theorem Ok.rng_s {v : MV} (k : okV v → Ok G y d mc ms Q pc L (v :: S) lay M kc ks) : Ok G y d mc ms Q pc L (v :: S) lay M kc ks := by
  intro p l e s m args below meth c H locs ls X hS hP hl hL hs hM
  exact k (okS_hd hs) p l e s m args below meth c H locs ls X hS hP hl hL hs hM
theorem Ok.rng_m (k : okM lay M → Ok G y d mc ms Q pc L S lay M kc ks) : Ok G y d mc ms Q pc L S lay M kc ks := by
  intro p l e s m args below meth c H locs ls X hS hP hl hL hs hM
  exact k hM p l e s m args below meth c H locs ls X hS hP hl hL hs hM

theorem cvo_iand (a b : Int) : Int32.ofInt a &&& Int32.ofInt b = Int32.ofInt (iand a b) := (ofI_toI _).symm
theorem cvo_ior (a b : Int) : Int32.ofInt a ||| Int32.ofInt b = Int32.ofInt (ior a b) := (ofI_toI _).symm
theorem cvo_ixor (a b : Int) : Int32.ofInt a ^^^ Int32.ofInt b = Int32.ofInt (ixor a b) := (ofI_toI _).symm
theorem cvo_ishl (a b : Int) : Int32.ofInt a <<< (Int32.ofInt b &&& 31) = Int32.ofInt (ishl a b) := (ofI_toI _).symm
theorem cvo_ishr (a b : Int) : Int32.ofInt a >>> (Int32.ofInt b &&& 31) = Int32.ofInt (ishr a b) := (ofI_toI _).symm
theorem cvo_land (a b : Int) : Int64.ofInt a &&& Int64.ofInt b = Int64.ofInt (land a b) := (ofL_toL _).symm
theorem cvo_lor (a b : Int) : Int64.ofInt a ||| Int64.ofInt b = Int64.ofInt (lor a b) := (ofL_toL _).symm
theorem r_iadd {a b : Int} (hd : decode y.2.1 pc = .ok (.iadd, 1)) (k : Ok G y d mc ms Q (pc + 1) L (.inl (w32 (a + b)) :: S) lay M kc ks) : Ok G y d mc ms Q pc L (.inl b :: .inl a :: S) lay M kc ks := by
  intro p l e s m args below meth c H locs ls X hS hP hl hL hs hM
  have hb : okV _ := okS_hd hs
  have ha : okV _ := okS_hd (okS_tl hs)
  refine lv_iadd X.1 X.2.1 hd ?_
  rw [ofI_add]
  exact k p l e s m args below meth c H locs ls X hS hP hl hL (okS_cons (w32_ok _) (okS_tl (okS_tl hs))) hM
theorem r_isub {a b : Int} (hd : decode y.2.1 pc = .ok (.isub, 1)) (k : Ok G y d mc ms Q (pc + 1) L (.inl (w32 (a - b)) :: S) lay M kc ks) : Ok G y d mc ms Q pc L (.inl b :: .inl a :: S) lay M kc ks := by
  intro p l e s m args below meth c H locs ls X hS hP hl hL hs hM
  have hb : okV _ := okS_hd hs
  have ha : okV _ := okS_hd (okS_tl hs)
  refine lv_isub X.1 X.2.1 hd ?_
  rw [ofI_sub]
  exact k p l e s m args below meth c H locs ls X hS hP hl hL (okS_cons (w32_ok _) (okS_tl (okS_tl hs))) hM
theorem r_imul {a b : Int} (hd : decode y.2.1 pc = .ok (.imul, 1)) (k : Ok G y d mc ms Q (pc + 1) L (.inl (w32 (a * b)) :: S) lay M kc ks) : Ok G y d mc ms Q pc L (.inl b :: .inl a :: S) lay M kc ks := by
  intro p l e s m args below meth c H locs ls X hS hP hl hL hs hM
  have hb : okV _ := okS_hd hs
  have ha : okV _ := okS_hd (okS_tl hs)
  refine lv_imul X.1 X.2.1 hd ?_
  rw [ofI_mul]
  exact k p l e s m args below meth c H locs ls X hS hP hl hL (okS_cons (w32_ok _) (okS_tl (okS_tl hs))) hM
theorem r_ladd {a b : Int} (hd : decode y.2.1 pc = .ok (.ladd, 1)) (k : Ok G y d mc ms Q (pc + 1) L (.inr (.inl (w64 (a + b))) :: S) lay M kc ks) : Ok G y d mc ms Q pc L (.inr (.inl b) :: .inr (.inl a) :: S) lay M kc ks := by
  intro p l e s m args below meth c H locs ls X hS hP hl hL hs hM
  have hb : okV _ := okS_hd hs
  have ha : okV _ := okS_hd (okS_tl hs)
  refine lv_ladd X.1 X.2.1 hd ?_
  rw [ofL_add]
  exact k p l e s m args below meth c H locs ls X hS hP hl hL (okS_cons (w64_ok _) (okS_tl (okS_tl hs))) hM
theorem r_lsub {a b : Int} (hd : decode y.2.1 pc = .ok (.lsub, 1)) (k : Ok G y d mc ms Q (pc + 1) L (.inr (.inl (w64 (a - b))) :: S) lay M kc ks) : Ok G y d mc ms Q pc L (.inr (.inl b) :: .inr (.inl a) :: S) lay M kc ks := by
  intro p l e s m args below meth c H locs ls X hS hP hl hL hs hM
  have hb : okV _ := okS_hd hs
  have ha : okV _ := okS_hd (okS_tl hs)
  refine lv_lsub X.1 X.2.1 hd ?_
  rw [ofL_sub]
  exact k p l e s m args below meth c H locs ls X hS hP hl hL (okS_cons (w64_ok _) (okS_tl (okS_tl hs))) hM
theorem r_lmul {a b : Int} (hd : decode y.2.1 pc = .ok (.lmul, 1)) (k : Ok G y d mc ms Q (pc + 1) L (.inr (.inl (w64 (a * b))) :: S) lay M kc ks) : Ok G y d mc ms Q pc L (.inr (.inl b) :: .inr (.inl a) :: S) lay M kc ks := by
  intro p l e s m args below meth c H locs ls X hS hP hl hL hs hM
  have hb : okV _ := okS_hd hs
  have ha : okV _ := okS_hd (okS_tl hs)
  refine lv_lmul X.1 X.2.1 hd ?_
  rw [ofL_mul]
  exact k p l e s m args below meth c H locs ls X hS hP hl hL (okS_cons (w64_ok _) (okS_tl (okS_tl hs))) hM
theorem r_iand {a b : Int} (hd : decode y.2.1 pc = .ok (.iand, 1)) (k : Ok G y d mc ms Q (pc + 1) L (.inl (iand a b) :: S) lay M kc ks) : Ok G y d mc ms Q pc L (.inl b :: .inl a :: S) lay M kc ks := by
  intro p l e s m args below meth c H locs ls X hS hP hl hL hs hM
  have hb : okV _ := okS_hd hs
  have ha : okV _ := okS_hd (okS_tl hs)
  refine lv_iand X.1 X.2.1 hd ?_
  rw [cvo_iand]
  exact k p l e s m args below meth c H locs ls X hS hP hl hL (okS_cons (I32_toInt _) (okS_tl (okS_tl hs))) hM
theorem r_ior {a b : Int} (hd : decode y.2.1 pc = .ok (.ior, 1)) (k : Ok G y d mc ms Q (pc + 1) L (.inl (ior a b) :: S) lay M kc ks) : Ok G y d mc ms Q pc L (.inl b :: .inl a :: S) lay M kc ks := by
  intro p l e s m args below meth c H locs ls X hS hP hl hL hs hM
  have hb : okV _ := okS_hd hs
  have ha : okV _ := okS_hd (okS_tl hs)
  refine lv_ior X.1 X.2.1 hd ?_
  rw [cvo_ior]
  exact k p l e s m args below meth c H locs ls X hS hP hl hL (okS_cons (I32_toInt _) (okS_tl (okS_tl hs))) hM
theorem r_ixor {a b : Int} (hd : decode y.2.1 pc = .ok (.ixor, 1)) (k : Ok G y d mc ms Q (pc + 1) L (.inl (ixor a b) :: S) lay M kc ks) : Ok G y d mc ms Q pc L (.inl b :: .inl a :: S) lay M kc ks := by
  intro p l e s m args below meth c H locs ls X hS hP hl hL hs hM
  have hb : okV _ := okS_hd hs
  have ha : okV _ := okS_hd (okS_tl hs)
  refine lv_ixor X.1 X.2.1 hd ?_
  rw [cvo_ixor]
  exact k p l e s m args below meth c H locs ls X hS hP hl hL (okS_cons (I32_toInt _) (okS_tl (okS_tl hs))) hM
theorem r_ishl {a b : Int} (hd : decode y.2.1 pc = .ok (.ishl, 1)) (k : Ok G y d mc ms Q (pc + 1) L (.inl (ishl a b) :: S) lay M kc ks) : Ok G y d mc ms Q pc L (.inl b :: .inl a :: S) lay M kc ks := by
  intro p l e s m args below meth c H locs ls X hS hP hl hL hs hM
  have hb : okV _ := okS_hd hs
  have ha : okV _ := okS_hd (okS_tl hs)
  refine lv_ishl X.1 X.2.1 hd ?_
  rw [cvo_ishl]
  exact k p l e s m args below meth c H locs ls X hS hP hl hL (okS_cons (I32_toInt _) (okS_tl (okS_tl hs))) hM
theorem r_ishr {a b : Int} (hd : decode y.2.1 pc = .ok (.ishr, 1)) (k : Ok G y d mc ms Q (pc + 1) L (.inl (ishr a b) :: S) lay M kc ks) : Ok G y d mc ms Q pc L (.inl b :: .inl a :: S) lay M kc ks := by
  intro p l e s m args below meth c H locs ls X hS hP hl hL hs hM
  have hb : okV _ := okS_hd hs
  have ha : okV _ := okS_hd (okS_tl hs)
  refine lv_ishr X.1 X.2.1 hd ?_
  rw [cvo_ishr]
  exact k p l e s m args below meth c H locs ls X hS hP hl hL (okS_cons (I32_toInt _) (okS_tl (okS_tl hs))) hM
theorem r_land {a b : Int} (hd : decode y.2.1 pc = .ok (.land, 1)) (k : Ok G y d mc ms Q (pc + 1) L (.inr (.inl (land a b)) :: S) lay M kc ks) : Ok G y d mc ms Q pc L (.inr (.inl b) :: .inr (.inl a) :: S) lay M kc ks := by
  intro p l e s m args below meth c H locs ls X hS hP hl hL hs hM
  have hb : okV _ := okS_hd hs
  have ha : okV _ := okS_hd (okS_tl hs)
  refine lv_land X.1 X.2.1 hd ?_
  rw [cvo_land]
  exact k p l e s m args below meth c H locs ls X hS hP hl hL (okS_cons (I64_toInt _) (okS_tl (okS_tl hs))) hM
theorem r_lor {a b : Int} (hd : decode y.2.1 pc = .ok (.lor, 1)) (k : Ok G y d mc ms Q (pc + 1) L (.inr (.inl (lor a b)) :: S) lay M kc ks) : Ok G y d mc ms Q pc L (.inr (.inl b) :: .inr (.inl a) :: S) lay M kc ks := by
  intro p l e s m args below meth c H locs ls X hS hP hl hL hs hM
  have hb : okV _ := okS_hd hs
  have ha : okV _ := okS_hd (okS_tl hs)
  refine lv_lor X.1 X.2.1 hd ?_
  rw [cvo_lor]
  exact k p l e s m args below meth c H locs ls X hS hP hl hL (okS_cons (I64_toInt _) (okS_tl (okS_tl hs))) hM
theorem ofI_rem' {a b : Int} (ha : I32 a) (hb : I32 b) : Int32.ofInt a - Int32.ofInt a / Int32.ofInt b * Int32.ofInt b = Int32.ofInt (irem a b) := by
  rw [ofI_div ha hb, idiv, ofI_w32, ← Int32.ofInt_mul, ← Int32.ofInt_sub, irem, Int.tmod_def, Int.mul_comm]
theorem ofL_rem' {a b : Int} (ha : I64 a) (hb : I64 b) : Int64.ofInt a - Int64.ofInt a / Int64.ofInt b * Int64.ofInt b = Int64.ofInt (lrem a b) := by
  rw [ofL_div ha hb, ldiv, ofI_w64, ← Int64.ofInt_mul, ← Int64.ofInt_sub, lrem, Int.tmod_def, Int.mul_comm]
def iushr (a b : Int) : Int := ((Int32.ofInt a).toUInt32 >>> ((Int32.ofInt b).toUInt32 &&& Int32.toUInt32 31)).toInt32.toInt
def lshl (a b : Int) : Int := (Int64.ofInt a <<< ((Int32.ofInt b).toInt64 &&& 63)).toInt
theorem cvo_iushr (a b : Int) : ((Int32.ofInt a).toUInt32 >>> ((Int32.ofInt b).toUInt32 &&& Int32.toUInt32 31)).toInt32 = Int32.ofInt (iushr a b) := (ofI_toI _).symm
theorem cvo_lshl (a b : Int) : Int64.ofInt a <<< ((Int32.ofInt b).toInt64 &&& 63) = Int64.ofInt (lshl a b) := (ofL_toL _).symm
theorem lg_cmp_of {a b : Int} (ha : I64 a) (hb : I64 b) : lg_cmp (Int64.ofInt a) (Int64.ofInt b) = Int32.ofInt (lcmp a b) := by
  unfold lg_cmp lcmp
  simp only [ofL_lt ha hb, ofL_inj ha hb, ofL_lt hb ha]
  by_cases h1 : b < a
  · simp [h1]
  · by_cases h2 : a = b
    · simp [h2]
    · simp [h1, h2]
theorem r_idiv {a b : Int} (hd : decode y.2.1 pc = .ok (.idiv, 1)) (hne : ¬ b = 0) (k : Ok G y d mc ms Q (pc + 1) L (.inl (idiv a b) :: S) lay M kc ks) : Ok G y d mc ms Q pc L (.inl b :: .inl a :: S) lay M kc ks := by
  intro p l e s m args below meth c H locs ls X hS hP hl hL hs hM
  have hb : okV _ := okS_hd hs
  have ha : okV _ := okS_hd (okS_tl hs)
  refine lv_idiv X.1 X.2.1 hd (fun q => hne ((ofI_inj (show I32 b from okS_hd hs) I32_0).mp q)) ?_
  rw [ofI_div ha hb]
  exact k p l e s m args below meth c H locs ls X hS hP hl hL (okS_cons (w32_ok _) (okS_tl (okS_tl hs))) hM
theorem r_irem {a b : Int} (hd : decode y.2.1 pc = .ok (.irem, 1)) (hne : ¬ b = 0) (k : Ok G y d mc ms Q (pc + 1) L (.inl (irem a b) :: S) lay M kc ks) : Ok G y d mc ms Q pc L (.inl b :: .inl a :: S) lay M kc ks := by
  intro p l e s m args below meth c H locs ls X hS hP hl hL hs hM
  have hb : okV _ := okS_hd hs
  have ha : okV _ := okS_hd (okS_tl hs)
  refine lv_irem X.1 X.2.1 hd (fun q => hne ((ofI_inj (show I32 b from okS_hd hs) I32_0).mp q)) ?_
  rw [ofI_rem' ha hb]
  exact k p l e s m args below meth c H locs ls X hS hP hl hL (okS_cons (irem_ok ha hb) (okS_tl (okS_tl hs))) hM
theorem r_ldiv {a b : Int} (hd : decode y.2.1 pc = .ok (.ldiv, 1)) (hne : ¬ b = 0) (k : Ok G y d mc ms Q (pc + 1) L (.inr (.inl (ldiv a b)) :: S) lay M kc ks) : Ok G y d mc ms Q pc L (.inr (.inl b) :: .inr (.inl a) :: S) lay M kc ks := by
  intro p l e s m args below meth c H locs ls X hS hP hl hL hs hM
  have hb : okV _ := okS_hd hs
  have ha : okV _ := okS_hd (okS_tl hs)
  refine lv_ldiv X.1 X.2.1 hd (fun q => hne ((ofL_inj (show I64 b from okS_hd hs) (I32_64 I32_0)).mp q)) ?_
  rw [ofL_div ha hb]
  exact k p l e s m args below meth c H locs ls X hS hP hl hL (okS_cons (w64_ok _) (okS_tl (okS_tl hs))) hM
theorem r_lrem {a b : Int} (hd : decode y.2.1 pc = .ok (.lrem, 1)) (hne : ¬ b = 0) (k : Ok G y d mc ms Q (pc + 1) L (.inr (.inl (lrem a b)) :: S) lay M kc ks) : Ok G y d mc ms Q pc L (.inr (.inl b) :: .inr (.inl a) :: S) lay M kc ks := by
  intro p l e s m args below meth c H locs ls X hS hP hl hL hs hM
  have hb : okV _ := okS_hd hs
  have ha : okV _ := okS_hd (okS_tl hs)
  refine lv_lrem X.1 X.2.1 hd (fun q => hne ((ofL_inj (show I64 b from okS_hd hs) (I32_64 I32_0)).mp q)) ?_
  rw [ofL_rem' ha hb]
  exact k p l e s m args below meth c H locs ls X hS hP hl hL (okS_cons (lrem_ok ha hb) (okS_tl (okS_tl hs))) hM
theorem r_iushr {a b : Int} (hd : decode y.2.1 pc = .ok (.iushr, 1)) (k : Ok G y d mc ms Q (pc + 1) L (.inl (iushr a b) :: S) lay M kc ks) : Ok G y d mc ms Q pc L (.inl b :: .inl a :: S) lay M kc ks := by
  intro p l e s m args below meth c H locs ls X hS hP hl hL hs hM
  have hb : okV _ := okS_hd hs
  have ha : okV _ := okS_hd (okS_tl hs)
  refine lv_iushr X.1 X.2.1 hd rfl ?_
  rw [cvo_iushr]
  exact k p l e s m args below meth c H locs ls X hS hP hl hL (okS_cons (I32_toInt _) (okS_tl (okS_tl hs))) hM
theorem r_lshl {a b : Int} (hd : decode y.2.1 pc = .ok (.lshl, 1)) (k : Ok G y d mc ms Q (pc + 1) L (.inr (.inl (lshl a b)) :: S) lay M kc ks) : Ok G y d mc ms Q pc L (.inl b :: .inr (.inl a) :: S) lay M kc ks := by
  intro p l e s m args below meth c H locs ls X hS hP hl hL hs hM
  refine lv_lshl X.1 X.2.1 hd rfl ?_
  rw [cvo_lshl]
  exact k p l e s m args below meth c H locs ls X hS hP hl hL (okS_cons (I64_toInt _) (okS_tl (okS_tl hs))) hM
theorem r_lcmp {a b : Int} (hd : decode y.2.1 pc = .ok (.lcmp, 1)) (k : Ok G y d mc ms Q (pc + 1) L (.inl (lcmp a b) :: S) lay M kc ks) : Ok G y d mc ms Q pc L (.inr (.inl b) :: .inr (.inl a) :: S) lay M kc ks := by
  intro p l e s m args below meth c H locs ls X hS hP hl hL hs hM
  refine W.lcmp X.1 X.2.1 hd ?_
  rw [lg_cmp_of (show I64 a from okS_hd (okS_tl hs)) (show I64 b from okS_hd hs)]
  refine k p l e s m args below meth c H locs ls X hS hP hl hL (okS_cons ?_ (okS_tl (okS_tl hs))) hM
  show I32 (lcmp a b)
  unfold lcmp I32; split <;> (try split) <;> omega
theorem r_ineg {a : Int} (hd : decode y.2.1 pc = .ok (.ineg, 1)) (k : Ok G y d mc ms Q (pc + 1) L (.inl (w32 (-a)) :: S) lay M kc ks) : Ok G y d mc ms Q pc L (.inl a :: S) lay M kc ks := by
  intro p l e s m args below meth c H locs ls X hS hP hl hL hs hM
  have ha : okV _ := okS_hd hs
  refine lv_ineg X.1 X.2.1 hd ?_
  rw [ofI_neg]
  exact k p l e s m args below meth c H locs ls X hS hP hl hL (okS_cons (w32_ok _) (okS_tl hs)) hM
theorem r_lneg {a : Int} (hd : decode y.2.1 pc = .ok (.lneg, 1)) (k : Ok G y d mc ms Q (pc + 1) L (.inr (.inl (w64 (-a))) :: S) lay M kc ks) : Ok G y d mc ms Q pc L (.inr (.inl a) :: S) lay M kc ks := by
  intro p l e s m args below meth c H locs ls X hS hP hl hL hs hM
  have ha : okV _ := okS_hd hs
  refine lv_lneg X.1 X.2.1 hd ?_
  rw [ofL_neg]
  exact k p l e s m args below meth c H locs ls X hS hP hl hL (okS_cons (w64_ok _) (okS_tl hs)) hM
theorem r_i2l {a : Int} (hd : decode y.2.1 pc = .ok (.i2l, 1)) (k : Ok G y d mc ms Q (pc + 1) L (.inr (.inl a) :: S) lay M kc ks) : Ok G y d mc ms Q pc L (.inl a :: S) lay M kc ks := by
  intro p l e s m args below meth c H locs ls X hS hP hl hL hs hM
  have ha : okV _ := okS_hd hs
  refine lv_i2l X.1 X.2.1 hd (i2l_of ha) ?_
  exact k p l e s m args below meth c H locs ls X hS hP hl hL (okS_cons (I32_64 ha) (okS_tl hs)) hM
theorem r_l2i {a : Int} (hd : decode y.2.1 pc = .ok (.l2i, 1)) (k : Ok G y d mc ms Q (pc + 1) L (.inl (w32 a) :: S) lay M kc ks) : Ok G y d mc ms Q pc L (.inr (.inl a) :: S) lay M kc ks := by
  intro p l e s m args below meth c H locs ls X hS hP hl hL hs hM
  have ha : okV _ := okS_hd hs
  refine lv_l2i X.1 X.2.1 hd (l2i_of ha) ?_
  exact k p l e s m args below meth c H locs ls X hS hP hl hL (okS_cons (w32_ok _) (okS_tl hs)) hM
theorem r_iconst {n : Int} (hd : decode y.2.1 pc = .ok (.iconst n, 1)) (hn : I32 n) (k : Ok G y d mc ms Q (pc + 1) L (.inl n :: S) lay M kc ks) : Ok G y d mc ms Q pc L S lay M kc ks := by
  intro p l e s m args below meth c H locs ls X hS hP hl hL hs hM
  refine lv_iconst X.1 X.2.1 hd rfl ?_
  exact k p l e s m args below meth c H locs ls X hS hP hl hL (okS_cons hn hs) hM
theorem r_bipush {n : Int} (hd : decode y.2.1 pc = .ok (.bipush n, 2)) (hn : (Int8.ofInt n).toInt32 = Int32.ofInt n ∧ I32 n) (k : Ok G y d mc ms Q (pc + 2) L (.inl n :: S) lay M kc ks) : Ok G y d mc ms Q pc L S lay M kc ks := by
  intro p l e s m args below meth c H locs ls X hS hP hl hL hs hM
  refine lv_bipush X.1 X.2.1 hd hn.1 ?_
  exact k p l e s m args below meth c H locs ls X hS hP hl hL (okS_cons hn.2 hs) hM
theorem r_sipush {n : Int} (hd : decode y.2.1 pc = .ok (.sipush n, 3)) (hn : (Int16.ofInt n).toInt32 = Int32.ofInt n ∧ I32 n) (k : Ok G y d mc ms Q (pc + 3) L (.inl n :: S) lay M kc ks) : Ok G y d mc ms Q pc L S lay M kc ks := by
  intro p l e s m args below meth c H locs ls X hS hP hl hL hs hM
  refine lv_sipush X.1 X.2.1 hd hn.1 ?_
  exact k p l e s m args below meth c H locs ls X hS hP hl hL (okS_cons hn.2 hs) hM
theorem r_lconst {n : Fin 2} {v : Int} (hd : decode y.2.1 pc = .ok (.lconst n, 1)) (hn : Int64.ofNat (n : Nat) = Int64.ofInt v ∧ I64 v) (k : Ok G y d mc ms Q (pc + 1) L (.inr (.inl v) :: S) lay M kc ks) : Ok G y d mc ms Q pc L S lay M kc ks := by
  intro p l e s m args below meth c H locs ls X hS hP hl hL hs hM
  refine lv_lconst X.1 X.2.1 hd hn.1 ?_
  exact k p l e s m args below meth c H locs ls X hS hP hl hL (okS_cons hn.2 hs) hM
theorem r_ldc {idx : Nat} {n : Int} (hd : decode y.2.1 pc = .ok (.ldc idx, 2)) (hw : Cond.constant y.1.cls idx (Int32.ofInt n) ∈ TBL) (hn : I32 n) (k : Ok G y d mc ms Q (pc + 2) L (.inl n :: S) lay M kc ks) : Ok G y d mc ms Q pc L S lay M kc ks := by
  intro p l e s m args below meth c H locs ls X hS hP hl hL hs hM
  refine lv_ldc X.1 X.2.1 X.2.2.2.1 (X.2.2.2.2.1 _ hw) hd ?_
  exact k p l e s m args below meth c H locs ls X hS hP hl hL (okS_cons hn hs) hM
theorem r_ldcw {idx : Nat} {n : Int} (hd : decode y.2.1 pc = .ok (.ldc_w idx, 3)) (hw : Cond.constant y.1.cls idx (Int32.ofInt n) ∈ TBL) (hn : I32 n) (k : Ok G y d mc ms Q (pc + 3) L (.inl n :: S) lay M kc ks) : Ok G y d mc ms Q pc L S lay M kc ks := by
  intro p l e s m args below meth c H locs ls X hS hP hl hL hs hM
  refine lv_ldcw X.1 X.2.1 X.2.2.2.1 (X.2.2.2.2.1 _ hw) hd ?_
  exact k p l e s m args below meth c H locs ls X hS hP hl hL (okS_cons hn hs) hM
theorem r_ldc2 {idx : Nat} {n : Int} (hd : decode y.2.1 pc = .ok (.ldc2_w idx, 3)) (hw : Cond.constantLong y.1.cls idx (Int64.ofInt n) ∈ TBL) (hn : I64 n) (k : Ok G y d mc ms Q (pc + 3) L (.inr (.inl n) :: S) lay M kc ks) : Ok G y d mc ms Q pc L S lay M kc ks := by
  intro p l e s m args below meth c H locs ls X hS hP hl hL hs hM
  refine lv_ldc2 X.1 X.2.1 X.2.2.2.1 (X.2.2.2.2.1 _ hw) hd ?_
  exact k p l e s m args below meth c H locs ls X hS hP hl hL (okS_cons hn hs) hM
theorem r_dup {v : MV} (hd : decode y.2.1 pc = .ok (.dup, 1)) (hv : ∀ x, v ≠ .inr (.inl x)) (k : Ok G y d mc ms Q (pc + 1) L (v :: v :: S) lay M kc ks) : Ok G y d mc ms Q pc L (v :: S) lay M kc ks := by
  intro p l e s m args below meth c H locs ls X hS hP hl hL hs hM
  have hc : (cv G v).category = 1 := by
    match v, hv with
    | .inl x, _ => rfl
    | .inr (.inl x), hv => exact absurd rfl (hv x)
    | .inr (.inr none), _ => rfl
    | .inr (.inr (some a)), _ => rfl
  refine lv_dup X.1 X.2.1 hd hc ?_
  exact k p l e s m args below meth c H locs ls X hS hP hl hL (okS_cons (okS_hd hs) hs) hM
theorem r_dup2 {r : Option Nat} {x : Int} (hd : decode y.2.1 pc = .ok (.dup2, 1)) (k : Ok G y d mc ms Q (pc + 1) L (.inl x :: .inr (.inr r) :: .inl x :: .inr (.inr r) :: S) lay M kc ks) : Ok G y d mc ms Q pc L (.inl x :: .inr (.inr r) :: S) lay M kc ks := by
  intro p l e s m args below meth c H locs ls X hS hP hl hL hs hM
  have hc : (cv G (.inr (.inr r))).category = 1 := by cases r <;> rfl
  refine lv_dup2_11 X.1 X.2.1 hd rfl hc ?_
  exact k p l e s m args below meth c H locs ls X hS hP hl hL (okS_cons (okS_hd hs) (okS_cons (okS_hd (okS_tl hs)) hs)) hM
theorem r_if_eq {a : Int} {off : Int} {tgt : Nat} (hd : decode y.2.1 pc = .ok (.ifCond .eq off, 3)) (ht : (pc : Int) + off = (tgt : Int)) (kt : a = 0 → Ok G y d mc ms Q tgt L S lay M kc ks) (kf : ¬ (a = 0) → Ok G y d mc ms Q (pc + 3) L S lay M kc ks) : Ok G y d mc ms Q pc L (.inl a :: S) lay M kc ks := by
  intro p l e s m args below meth c H locs ls X hS hP hl hL hs hM
  have ha : I32 a := okS_hd hs
  have e0 : (Int32.ofInt a = 0 ↔ a = 0) := by rw [← ofI_0]; exact ofI_inj ha I32_0
  have e1 : (Int32.ofInt a < 0 ↔ a < 0) := by rw [← ofI_0]; exact ofI_lt ha I32_0
  have e2 : (Int32.ofInt a ≤ 0 ↔ a ≤ 0) := by rw [← ofI_0]; exact ofI_le ha I32_0
  have e3 : (0 < Int32.ofInt a ↔ 0 < a) := by rw [← ofI_0]; exact ofI_lt I32_0 ha
  have e4 : (0 ≤ Int32.ofInt a ↔ 0 ≤ a) := by rw [← ofI_0]; exact ofI_le I32_0 ha
  refine lv_if_eq X.1 X.2.1 hd ht (fun q => ?_) (fun q => ?_)
  · exact kt (by simpa [e0, e1, e2, e3, e4] using q) p l e s m args below meth c H locs ls X hS hP hl hL (okS_tl hs) hM
  · exact kf (by simpa [e0, e1, e2, e3, e4] using q) p l e s m args below meth c H locs ls X hS hP hl hL (okS_tl hs) hM
theorem r_if_ne {a : Int} {off : Int} {tgt : Nat} (hd : decode y.2.1 pc = .ok (.ifCond .ne off, 3)) (ht : (pc : Int) + off = (tgt : Int)) (kt : ¬ a = 0 → Ok G y d mc ms Q tgt L S lay M kc ks) (kf : ¬ (¬ a = 0) → Ok G y d mc ms Q (pc + 3) L S lay M kc ks) : Ok G y d mc ms Q pc L (.inl a :: S) lay M kc ks := by
  intro p l e s m args below meth c H locs ls X hS hP hl hL hs hM
  have ha : I32 a := okS_hd hs
  have e0 : (Int32.ofInt a = 0 ↔ a = 0) := by rw [← ofI_0]; exact ofI_inj ha I32_0
  have e1 : (Int32.ofInt a < 0 ↔ a < 0) := by rw [← ofI_0]; exact ofI_lt ha I32_0
  have e2 : (Int32.ofInt a ≤ 0 ↔ a ≤ 0) := by rw [← ofI_0]; exact ofI_le ha I32_0
  have e3 : (0 < Int32.ofInt a ↔ 0 < a) := by rw [← ofI_0]; exact ofI_lt I32_0 ha
  have e4 : (0 ≤ Int32.ofInt a ↔ 0 ≤ a) := by rw [← ofI_0]; exact ofI_le I32_0 ha
  refine lv_if_ne X.1 X.2.1 hd ht (fun q => ?_) (fun q => ?_)
  · exact kt (by simpa [e0, e1, e2, e3, e4] using q) p l e s m args below meth c H locs ls X hS hP hl hL (okS_tl hs) hM
  · exact kf (by simpa [e0, e1, e2, e3, e4] using q) p l e s m args below meth c H locs ls X hS hP hl hL (okS_tl hs) hM
theorem r_if_lt {a : Int} {off : Int} {tgt : Nat} (hd : decode y.2.1 pc = .ok (.ifCond .lt off, 3)) (ht : (pc : Int) + off = (tgt : Int)) (kt : a < 0 → Ok G y d mc ms Q tgt L S lay M kc ks) (kf : ¬ (a < 0) → Ok G y d mc ms Q (pc + 3) L S lay M kc ks) : Ok G y d mc ms Q pc L (.inl a :: S) lay M kc ks := by
  intro p l e s m args below meth c H locs ls X hS hP hl hL hs hM
  have ha : I32 a := okS_hd hs
  have e0 : (Int32.ofInt a = 0 ↔ a = 0) := by rw [← ofI_0]; exact ofI_inj ha I32_0
  have e1 : (Int32.ofInt a < 0 ↔ a < 0) := by rw [← ofI_0]; exact ofI_lt ha I32_0
  have e2 : (Int32.ofInt a ≤ 0 ↔ a ≤ 0) := by rw [← ofI_0]; exact ofI_le ha I32_0
  have e3 : (0 < Int32.ofInt a ↔ 0 < a) := by rw [← ofI_0]; exact ofI_lt I32_0 ha
  have e4 : (0 ≤ Int32.ofInt a ↔ 0 ≤ a) := by rw [← ofI_0]; exact ofI_le I32_0 ha
  refine lv_if_lt X.1 X.2.1 hd ht (fun q => ?_) (fun q => ?_)
  · exact kt (by simpa [e0, e1, e2, e3, e4] using q) p l e s m args below meth c H locs ls X hS hP hl hL (okS_tl hs) hM
  · exact kf (by simpa [e0, e1, e2, e3, e4] using q) p l e s m args below meth c H locs ls X hS hP hl hL (okS_tl hs) hM
theorem r_if_ge {a : Int} {off : Int} {tgt : Nat} (hd : decode y.2.1 pc = .ok (.ifCond .ge off, 3)) (ht : (pc : Int) + off = (tgt : Int)) (kt : 0 ≤ a → Ok G y d mc ms Q tgt L S lay M kc ks) (kf : ¬ (0 ≤ a) → Ok G y d mc ms Q (pc + 3) L S lay M kc ks) : Ok G y d mc ms Q pc L (.inl a :: S) lay M kc ks := by
  intro p l e s m args below meth c H locs ls X hS hP hl hL hs hM
  have ha : I32 a := okS_hd hs
  have e0 : (Int32.ofInt a = 0 ↔ a = 0) := by rw [← ofI_0]; exact ofI_inj ha I32_0
  have e1 : (Int32.ofInt a < 0 ↔ a < 0) := by rw [← ofI_0]; exact ofI_lt ha I32_0
  have e2 : (Int32.ofInt a ≤ 0 ↔ a ≤ 0) := by rw [← ofI_0]; exact ofI_le ha I32_0
  have e3 : (0 < Int32.ofInt a ↔ 0 < a) := by rw [← ofI_0]; exact ofI_lt I32_0 ha
  have e4 : (0 ≤ Int32.ofInt a ↔ 0 ≤ a) := by rw [← ofI_0]; exact ofI_le I32_0 ha
  refine lv_if_ge X.1 X.2.1 hd ht (fun q => ?_) (fun q => ?_)
  · exact kt (by simpa [e0, e1, e2, e3, e4] using q) p l e s m args below meth c H locs ls X hS hP hl hL (okS_tl hs) hM
  · exact kf (by simpa [e0, e1, e2, e3, e4] using q) p l e s m args below meth c H locs ls X hS hP hl hL (okS_tl hs) hM
theorem r_if_gt {a : Int} {off : Int} {tgt : Nat} (hd : decode y.2.1 pc = .ok (.ifCond .gt off, 3)) (ht : (pc : Int) + off = (tgt : Int)) (kt : 0 < a → Ok G y d mc ms Q tgt L S lay M kc ks) (kf : ¬ (0 < a) → Ok G y d mc ms Q (pc + 3) L S lay M kc ks) : Ok G y d mc ms Q pc L (.inl a :: S) lay M kc ks := by
  intro p l e s m args below meth c H locs ls X hS hP hl hL hs hM
  have ha : I32 a := okS_hd hs
  have e0 : (Int32.ofInt a = 0 ↔ a = 0) := by rw [← ofI_0]; exact ofI_inj ha I32_0
  have e1 : (Int32.ofInt a < 0 ↔ a < 0) := by rw [← ofI_0]; exact ofI_lt ha I32_0
  have e2 : (Int32.ofInt a ≤ 0 ↔ a ≤ 0) := by rw [← ofI_0]; exact ofI_le ha I32_0
  have e3 : (0 < Int32.ofInt a ↔ 0 < a) := by rw [← ofI_0]; exact ofI_lt I32_0 ha
  have e4 : (0 ≤ Int32.ofInt a ↔ 0 ≤ a) := by rw [← ofI_0]; exact ofI_le I32_0 ha
  refine lv_if_gt X.1 X.2.1 hd ht (fun q => ?_) (fun q => ?_)
  · exact kt (by simpa [e0, e1, e2, e3, e4] using q) p l e s m args below meth c H locs ls X hS hP hl hL (okS_tl hs) hM
  · exact kf (by simpa [e0, e1, e2, e3, e4] using q) p l e s m args below meth c H locs ls X hS hP hl hL (okS_tl hs) hM
theorem r_if_le {a : Int} {off : Int} {tgt : Nat} (hd : decode y.2.1 pc = .ok (.ifCond .le off, 3)) (ht : (pc : Int) + off = (tgt : Int)) (kt : a ≤ 0 → Ok G y d mc ms Q tgt L S lay M kc ks) (kf : ¬ (a ≤ 0) → Ok G y d mc ms Q (pc + 3) L S lay M kc ks) : Ok G y d mc ms Q pc L (.inl a :: S) lay M kc ks := by
  intro p l e s m args below meth c H locs ls X hS hP hl hL hs hM
  have ha : I32 a := okS_hd hs
  have e0 : (Int32.ofInt a = 0 ↔ a = 0) := by rw [← ofI_0]; exact ofI_inj ha I32_0
  have e1 : (Int32.ofInt a < 0 ↔ a < 0) := by rw [← ofI_0]; exact ofI_lt ha I32_0
  have e2 : (Int32.ofInt a ≤ 0 ↔ a ≤ 0) := by rw [← ofI_0]; exact ofI_le ha I32_0
  have e3 : (0 < Int32.ofInt a ↔ 0 < a) := by rw [← ofI_0]; exact ofI_lt I32_0 ha
  have e4 : (0 ≤ Int32.ofInt a ↔ 0 ≤ a) := by rw [← ofI_0]; exact ofI_le I32_0 ha
  refine lv_if_le X.1 X.2.1 hd ht (fun q => ?_) (fun q => ?_)
  · exact kt (by simpa [e0, e1, e2, e3, e4] using q) p l e s m args below meth c H locs ls X hS hP hl hL (okS_tl hs) hM
  · exact kf (by simpa [e0, e1, e2, e3, e4] using q) p l e s m args below meth c H locs ls X hS hP hl hL (okS_tl hs) hM
theorem r_icmp_eq {a b : Int} {off : Int} {tgt : Nat} (hd : decode y.2.1 pc = .ok (.if_icmp .eq off, 3)) (ht : (pc : Int) + off = (tgt : Int)) (kt : a = b → Ok G y d mc ms Q tgt L S lay M kc ks) (kf : ¬ (a = b) → Ok G y d mc ms Q (pc + 3) L S lay M kc ks) : Ok G y d mc ms Q pc L (.inl b :: .inl a :: S) lay M kc ks := by
  intro p l e s m args below meth c H locs ls X hS hP hl hL hs hM
  have hb : I32 b := okS_hd hs
  have ha : I32 a := okS_hd (okS_tl hs)
  refine lv_icmp_eq X.1 X.2.1 hd ht (fun q => ?_) (fun q => ?_)
  · exact kt (by simpa [ofI_inj ha hb, ofI_lt ha hb, ofI_lt hb ha, ofI_le ha hb, ofI_le hb ha] using q) p l e s m args below meth c H locs ls X hS hP hl hL (okS_tl (okS_tl hs)) hM
  · exact kf (by simpa [ofI_inj ha hb, ofI_lt ha hb, ofI_lt hb ha, ofI_le ha hb, ofI_le hb ha] using q) p l e s m args below meth c H locs ls X hS hP hl hL (okS_tl (okS_tl hs)) hM
theorem r_icmp_ne {a b : Int} {off : Int} {tgt : Nat} (hd : decode y.2.1 pc = .ok (.if_icmp .ne off, 3)) (ht : (pc : Int) + off = (tgt : Int)) (kt : ¬ a = b → Ok G y d mc ms Q tgt L S lay M kc ks) (kf : ¬ (¬ a = b) → Ok G y d mc ms Q (pc + 3) L S lay M kc ks) : Ok G y d mc ms Q pc L (.inl b :: .inl a :: S) lay M kc ks := by
  intro p l e s m args below meth c H locs ls X hS hP hl hL hs hM
  have hb : I32 b := okS_hd hs
  have ha : I32 a := okS_hd (okS_tl hs)
  refine lv_icmp_ne X.1 X.2.1 hd ht (fun q => ?_) (fun q => ?_)
  · exact kt (by simpa [ofI_inj ha hb, ofI_lt ha hb, ofI_lt hb ha, ofI_le ha hb, ofI_le hb ha] using q) p l e s m args below meth c H locs ls X hS hP hl hL (okS_tl (okS_tl hs)) hM
  · exact kf (by simpa [ofI_inj ha hb, ofI_lt ha hb, ofI_lt hb ha, ofI_le ha hb, ofI_le hb ha] using q) p l e s m args below meth c H locs ls X hS hP hl hL (okS_tl (okS_tl hs)) hM
theorem r_icmp_lt {a b : Int} {off : Int} {tgt : Nat} (hd : decode y.2.1 pc = .ok (.if_icmp .lt off, 3)) (ht : (pc : Int) + off = (tgt : Int)) (kt : a < b → Ok G y d mc ms Q tgt L S lay M kc ks) (kf : ¬ (a < b) → Ok G y d mc ms Q (pc + 3) L S lay M kc ks) : Ok G y d mc ms Q pc L (.inl b :: .inl a :: S) lay M kc ks := by
  intro p l e s m args below meth c H locs ls X hS hP hl hL hs hM
  have hb : I32 b := okS_hd hs
  have ha : I32 a := okS_hd (okS_tl hs)
  refine lv_icmp_lt X.1 X.2.1 hd ht (fun q => ?_) (fun q => ?_)
  · exact kt (by simpa [ofI_inj ha hb, ofI_lt ha hb, ofI_lt hb ha, ofI_le ha hb, ofI_le hb ha] using q) p l e s m args below meth c H locs ls X hS hP hl hL (okS_tl (okS_tl hs)) hM
  · exact kf (by simpa [ofI_inj ha hb, ofI_lt ha hb, ofI_lt hb ha, ofI_le ha hb, ofI_le hb ha] using q) p l e s m args below meth c H locs ls X hS hP hl hL (okS_tl (okS_tl hs)) hM
theorem r_icmp_ge {a b : Int} {off : Int} {tgt : Nat} (hd : decode y.2.1 pc = .ok (.if_icmp .ge off, 3)) (ht : (pc : Int) + off = (tgt : Int)) (kt : b ≤ a → Ok G y d mc ms Q tgt L S lay M kc ks) (kf : ¬ (b ≤ a) → Ok G y d mc ms Q (pc + 3) L S lay M kc ks) : Ok G y d mc ms Q pc L (.inl b :: .inl a :: S) lay M kc ks := by
  intro p l e s m args below meth c H locs ls X hS hP hl hL hs hM
  have hb : I32 b := okS_hd hs
  have ha : I32 a := okS_hd (okS_tl hs)
  refine lv_icmp_ge X.1 X.2.1 hd ht (fun q => ?_) (fun q => ?_)
  · exact kt (by simpa [ofI_inj ha hb, ofI_lt ha hb, ofI_lt hb ha, ofI_le ha hb, ofI_le hb ha] using q) p l e s m args below meth c H locs ls X hS hP hl hL (okS_tl (okS_tl hs)) hM
  · exact kf (by simpa [ofI_inj ha hb, ofI_lt ha hb, ofI_lt hb ha, ofI_le ha hb, ofI_le hb ha] using q) p l e s m args below meth c H locs ls X hS hP hl hL (okS_tl (okS_tl hs)) hM
theorem r_icmp_gt {a b : Int} {off : Int} {tgt : Nat} (hd : decode y.2.1 pc = .ok (.if_icmp .gt off, 3)) (ht : (pc : Int) + off = (tgt : Int)) (kt : b < a → Ok G y d mc ms Q tgt L S lay M kc ks) (kf : ¬ (b < a) → Ok G y d mc ms Q (pc + 3) L S lay M kc ks) : Ok G y d mc ms Q pc L (.inl b :: .inl a :: S) lay M kc ks := by
  intro p l e s m args below meth c H locs ls X hS hP hl hL hs hM
  have hb : I32 b := okS_hd hs
  have ha : I32 a := okS_hd (okS_tl hs)
  refine lv_icmp_gt X.1 X.2.1 hd ht (fun q => ?_) (fun q => ?_)
  · exact kt (by simpa [ofI_inj ha hb, ofI_lt ha hb, ofI_lt hb ha, ofI_le ha hb, ofI_le hb ha] using q) p l e s m args below meth c H locs ls X hS hP hl hL (okS_tl (okS_tl hs)) hM
  · exact kf (by simpa [ofI_inj ha hb, ofI_lt ha hb, ofI_lt hb ha, ofI_le ha hb, ofI_le hb ha] using q) p l e s m args below meth c H locs ls X hS hP hl hL (okS_tl (okS_tl hs)) hM
theorem r_icmp_le {a b : Int} {off : Int} {tgt : Nat} (hd : decode y.2.1 pc = .ok (.if_icmp .le off, 3)) (ht : (pc : Int) + off = (tgt : Int)) (kt : a ≤ b → Ok G y d mc ms Q tgt L S lay M kc ks) (kf : ¬ (a ≤ b) → Ok G y d mc ms Q (pc + 3) L S lay M kc ks) : Ok G y d mc ms Q pc L (.inl b :: .inl a :: S) lay M kc ks := by
  intro p l e s m args below meth c H locs ls X hS hP hl hL hs hM
  have hb : I32 b := okS_hd hs
  have ha : I32 a := okS_hd (okS_tl hs)
  refine lv_icmp_le X.1 X.2.1 hd ht (fun q => ?_) (fun q => ?_)
  · exact kt (by simpa [ofI_inj ha hb, ofI_lt ha hb, ofI_lt hb ha, ofI_le ha hb, ofI_le hb ha] using q) p l e s m args below meth c H locs ls X hS hP hl hL (okS_tl (okS_tl hs)) hM
  · exact kf (by simpa [ofI_inj ha hb, ofI_lt ha hb, ofI_lt hb ha, ofI_le ha hb, ofI_le hb ha] using q) p l e s m args below meth c H locs ls X hS hP hl hL (okS_tl (okS_tl hs)) hM
theorem r_goto {off : Int} {tgt : Nat} (hd : decode y.2.1 pc = .ok (.goto off, 3)) (ht : (pc : Int) + off = (tgt : Int)) (k : Ok G y d mc ms Q tgt L S lay M kc ks) : Ok G y d mc ms Q pc L S lay M kc ks := by
  intro p l e s m args below meth c H locs ls X hS hP hl hL hs hM
  exact lv_goto X.1 X.2.1 hd ht (k p l e s m args below meth c H locs ls X hS hP hl hL hs hM)
theorem r_tblOut {dflt lo hi : Int} {offs : Array Int} {len tgt : Nat} {a : Int} (hd : decode y.2.1 pc = .ok (.tableswitch dflt lo hi offs, len)) (h : a < lo ∨ hi < a) (ht : (pc : Int) + dflt = (tgt : Int)) (k : Ok G y d mc ms Q tgt L S lay M kc ks) : Ok G y d mc ms Q pc L (.inl a :: S) lay M kc ks := by
  intro p l e s m args below meth c H locs ls X hS hP hl hL hs hM
  exact lv_tableOut X.1 X.2.1 hd (by rw [toI_ofI (show I32 a from okS_hd hs)]; exact h) ht (k p l e s m args below meth c H locs ls X hS hP hl hL (okS_tl hs) hM)
theorem r_tblIn {dflt lo hi : Int} {offs : Array Int} {len tgt : Nat} {a off : Int} (hd : decode y.2.1 pc = .ok (.tableswitch dflt lo hi offs, len)) (h1 : ¬ a < lo) (h2 : ¬ hi < a) (ho : offs[(a - lo).toNat]? = some off) (ht : (pc : Int) + off = (tgt : Int)) (k : Ok G y d mc ms Q tgt L S lay M kc ks) : Ok G y d mc ms Q pc L (.inl a :: S) lay M kc ks := by
  intro p l e s m args below meth c H locs ls X hS hP hl hL hs hM
  have ee := toI_ofI (show I32 a from okS_hd hs)
  exact lv_tableIn X.1 X.2.1 hd (by rw [ee]; exact h1) (by rw [ee]; exact h2) (by rw [ee]; exact ho) ht (k p l e s m args below meth c H locs ls X hS hP hl hL (okS_tl hs) hM)
theorem r_lookup {dflt : Int} {ps : Array (Int × Int)} {len tgt : Nat} {a off : Int} (hd : decode y.2.1 pc = .ok (.lookupswitch dflt ps, len)) (hp : (ps.toList.zip (ps.toList.drop 1)).all (fun (a, next) => a.1 < next.1) = true) (ho : Op.lookupswitch.offset ps.toList dflt a = off) (ht : (pc : Int) + off = (tgt : Int)) (k : Ok G y d mc ms Q tgt L S lay M kc ks) : Ok G y d mc ms Q pc L (.inl a :: S) lay M kc ks := by
  intro p l e s m args below meth c H locs ls X hS hP hl hL hs hM
  have ee := toI_ofI (show I32 a from okS_hd hs)
  exact lv_lookup X.1 X.2.1 hd hp (by rw [ee]; exact ho) ht (k p l e s m args below meth c H locs ls X hS hP hl hL (okS_tl hs) hM)
theorem r_iload_n {k0 : Fin 4} {i : Nat} {x : Int} (hd : decode y.2.1 pc = .ok (.iload_n k0, 1)) (hi : (k0 : Nat) = i) (hv : L[i]? = some (some (.inl x))) (k : Ok G y d mc ms Q (pc + 1) L (.inl x :: S) lay M kc ks) : Ok G y d mc ms Q pc L S lay M kc ks := by
  intro p l e s m args below meth c H locs ls X hS hP hl hL hs hM
  exact lv_iload_n X.1 X.2.1 hd hi (hl.2.2 i _ hv) (k p l e s m args below meth c H locs ls X hS hP hl hL (okS_cons (hL i _ hv) hs) hM)
theorem r_iload {i : Nat} {x : Int} (hd : decode y.2.1 pc = .ok (.iload i, 2)) (hv : L[i]? = some (some (.inl x))) (k : Ok G y d mc ms Q (pc + 2) L (.inl x :: S) lay M kc ks) : Ok G y d mc ms Q pc L S lay M kc ks := by
  intro p l e s m args below meth c H locs ls X hS hP hl hL hs hM
  exact lv_iload X.1 X.2.1 hd (hl.2.2 i _ hv) (k p l e s m args below meth c H locs ls X hS hP hl hL (okS_cons (hL i _ hv) hs) hM)
theorem r_lload_n {k0 : Fin 4} {i : Nat} {x : Int} (hd : decode y.2.1 pc = .ok (.lload_n k0, 1)) (hi : (k0 : Nat) = i) (hv : L[i]? = some (some (.inr (.inl x)))) (k : Ok G y d mc ms Q (pc + 1) L (.inr (.inl x) :: S) lay M kc ks) : Ok G y d mc ms Q pc L S lay M kc ks := by
  intro p l e s m args below meth c H locs ls X hS hP hl hL hs hM
  exact lv_lload_n X.1 X.2.1 hd hi (hl.2.2 i _ hv) (k p l e s m args below meth c H locs ls X hS hP hl hL (okS_cons (hL i _ hv) hs) hM)
theorem r_lload {i : Nat} {x : Int} (hd : decode y.2.1 pc = .ok (.lload i, 2)) (hv : L[i]? = some (some (.inr (.inl x)))) (k : Ok G y d mc ms Q (pc + 2) L (.inr (.inl x) :: S) lay M kc ks) : Ok G y d mc ms Q pc L S lay M kc ks := by
  intro p l e s m args below meth c H locs ls X hS hP hl hL hs hM
  exact lv_lload X.1 X.2.1 hd (hl.2.2 i _ hv) (k p l e s m args below meth c H locs ls X hS hP hl hL (okS_cons (hL i _ hv) hs) hM)
theorem r_aload_n {k0 : Fin 4} {i : Nat} {x : Nat} (hd : decode y.2.1 pc = .ok (.aload_n k0, 1)) (hi : (k0 : Nat) = i) (hv : L[i]? = some (some (.inr (.inr (some x))))) (k : Ok G y d mc ms Q (pc + 1) L (.inr (.inr (some x)) :: S) lay M kc ks) : Ok G y d mc ms Q pc L S lay M kc ks := by
  intro p l e s m args below meth c H locs ls X hS hP hl hL hs hM
  exact lv_aload_n X.1 X.2.1 hd hi (hl.2.2 i _ hv) (k p l e s m args below meth c H locs ls X hS hP hl hL (okS_cons (hL i _ hv) hs) hM)
theorem r_aload {i : Nat} {x : Nat} (hd : decode y.2.1 pc = .ok (.aload i, 2)) (hv : L[i]? = some (some (.inr (.inr (some x))))) (k : Ok G y d mc ms Q (pc + 2) L (.inr (.inr (some x)) :: S) lay M kc ks) : Ok G y d mc ms Q pc L S lay M kc ks := by
  intro p l e s m args below meth c H locs ls X hS hP hl hL hs hM
  exact lv_aload X.1 X.2.1 hd (hl.2.2 i _ hv) (k p l e s m args below meth c H locs ls X hS hP hl hL (okS_cons (hL i _ hv) hs) hM)
end RULES
