/-! what is given at the law's start -/
theorem st_arr {A : Array Value} {s : State} {ty : FieldType} (h : (Cond.arrayClass ty).before A s = true) : ∃ cA : ClassId, ArrOfT s cA ty ∧ s.vm.findClass ("[" ++ ty.toString) = some cA := by
  obtain ⟨cA, kA, comp, h1, h2, h3⟩ := Cond.arrayClass_spec h
  exact ⟨cA, fun n z => ⟨fun k h => (by cases h), kA, h2, comp, h3⟩, h1⟩
theorem cl_inst : ∀ (ci : Nat) (r : vw_C), vwCl[ci]? = some r → ∃ n, Cond.instantiable r.1 n ∈ lw_tbl := by
  intro ci r h
  match ci, h with
  | 0, h => cases h; exact ⟨6, List.mem_of_getElem? (i := 307) (by decide +kernel)⟩
  | 1, h => cases h; exact ⟨7, List.mem_of_getElem? (i := 241) (by decide +kernel)⟩
  | 2, h => cases h; exact ⟨5, List.mem_of_getElem? (i := 375) (by decide +kernel)⟩
  | 3, h => cases h; exact ⟨11, List.mem_of_getElem? (i := 334) (by decide +kernel)⟩
  | 4, h => cases h; exact ⟨9, List.mem_of_getElem? (i := 196) (by decide +kernel)⟩
  | 5, h => cases h; exact ⟨11, List.mem_of_getElem? (i := 127) (by decide +kernel)⟩
  | 6, h => cases h; exact ⟨3, List.mem_of_getElem? (i := 421) (by decide +kernel)⟩
  | 7, h => cases h; exact ⟨7, List.mem_of_getElem? (i := 278) (by decide +kernel)⟩
  | 8, h => cases h; exact ⟨5, List.mem_of_getElem? (i := 397) (by decide +kernel)⟩
  | 9, h => cases h; exact ⟨16, List.mem_of_getElem? (i := 119) (by decide +kernel)⟩
  | 10, h => cases h; exact ⟨49, List.mem_of_getElem? (i := 1236) (by decide +kernel)⟩
  | n + 11, h => simp [vwCl] at h
theorem st_K {A : Array Value} {s : State} (hts : ∀ w ∈ lw_tbl, w.before A s = true) : ∃ (D : va_G) (tA : Nat → ClassId), va_K D vwCl [(tA 0, .int), (tA 1, .long), (tA 2, .boolean)] s := by
  have hT : ∀ w ∈ TBL, w.before A s = true := fun w hw => hts w (List.mem_filter.mp hw).1
  obtain ⟨c0, a0, b0⟩ := st_arr (hT _ ka_int)
  obtain ⟨c1, a1, b1⟩ := st_arr (hT _ ka_long)
  obtain ⟨c2, a2, b2⟩ := st_arr (hT _ ka_boolean)
  have key : ∀ ci : Nat, ∃ p : ClassId × (Nat → Nat), ∀ r : vw_C, vwCl[ci]? = some r → u_Kn s r.1 r.2.1 r.2.2 p.1 p.2 := by
    intro ci
    cases h : vwCl[ci]? with
    | none => exact ⟨(c0, fun _ => 0), fun r hr => by cases hr⟩
    | some r =>
      obtain ⟨n, hn⟩ := cl_inst ci r h
      obtain ⟨cC, iS, hk⟩ := u_known hT (cl_ok ci r h).1 (hts _ hn)
      exact ⟨(cC, iS), fun r' hr' => by cases hr'; exact hk⟩
  obtain ⟨P, hP⟩ := Classical.axiomOfChoice key
  refine ⟨(fun ci => (P ci).1, fun ci => (P ci).2), fun k => match k with | 0 => c0 | 1 => c1 | _ => c2, fun ci r hr => hP ci r hr, fun k q hk => ?_⟩
  match k, hk with
  | 0, hk => cases hk; exact ⟨a0, b0⟩
  | 1, hk => cases hk; exact ⟨a1, b1⟩
  | 2, hk => cases hk; exact ⟨a2, b2⟩
  | k + 3, hk => simp at hk
abbrev stF : List Cond := flatC (Jvm.Cond.and given_1 narrow_1)
def tmS (i : Nat) : Term := .string "CrewPairings$Tape" (strIdx i)
theorem st_ex : ∀ i, i < 7 → Cond.exactly (tmS i) "java/lang/String" ∈ stF := by decide +kernel
theorem st_co : ∀ i, i < 7 → Cond.eq (.field (tmS i) "java/lang/String" "coder" "B") (.int 0) ∈ stF := by decide +kernel
theorem st_ar : ∀ i, i < 7 → Cond.arrayOf (.field (tmS i) "java/lang/String" "value" "[B") .byte ∈ stF := by decide +kernel
theorem st_le : ∀ i, i < 7 → Cond.eq (.length (.field (tmS i) "java/lang/String" "value" "[B")) (.int (Int32.ofNat (strLen.getD i 0))) ∈ stF := by decide +kernel
theorem st_el : ((List.range 7).all fun i => (List.range (strLen.getD i 0)).all fun j => decide (Cond.eq (.elem (.field (tmS i) "java/lang/String" "value" "[B") (.int (Int32.ofNat j))) (.int ((strByt.getD i []).getD j 0)) ∈ stF)) = true := by decide +kernel
theorem st_ne : ((List.range 7).all fun i => (List.range 7).all fun j => decide (i = j) || (decide (Cond.not (Cond.eq (tmS i) (tmS j)) ∈ stF) || decide (Cond.not (Cond.eq (tmS j) (tmS i)) ∈ stF))) = true := by decide +kernel
theorem st_fe : ∀ j, j < 5 → Cond.eq (.elem (.static "CrewPairings" "FEE_TOPS" "[I") (.int (Int32.ofNat j))) (.int (Int32.ofInt (feeT j))) ∈ stF := by decide +kernel
theorem st_sr : ∀ i, i < 7 → Cond.stringRef "CrewPairings$Tape" (strIdx i) (strTx i) ∈ lw_tbl := by decide +kernel
theorem st_nest : ∀ q ∈ nestW, Cond.methodLinkNest q.1 q.2.1 q.2.2.1 q.2.2.2 ∈ lw_tbl := by decide +kernel
theorem st_l32 : ∀ i, i < 7 → strLen.getD i 0 < 2 ^ 31 := by decide
theorem st_S {A : Array Value} {s : State} (h : (Jvm.Cond.and given_1 narrow_1).before A s = true) {B : Nat → Prop} (hB : ∀ a : Nat, a < s.heap.size → ¬ B a) : ∃ adK adV : Nat → Nat, vk_S 7 strLen strByt adK adV B s s.heap ∧ ∀ i : Nat, i < 7 → (tmS i).eval A s none [] s = some (.ref (adK i)) := by
  have hs := flat_of_before _ h
  refine vk_Sof (tm := tmS) st_l32 (fun i hi => hs _ (st_ex i hi)) (fun i hi => hs _ (st_co i hi)) (fun i hi => hs _ (st_ar i hi)) (fun i hi => hs _ (st_le i hi)) (fun i hi j hj => hs _ ?_) (fun i j hi hj hij => ?_) hB
  · exact of_decide_eq_true (List.all_eq_true.mp (List.all_eq_true.mp st_el i (List.mem_range.mpr hi)) j (List.mem_range.mpr hj))
  · have z := List.all_eq_true.mp (List.all_eq_true.mp st_ne i (List.mem_range.mpr hi)) j (List.mem_range.mpr hj)
    simp only [Bool.or_eq_true, decide_eq_true_eq] at z
    rcases z with z | z | z
    · exact absurd z hij
    · exact .inl (hs _ z)
    · exact .inr (hs _ z)
theorem st_fee {A : Array Value} {s : State} (h : (Jvm.Cond.and given_1 narrow_1).before A s = true) {B : Nat → Prop} (hB : ∀ a : Nat, a < s.heap.size → ¬ B a) : ∃ t : Nat, (Term.static "CrewPairings" "FEE_TOPS" "[I").eval A s none [] s = some (.ref t) ∧ va_T .int t 5 (fun j => .int (Int32.ofInt (feeT j))) B s s.heap := by
  have hs := flat_of_before _ h
  exact va_Tof (by decide) (hs _ (by decide +kernel)) (va_eqt (z := Int32.ofNat 5) (hs _ (by decide +kernel))) (fun j hj => va_eqt (hs _ (st_fe j hj))) hB
theorem st_fmt {A : Array Value} {s : State} (h : (Jvm.Cond.and given_1 narrow_1).before A s = true) : ∃ fm : Nat, (Term.static "jdk/internal/util/Preconditions" "SIOOBE_FORMATTER" "Ljava/util/function/BiFunction;").eval A s none [] s = some .null ∨ (Term.static "jdk/internal/util/Preconditions" "SIOOBE_FORMATTER" "Ljava/util/function/BiFunction;").eval A s none [] s = some (.ref fm) := by
  have hs := flat_of_before _ h
  obtain ⟨v, hv, hr⟩ := Cond.isRef_spec (hs (Cond.isRef (Term.static "jdk/internal/util/Preconditions" "SIOOBE_FORMATTER" "Ljava/util/function/BiFunction;")) (by decide +kernel))
  cases v with
  | null => exact ⟨0, .inl hv⟩
  | ref a => exact ⟨a, .inr hv⟩
  | int x => cases hr
  | long x => cases hr
  | float x => cases hr
  | double x => cases hr
  | retAddr x => cases hr
def pkS (fee b fm : Nat) (K V : Nat → Nat) (k : Nat) : Nat := if k = 0 then fee else if k = 1 then b else if k < 9 then K (k - 2) else if k < 16 then V (k - 9) else fm
theorem pkS_K {fee b fm : Nat} {K V : Nat → Nat} {i : Nat} (hi : i < 7) : pkS fee b fm K V (2 + i) = K i := by
  unfold pkS; rw [if_neg (by omega), if_neg (by omega), if_pos (by omega), Nat.add_sub_cancel_left]
theorem pkS_V {fee b fm : Nat} {K V : Nat → Nat} {i : Nat} (hi : i < 7) : pkS fee b fm K V (9 + i) = V i := by
  unfold pkS; rw [if_neg (by omega), if_neg (by omega), if_neg (by omega), if_pos (by omega), Nat.add_sub_cancel_left]
theorem st_all {s : State} {b L : Nat} {xs : Nat → Int32} (hts : ∀ w ∈ lw_tbl, w.before #[Value.ref b] s = true) (hX : va_X b L xs s s.heap) (hb : b < s.heap.size) (h : (Jvm.Cond.and given_1 narrow_1).before #[Value.ref b] s = true) : ∃ G : GE, va_K G.1 vwCl (tysG G) s ∧ Frn G s s.heap ∧ G.2.2.1 = s.heap.size ∧ G.2.2.2.1 1 = b ∧ G.2.2.2.2.1 = L := by
  obtain ⟨D, tA, hK⟩ := st_K hts
  have hB : ∀ a : Nat, a < s.heap.size → ¬ (fun q : Nat => s.heap.size ≤ q) a := fun a ha => Nat.not_le.mpr ha
  have hs := flat_of_before _ h
  obtain ⟨K, V, hS1, hS2⟩ := st_S h hB
  obtain ⟨fee, hf1, hf2⟩ := st_fee h hB
  obtain ⟨fm, hm⟩ := st_fmt h
  refine ⟨(D, tA, s.heap.size, pkS fee b fm K V, L, xs), hK, ⟨⟨hX, hb⟩, ?_, hf2, ⟨fun i hi => ?_, fun i j hi hj e => ?_⟩, fun i hi => ?_, ⟨?_, ?_⟩, fun q hq => ?_⟩, rfl, rfl, rfl⟩
  · exact va_Zof (hts (.laysStatic "CrewPairings" "FEE_TOPS" "[I") (List.mem_of_getElem? (i := 693) (by decide +kernel))) (hts (.initialized "CrewPairings") (List.mem_of_getElem? (i := 98) (by decide +kernel))) hf1 hB
  · show va_O "java/lang/String" (pkS fee b fm K V (2 + i)) _ _ _ ∧ va_OF "java/lang/String" "coder" "B" (.int 0) (pkS fee b fm K V (2 + i)) _ _ _ ∧ va_OF "java/lang/String" "value" "[B" (.ref (pkS fee b fm K V (9 + i))) (pkS fee b fm K V (2 + i)) _ _ _ ∧ va_T .byte (pkS fee b fm K V (9 + i)) _ _ _ _ _
    rw [pkS_K hi, pkS_V hi]
    exact hS1.1 i hi
  · refine hS1.2 i j hi hj ?_
    have e : pkS fee b fm K V (2 + i) = pkS fee b fm K V (2 + j) := e
    rw [pkS_K hi, pkS_K hj] at e
    exact e
  · show vk_R "CrewPairings$Tape" (strIdx i) (strTx i) (pkS fee b fm K V (2 + i)) s
    rw [pkS_K hi]
    exact vk_R.of (hts _ (st_sr i hi)) (hS2 i hi)
  · exact va_Zof (hts (.laysStatic "java/lang/String" "COMPACT_STRINGS" "Z") (List.mem_of_getElem? (i := 1065) (by decide +kernel))) (hts (.initialized "java/lang/String") (List.mem_of_getElem? (i := 114) (by decide +kernel))) (va_eqi (hs _ (by decide +kernel))) hB
  · rcases hm with hm | hm
    · exact .inl (va_Zof (hts (.laysStatic "jdk/internal/util/Preconditions" "SIOOBE_FORMATTER" "Ljava/util/function/BiFunction;") (List.mem_of_getElem? (i := 1081) (by decide +kernel))) (hts (.initialized "jdk/internal/util/Preconditions") (List.mem_of_getElem? (i := 116) (by decide +kernel))) hm hB)
    · exact .inr (va_Zof (hts (.laysStatic "jdk/internal/util/Preconditions" "SIOOBE_FORMATTER" "Ljava/util/function/BiFunction;") (List.mem_of_getElem? (i := 1081) (by decide +kernel))) (hts (.initialized "jdk/internal/util/Preconditions") (List.mem_of_getElem? (i := 116) (by decide +kernel))) hm hB)
  · exact va_Nw.of rfl (hts _ (st_nest q hq))
theorem st_room {p : Program} {l : Launch} {e : Env} {s : State} {m : MethodId} {args : Array Value} {below : List Frame} {meth : Method} {c : Code} {T : State} {locs : List Loc} {cells slots : Nat} (X : Stand p l e room_1 s m args below meth c T locs cells slots) : Stand p l e (rmD 161 97 11937) s m args below meth c T locs cells slots := by
  have hr : s.hasRoom e.platform (rmD 161 97 11937) = true := by
    have h := X.room
    obtain ⟨b1, b2, b3, b4⟩ := State.hasRoom_stack h
    have b5 := State.hasRoom_plain h
    have b6 := State.hasRoom_real h
    obtain ⟨b7, b8⟩ := State.hasRoom_heap h
    have b9 : s.slotsTrue = true := by
      simp only [State.hasRoom, Bool.and_eq_true] at h
      exact h.2
    have b1 : s.frames.length + 2048 ≤ e.platform.maxFrames := b1
    have b3 : s.localsInUse + 84000 ≤ e.platform.maxStackSlots := b3
    have b6 : s.localsInUse + 84000 + stackMargin ≤ realStackBytes / 8 := b6
    have b7 : s.heap.size + 600000 ≤ e.platform.maxCells := b7
    have b8 : s.slotsUsed + 7302250 ≤ e.platform.maxSlots := b8
    exact State.hasRoom_of b5 (show s.frames.length + 161 ≤ e.platform.maxFrames from Nat.le_trans (Nat.add_le_add_left (by decide) _) b1) (show s.localsInUse + 16100 ≤ e.platform.maxStackSlots from Nat.le_trans (Nat.add_le_add_left (by decide) _) b3) (show s.heap.size + 97 ≤ e.platform.maxCells from Nat.le_trans (Nat.add_le_add_left (by decide) _) b7) (show s.slotsUsed + 11937 ≤ e.platform.maxSlots from Nat.le_trans (Nat.add_le_add_left (by decide) _) b8) b9 (show s.localsInUse + 16100 + stackMargin ≤ realStackBytes / 8 from Nat.le_trans (Nat.add_le_add_right (Nat.add_le_add_left (by decide) _) _) b6)
  exact ⟨X.admits, X.cas, X.clock, X.frames, hr, X.hears, X.method, X.code, X.here, X.tail, X.warmed, X.limits, X.bytes, X.same⟩
theorem st_forget {s s' : State} {L : List Loc} {c n : Nat} (h : s.sameButNew s' L c n) (hL : ∀ q ∈ L, s.heap.size ≤ q.base) : s.sameButNew s' [] c n := by
  refine ⟨h.1, h.2.1, h.2.2.1, h.2.2.2.1, h.2.2.2.2.1, fun a x hx => ?_⟩
  obtain ⟨c', h1, h2, h3, h4⟩ := h.2.2.2.2.2 a x hx
  refine ⟨c', h1, h2, h3, fun i _ => h4 i (fun hi => ?_)⟩
  have := hL _ hi
  have z : a < s.heap.size := (Array.getElem?_eq_some_iff.mp hx).1
  exact absurd z (Nat.not_lt.mpr this)
theorem st_ok {G : GE} (hL : G.2.2.2.2.1 ≤ 3584) : Ok G miL_law 161 97 11937 (QI K1) 0 [some (.inr (.inr (some 1001))), none, none, none] [] cl_0 cm_0 0 0 := by
  refine ct_law (d := 101) ?_
  rw [cl_fin]
  refine r_iconst (pc := 16) (tb_at tkL_law_0 8 rfl) ⟨by decide, by decide⟩ ?_
  refine r_istore_n (L' := [some (.inr (.inr (some 1001))), some (.inr (.inr (some 0))), some (.inr (.inr (some 66))), some (.inl ((7 * 0 : Nat) : Int))]) (pc := 17) (tb_at tkL_law_0 9 rfl) rfl (by decide) rfl ?_
  exact lw_loop (d := 100) hL 513 0 cmZ (by omega) (by omega) bo_start

def R_law : String := "CrewPairingsLaw"
def lw_P (b : Addr) (xs : List Int32) (args : Array Value) (s : State) : Prop := args = #[.ref b] ∧ s.IntsAt b xs ∧ xs.length ≤ 3584 ∧ (Jvm.Cond.and given_1 narrow_1).before args s = true
def lw_Q (_ : Array Value) (s : State) (o : Outcome) (t : State) : Prop := o = .returned (some (.int 1)) ∧ Framed s o t [] 600000 7302250
def lw_Z (below : List Frame) (a : Array Value) (s : State) : State → Prop := fun t => ∃ o, t.status = .running ∧ Ended t below o ∧ lw_Q a s o t
/-- the law's own end, with 1 on the stack, nothing written that was there before, its room as the claim has it -/
theorem lw_ret {p : Program} {l : Launch} {e : Env} {s : State} {m : MethodId} {below : List Frame} {meth : Method} {c : Code} {b : Nat} (hx : p.tables.exec = Jvm.exec) (hb : c.code = code) (hr : meth.sig.returnType = ret) (hlocks : meth.locks = false) {pc : Nat} {H : Heap} {ls : Array Slot} (hdg : decode code pc = .ok (.ireturn, 1)) : W p l e room_1 s m #[Value.ref b] below meth c H [] 600000 7302250 (lw_Z below #[Value.ref b] s) (F0 m pc ls [.int 1]) := by
  intro T hT X
  obtain ⟨fs, hret, hrun, hended, hW, hframe⟩ := X.leave (v := some (.int 1)) (hlocks := hlocks) (fun h => by rw [hr] at h; cases h)
  have hmeth' : T.vm.method? m = some meth := X.method'
  refine ⟨T.setFrames fs, ?_, .returned (some (.int 1)), hrun, hended, rfl, ⟨_, rfl⟩, hW, hframe⟩
  jvm_step X.here [X.here.top, hx, hb, hdg, hmeth', hr, ret, narrow_b1]
  (try refine ⟨rfl, ?_⟩); (try refine ⟨rfl, ?_⟩)
  first | (intro acts; rw [hret _ acts rfl rfl rfl]) | rw [hret _ _ rfl rfl rfl]
  exact Steps.refl _
/-- what holds at the law's entry: the machine, the code, the tables' words (any of lw_tbl by 'hts w (by decide +kernel)'), the script of L ints xs at the cell b, what the Statement gives of the start (any of its parts by flat_of_before) -/
def lw_At (p : Program) (s : State) (m : MethodId) (meth : Method) (c : Code) (b L : Nat) (xs : Nat → Int32) : Prop :=
  p.tables.exec = Jvm.exec ∧ c.code = code ∧ meth.sig.returnType = ret ∧ c.maxLocals = 4 ∧ s.vm.findClass R_law = some m.cls ∧ (∀ w ∈ lw_tbl, w.before #[Value.ref b] s = true) ∧ va_X b L xs s s.heap ∧ b < s.heap.size ∧ meth.locks = false ∧ (Jvm.Cond.and given_1 narrow_1).before #[Value.ref b] s = true
-- ===== YOUR PART BEGINS =====
/-- from the entry, for every script of at most 3584 ints, the law comes to its end with true -/
theorem whole_start {p : Program} {e : Env} {s : State} {m : MethodId} {below : List Frame} {meth : Method} {c : Code} (l : Launch) (hflags : l.flags = flags0) {b L : Nat} {xs : Nat → Int32} (hL : L ≤ 3584) (hname : meth.name = "law") (C0 : lw_At p s m meth c b L xs) : W p l e room_1 s m #[Value.ref b] below meth c s.heap [] 0 0 (lw_Z below #[Value.ref b] s) (entryFrame m ([Value.ref b] : List Value).toArray 4) := by
  obtain ⟨hx, hcode, hret, hml, hown, hts, hX, hbl, hlk, hgv⟩ := C0
  obtain ⟨G, hK, hF, g1, g2, g3⟩ := st_all hts hX hbl hgv
  have key := st_ok (G := G) (by rw [g3]; exact hL)
  have lv := lv_entry [Value.ref b] (n := 4) (Nat.le_of_ble_eq_true rfl)
  have hT : ∀ w ∈ TBL, w.before #[Value.ref b] s = true := fun w hw => hts w (List.mem_filter.mp hw).1
  rw [lg_entry_eq]
  generalize (lg_sl [Value.ref b] ++ List.replicate (4 - (lg_sl [Value.ref b]).length) Slot.unset).toArray = ls at lv ⊢
  have e1 : g_ad G 1001 = b := g2
  have w := key p l e s m #[Value.ref b] below meth c s.heap [] ls ⟨hx, hcode, hml, hown, hT, hret, hlk, hname, hK, hF, Nat.le_of_eq g1⟩ va_S.rf ⟨by decide, by rw [g1]; rfl, fun k cd hk => by cases hk⟩ ⟨lv.1, lv.2.1, fun i v hi => ?_⟩ (fun i v hi => ?_) okS_nil (fun k cd hk => by cases hk)
  · intro T hT0 X
    obtain ⟨t, a1, o, b1, b2, ⟨⟨r, lay, M, c1, ⟨x, d1, d2, d3⟩, -, -, -⟩, -⟩, L1, b4, b5⟩ := w T hT0 (st_room X)
    refine ⟨t, a1, o, b1, b2, ?_, b4.1, b4.2.1, (st_forget b4.2.2 (fun q hq => ?_)).mono (by decide) (by decide)⟩
    · rw [c1, d1, show x = 1 from d3]; rfl
    · have z : G.2.2.1 ≤ q.base := b5 q hq
      rw [g1] at z; exact z
  · match i, hi with
    | 0, hi =>
      cases hi
      show ls[0]? = some (.val (.ref (g_ad G 1001)))
      rw [e1]
      exact lv.2.2 (0, .ref b) (show (0, Value.ref b) ∈ (0, Value.ref b) :: lv_args _ [] from List.mem_cons_self)
    | 1, hi => cases hi
    | 2, hi => cases hi
    | 3, hi => cases hi
    | n + 4, hi => simp at hi
  · match i, hi with
    | 0, hi => cases hi; trivial
    | 1, hi => cases hi
    | 2, hi => cases hi
    | 3, hi => cases hi
    | n + 4, hi => simp at hi
-- ===== YOUR PART ENDS =====
set_option maxHeartbeats 4000000 in
theorem lw_walk (l : Launch) (hflags : l.flags = flags0) (b : Addr) (xs : List Int32) : MetFree l x (headSpec (Jvm.Cond.code x code maxLocals ret :: tables_1) room_1) (lw_P b xs) (fun _ _ _ _ _ => True) lw_Q := by
  refine MetFree.of_bodyS (code := code) (maxLocals := maxLocals) (ret := ret) (by decide) ?_ ?_
  · intro args s m h hn
    obtain ⟨meth, c, h1, h2, h3, h4, h5, h6, -, -⟩ := Cond.code_spec hn (atoms_spec (ws := Jvm.Cond.code x code maxLocals ret :: tables_1) h _ List.mem_cons_self)
    exact ⟨meth, c, h1, h2, h3, h4, h5, h6⟩
  · intro p e s m args below meth c s₁ B hml0 hP _
    obtain ⟨rfl, hx, hbd, hgv⟩ := hP
    obtain ⟨scr, harrAt, hlist, hof, hsmall⟩ := hx
    obtain ⟨hcb, hkn, -, -⟩ := State.arrayAt?_spec harrAt
    have hown : s.vm.findClass R_law = some m.cls := findClass_of_methodNamed B.named
    have hts0 : ∀ c ∈ (Jvm.Cond.code x code maxLocals ret :: tables_1), c.before #[Value.ref b] s = true := atoms_spec (ws := Jvm.Cond.code x code maxLocals ret :: tables_1) B.pre
    have hts : ∀ w ∈ lw_tbl, w.before #[Value.ref b] s = true := k2_hts_sels lw_privs (fun w hw => hts0 w (List.mem_cons_of_mem _ hw)) lw_privs_ok
    have hml : c.maxLocals = 4 := B.maxLocals_eq (hts0 _ List.mem_cons_self)
    have X₀ : Stand p l e room_1 s m #[Value.ref b] below meth c s₁ [] 0 0 := Stand.of_body B
    have hh0 : s₁.heap = s.heap := by rw [B.state]; rfl
    have hsz : scr.slots.size = xs.length := by rw [← Array.length_toList, hlist, List.length_map]
    have hval : ∀ j : Nat, j < xs.length → scr.slots[j]? = some (.int (xs.getD j 0)) := fun j hj => by
      rw [← Array.getElem?_toList, hlist]
      simp [hj]
    have hbl : b < s.heap.size := (Array.getElem?_eq_some_iff.mp hcb).1
    have hX : va_X b xs.length (fun j => xs.getD j 0) s s.heap := ⟨scr, hcb, hof, hkn, hsz, hval⟩
    have K : W p l e room_1 s m #[Value.ref b] below meth c s₁.heap [] 0 0 (lw_Z below #[Value.ref b] s) (entryFrame m ([Value.ref b] : List Value).toArray 4) := by
      rw [hh0]
      exact whole_start l hflags hbd (name_of_methodNamed B.named B.method).1 ⟨B.exec, B.bytes, B.returns, hml, hown, hts, hX, hbl, B.notSynchronized, hgv⟩
    obtain ⟨t, a1, o, b1, b2, b3⟩ := K s₁ rfl X₀
    exact ⟨t, o, a1, b1, b2, b3⟩
theorem lw_pre_spec {args : Array Value} {s : State} (h : (Jvm.Cond.and given_1 narrow_1).before args s = true) (hr : rest_1_c.before args s = true) : ∃ (b : Addr) (xs : List Int32), lw_P b xs args s := by
  have hs := flat_of_before _ h
  have hq := flat_of_before _ hr
  have hc : (Cond.count 1).before args s = true := hs _ (by decide +kernel)
  have harr : (Cond.arrayOf (.arg 0) .int).before args s = true := hs _ (by decide +kernel)
  have hle : (Cond.le (.length (.arg 0)) (.int 3584)).before args s = true := hs _ (by decide +kernel)
  have hlen : (Cond.isInt (.length (.arg 0))).before args s = true := hq _ (by decide +kernel)
  have hall : (Cond.all (.arg 0) (.isInt (.elem (.arg 0) (.index 0)))).before args s = true := hq _ (by decide +kernel)
  obtain ⟨b, xs, hb, hx⟩ := State.ints_of_pre rfl harr hlen hall
  have hsm : xs.length < 2 ^ 31 := hx.choose_spec.2.2.2
  have hev : (Term.length (.arg 0)).eval args s none [] s = some (.int xs.length.toInt32) := hx.length_eval hb
  have hv := Cond.le_ints hev (show (Term.int 3584).eval args s none [] s = some (.int 3584) from rfl)
  have hd : xs.length.toInt32 ≤ 3584 := by
    simpa [Cond.before, Cond.holds, hv] using hle
  have hN : xs.length ≤ 3584 := (Int32.ofNat_le_ofNat hsm (by decide)).mp (show Int32.ofNat xs.length ≤ Int32.ofNat 3584 from hd)
  exact ⟨b, xs, Cond.one_arg hc (show args[0]? = some (.ref b) from hb), hx, hN, h⟩
theorem lw_comes (l : Launch) (hflags : l.flags = flags0) : Comes l x (Jvm.Cond.code x code maxLocals ret :: tables_1) room_1 (fun tb e args s => Calls_1 tb e args s ∧ rest_1 tb e args s ∧ Pre_1 tb e args s)
    (fun _ _ args s o t => lw_Q args s o t) := by
  intro p e ha hc hk s m args below hf hfit hheap happ hpre
  obtain ⟨b, xs, hP⟩ := lw_pre_spec hpre.2.2 hpre.2.1
  obtain ⟨k, o, h1, h2, h3, hQ⟩ := lw_walk l hflags b xs p e ha hc hk s m args below hf ((Spec.applies_iff_loose hf).mp happ).1 hP trivial
  exact ⟨k, o, h1, h2, h3, hQ⟩
theorem lw_frame {s t : State} {o : Outcome} {args : Array Value} (h : Framed s o t [] 600000 7302250) :
    Framed s o t (fieldLocs frame_1_writes args s ++ arrayLocs frame_1_arrays args s ++ staticLocs frame_1_statics s) 600000 7302250 := h
theorem lw_limb (L : Cond) (hL : ∀ (args : Array Value) (s t : State), L.after args s (.returned (some (.int 1))) t = true) :
    ArmFor flags0 classFile x code maxLocals ret World_1 tables_1 room_1 Calls_1 rest_1 Pre_1
      (fun tb e a s o t => postC L tb e a s o t ∧ Framed s o t (fieldLocs frame_1_writes a s ++ arrayLocs frame_1_arrays a s ++ staticLocs frame_1_statics s) 600000 7302250) := by
  intro l hflags _ _ p e ha hc hk s m args below hf hfit hheap happ hpre
  obtain ⟨k, o, h1, h2, h3, rfl, hF⟩ := lw_comes l hflags p e ha hc hk s m args below hf hfit hheap happ hpre
  exact ⟨k, _, h1, h2, h3, hL args s _, lw_frame hF⟩
theorem i_vc : Claimed_1_1 ∧ Claimed_1_2 := ⟨lw_limb limb_1_1 (fun args s t => by simp [limb_1_1, Cond.after, Cond.holds, Cond.value]), lw_limb limb_1_2 (fun args s t => Cond.after_iff.mpr (by
  first | (rw [show limb_1_2 = Cond.eq .result (.int 1) from rfl, Cond.eq_ints (x := 1) (y := 1) rfl rfl]; simp; done) | (simp [limb_1_2, Cond.value, Term.eval]; done)))⟩
