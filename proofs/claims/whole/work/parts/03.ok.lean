/-! The small judgement: values are Ints with a tag, memory is M : cell → slot → Int, cell k lies at address base + k -/
abbrev MV : Type := Int ⊕ Int ⊕ Option Nat
abbrev CD : Type := Nat × Nat × List (Option Nat)
abbrev Lay : Type := List CD
abbrev Mem : Type := Nat → Nat → Int
abbrev GE : Type := va_G × (Nat → ClassId) × Nat × (Nat → Nat) × Nat × (Nat → Int32)
abbrev MI : Type := MethodName × ByteArray × Nat × Option FieldType
def TBL : List Cond := lw_tbl.filter goodWord
theorem tb_in (i : Nat) {w : Cond} (h : lw_tbl[i]? = some w) (g : goodWord w = true) : w ∈ TBL := List.mem_filter.mpr ⟨List.mem_of_getElem? h, g⟩
def tb_ok (cc : ByteArray) (l : List (Nat × Instr × Nat)) : Bool := l.all fun q => decide (decode cc q.1 = .ok (q.2.1, q.2.2))
theorem tb_at {cc : ByteArray} {l : List (Nat × Instr × Nat)} (h : tb_ok cc l = true) (i : Nat) {pc len : Nat} {ins : Instr} (hi : l[i]? = some (pc, ins, len)) : decode cc pc = .ok (ins, len) := by
  have h1 := List.all_eq_true.mp h _ (List.mem_of_getElem? hi)
  simpa using h1
def g_A (G : GE) : Nat → Prop := fun q => G.2.2.1 ≤ q
def g_ad (G : GE) (k : Nat) : Nat := if k < 1000 then G.2.2.1 + k else G.2.2.2.1 (k - 1000)
def I32 (x : Int) : Prop := -2147483648 ≤ x ∧ x ≤ 2147483647
def I64 (x : Int) : Prop := -9223372036854775808 ≤ x ∧ x ≤ 9223372036854775807
def w32 (x : Int) : Int := (x + 2147483648) % 4294967296 - 2147483648
def w64 (x : Int) : Int := (x + 9223372036854775808) % 18446744073709551616 - 9223372036854775808
def cv (G : GE) : MV → Value
  | .inl x => .int (Int32.ofInt x)
  | .inr (.inl x) => .long (Int64.ofInt x)
  | .inr (.inr none) => .null
  | .inr (.inr (some a)) => .ref (g_ad G a)
def okV : MV → Prop
  | .inl x => I32 x
  | .inr (.inl x) => I64 x
  | .inr (.inr _) => True
def tyT (ci : Nat) : Nat → FieldType := match ci with
  | 0 => tyX0 | 1 => tyX1 | 2 => tyX2 | 3 => tyX3 | 4 => tyX4 | 5 => tyX5 | 6 => tyX7 | 7 => tyX8 | 8 => tyX9 | 9 => tyX10 | _ => tyX11
def fv (G : GE) (ty : FieldType) (x : Int) (r : Option Nat) : Value := match ty with
  | .int => .int (Int32.ofInt x)
  | .boolean => .int (Int32.ofInt x)
  | .long => .long (Int64.ofInt x)
  | _ => cv G (.inr (.inr r))
def okF (ty : FieldType) (x : Int) : Prop := match ty with
  | .int => I32 x
  | .boolean => x = 0 ∨ x = 1
  | .long => I64 x
  | _ => True
def CellAt (G : GE) (cd : CD) (f : Nat → Int) (a : Nat) (H : Heap) : Prop := match cd with
  | (0, n, _) => H[a]? = some (arrV (G.2.1 0) n (fun j => .int (Int32.ofInt (f j))))
  | (1, n, _) => H[a]? = some (arrV (G.2.1 1) n (fun j => .long (Int64.ofInt (f j))))
  | (2, n, _) => H[a]? = some (arrV (G.2.1 2) n (fun j => .int (Int32.ofInt (f j))))
  | (ci + 3, _, rs) => ∃ r : vw_C, vwCl[ci]? = some r ∧ t_OB a (G.1.1 ci) r.2.2 (G.1.2 ci) H (fun k => fv G (tyT ci k) (f k) (rs.getD k none))
def okC (cd : CD) (f : Nat → Int) : Prop := match cd with
  | (0, _, _) => ∀ j, I32 (f j)
  | (1, _, _) => ∀ j, I64 (f j)
  | (2, _, _) => ∀ j, f j = 0 ∨ f j = 1
  | (ci + 3, _, _) => ∀ k, okF (tyT ci k) (f k)
def Pic (G : GE) (lay : Lay) (M : Mem) (H : Heap) : Prop := lay.length ≤ 1000 ∧ H.size = G.2.2.1 + lay.length ∧ ∀ (c : Nat) (cd : CD), lay[c]? = some cd → CellAt G cd (M c) (G.2.2.1 + c) H
def okM (lay : Lay) (M : Mem) : Prop := ∀ (c : Nat) (cd : CD), lay[c]? = some cd → okC cd (M c)
def tysG (G : GE) : List (ClassId × FieldType) := [(G.2.1 0, .int), (G.2.1 1, .long), (G.2.1 2, .boolean)]
def LocOK (G : GE) (ls : Array Slot) (nL : Nat) (L : List (Option MV)) : Prop := ls.size = nL ∧ lv_wf ls ∧ ∀ (i : Nat) (v : MV), L[i]? = some (some v) → ls[i]? = some (.val (cv G v))
def okL (L : List (Option MV)) : Prop := ∀ (i : Nat) (v : MV), L[i]? = some (some v) → okV v
def okS (S : List MV) : Prop := ∀ v ∈ S, okV v
/-! what lies outside the world: the script, a static table, seven texts; four links of nest mates -/
def feeT : Nat → Int := fun j => match j with
  | 0 => 99 | 1 => 9 | 2 => 99 | 3 => 99 | _ => 20
def strIdx : Nat → Nat := fun i => 77 + 2 * i
def strTx : Nat → String := fun i => match i with
  | 0 => "fly" | 1 => "kind" | 2 => "base" | 3 => "fee" | 4 => "must" | 5 => "not" | _ => "free"
def strLen : List Nat := [3, 4, 4, 3, 4, 3, 4]
def strByt : List (List Int32) := [[102, 108, 121], [107, 105, 110, 100], [98, 97, 115, 101], [102, 101, 101], [109, 117, 115, 116], [110, 111, 116], [102, 114, 101, 101]]
def nestW : List (String × Nat × MethodName × String) := [("CrewPairings", 13, yX5_init, "CrewPairings"), ("CrewPairings", 71, yX9_init, "CrewPairings"), ("CrewPairings", 78, yX7_init, "CrewPairings"), ("CrewPairings$Simplex", 89, yX10_inLowest, "CrewPairings")]
def Frn (G : GE) (U : State) (H : Heap) : Prop :=
  (va_X (G.2.2.2.1 1) G.2.2.2.2.1 G.2.2.2.2.2 U H ∧ G.2.2.2.1 1 < G.2.2.1) ∧
  va_Z "CrewPairings" "FEE_TOPS" "[I" (.ref (G.2.2.2.1 0)) (g_A G) U H ∧
  va_T .int (G.2.2.2.1 0) 5 (fun j => .int (Int32.ofInt (feeT j))) (g_A G) U H ∧
  vk_S 7 strLen strByt (fun i => G.2.2.2.1 (2 + i)) (fun i => G.2.2.2.1 (9 + i)) (g_A G) U H ∧
  (∀ i : Nat, i < 7 → vk_R "CrewPairings$Tape" (strIdx i) (strTx i) (G.2.2.2.1 (2 + i)) U) ∧
  (va_Z "java/lang/String" "COMPACT_STRINGS" "Z" (.int 1) (g_A G) U H ∧ (va_Z "jdk/internal/util/Preconditions" "SIOOBE_FORMATTER" "Ljava/util/function/BiFunction;" .null (g_A G) U H ∨ va_Z "jdk/internal/util/Preconditions" "SIOOBE_FORMATTER" "Ljava/util/function/BiFunction;" (.ref (G.2.2.2.1 16)) (g_A G) U H)) ∧
  ∀ q ∈ nestW, va_Nw (.methodLinkNest q.1 q.2.1 q.2.2.1 q.2.2.2) U
theorem Frn.kept {G : GE} {U : State} {H H1 : Heap} (h : Frn G U H) (hq : ∀ a : Nat, a < H.size → ¬ g_A G a → H1[a]? = H[a]?) : Frn G U H1 := by
  obtain ⟨⟨h1, h1'⟩, h2, h3, h4, h5, h6, h7⟩ := h
  have hb : G.2.2.2.1 1 < H.size := by obtain ⟨scr, q, -⟩ := h1; exact (Array.getElem?_eq_some_iff.mp q).1
  exact ⟨⟨h1.kept (hq _ hb (Nat.not_le.mpr h1')), h1'⟩, h2.kept hq, h3.kept hq, h4.kept hq, h5, ⟨h6.1.kept hq, h6.2.imp (fun z => z.kept hq) (fun z => z.kept hq)⟩, h7⟩
theorem Frn.warm {G : GE} {s U : State} {H : Heap} (hW : s.WarmedH U.vm) (h : Frn G s H) : Frn G U H := by
  obtain ⟨⟨h1, h1'⟩, h2, h3, h4, h5, h6, h7⟩ := h
  exact ⟨⟨h1.moved hW.alike, h1'⟩, h2.moved hW.alike, h3.moved hW.alike, h4.moved hW.alike, fun i hi => (h5 i hi).warm hW, ⟨h6.1.moved hW.alike, h6.2.imp (fun z => z.moved hW.alike) (fun z => z.moved hW.alike)⟩, fun q hq => va_Nw.warmM hW (h7 q hq)⟩
theorem Frn.same {G : GE} {u U : State} {H : Heap} (hv : U.vm = u.vm) (h : Frn G u H) : Frn G U H := by
  obtain ⟨⟨h1, h1'⟩, h2, h3, h4, h5, h6, h7⟩ := h
  have ha : u.vm.Alike U.vm := by rw [hv]; exact Vm.Alike.refl _
  exact ⟨⟨h1.moved ha, h1'⟩, h2.moved ha, h3.moved ha, h4.moved ha, fun i hi => (h5 i hi).same hv, ⟨h6.1.moved ha, h6.2.imp (fun z => z.moved ha) (fun z => z.moved ha)⟩, fun q hq => va_Nw.same rfl hv.symm (h7 q hq)⟩
/-! the judgement -/
def Cx (G : GE) (y : MI) (p : Program) (s : State) (m : MethodId) (args : Array Value) (meth : Method) (c : Code) : Prop :=
  p.tables.exec = Jvm.exec ∧ c.code = y.2.1 ∧ c.maxLocals = y.2.2.1 ∧ s.vm.findClass y.1.cls = some m.cls ∧ (∀ w ∈ TBL, w.before args s = true) ∧ meth.sig.returnType = y.2.2.2 ∧ meth.locks = false ∧ meth.name = y.1.name ∧ va_K G.1 vwCl (tysG G) s ∧ Frn G s s.heap ∧ G.2.2.1 ≤ s.heap.size
def rmD (d mc ms : Nat) : Room := { frames := d, cells := mc, slots := ms, locals := 100 * d }
def QcG (G : GE) (Q : Option MV → Lay → Mem → Prop) : Array Value → State → Outcome → State → Prop := fun _ st oc t =>
  (∃ (r : Option MV) (lay : Lay) (M : Mem), oc = .returned (r.map (cv G)) ∧ Q r lay M ∧ (∀ v, r = some v → okV v) ∧ Pic G lay M t.heap ∧ okM lay M) ∧ va_F (g_A G) st t
def PcG (G : GE) (as : List MV) (lay : Lay) (M : Mem) : Array Value → State → Prop := va_Pc (as.map (cv G)) (fun U => Pic G lay M U.heap ∧ va_K G.1 vwCl (tysG G) U ∧ Frn G U U.heap ∧ G.2.2.1 ≤ U.heap.size)
def Ok (G : GE) (y : MI) (d mc ms : Nat) (Q : Option MV → Lay → Mem → Prop) (pc : Nat) (L : List (Option MV)) (S : List MV) (lay : Lay) (M : Mem) (kc ks : Nat) : Prop :=
  ∀ (p : Program) (l : Launch) (e : Env) (s : State) (m : MethodId) (args : Array Value) (below : List Frame) (meth : Method) (c : Code) (H : Heap) (locs : List Loc) (ls : Array Slot), Cx G y p s m args meth c → va_S (g_A G) s.heap H locs → Pic G lay M H → LocOK G ls y.2.2.1 L → okL L → okS S → okM lay M →
    W p l e (rmD d mc ms) s m args below meth c H locs kc ks (MQ below (QcG G Q) args s mc ms (g_A G)) (F0 m pc ls (S.map (cv G)))
def wsY (y : MI) : List Cond := Cond.code y.1 y.2.1 y.2.2.1 y.2.2.2 :: TBL
def Cal (G : GE) (y : MI) (d mc ms : Nat) (as : List MV) (lay : Lay) (M : Mem) (Q : Option MV → Lay → Mem → Prop) : Prop :=
  okS as → okM lay M → ∀ l : Launch, Met l y.1 (wsY y) (rmD d mc ms) (PcG G as lay M) (QcG G Q) mc ms (g_A G)
