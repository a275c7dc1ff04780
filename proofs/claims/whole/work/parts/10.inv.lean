/-! calls -/
section RULES5
variable {G : GE} {y : MI} {d mc ms : Nat} {Q : Option MV → Lay → Mem → Prop} {pc : Nat} {L : List (Option MV)} {S : List MV} {lay : Lay} {M : Mem} {kc ks : Nat}
def cvc (S : List MV) : Nat := (S.map fun v => if isLg v then 2 else 1).sum
def CB (y' : MI) (n : Nat) : Prop := Cond.code y'.1 y'.2.1 y'.2.2.1 y'.2.2.2 ∈ TBL ∧ Cond.initialized y'.1.cls ∈ TBL ∧ (y'.1.cls ≠ "java/lang/invoke/MethodHandle" ∧ y'.1.cls ≠ "java/lang/invoke/VarHandle" ∧ (parseMethodDescriptor y'.1.desc).map (fun d => d.parameters.length) = some n) ∧ y'.2.2.1 ≤ 80
def CS (own : String) (idx : Nat) (y' : MI) (n : Nat) : Prop := CB y' n ∧ Cond.methodLink own idx y'.1 ∈ TBL ∧ Cond.static y'.1 ∈ TBL
def CV (own : String) (idx : Nat) (y' : MI) (n : Nat) : Prop := CB y' n ∧ Cond.methodLink own idx y'.1 ∈ TBL ∧ Cond.instanceMethod y'.1 ∈ TBL ∧ Cond.selects y'.1.cls y'.1 y'.1 ∈ TBL
def CI (own : String) (idx : Nat) (y' : MI) (n : Nat) : Prop := CB y' n ∧ Cond.methodLink own idx y'.1 ∈ TBL ∧ Cond.instanceMethod y'.1 ∈ TBL ∧ y'.1.name = "<init>" ∧ y'.2.2.2 = none
def CNS (own : String) (idx : Nat) (y' : MI) (n : Nat) : Prop := CB y' n ∧ (∃ h : String, (own, idx, y'.1, h) ∈ nestW) ∧ Cond.static y'.1 ∈ TBL
def CNI (own : String) (idx : Nat) (y' : MI) (n : Nat) : Prop := CB y' n ∧ (∃ h : String, (own, idx, y'.1, h) ∈ nestW) ∧ Cond.instanceMethod y'.1 ∈ TBL ∧ y'.1.name = "<init>" ∧ y'.2.2.2 = none
theorem TBL_good {w : Cond} (h : w ∈ TBL) : (w.onTables && w.keeps) = true ∨ ∃ ty, w = .arrayClass ty := good_of_word (List.mem_filter.mp h).2
theorem goodY {y' : MI} (h : Cond.code y'.1 y'.2.1 y'.2.2.1 y'.2.2.2 ∈ TBL) : GoodIn TBL (wsY y') := by
  intro w hw
  rcases List.mem_cons.mp hw with e | e
  · rw [e]; exact ⟨h, TBL_good h⟩
  · exact ⟨e, TBL_good e⟩
theorem PcG.blind {as : List MV} : FrameBlind (PcG G as lay M) := by
  rintro a U g mk ⟨h1, h2, h3, h4, h5⟩
  exact ⟨h1, h2, va_K.moved (u := U) (U := U.calling g mk a) (Vm.Alike.refl U.vm) h3, Frn.same (u := U) (U := U.calling g mk a) rfl h4, h5⟩
theorem preG {p : Program} {s : State} {m : MethodId} {args : Array Value} {meth : Method} {c : Code} {H : Heap} {locs : List Loc} {as : List MV} (X : Cx G y p s m args meth c) (hS : va_S (g_A G) s.heap H locs) (hP : Pic G lay M H) : ∀ U : State, U.heap = H → s.WarmedH U.vm → PcG G as lay M (as.map (cv G)).toArray U := by
  intro U hU hW
  obtain ⟨hx, hb, hml, hown, hts, hret, hlk, hnm, hK, hF, hbs⟩ := id X
  refine ⟨rfl, by rw [hU]; exact hP, va_K.moved hW.alike hK, ?_, by rw [hU]; exact Nat.le_trans hbs hS.1⟩
  rw [hU]
  exact (hF.kept (fun a h1 h2 => hS.2.1 a h1 h2)).warm hW
theorem cat_sum (S : List MV) : ((S.map (cv G)).map fun v => v.category).sum = cvc S := by
  unfold cvc
  rw [List.map_map]
  congr 1
  apply List.map_congr_left
  intro v _
  match v with
  | .inl x => rfl
  | .inr (.inl x) => rfl
  | .inr (.inr none) => rfl
  | .inr (.inr (some a)) => rfl
/-- behind a call -/
theorem Ok.back {y' : MI} {as : List MV} {mc' ms' : Nat} {p : Program} {l : Launch} {e : Env} {s : State} {m : MethodId} {args : Array Value} {below : List Frame} {meth : Method} {c : Code} {H : Heap} {locs : List Loc} {ls : Array Slot} {st0 : List Value} {a : Array Value}
    (X : Cx G y p s m args meth c) (hS : va_S (g_A G) s.heap H locs) (hl : LocOK G ls y.2.2.1 L) (hL : okL L) (hs : okS S)
    (hrun : va_Run p l e (rmD (d + 1) mc ms) s m args below meth c H locs kc ks mc' ms' (F0 m pc ls st0) (S.map (cv G)) (QcG G (fun r lay' M' => Ok G y (d + 1) mc ms Q (pc + 3) L (r.toList ++ S) lay' M' (kc + mc') (ks + ms')) a) (g_A G)) :
    W p l e (rmD (d + 1) mc ms) s m args below meth c H locs kc ks (MQ below (QcG G Q) args s mc ms (g_A G)) (F0 m pc ls st0) := by
  intro T hT X0
  obtain ⟨v, st₀, t, T', L1, h0, X', hL1, e1, e2, ⟨⟨r, lay', M', g1, g2, g3, g4, g5⟩, hz, hk⟩, st⟩ := hrun T hT X0
  have hv : v = r.map (cv G) := by injection g1
  rw [h0] at hz hk
  have hS' : va_S (g_A G) s.heap T'.heap (locs ++ L1) := ⟨Nat.le_trans hS.1 (by rw [e1]; exact hz), fun q h1 h2 => by rw [e1, hk q (Nat.lt_of_lt_of_le h1 hS.1) h2]; exact hS.2.1 q h1 h2, fun q hq => (List.mem_append.mp hq).elim (hS.2.2 q) (hL1 q)⟩
  have hs' : okS (r.toList ++ S) := fun w hw => (List.mem_append.mp hw).elim (fun h => g3 w (by simpa using h)) (hs w)
  obtain ⟨t2, a1, b1⟩ := g2 p l e s m args below meth c T'.heap (locs ++ L1) ls X hS' (by rw [e1]; exact g4) hl hL hs' g5 T' rfl X'
  refine ⟨t2, st t2 ?_, b1⟩
  have e3 : (r.toList ++ S).map (cv G) = v.toList ++ S.map (cv G) := by rw [hv]; cases r <;> rfl
  rw [e3] at a1
  exact a1
theorem rm_le {mc' ms' k : Nat} (h : k ≤ 80) : (rmD d mc' ms').frames + 1 ≤ (rmD (d + 1) mc ms).frames ∧ 8 + (k + 11) + (rmD d mc' ms').locals ≤ (rmD (d + 1) mc ms).locals := by
  simp only [rmD]; omega
theorem r_invS {idx : Nat} {y' : MI} {mc' ms' : Nat} (as : List MV) {St : List MV} (hd : decode y.2.1 pc = .ok (.invokestatic idx, 3)) (hstk : as.reverse ++ S = St) (hc : CS y.1.cls idx y' as.length) (hr : cvc S ≤ 8) (h1 : kc + mc' ≤ mc) (h2 : ks + ms' ≤ ms)
    (k : Cal G y' d mc' ms' as lay M (fun r lay' M' => Ok G y (d + 1) mc ms Q (pc + 3) L (r.toList ++ S) lay' M' (kc + mc') (ks + ms'))) : Ok G y (d + 1) mc ms Q pc L St lay M kc ks := by
  intro p l e s m args below meth c H locs ls X hS hP hl hL hs hM
  subst hstk
  obtain ⟨⟨q1, q2, q3, q4⟩, q5, q6⟩ := hc
  obtain ⟨hx, hb, hml, hown, hts, hret, hlk, hnm, hK, hF, hbs⟩ := id X
  have hsS : okS S := fun v hv => hs v (List.mem_append_right _ hv)
  have hsA : okS as := fun v hv => hs v (List.mem_append_left _ (List.mem_reverse.mpr hv))
  have hM' := k hsA hM l
  refine Ok.back (y' := y') (as := as) X hS hl hL hsS (a := (as.map (cv G)).toArray) (va_runS (As := as.map (cv G)) (rest := S.map (cv G)) ⟨hx, hb, hml, hown, hts⟩ hM' ⟨callB_of as.length hts (goodY q1) rfl rfl rfl (hts _ q2) (hts _ q5) q3 (rm_le q4), hts _ q6⟩ ⟨PcG.blind, preG X hS hP⟩ rfl (by simp) hl.1 (by simp) (lv_room (by rw [cat_sum]; exact hr)) hd ⟨h1, h2⟩)
theorem recvG {p : Program} {s : State} {m : MethodId} {args : Array Value} {meth : Method} {c : Code} {H : Heap} {a ci n : Nat} {rs : List (Option Nat)} {r : vw_C} (X : Cx G y p s m args meth c) (hP : Pic G lay M H) (hc : lay[a]? = some (ci + 3, n, rs)) (hr : vwCl[ci]? = some r) : ∃ cellB : Cell, H[g_ad G a]? = some cellB ∧ cellB.vm.isStatics = false ∧ s.vm.findClass r.1 = some cellB.cls := by
  obtain ⟨hx, hb, hml, hown, hts, hret, hlk, hnm, hK, hF, hbs⟩ := id X
  obtain ⟨r', h1, cell, q1, q2, q3, q4⟩ := hP.2.2 a _ hc
  have hrr : r' = r := Option.some.inj (h1.symm.trans hr)
  subst hrr
  rw [hP.ad hc]
  exact ⟨cell, q1, by rw [q3]; rfl, by rw [q2]; exact (hK.1 ci r' hr).2.1⟩
theorem r_invV {idx a ci n : Nat} {rs : List (Option Nat)} {r : vw_C} {y' : MI} {mc' ms' : Nat} (as : List MV) {St : List MV} (hd : decode y.2.1 pc = .ok (.invokevirtual idx, 3)) (hstk : as.reverse ++ .inr (.inr (some a)) :: S = St) (hcl : lay[a]? = some (ci + 3, n, rs)) (hcr : vwCl[ci]? = some r) (hcn : r.1 = y'.1.cls) (hc : CV y.1.cls idx y' as.length) (hr : cvc S ≤ 8) (h1 : kc + mc' ≤ mc) (h2 : ks + ms' ≤ ms)
    (k : Cal G y' d mc' ms' (.inr (.inr (some a)) :: as) lay M (fun r lay' M' => Ok G y (d + 1) mc ms Q (pc + 3) L (r.toList ++ S) lay' M' (kc + mc') (ks + ms'))) : Ok G y (d + 1) mc ms Q pc L St lay M kc ks := by
  intro p l e s m args below meth c H locs ls X hS hP hl hL hs hM
  subst hstk
  obtain ⟨⟨q1, q2, q3, q4⟩, q5, q6, q7⟩ := hc
  obtain ⟨hx, hb, hml, hown, hts, hret, hlk, hnm, hK, hF, hbs⟩ := id X
  have hsS : okS S := fun v hv => hs v (List.mem_append_right _ (List.mem_cons_of_mem _ hv))
  have hsA : okS (.inr (.inr (some a)) :: as) := okS_cons trivial (fun v hv => hs v (List.mem_append_left _ (List.mem_reverse.mpr hv)))
  have hM' := k hsA hM l
  refine Ok.back (y' := y') (as := as) X hS hl hL hsS (a := ((.inr (.inr (some a)) :: as).map (cv G)).toArray) (va_runV (As := as.map (cv G)) (b := g_ad G a) (rest := S.map (cv G)) ⟨hx, hb, hml, hown, hts⟩ hM' ⟨callB_of as.length hts (goodY q1) rfl rfl rfl (hts _ q2) (hts _ q5) q3 (rm_le q4), hts _ q6, hts _ q7⟩ ⟨PcG.blind, ?_, preG X hS hP⟩ rfl (by simp) hl.1 (by simp [cv]) (lv_room (by rw [cat_sum]; exact hr)) hd ⟨h1, h2⟩)
  rw [← hcn]
  exact recvG X hP hcl hcr
theorem r_invI {idx a : Nat} {y' : MI} {mc' ms' : Nat} (as : List MV) {St : List MV} (hd : decode y.2.1 pc = .ok (.invokespecial idx, 3)) (hstk : as.reverse ++ .inr (.inr (some a)) :: S = St) (hc : CI y.1.cls idx y' as.length) (hr : cvc S ≤ 8) (h1 : kc + mc' ≤ mc) (h2 : ks + ms' ≤ ms)
    (k : Cal G y' d mc' ms' (.inr (.inr (some a)) :: as) lay M (fun r lay' M' => Ok G y (d + 1) mc ms Q (pc + 3) L (r.toList ++ S) lay' M' (kc + mc') (ks + ms'))) : Ok G y (d + 1) mc ms Q pc L St lay M kc ks := by
  intro p l e s m args below meth c H locs ls X hS hP hl hL hs hM
  subst hstk
  obtain ⟨⟨q1, q2, q3, q4⟩, q5, q6, q7, q8⟩ := hc
  obtain ⟨hx, hb, hml, hown, hts, hret, hlk, hnm, hK, hF, hbs⟩ := id X
  have hsS : okS S := fun v hv => hs v (List.mem_append_right _ (List.mem_cons_of_mem _ hv))
  have hsA : okS (.inr (.inr (some a)) :: as) := okS_cons trivial (fun v hv => hs v (List.mem_append_left _ (List.mem_reverse.mpr hv)))
  have hM' := k hsA hM l
  obtain ⟨y1, y2, y3, y4⟩ := y'
  simp only at q8
  subst q8
  refine Ok.back (y' := (y1, y2, y3, none)) (as := as) X hS hl hL hsS (a := ((.inr (.inr (some a)) :: as).map (cv G)).toArray) (va_runI (As := as.map (cv G)) (b := g_ad G a) (rest := S.map (cv G)) ⟨hx, hb, hml, hown, hts⟩ hM' ⟨callB_of as.length hts (goodY q1) rfl rfl rfl (hts _ q2) (hts _ q5) q3 (rm_le q4), q7, hts _ q6⟩ ⟨PcG.blind, preG (as := .inr (.inr (some a)) :: as) X hS hP⟩ rfl (by simp) hl.1 (by simp [cv]) (lv_room (by rw [cat_sum]; exact hr)) hd ⟨h1, h2⟩)
theorem r_invNS {idx : Nat} {y' : MI} {mc' ms' : Nat} (as : List MV) {St : List MV} (hd : decode y.2.1 pc = .ok (.invokestatic idx, 3)) (hstk : as.reverse ++ S = St) (hc : CNS y.1.cls idx y' as.length) (hr : cvc S ≤ 8) (h1 : kc + mc' ≤ mc) (h2 : ks + ms' ≤ ms)
    (k : Cal G y' d mc' ms' as lay M (fun r lay' M' => Ok G y (d + 1) mc ms Q (pc + 3) L (r.toList ++ S) lay' M' (kc + mc') (ks + ms'))) : Ok G y (d + 1) mc ms Q pc L St lay M kc ks := by
  intro p l e s m args below meth c H locs ls X hS hP hl hL hs hM
  subst hstk
  obtain ⟨⟨q1, q2, q3, q4⟩, ⟨host, q5⟩, q6⟩ := hc
  obtain ⟨hx, hb, hml, hown, hts, hret, hlk, hnm, hK, hF, hbs⟩ := id X
  have hsS : okS S := fun v hv => hs v (List.mem_append_right _ hv)
  have hsA : okS as := fun v hv => hs v (List.mem_append_left _ (List.mem_reverse.mpr hv))
  have hM' := k hsA hM l
  have hnw := hF.2.2.2.2.2.2 _ q5
  refine Ok.back (y' := y') (as := as) X hS hl hL hsS (a := (as.map (cv G)).toArray) (va_runSN (host := host) (As := as.map (cv G)) (rest := S.map (cv G)) ⟨hx, hb, hml, hown, hts⟩ hM' ⟨va_cnB as.length hts (goodY q1) rfl rfl rfl hnw (hts _ q2) q3 (rm_le q4), hts _ q6, trivial⟩ ⟨PcG.blind, preG X hS hP⟩ rfl (by simp) hl.1 (by simp) (lv_room (by rw [cat_sum]; exact hr)) hd ⟨h1, h2⟩)
theorem r_invNI {idx a : Nat} {y' : MI} {mc' ms' : Nat} (as : List MV) {St : List MV} (hd : decode y.2.1 pc = .ok (.invokespecial idx, 3)) (hstk : as.reverse ++ .inr (.inr (some a)) :: S = St) (hc : CNI y.1.cls idx y' as.length) (hr : cvc S ≤ 8) (h1 : kc + mc' ≤ mc) (h2 : ks + ms' ≤ ms)
    (k : Cal G y' d mc' ms' (.inr (.inr (some a)) :: as) lay M (fun r lay' M' => Ok G y (d + 1) mc ms Q (pc + 3) L (r.toList ++ S) lay' M' (kc + mc') (ks + ms'))) : Ok G y (d + 1) mc ms Q pc L St lay M kc ks := by
  intro p l e s m args below meth c H locs ls X hS hP hl hL hs hM
  subst hstk
  obtain ⟨⟨q1, q2, q3, q4⟩, ⟨host, q5⟩, q6, q7, q8⟩ := hc
  obtain ⟨hx, hb, hml, hown, hts, hret, hlk, hnm, hK, hF, hbs⟩ := id X
  have hsS : okS S := fun v hv => hs v (List.mem_append_right _ (List.mem_cons_of_mem _ hv))
  have hsA : okS (.inr (.inr (some a)) :: as) := okS_cons trivial (fun v hv => hs v (List.mem_append_left _ (List.mem_reverse.mpr hv)))
  have hM' := k hsA hM l
  have hnw := hF.2.2.2.2.2.2 _ q5
  obtain ⟨y1, y2, y3, y4⟩ := y'
  simp only at q8
  subst q8
  refine Ok.back (y' := (y1, y2, y3, none)) (as := as) X hS hl hL hsS (a := ((.inr (.inr (some a)) :: as).map (cv G)).toArray) (va_runIN (host := host) (As := as.map (cv G)) (b := g_ad G a) (rest := S.map (cv G)) ⟨hx, hb, hml, hown, hts⟩ hM' ⟨va_cnB as.length hts (goodY q1) rfl rfl rfl hnw (hts _ q2) q3 (rm_le q4), q7, hts _ q6⟩ ⟨PcG.blind, preG (as := .inr (.inr (some a)) :: as) X hS hP⟩ rfl (by simp) hl.1 (by simp [cv]) (lv_room (by rw [cat_sum]; exact hr)) hd ⟨h1, h2⟩)
end RULES5
