/-! making objects and arrays; fields that are set once; Object.<init>; arraycopy -/
section RULES6
variable {G : GE} {y : MI} {d mc ms : Nat} {Q : Option MV → Lay → Mem → Prop} {pc : Nat} {L : List (Option MV)} {S : List MV} {lay : Lay} {M : Mem} {kc ks : Nat}
def mzr (M : Mem) (a : Nat) : Mem := fun c j => if c = a then 0 else M c j
theorem mzr_ne {M : Mem} {a c : Nat} (h : c ≠ a) : mzr M a c = M c := by funext j; simp [mzr, h]
theorem mzr_at (M : Mem) (a : Nat) : mzr M a a = fun _ => 0 := by funext j; simp [mzr]
def goodTy : FieldType → Bool
  | .int | .boolean | .long | .object _ | .array _ => true
  | _ => false
theorem goodTy_all : ∀ (ci : Nat) (r : vw_C), vwCl[ci]? = some r → ∀ k, k < r.2.2 → goodTy (tyT ci k) = true := by
  intro ci r h
  match ci, h with
  | 0, h => cases h; decide
  | 1, h => cases h; decide
  | 2, h => cases h; decide
  | 3, h => cases h; decide
  | 4, h => cases h; decide
  | 5, h => cases h; decide
  | 6, h => cases h; decide
  | 7, h => cases h; decide
  | 8, h => cases h; decide
  | 9, h => cases h; decide
  | 10, h => cases h; decide
  | n + 11, h => simp [vwCl] at h
theorem def_fv {ty : FieldType} (h : goodTy ty = true) : defaultValue ty = fv G ty 0 none := by
  cases ty <;> first | rfl | (simp [goodTy] at h)
theorem okF_0 (ty : FieldType) : okF ty 0 := by
  cases ty <;> first | exact trivial | exact ⟨by decide, by decide⟩ | exact Or.inl rfl
/-- one cell more -/
theorem Pic.push {H H1 : Heap} {cd : CD} (hP : Pic G lay M H) (hlen : lay.length + 1 ≤ 1000) (z : H1.size = H.size + 1) (oq : ∀ q, q < H.size → H1[q]? = H[q]?) (hcell : CellAt G cd (fun _ => 0) (G.2.2.1 + lay.length) H1) : Pic G (lay ++ [cd]) (mzr M lay.length) H1 := by
  refine ⟨by simpa using hlen, by rw [z, hP.2.1]; simp; omega, fun c cd' hcd => ?_⟩
  by_cases hc : c < lay.length
  · rw [List.getElem?_append_left hc] at hcd
    rw [mzr_ne (by omega)]
    exact (hP.2.2 c cd' hcd).kept (oq _ (by rw [hP.2.1]; omega))
  · rw [List.getElem?_append_right (by omega)] at hcd
    have hz : c - lay.length < 1 := (List.getElem?_eq_some_iff.mp hcd).1
    have hc0 : c = lay.length := by omega
    subst hc0
    simp at hcd
    subst hcd
    rw [mzr_at]
    exact hcell
theorem okM.push {cd : CD} (hM : okM lay M) (hcell : okC cd (fun _ => 0)) : okM (lay ++ [cd]) (mzr M lay.length) := by
  intro c cd' hcd
  by_cases hc : c < lay.length
  · rw [List.getElem?_append_left hc] at hcd
    rw [mzr_ne (by omega)]
    exact hM c cd' hcd
  · rw [List.getElem?_append_right (by omega)] at hcd
    have hz : c - lay.length < 1 := (List.getElem?_eq_some_iff.mp hcd).1
    have hc0 : c = lay.length := by omega
    subst hc0
    simp at hcd
    subst hcd
    rw [mzr_at]
    exact hcell
theorem va_S.grow {A : Nat → Prop} {H0 H H1 : Heap} {locs : List Loc} (h : va_S A H0 H locs) (z : H1.size = H.size + 1) (oq : ∀ q, q < H.size → H1[q]? = H[q]?) : va_S A H0 H1 locs := ⟨Nat.le_trans h.1 (by omega), fun q h1 h2 => (oq q (Nat.lt_of_lt_of_le h1 h.1)).trans (h.2.1 q h1 h2), h.2.2⟩
theorem r_new {idx ci n : Nat} {r : vw_C} {lay' : Lay} (hd : decode y.2.1 pc = .ok (.new idx, 3)) (hr : vwCl[ci]? = some r) (hn : r.2.2 = n) (hw1 : Cond.classLink y.1.cls idx r.1 ∈ TBL) (hw2 : Cond.instantiable r.1 r.2.2 ∈ TBL) (hw3 : Cond.initialized r.1 ∈ TBL) (hlen : lay.length + 1 ≤ 1000) (h1 : kc + 1 ≤ mc) (h2 : ks + n ≤ ms) (hlay : lay ++ [(ci + 3, 0, List.replicate n none)] = lay')
    (k : Ok G y d mc ms Q (pc + 3) L (.inr (.inr (some lay.length)) :: S) lay' (mzr M lay.length) (kc + 1) (ks + n)) : Ok G y d mc ms Q pc L S lay M kc ks := by
  intro p l e s m args below meth c H locs ls X hS hP hl hL hs hM
  subst hn
  subst hlay
  obtain ⟨hx, hb, hml, hown, hts, hret, hlk, hnm, hK, hF, hbs⟩ := id X
  have hKn := hK.1 ci _ hr
  obtain ⟨hin, hty, hnmm⟩ := cl_ok ci r hr
  refine W.newcK hx hb hown (hts _ hw1) (hts _ hw2) (hts _ hw3) rfl hd h1 h2 hKn.2.1 rfl fun H1 kC hkC e1 z1 o1 => ?_
  have key := k p l e s m args below meth c H1 locs ls X (hS.grow z1 o1) (hP.push hlen z1 o1 ⟨r, hr, by rw [← hP.2.1]; exact ((u_born (tyT ci) hts hin hKn hkC e1 hty).to (fun j hj => by rw [def_fv (G := G) (goodTy_all ci r hr j hj)]; congr 1; simp only [List.getD_eq_getElem?_getD, List.getElem?_replicate]; split <;> rfl))⟩) hl hL (okS_cons trivial hs) (hM.push (fun j => okF_0 _))
  have e2 : g_ad G lay.length = H.size := by unfold g_ad; rw [if_pos (by omega), hP.2.1]
  show W p l e _ s m args below meth c H1 locs _ _ _ (F0 m (pc + 3) ls (.ref H.size :: S.map (cv G)))
  rw [← e2]
  exact key
theorem r_newI {n : Nat} {n0 : Int} {lay' : Lay} (hd : decode y.2.1 pc = .ok (.newarray .int, 2)) (hn0 : n0 = (n : Int)) (hn : n < 100000) (hw : Cond.arrayClass .int ∈ TBL) (hlen : lay.length + 1 ≤ 1000) (h1 : kc + 1 ≤ mc) (h2 : ks + n ≤ ms) (hlay : lay ++ [(0, n, [])] = lay')
    (k : Ok G y d mc ms Q (pc + 2) L (.inr (.inr (some lay.length)) :: S) lay' (mzr M lay.length) (kc + 1) (ks + n)) : Ok G y d mc ms Q pc L (.inl n0 :: S) lay M kc ks := by
  intro p l e s m args below meth c H locs ls X hS hP hl hL hs hM
  subst hlay
  subst hn0
  obtain ⟨hx, hb, hml, hown, hts, hret, hlk, hnm, hK, hF, hbs⟩ := id X
  have hi : I32 (n : Int) := by unfold I32; omega
  have hcl : (Int32.ofInt (n : Int)).toNatClampNeg = n := by rw [mm_clamp hi]; simp
  have hneg : ¬ Int32.ofInt (n : Int) < 0 := by rw [← ofI_0, ofI_lt hi I32_0]; omega
  refine va_newaK (atype := .int) (N := n) hx hb (hts _ hw) rfl hd rfl hneg hcl (by simp [componentBytes, newarray.typeOf]; omega) h1 h2 rfl fun H1 cA e1 z1 o1 hAr hNm => ?_
  have hcA : cA = G.2.1 0 := by
    have h3 := (hK.2 0 _ rfl).2
    exact Option.some.inj (hNm.symm.trans h3)
  subst hcA
  have key := k p l e s m args below meth c H1 locs ls X (hS.grow z1 o1) (hP.push hlen z1 o1 (by rw [← hP.2.1]; exact e1)) hl hL (okS_cons trivial (okS_tl hs)) (hM.push (fun _ => (⟨by decide, by decide⟩ : I32 0)))
  have e2 : g_ad G lay.length = H.size := by unfold g_ad; rw [if_pos (by omega), hP.2.1]
  show W p l e _ s m args below meth c H1 locs _ _ _ (F0 m (pc + 2) ls (.ref H.size :: S.map (cv G)))
  rw [← e2]
  exact key
theorem r_newJ {n : Nat} {n0 : Int} {lay' : Lay} (hd : decode y.2.1 pc = .ok (.newarray .long, 2)) (hn0 : n0 = (n : Int)) (hn : n < 100000) (hw : Cond.arrayClass .long ∈ TBL) (hlen : lay.length + 1 ≤ 1000) (h1 : kc + 1 ≤ mc) (h2 : ks + n ≤ ms) (hlay : lay ++ [(1, n, [])] = lay')
    (k : Ok G y d mc ms Q (pc + 2) L (.inr (.inr (some lay.length)) :: S) lay' (mzr M lay.length) (kc + 1) (ks + n)) : Ok G y d mc ms Q pc L (.inl n0 :: S) lay M kc ks := by
  intro p l e s m args below meth c H locs ls X hS hP hl hL hs hM
  subst hlay
  subst hn0
  obtain ⟨hx, hb, hml, hown, hts, hret, hlk, hnm, hK, hF, hbs⟩ := id X
  have hi : I32 (n : Int) := by unfold I32; omega
  have hcl : (Int32.ofInt (n : Int)).toNatClampNeg = n := by rw [mm_clamp hi]; simp
  have hneg : ¬ Int32.ofInt (n : Int) < 0 := by rw [← ofI_0, ofI_lt hi I32_0]; omega
  refine va_newaK (atype := .long) (N := n) hx hb (hts _ hw) rfl hd rfl hneg hcl (by simp [componentBytes, newarray.typeOf]; omega) h1 h2 rfl fun H1 cA e1 z1 o1 hAr hNm => ?_
  have hcA : cA = G.2.1 1 := by
    have h3 := (hK.2 1 _ rfl).2
    exact Option.some.inj (hNm.symm.trans h3)
  subst hcA
  have key := k p l e s m args below meth c H1 locs ls X (hS.grow z1 o1) (hP.push hlen z1 o1 (by rw [← hP.2.1]; exact e1)) hl hL (okS_cons trivial (okS_tl hs)) (hM.push (fun _ => (⟨by decide, by decide⟩ : I64 0)))
  have e2 : g_ad G lay.length = H.size := by unfold g_ad; rw [if_pos (by omega), hP.2.1]
  show W p l e _ s m args below meth c H1 locs _ _ _ (F0 m (pc + 2) ls (.ref H.size :: S.map (cv G)))
  rw [← e2]
  exact key
theorem r_newZ {n : Nat} {n0 : Int} {lay' : Lay} (hd : decode y.2.1 pc = .ok (.newarray .boolean, 2)) (hn0 : n0 = (n : Int)) (hn : n < 100000) (hw : Cond.arrayClass .boolean ∈ TBL) (hlen : lay.length + 1 ≤ 1000) (h1 : kc + 1 ≤ mc) (h2 : ks + n ≤ ms) (hlay : lay ++ [(2, n, [])] = lay')
    (k : Ok G y d mc ms Q (pc + 2) L (.inr (.inr (some lay.length)) :: S) lay' (mzr M lay.length) (kc + 1) (ks + n)) : Ok G y d mc ms Q pc L (.inl n0 :: S) lay M kc ks := by
  intro p l e s m args below meth c H locs ls X hS hP hl hL hs hM
  subst hlay
  subst hn0
  obtain ⟨hx, hb, hml, hown, hts, hret, hlk, hnm, hK, hF, hbs⟩ := id X
  have hi : I32 (n : Int) := by unfold I32; omega
  have hcl : (Int32.ofInt (n : Int)).toNatClampNeg = n := by rw [mm_clamp hi]; simp
  have hneg : ¬ Int32.ofInt (n : Int) < 0 := by rw [← ofI_0, ofI_lt hi I32_0]; omega
  refine va_newaK (atype := .boolean) (N := n) hx hb (hts _ hw) rfl hd rfl hneg hcl (by simp [componentBytes, newarray.typeOf]; omega) h1 h2 rfl fun H1 cA e1 z1 o1 hAr hNm => ?_
  have hcA : cA = G.2.1 2 := by
    have h3 := (hK.2 2 _ rfl).2
    exact Option.some.inj (hNm.symm.trans h3)
  subst hcA
  have key := k p l e s m args below meth c H1 locs ls X (hS.grow z1 o1) (hP.push hlen z1 o1 (by rw [← hP.2.1]; exact e1)) hl hL (okS_cons trivial (okS_tl hs)) (hM.push (fun j => Or.inl rfl))
  have e2 : g_ad G lay.length = H.size := by unfold g_ad; rw [if_pos (by omega), hP.2.1]
  show W p l e _ s m args below meth c H1 locs _ _ _ (F0 m (pc + 2) ls (.ref H.size :: S.map (cv G)))
  rw [← e2]
  exact key
/-- a field that holds a reference, set by its class's constructor -/
theorem r_putR {a b idx : Nat} (ci k : Nat) {n : Nat} {rs : List (Option Nat)} {lay' : Lay} (hd : decode y.2.1 pc = .ok (.putfield idx, 3)) (hc : lay[a]? = some (ci + 3, n, rs)) (hf : FL y.1.cls idx ci k) (hfin : ∀ r, vwCl[ci]? = some r → (r.2.1 k).2.2.2 = true ∧ (r.2.1 k).1 = y.1.cls) (hin2 : y.1.name = "<init>") (hpr : (∃ C, tyT ci k = .object C) ∨ ∃ t, tyT ci k = .array t) (hk2 : k < rs.length) (hlay : lay.set a (ci + 3, n, rs.set k (some b)) = lay') (kk : Ok G y d mc ms Q (pc + 3) L S lay' M kc ks) : Ok G y d mc ms Q pc L (.inr (.inr (some b)) :: .inr (.inr (some a)) :: S) lay M kc ks := by
  intro p l e s m args below meth c H locs ls X hS hP hl hL hs hM
  subst hlay
  obtain ⟨r, hr, hk, hw⟩ := hf
  obtain ⟨r', h1, cell, q1, q2, q3, q4⟩ := hP.2.2 a _ hc
  have hrr : r' = r := Option.some.inj (h1.symm.trans hr)
  subst hrr
  obtain ⟨hx, hb, hml, hown, hts, hret, hlk, hnm, hK, hF, hbs⟩ := id X
  obtain ⟨hSl, hfc, kC, hkC, hkind⟩ := hK.1 ci _ hr
  obtain ⟨cf, kf, fi, f, hi, hsl⟩ := hSl k hk
  obtain ⟨hin, hty, hnmm⟩ := cl_ok ci r' hr
  have hap : ∀ x y, x < r'.2.2 → y < r'.2.2 → x ≠ y → (G.1.2 ci) x ≠ (G.1.2 ci) y := va_apart (own := y.1.cls) hts hin (tyT ci) hty hnmm hK hr
  have hlay := hts _ (hin _ (u_in_lay hk))
  unfold u_lay at hlay
  rw [if_pos (hfin r' hr).1] at hlay
  have hst := (u_facts hfc hkC (u_lays hts hin hk) hi).1
  have hcf : m.cls = cf := by
    obtain ⟨_, _, c', _, _, _, -, -, hf', -, -, -, hown2, -⟩ := Cond.laysFinal_spec hlay
    have e1 : c' = cf := by have := hi.symm.trans hf'; simp at this; exact this.1.symm
    rw [(hfin r' hr).2] at hown2
    rw [← e1]; exact Option.some.inj (hown.symm.trans hown2)
  have hn0 : narrow (tyT ci k) (.ref (g_ad G b)) = .ref (g_ad G b) ∧ fits (tyT ci k) (.ref (g_ad G b)) = true := by
    rcases hpr with ⟨C, e1⟩ | ⟨t, e1⟩ <;> (rw [e1]; exact ⟨rfl, rfl⟩)
  have h6 := u_fits hfc hkC hkind (Or.inr hlay) hi (hty k hk) hn0.1 hn0.2
  show W p l e _ s m args below meth c H locs kc ks _ (F0 m pc ls (.ref (g_ad G b) :: .ref (g_ad G a) :: S.map (cv G)))
  rw [hP.ad hc]
  refine W.putFinK hx hb hown (hts _ hw) hi hst hcf (hnm.trans hin2) (by rw [q2]; exact h6) q1 q3 (by rw [hsl]; exact k2_hasslot (q4 k hk)) rfl rfl hd fun H' e1 e2 e3 => ?_
  have hal : a < lay.length := (List.getElem?_eq_some_iff.mp hc).1
  have hla : ∀ c, c ≠ a → (lay.set a (ci + 3, n, rs.set k (some b)))[c]? = lay[c]? := fun c h => List.getElem?_set_ne (Ne.symm h)
  have hca : (lay.set a (ci + 3, n, rs.set k (some b)))[a]? = some (ci + 3, n, rs.set k (some b)) := List.getElem?_set_self hal
  refine kk p l e s m args below meth c H' _ ls X (hS.put e2 e3 (Nat.le_add_right _ _)) (hP.set e2 e3 (by simp) hca hla (fun _ _ => rfl) ?_) hl hL (okS_tl (okS_tl hs)) (hM.set hca hla (fun _ _ => rfl) (show okC (ci + 3, n, rs) (M a) from hM a _ hc))
  rw [hsl] at e1
  refine ⟨_, hr, t_OB.to (V := updV (fun j => fv G (tyT ci j) (M a j) (rs.getD j none)) k (.ref (g_ad G b))) ⟨_, e1, q2, q3, t_set q4 hap hk (.ref (g_ad G b))⟩ (fun j _ => ?_)⟩
  by_cases hj : j = k
  · subst hj
    have e4 : (rs.set j (some b)).getD j none = some b := by simp [List.getD_eq_getElem?_getD, hk2]
    rw [e4]
    simp only [updV, if_true]
    rcases hpr with ⟨C, e1⟩ | ⟨t, e1⟩ <;> (rw [e1]; rfl)
  · have e4 : (rs.set k (some b)).getD j none = rs.getD j none := by simp [List.getD_eq_getElem?_getD, List.getElem?_set_ne (Ne.symm hj)]
    rw [e4]
    simp [updV, hj]
theorem r_objInit {a idx : Nat} (hd : decode y.2.1 pc = .ok (.invokespecial idx, 3)) (hw1 : Cond.methodLink y.1.cls idx objectInit ∈ TBL) (hw2 : Cond.instanceMethod objectInit ∈ TBL) (hw3 : Cond.code objectInit ⟨#[0xb1]⟩ 1 none ∈ TBL) (hr : cvc S ≤ 8) (k : Ok G y (d + 1) mc ms Q (pc + 3) L S lay M kc ks) : Ok G y (d + 1) mc ms Q pc L (.inr (.inr (some a)) :: S) lay M kc ks := by
  intro p l e s m args below meth c H locs ls X hS hP hl hL hs hM
  obtain ⟨hx, hb, hml, hown, hts, hret, hlk, hnm, hK, hF, hbs⟩ := id X
  refine W.objInit hx hb hown (hts _ hw1) (hts _ hw2) (hts _ hw3) rfl (by rw [hml]; exact hl.1) rfl hd (by simp [rmD]) ?_ (k p l e s m args below meth c H locs ls X hS hP hl hL (okS_tl hs) hM)
  rw [cat_sum]
  show 2 * 0 + cvc S + 12 ≤ 100 * (d + 1)
  omega
theorem nfw_le {n : Nat} (hr : n ≤ 8) : 2 * 0 + n + (nativeFrameWords "java/lang/System" "arraycopy" 5 + 11) ≤ 100 * (d + 1) := by
  have : nativeFrameWords "java/lang/System" "arraycopy" 5 ≤ 20 := by decide
  omega
theorem r_copyI {a0 a1 n0 n1 idx : Nat} {rs0 rs1 : List (Option Nat)} {sp dp n : Int} {M' : Mem} (hd : decode y.2.1 pc = .ok (.invokestatic idx, 3)) (hw1 : Cond.methodLink y.1.cls idx arraycopyName ∈ TBL) (hw2 : Cond.native arraycopyName ∈ TBL) (hw3 : Cond.static arraycopyName ∈ TBL) (hw4 : Cond.initialized "java/lang/System" ∈ TBL) (hc0 : lay[a0]? = some (0, n0, rs0)) (hc1 : lay[a1]? = some (0, n1, rs1)) (h1 : 0 ≤ sp) (h2 : 0 ≤ dp) (h3 : 0 ≤ n) (h4 : sp + n ≤ n0) (h5 : dp + n ≤ n1) (hr : cvc S ≤ 8)
    (hM' : (fun c => if c = a1 then va_cpy (M a0) (M a1) sp.toNat dp.toNat n.toNat else M c) = M') (k : Ok G y (d + 1) mc ms Q (pc + 3) L S lay M' kc ks) : Ok G y (d + 1) mc ms Q pc L (.inl n :: .inl dp :: .inr (.inr (some a1)) :: .inl sp :: .inr (.inr (some a0)) :: S) lay M kc ks := by
  intro p l e s m args below meth c H locs ls X hS hP hl hL hs hM
  subst hM'
  obtain ⟨hx, hb, hml, hown, hts, hret, hlk, hnm, hK, hF, hbs⟩ := id X
  have in_ : I32 n := okS_hd hs
  have idp : I32 dp := okS_hd (okS_tl hs)
  have isp : I32 sp := okS_hd (okS_tl (okS_tl (okS_tl hs)))
  have g1 : ¬ Int32.ofInt sp < 0 := by rw [← ofI_0, ofI_lt isp I32_0]; omega
  have g2 : ¬ Int32.ofInt dp < 0 := by rw [← ofI_0, ofI_lt idp I32_0]; omega
  have g3 : ¬ Int32.ofInt n < 0 := by rw [← ofI_0, ofI_lt in_ I32_0]; omega
  have hp0 : H[G.2.2.1 + a0]? = some (vp_cell (G.2.1 0) (n0, .inl (fun j => Int32.ofInt (M a0 j)))) := hP.2.2 a0 _ hc0
  have hp1 : H[G.2.2.1 + a1]? = some (vp_cell (G.2.1 0) (n1, .inl (fun j => Int32.ofInt (M a1 j)))) := hP.2.2 a1 _ hc1
  have ht := (hK.2 0 (G.2.1 0, .int) rfl).1
  intro T hT X0
  obtain ⟨-, k0, hk0, cm0, hkk0⟩ := ht n0 (fun j => .int (Int32.ofInt (M a0 j)))
  obtain ⟨-, k1, hk1, cm1, hkk1⟩ := ht n1 (fun j => .int (Int32.ofInt (M a1 j)))
  have hrl : (F0 m pc ls ((.inl n :: .inl dp :: .inr (.inr (some a1)) :: .inl sp :: .inr (.inr (some a0)) :: S : List MV).map (cv G))).stack = .int (Int32.ofInt n) :: .int (Int32.ofInt dp) :: .ref (G.2.2.1 + a1) :: .int (Int32.ofInt sp) :: .ref (G.2.2.1 + a0) :: S.map (cv G) := by
    show Value.int (Int32.ofInt n) :: Value.int (Int32.ofInt dp) :: Value.ref (g_ad G a1) :: Value.int (Int32.ofInt sp) :: Value.ref (g_ad G a0) :: S.map (cv G) = _
    rw [hP.ad hc0, hP.ad hc1]
  obtain ⟨vm', X', step⟩ := X0.arraycopy hx hown (hts _ hw1) (hts _ hw2) (hts _ hw3) (hts _ hw4) (src := G.2.2.1 + a0) (dst := G.2.2.1 + a1) (cs := vp_cell (G.2.1 0) (n0, .inl (fun j => Int32.ofInt (M a0 j)))) (cd := vp_cell (G.2.1 0) (n1, .inl (fun j => Int32.ofInt (M a1 j)))) (srcPos := Int32.ofInt sp) (destPos := Int32.ofInt dp) (n := Int32.ofInt n) (by rw [hT]; exact hp0) (by rw [hT]; exact hp1)
    (fun _ h => by cases h) (fun _ h => by cases h) (fun h => by cases h) (fun h => by cases h) hk0 hk1 hkk0 hkk1 (by simp [refKind]) g1 g2 g3
    (by rw [toI_ofI isp, toI_ofI in_]; show ¬ _ > ((arrV (G.2.1 0) n0 (fun j => .int (Int32.ofInt (M a0 j)))).slots.size : Int); rw [arrV_size]; omega)
    (by rw [toI_ofI idp, toI_ofI in_]; show ¬ _ > ((arrV (G.2.1 0) n1 (fun j => .int (Int32.ofInt (M a1 j)))).slots.size : Int); rw [arrV_size]; omega)
    (fun vm₁ _ i hi => by
      rw [mm_clamp in_] at hi
      have e : (vp_cell (G.2.1 0) (n0, .inl (fun j => Int32.ofInt (M a0 j)))).slots.getD ((Int32.ofInt sp).toNatClampNeg + i) .null = .int (Int32.ofInt (M a0 ((Int32.ofInt sp).toNatClampNeg + i))) := by
        show (arrV (G.2.1 0) n0 (fun j => .int (Int32.ofInt (M a0 j)))).slots.getD _ _ = _
        rw [Array.getD_eq_getD_getElem?, arrV_read _ _ (by rw [mm_clamp isp]; omega)]
        rfl
      refine ⟨?_, ?_⟩
      · rw [e]; rfl
      · rw [e]
        exact trivial)
    (g := F0 m pc ls ((.inl n :: .inl dp :: .inr (.inr (some a1)) :: .inl sp :: .inr (.inr (some a0)) :: S : List MV).map (cv G))) rfl (by rw [hml]; exact hl.1) (rest := S.map (cv G)) hrl (by rw [hb]; exact hd) (by simp [rmD]) (by rw [cat_sum]; show 2 * 0 + cvc S + (nativeFrameWords "java/lang/System" "arraycopy" 5 + 11) ≤ 100 * (d + 1); exact nfw_le hr)
  have e1 : copied (vp_cell (G.2.1 0) (n0, .inl (fun j => Int32.ofInt (M a0 j)))) (vp_cell (G.2.1 0) (n1, .inl (fun j => Int32.ofInt (M a1 j)))) (Int32.ofInt sp) (Int32.ofInt dp) (Int32.ofInt n) = vp_cell (G.2.1 0) (n1, .inl (va_cpy (fun j => Int32.ofInt (M a0 j)) (fun j => Int32.ofInt (M a1 j)) (Int32.ofInt sp).toNatClampNeg (Int32.ofInt dp).toNatClampNeg (Int32.ofInt n).toNatClampNeg)) := va_copied (fun z => .int z) (G.2.1 0) (G.2.1 0) (fun j => Int32.ofInt (M a0 j)) (fun j => Int32.ofInt (M a1 j)) (by rw [mm_clamp isp, mm_clamp in_]; omega)
  rw [e1, mm_clamp isp, mm_clamp idp, mm_clamp in_] at X' step
  have e5 : va_cpy (fun j => Int32.ofInt (M a0 j)) (fun j => Int32.ofInt (M a1 j)) sp.toNat dp.toNat n.toNat = fun j => Int32.ofInt (va_cpy (M a0) (M a1) sp.toNat dp.toNat n.toNat j) := by
    funext j; unfold va_cpy; split <;> rfl
  rw [e5] at X' step
  have hlt : G.2.2.1 + a1 < H.size := (Array.getElem?_eq_some_iff.mp hp1).1
  have hheap : ((T.setVm vm').setCell (G.2.2.1 + a1) (vp_cell (G.2.1 0) (n1, .inl (fun j => Int32.ofInt (va_cpy (M a0) (M a1) sp.toNat dp.toNat n.toNat j))))).heap = H.setIfInBounds (G.2.2.1 + a1) (vp_cell (G.2.1 0) (n1, .inl (fun j => Int32.ofInt (va_cpy (M a0) (M a1) sp.toNat dp.toNat n.toNat j)))) := by rw [← hT]; rfl
  have oq : ∀ q : Nat, q ≠ G.2.2.1 + a1 → (H.setIfInBounds (G.2.2.1 + a1) (vp_cell (G.2.1 0) (n1, .inl (fun j => Int32.ofInt (va_cpy (M a0) (M a1) sp.toNat dp.toNat n.toNat j)))))[q]? = H[q]? := fun q hq => by simp [Array.getElem?_setIfInBounds, Ne.symm hq]
  have hMa : ∀ c, c ≠ a1 → (fun c => if c = a1 then va_cpy (M a0) (M a1) sp.toNat dp.toNat n.toNat else M c) c = M c := fun c h => by simp [h]
  have hM1 : (fun c => if c = a1 then va_cpy (M a0) (M a1) sp.toNat dp.toNat n.toNat else M c) a1 = va_cpy (M a0) (M a1) sp.toNat dp.toNat n.toNat := by simp
  obtain ⟨t, a1_, b1⟩ := k p l e s m args below meth c _ _ ls X ⟨by simp; exact hS.1, fun q z1 z2 => by
      rw [oq q (fun e => z2 (by rw [e]; exact Nat.le_add_right _ _))]
      exact hS.2.1 q z1 z2, fun q hq => by
      rcases List.mem_append.mp hq with h | h
      · exact hS.2.2 q h
      · obtain ⟨z, -, hz⟩ := List.mem_map.mp h
        rw [← hz]
        exact Nat.le_add_right _ _⟩ (hP.set (by simp) oq rfl hc1 (fun _ _ => rfl) hMa (by rw [if_pos rfl]; show (H.setIfInBounds _ _)[_]? = some _; simp [Array.getElem?_setIfInBounds, hlt]; rfl)) hl hL (okS_tl (okS_tl (okS_tl (okS_tl (okS_tl hs))))) (hM.set hc1 (fun _ _ => rfl) hMa (by rw [if_pos rfl]; intro j; unfold va_cpy; split; exact hM a0 _ hc0 _; exact hM a1 _ hc1 _)) _ hheap X'
  exact ⟨t, step t a1_, b1⟩
theorem r_copyL {a0 a1 n0 n1 idx : Nat} {rs0 rs1 : List (Option Nat)} {sp dp n : Int} {M' : Mem} (hd : decode y.2.1 pc = .ok (.invokestatic idx, 3)) (hw1 : Cond.methodLink y.1.cls idx arraycopyName ∈ TBL) (hw2 : Cond.native arraycopyName ∈ TBL) (hw3 : Cond.static arraycopyName ∈ TBL) (hw4 : Cond.initialized "java/lang/System" ∈ TBL) (hc0 : lay[a0]? = some (1, n0, rs0)) (hc1 : lay[a1]? = some (1, n1, rs1)) (h1 : 0 ≤ sp) (h2 : 0 ≤ dp) (h3 : 0 ≤ n) (h4 : sp + n ≤ n0) (h5 : dp + n ≤ n1) (hr : cvc S ≤ 8)
    (hM' : (fun c => if c = a1 then va_cpy (M a0) (M a1) sp.toNat dp.toNat n.toNat else M c) = M') (k : Ok G y (d + 1) mc ms Q (pc + 3) L S lay M' kc ks) : Ok G y (d + 1) mc ms Q pc L (.inl n :: .inl dp :: .inr (.inr (some a1)) :: .inl sp :: .inr (.inr (some a0)) :: S) lay M kc ks := by
  intro p l e s m args below meth c H locs ls X hS hP hl hL hs hM
  subst hM'
  obtain ⟨hx, hb, hml, hown, hts, hret, hlk, hnm, hK, hF, hbs⟩ := id X
  have in_ : I32 n := okS_hd hs
  have idp : I32 dp := okS_hd (okS_tl hs)
  have isp : I32 sp := okS_hd (okS_tl (okS_tl (okS_tl hs)))
  have g1 : ¬ Int32.ofInt sp < 0 := by rw [← ofI_0, ofI_lt isp I32_0]; omega
  have g2 : ¬ Int32.ofInt dp < 0 := by rw [← ofI_0, ofI_lt idp I32_0]; omega
  have g3 : ¬ Int32.ofInt n < 0 := by rw [← ofI_0, ofI_lt in_ I32_0]; omega
  have hp0 : H[G.2.2.1 + a0]? = some (vp_cell (G.2.1 1) (n0, .inr (.inl (fun j => Int64.ofInt (M a0 j))))) := hP.2.2 a0 _ hc0
  have hp1 : H[G.2.2.1 + a1]? = some (vp_cell (G.2.1 1) (n1, .inr (.inl (fun j => Int64.ofInt (M a1 j))))) := hP.2.2 a1 _ hc1
  have ht := (hK.2 1 (G.2.1 1, .long) rfl).1
  intro T hT X0
  obtain ⟨-, k0, hk0, cm0, hkk0⟩ := ht n0 (fun j => .long (Int64.ofInt (M a0 j)))
  obtain ⟨-, k1, hk1, cm1, hkk1⟩ := ht n1 (fun j => .long (Int64.ofInt (M a1 j)))
  have hrl : (F0 m pc ls ((.inl n :: .inl dp :: .inr (.inr (some a1)) :: .inl sp :: .inr (.inr (some a0)) :: S : List MV).map (cv G))).stack = .int (Int32.ofInt n) :: .int (Int32.ofInt dp) :: .ref (G.2.2.1 + a1) :: .int (Int32.ofInt sp) :: .ref (G.2.2.1 + a0) :: S.map (cv G) := by
    show Value.int (Int32.ofInt n) :: Value.int (Int32.ofInt dp) :: Value.ref (g_ad G a1) :: Value.int (Int32.ofInt sp) :: Value.ref (g_ad G a0) :: S.map (cv G) = _
    rw [hP.ad hc0, hP.ad hc1]
  obtain ⟨vm', X', step⟩ := X0.arraycopy hx hown (hts _ hw1) (hts _ hw2) (hts _ hw3) (hts _ hw4) (src := G.2.2.1 + a0) (dst := G.2.2.1 + a1) (cs := vp_cell (G.2.1 1) (n0, .inr (.inl (fun j => Int64.ofInt (M a0 j))))) (cd := vp_cell (G.2.1 1) (n1, .inr (.inl (fun j => Int64.ofInt (M a1 j))))) (srcPos := Int32.ofInt sp) (destPos := Int32.ofInt dp) (n := Int32.ofInt n) (by rw [hT]; exact hp0) (by rw [hT]; exact hp1)
    (fun _ h => by cases h) (fun _ h => by cases h) (fun h => by cases h) (fun h => by cases h) hk0 hk1 hkk0 hkk1 (by simp [refKind]) g1 g2 g3
    (by rw [toI_ofI isp, toI_ofI in_]; show ¬ _ > ((arrV (G.2.1 1) n0 (fun j => .long (Int64.ofInt (M a0 j)))).slots.size : Int); rw [arrV_size]; omega)
    (by rw [toI_ofI idp, toI_ofI in_]; show ¬ _ > ((arrV (G.2.1 1) n1 (fun j => .long (Int64.ofInt (M a1 j)))).slots.size : Int); rw [arrV_size]; omega)
    (fun vm₁ _ i hi => by
      rw [mm_clamp in_] at hi
      have e : (vp_cell (G.2.1 1) (n0, .inr (.inl (fun j => Int64.ofInt (M a0 j))))).slots.getD ((Int32.ofInt sp).toNatClampNeg + i) .null = .long (Int64.ofInt (M a0 ((Int32.ofInt sp).toNatClampNeg + i))) := by
        show (arrV (G.2.1 1) n0 (fun j => .long (Int64.ofInt (M a0 j)))).slots.getD _ _ = _
        rw [Array.getD_eq_getD_getElem?, arrV_read _ _ (by rw [mm_clamp isp]; omega)]
        rfl
      refine ⟨?_, ?_⟩
      · rw [e]; rfl
      · rw [e]
        exact trivial)
    (g := F0 m pc ls ((.inl n :: .inl dp :: .inr (.inr (some a1)) :: .inl sp :: .inr (.inr (some a0)) :: S : List MV).map (cv G))) rfl (by rw [hml]; exact hl.1) (rest := S.map (cv G)) hrl (by rw [hb]; exact hd) (by simp [rmD]) (by rw [cat_sum]; show 2 * 0 + cvc S + (nativeFrameWords "java/lang/System" "arraycopy" 5 + 11) ≤ 100 * (d + 1); exact nfw_le hr)
  have e1 : copied (vp_cell (G.2.1 1) (n0, .inr (.inl (fun j => Int64.ofInt (M a0 j))))) (vp_cell (G.2.1 1) (n1, .inr (.inl (fun j => Int64.ofInt (M a1 j))))) (Int32.ofInt sp) (Int32.ofInt dp) (Int32.ofInt n) = vp_cell (G.2.1 1) (n1, .inr (.inl (va_cpy (fun j => Int64.ofInt (M a0 j)) (fun j => Int64.ofInt (M a1 j)) (Int32.ofInt sp).toNatClampNeg (Int32.ofInt dp).toNatClampNeg (Int32.ofInt n).toNatClampNeg))) := va_copied (fun z => .long z) (G.2.1 1) (G.2.1 1) (fun j => Int64.ofInt (M a0 j)) (fun j => Int64.ofInt (M a1 j)) (by rw [mm_clamp isp, mm_clamp in_]; omega)
  rw [e1, mm_clamp isp, mm_clamp idp, mm_clamp in_] at X' step
  have e5 : va_cpy (fun j => Int64.ofInt (M a0 j)) (fun j => Int64.ofInt (M a1 j)) sp.toNat dp.toNat n.toNat = fun j => Int64.ofInt (va_cpy (M a0) (M a1) sp.toNat dp.toNat n.toNat j) := by
    funext j; unfold va_cpy; split <;> rfl
  rw [e5] at X' step
  have hlt : G.2.2.1 + a1 < H.size := (Array.getElem?_eq_some_iff.mp hp1).1
  have hheap : ((T.setVm vm').setCell (G.2.2.1 + a1) (vp_cell (G.2.1 1) (n1, .inr (.inl (fun j => Int64.ofInt (va_cpy (M a0) (M a1) sp.toNat dp.toNat n.toNat j)))))).heap = H.setIfInBounds (G.2.2.1 + a1) (vp_cell (G.2.1 1) (n1, .inr (.inl (fun j => Int64.ofInt (va_cpy (M a0) (M a1) sp.toNat dp.toNat n.toNat j))))) := by rw [← hT]; rfl
  have oq : ∀ q : Nat, q ≠ G.2.2.1 + a1 → (H.setIfInBounds (G.2.2.1 + a1) (vp_cell (G.2.1 1) (n1, .inr (.inl (fun j => Int64.ofInt (va_cpy (M a0) (M a1) sp.toNat dp.toNat n.toNat j))))))[q]? = H[q]? := fun q hq => by simp [Array.getElem?_setIfInBounds, Ne.symm hq]
  have hMa : ∀ c, c ≠ a1 → (fun c => if c = a1 then va_cpy (M a0) (M a1) sp.toNat dp.toNat n.toNat else M c) c = M c := fun c h => by simp [h]
  have hM1 : (fun c => if c = a1 then va_cpy (M a0) (M a1) sp.toNat dp.toNat n.toNat else M c) a1 = va_cpy (M a0) (M a1) sp.toNat dp.toNat n.toNat := by simp
  obtain ⟨t, a1_, b1⟩ := k p l e s m args below meth c _ _ ls X ⟨by simp; exact hS.1, fun q z1 z2 => by
      rw [oq q (fun e => z2 (by rw [e]; exact Nat.le_add_right _ _))]
      exact hS.2.1 q z1 z2, fun q hq => by
      rcases List.mem_append.mp hq with h | h
      · exact hS.2.2 q h
      · obtain ⟨z, -, hz⟩ := List.mem_map.mp h
        rw [← hz]
        exact Nat.le_add_right _ _⟩ (hP.set (by simp) oq rfl hc1 (fun _ _ => rfl) hMa (by rw [if_pos rfl]; show (H.setIfInBounds _ _)[_]? = some _; simp [Array.getElem?_setIfInBounds, hlt]; rfl)) hl hL (okS_tl (okS_tl (okS_tl (okS_tl (okS_tl hs))))) (hM.set hc1 (fun _ _ => rfl) hMa (by rw [if_pos rfl]; intro j; unfold va_cpy; split; exact hM a0 _ hc0 _; exact hM a1 _ hc1 _)) _ hheap X'
  exact ⟨t, step t a1_, b1⟩
end RULES6
