/-! stores into locals, fields, arrays -/
section RULES2
variable {G : GE} {y : MI} {d mc ms : Nat} {Q : Option MV → Lay → Mem → Prop} {pc : Nat} {L : List (Option MV)} {S : List MV} {lay : Lay} {M : Mem} {kc ks : Nat}
theorem r_istore_n {k0 : Fin 4} {i : Nat} {x : Int} {L' : List (Option MV)} (hd : decode y.2.1 pc = .ok (.istore_n k0, 1)) (hi : (k0 : Nat) = i) (hn : i < y.2.2.1) (hL' : mst1 L i (.inl x) = L') (k : Ok G y d mc ms Q (pc + 1) L' S lay M kc ks) : Ok G y d mc ms Q pc L (.inl x :: S) lay M kc ks := by
  intro p l e s m args below meth c H locs ls X hS hP hl hL hs hM
  subst hL'
  refine lv_istore_n X.1 X.2.1 hd hi hl.has hn rfl (fun ls' h' => ?_)
  exact k p l e s m args below meth c H locs ls' X hS hP (LocOK.st1 (v := .inl x) h') (hL.st1 (okS_hd hs)) (okS_tl hs) hM
theorem r_istore {i : Nat} {x : Int} {L' : List (Option MV)} (hd : decode y.2.1 pc = .ok (.istore i, 2)) (hn : i < y.2.2.1) (hL' : mst1 L i (.inl x) = L') (k : Ok G y d mc ms Q (pc + 2) L' S lay M kc ks) : Ok G y d mc ms Q pc L (.inl x :: S) lay M kc ks := by
  intro p l e s m args below meth c H locs ls X hS hP hl hL hs hM
  subst hL'
  refine lv_istore X.1 X.2.1 hd hl.has hn rfl (fun ls' h' => ?_)
  exact k p l e s m args below meth c H locs ls' X hS hP (LocOK.st1 (v := .inl x) h') (hL.st1 (okS_hd hs)) (okS_tl hs) hM
theorem r_lstore_n {k0 : Fin 4} {i : Nat} {x : Int} {L' : List (Option MV)} (hd : decode y.2.1 pc = .ok (.lstore_n k0, 1)) (hi : (k0 : Nat) = i) (hn : i + 1 < y.2.2.1) (hL' : mst2 L i (.inr (.inl x)) = L') (k : Ok G y d mc ms Q (pc + 1) L' S lay M kc ks) : Ok G y d mc ms Q pc L (.inr (.inl x) :: S) lay M kc ks := by
  intro p l e s m args below meth c H locs ls X hS hP hl hL hs hM
  subst hL'
  refine lv_lstore_n X.1 X.2.1 hd hi hl.has hn rfl (fun ls' h' => ?_)
  exact k p l e s m args below meth c H locs ls' X hS hP (LocOK.st2 (v := .inr (.inl x)) h') (hL.st2 (okS_hd hs)) (okS_tl hs) hM
theorem r_lstore {i : Nat} {x : Int} {L' : List (Option MV)} (hd : decode y.2.1 pc = .ok (.lstore i, 2)) (hn : i + 1 < y.2.2.1) (hL' : mst2 L i (.inr (.inl x)) = L') (k : Ok G y d mc ms Q (pc + 2) L' S lay M kc ks) : Ok G y d mc ms Q pc L (.inr (.inl x) :: S) lay M kc ks := by
  intro p l e s m args below meth c H locs ls X hS hP hl hL hs hM
  subst hL'
  refine lv_lstore X.1 X.2.1 hd hl.has hn rfl (fun ls' h' => ?_)
  exact k p l e s m args below meth c H locs ls' X hS hP (LocOK.st2 (v := .inr (.inl x)) h') (hL.st2 (okS_hd hs)) (okS_tl hs) hM
theorem r_astore_n {k0 : Fin 4} {i : Nat} {x : Nat} {L' : List (Option MV)} (hd : decode y.2.1 pc = .ok (.astore_n k0, 1)) (hi : (k0 : Nat) = i) (hn : i < y.2.2.1) (hL' : mst1 L i (.inr (.inr (some x))) = L') (k : Ok G y d mc ms Q (pc + 1) L' S lay M kc ks) : Ok G y d mc ms Q pc L (.inr (.inr (some x)) :: S) lay M kc ks := by
  intro p l e s m args below meth c H locs ls X hS hP hl hL hs hM
  subst hL'
  refine lv_astore_n X.1 X.2.1 hd hi hl.has hn rfl (fun ls' h' => ?_)
  exact k p l e s m args below meth c H locs ls' X hS hP (LocOK.st1 (v := .inr (.inr (some x))) h') (hL.st1 (okS_hd hs)) (okS_tl hs) hM
theorem r_astore {i : Nat} {x : Nat} {L' : List (Option MV)} (hd : decode y.2.1 pc = .ok (.astore i, 2)) (hn : i < y.2.2.1) (hL' : mst1 L i (.inr (.inr (some x))) = L') (k : Ok G y d mc ms Q (pc + 2) L' S lay M kc ks) : Ok G y d mc ms Q pc L (.inr (.inr (some x)) :: S) lay M kc ks := by
  intro p l e s m args below meth c H locs ls X hS hP hl hL hs hM
  subst hL'
  refine lv_astore X.1 X.2.1 hd hl.has hn rfl (fun ls' h' => ?_)
  exact k p l e s m args below meth c H locs ls' X hS hP (LocOK.st1 (v := .inr (.inr (some x))) h') (hL.st1 (okS_hd hs)) (okS_tl hs) hM
theorem r_iinc {i : Nat} {n x : Int} {L' : List (Option MV)} (hd : decode y.2.1 pc = .ok (.iinc i n, 3)) (hv : L[i]? = some (some (.inl x))) (hn : i < y.2.2.1) (hL' : mst1 L i (.inl (w32 (x + n))) = L') (k : Ok G y d mc ms Q (pc + 3) L' S lay M kc ks) : Ok G y d mc ms Q pc L S lay M kc ks := by
  intro p l e s m args below meth c H locs ls X hS hP hl hL hs hM
  subst hL'
  obtain ⟨k0, hk0⟩ := List.getElem?_of_mem (prsL_mem (G := G) (L := L) (q := (i, .int (Int32.ofInt x))) |>.mpr ⟨_, hv, rfl⟩)
  refine lv_iinc (v := Int32.ofInt (w32 (x + n))) X.1 X.2.1 hd hl.has hk0 (by rw [ofI_w32, Int32.ofInt_add]) hn rfl (fun ls' h' => ?_)
  exact k p l e s m args below meth c H locs ls' X hS hP (LocOK.st1 (v := .inl (w32 (x + n))) h') (hL.st1 (w32_ok _)) hs hM
/-! memory -/
def mup (M : Mem) (c i : Nat) (v : Int) : Mem := fun a j => if a = c then (if j = i then v else M a j) else M a j
theorem mup_ne {M : Mem} {c i a : Nat} {v : Int} (h : a ≠ c) : mup M c i v a = M a := by funext j; simp [mup, h]
theorem mup_at (M : Mem) (c i : Nat) (v : Int) : mup M c i v c i = v := by simp [mup]
theorem mup_at_ne {M : Mem} {c i j : Nat} {v : Int} (h : j ≠ i) : mup M c i v c j = M c j := by simp [mup, h]
def gfv (ty : FieldType) (x : Int) (r : Option Nat) : MV := match ty with
  | .int => .inl x
  | .boolean => .inl x
  | .long => .inr (.inl x)
  | _ => .inr (.inr r)
theorem cv_gfv (G : GE) (ty : FieldType) (x : Int) (r : Option Nat) : cv G (gfv ty x r) = fv G ty x r := by cases ty <;> rfl
theorem okV_gfv {ty : FieldType} {x : Int} {r : Option Nat} (h : okF ty x) : okV (gfv ty x r) := by
  cases ty <;> first | exact h | exact trivial | skip
  rcases h with h | h <;> (subst h; exact ⟨by decide, by decide⟩)
def FL (own : String) (idx ci k : Nat) : Prop := ∃ r : vw_C, vwCl[ci]? = some r ∧ k < r.2.2 ∧ Cond.fieldLink own idx (r.2.1 k).1 (r.2.1 k).2.1 (r.2.1 k).2.2.1 ∈ TBL
theorem Pic.ad {H : Heap} {a : Nat} {cd : CD} (hP : Pic G lay M H) (hc : lay[a]? = some cd) : g_ad G a = G.2.2.1 + a := by
  have := (List.getElem?_eq_some_iff.mp hc).1
  have := hP.1
  unfold g_ad
  rw [if_pos (by omega)]
theorem r_get {a idx : Nat} (ci k : Nat) {n : Nat} {rs : List (Option Nat)} {v : MV} (hd : decode y.2.1 pc = .ok (.getfield idx, 3)) (hc : lay[a]? = some (ci + 3, n, rs)) (hf : FL y.1.cls idx ci k) (hv : gfv (tyT ci k) (M a k) (rs.getD k none) = v) (kk : Ok G y d mc ms Q (pc + 3) L (v :: S) lay M kc ks) : Ok G y d mc ms Q pc L (.inr (.inr (some a)) :: S) lay M kc ks := by
  intro p l e s m args below meth c H locs ls X hS hP hl hL hs hM
  obtain ⟨r, hr, hk, hw⟩ := hf
  obtain ⟨r', h1, cell, q1, q2, q3, q4⟩ := hP.2.2 a _ hc
  have hrr : r' = r := Option.some.inj (h1.symm.trans hr)
  subst hrr
  obtain ⟨hx, hb, hml, hown, hts, hret, hlk, hnm, hK, hF, hbs⟩ := id X
  obtain ⟨hSl, hfc, kC, hkC, hkind⟩ := hK.1 ci _ hr
  obtain ⟨cf, kf, fi, f, hi, hsl⟩ := hSl k hk
  obtain ⟨hin, hty, hap⟩ := cl_ok ci r' hr
  have key := kk p l e s m args below meth c H locs ls X hS hP hl hL (okS_cons (by rw [← hv]; exact okV_gfv (hM a _ hc k)) (okS_tl hs)) hM
  show W p l e _ s m args below meth c H locs kc ks _ (F0 m pc ls (.ref (g_ad G a) :: S.map (cv G)))
  rw [hP.ad hc]
  refine W.getf (v := cv G v) hx hb hown (hts _ hw) hi (u_facts hfc hkC (u_lays hts hin hk) hi).1 q1 (by rw [q3]; exact fun h => by cases h) ?_ rfl rfl hd key
  rw [hsl, q4 k hk, ← hv, cv_gfv]
theorem CellAt.kept {cd : CD} {f : Nat → Int} {a : Nat} {H H1 : Heap} (h : CellAt G cd f a H) (hq : H1[a]? = H[a]?) : CellAt G cd f a H1 := by
  obtain ⟨t, n, rs⟩ := cd
  match t, h with
  | 0, h => exact hq.trans h
  | 1, h => exact hq.trans h
  | 2, h => exact hq.trans h
  | ci + 3, h =>
    obtain ⟨r, h1, h2⟩ := h
    exact ⟨r, h1, h2.kept hq⟩
/-- one cell changed -/
theorem Pic.set {H H1 : Heap} {lay' : Lay} {M' : Mem} {a : Nat} {cd : CD} (hP : Pic G lay M H) (z : H1.size = H.size) (oq : ∀ q, q ≠ G.2.2.1 + a → H1[q]? = H[q]?) (hlen : lay'.length = lay.length) (hc : lay'[a]? = some cd) (hla : ∀ c, c ≠ a → lay'[c]? = lay[c]?) (hMa : ∀ c, c ≠ a → M' c = M c) (hcell : CellAt G cd (M' a) (G.2.2.1 + a) H1) : Pic G lay' M' H1 := by
  refine ⟨by rw [hlen]; exact hP.1, by rw [z, hlen]; exact hP.2.1, fun c cd' hcd => ?_⟩
  by_cases hca : c = a
  · subst hca
    rw [hc] at hcd
    cases hcd
    exact hcell
  · rw [hla c hca] at hcd
    rw [hMa c hca]
    exact (hP.2.2 c cd' hcd).kept (oq _ (by omega))
theorem okM.set {lay' : Lay} {M' : Mem} {a : Nat} {cd : CD} (hM : okM lay M) (hc : lay'[a]? = some cd) (hla : ∀ c, c ≠ a → lay'[c]? = lay[c]?) (hMa : ∀ c, c ≠ a → M' c = M c) (hcell : okC cd (M' a)) : okM lay' M' := by
  intro c cd' hcd
  by_cases hca : c = a
  · subst hca
    rw [hc] at hcd
    cases hcd
    exact hcell
  · rw [hla c hca] at hcd
    rw [hMa c hca]
    exact hM c cd' hcd
theorem okF.up {ci k : Nat} {f : Nat → Int} {x : Int} (h : ∀ j, okF (tyT ci j) (f j)) (hx : okF (tyT ci k) x) : ∀ j, okF (tyT ci j) (if j = k then x else f j) := by
  intro j
  by_cases hj : j = k
  · subst hj; simpa using hx
  · simpa [hj] using h j
/-- a field of a number becomes x -/
theorem r_put {a idx : Nat} (ci k : Nat) {n : Nat} {rs : List (Option Nat)} {v : MV} (x : Int) {M' : Mem} (hd : decode y.2.1 pc = .ok (.putfield idx, 3)) (hc : lay[a]? = some (ci + 3, n, rs)) (hf : FL y.1.cls idx ci k) (hfin : ∀ r, vwCl[ci]? = some r → (r.2.1 k).2.2.2 = false) (hpr : tyT ci k = .int ∨ tyT ci k = .boolean ∨ tyT ci k = .long) (hv : gfv (tyT ci k) x (rs.getD k none) = v) (hok : tyT ci k = .boolean → x = 0 ∨ x = 1) (hM' : mup M a k x = M') (kk : Ok G y d mc ms Q (pc + 3) L S lay M' kc ks) : Ok G y d mc ms Q pc L (v :: .inr (.inr (some a)) :: S) lay M kc ks := by
  intro p l e s m args below meth c H locs ls X hS hP hl hL hs hM
  subst hM'
  obtain ⟨r, hr, hk, hw⟩ := hf
  obtain ⟨r', h1, cell, q1, q2, q3, q4⟩ := hP.2.2 a _ hc
  have hrr : r' = r := Option.some.inj (h1.symm.trans hr)
  subst hrr
  obtain ⟨hx, hb, hml, hown, hts, hret, hlk, hnm, hK, hF, hbs⟩ := id X
  obtain ⟨hSl, hfc, kC, hkC, hkind⟩ := hK.1 ci _ hr
  obtain ⟨cf, kf, fi, f, hi, hsl⟩ := hSl k hk
  obtain ⟨hin, hty, hnmm⟩ := cl_ok ci r' hr
  have hap : ∀ x y, x < r'.2.2 → y < r'.2.2 → x ≠ y → (G.1.2 ci) x ≠ (G.1.2 ci) y := va_apart (own := y.1.cls) hts hin (tyT ci) hty hnmm hK hr
  have hlay := hts _ (hin _ (u_in_lay hk))
  unfold u_lay at hlay
  rw [if_neg (by rw [hfin r' hr]; decide)] at hlay
  have hst := (u_facts hfc hkC (u_lays hts hin hk) hi).1
  have hokv : okV v := okS_hd hs
  have hn0 : narrow (tyT ci k) (cv G v) = cv G v ∧ fits (tyT ci k) (cv G v) = true ∧ okF (tyT ci k) x := by
    subst hv
    rcases hpr with e1 | e1 | e1
    · rw [e1] at hokv ⊢; exact ⟨rfl, rfl, hokv⟩
    · have h01 := hok e1
      rw [e1] at hokv ⊢
      rcases h01 with e2 | e2 <;> (subst e2; exact ⟨rfl, rfl, by simp [okF]⟩)
    · rw [e1] at hokv ⊢; exact ⟨rfl, rfl, hokv⟩
  have h6 := u_store hfc hkC hkind hlay hi (hty k hk) hn0.1 hn0.2.1
  show W p l e _ s m args below meth c H locs kc ks _ (F0 m pc ls (cv G v :: .ref (g_ad G a) :: S.map (cv G)))
  rw [hP.ad hc]
  refine W.putK hx hb (f := f) ⟨hown, hts _ hw, ⟨_, _, _, hi⟩, hst⟩ (by rw [q2]; exact h6) q1 q3 (by rw [hsl]; exact k2_hasslot (q4 k hk)) rfl rfl hd fun H' e1 e2 e3 => ?_
  have hla : ∀ c, c ≠ a → lay[c]? = lay[c]? := fun _ _ => rfl
  have hMa : ∀ c, c ≠ a → mup M a k x c = M c := fun c h => mup_ne h
  have hua : mup M a k x a = fun j => if j = k then x else M a j := by funext j; simp [mup]
  refine kk p l e s m args below meth c H' _ ls X (hS.put e2 e3 (Nat.le_add_right _ _)) (hP.set e2 e3 rfl hc hla hMa ?_) hl hL (okS_tl (okS_tl hs)) (hM.set hc hla hMa (by rw [hua]; exact okF.up (hM a _ hc) hn0.2.2))
  rw [hsl] at e1
  refine ⟨_, hr, t_OB.to (V := updV (fun j => fv G (tyT ci j) (M a j) (rs.getD j none)) k (cv G v)) ⟨_, e1, q2, q3, t_set q4 hap hk (cv G v)⟩ (fun j _ => ?_)⟩
  rw [hua]
  by_cases hj : j = k
  · subst hj
    simp [updV, ← hv, cv_gfv]
  · simp [updV, hj]
end RULES2
