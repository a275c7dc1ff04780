/-! arrays, statics, the script, making, ends -/
section RULES3
variable {G : GE} {y : MI} {d mc ms : Nat} {Q : Option MV → Lay → Mem → Prop} {pc : Nat} {L : List (Option MV)} {S : List MV} {lay : Lay} {M : Mem} {kc ks : Nat}
theorem arr_t {s0 : State} (hK : va_K G.1 vwCl (tysG G) s0) : (∀ n f, s0.isArrayOf (arrV (G.2.1 0) n f) .int) ∧ (∀ n f, s0.isArrayOf (arrV (G.2.1 1) n f) .long) ∧ (∀ n f, s0.isArrayOf (arrV (G.2.1 2) n f) .boolean) :=
  ⟨(hK.2 0 _ rfl).1, (hK.2 1 _ rfl).1, (hK.2 2 _ rfl).1⟩
theorem r_iald {a n : Nat} {rs : List (Option Nat)} {i : Int} (hd : decode y.2.1 pc = .ok (.iaload, 1)) (hc : lay[a]? = some (0, n, rs)) (h0 : 0 ≤ i) (h1 : i < n) (k : Ok G y d mc ms Q (pc + 1) L (.inl (M a i.toNat) :: S) lay M kc ks) : Ok G y d mc ms Q pc L (.inl i :: .inr (.inr (some a)) :: S) lay M kc ks := by
  intro p l e s m args below meth c H locs ls X hS hP hl hL hs hM
  obtain ⟨hx, hb, hml, hown, hts, hret, hlk, hnm, hK, hF, hbs⟩ := id X
  have hi : I32 i := okS_hd hs
  have hcell : H[G.2.2.1 + a]? = some (arrV (G.2.1 0) n (fun j => Value.int (Int32.ofInt (M a j)))) := hP.2.2 a _ hc
  have hlt : (Int32.ofInt i).toNatClampNeg < n := by rw [mm_clamp hi]; omega
  have key := k p l e s m args below meth c H locs ls X hS hP hl hL (okS_cons (hM a _ hc i.toNat) (okS_tl (okS_tl hs))) hM
  show W p l e _ s m args below meth c H locs kc ks _ (F0 m pc ls (.int (Int32.ofInt i) :: .ref (g_ad G a) :: S.map (cv G)))
  rw [hP.ad hc]
  refine W.iald hx hb hcell ((arr_t hK).1 n _) (fun q => by cases q) (by rw [arrV_size]; exact mm_in hi h0 h1) ?_ rfl rfl hd key
  rw [arrV_read _ _ hlt, mm_clamp hi]; rfl
theorem r_lald {a n : Nat} {rs : List (Option Nat)} {i : Int} (hd : decode y.2.1 pc = .ok (.laload, 1)) (hc : lay[a]? = some (1, n, rs)) (h0 : 0 ≤ i) (h1 : i < n) (k : Ok G y d mc ms Q (pc + 1) L (.inr (.inl (M a i.toNat)) :: S) lay M kc ks) : Ok G y d mc ms Q pc L (.inl i :: .inr (.inr (some a)) :: S) lay M kc ks := by
  intro p l e s m args below meth c H locs ls X hS hP hl hL hs hM
  obtain ⟨hx, hb, hml, hown, hts, hret, hlk, hnm, hK, hF, hbs⟩ := id X
  have hi : I32 i := okS_hd hs
  have hcell : H[G.2.2.1 + a]? = some (arrV (G.2.1 1) n (fun j => Value.long (Int64.ofInt (M a j)))) := hP.2.2 a _ hc
  have hlt : (Int32.ofInt i).toNatClampNeg < n := by rw [mm_clamp hi]; omega
  have key := k p l e s m args below meth c H locs ls X hS hP hl hL (okS_cons (hM a _ hc i.toNat) (okS_tl (okS_tl hs))) hM
  show W p l e _ s m args below meth c H locs kc ks _ (F0 m pc ls (.int (Int32.ofInt i) :: .ref (g_ad G a) :: S.map (cv G)))
  rw [hP.ad hc]
  refine W.lald hx hb hcell ((arr_t hK).2.1 n _) (fun q => by cases q) (by rw [arrV_size]; exact mm_in hi h0 h1) ?_ rfl rfl hd key
  rw [arrV_read _ _ hlt, mm_clamp hi]; rfl
theorem r_zald {a n : Nat} {rs : List (Option Nat)} {i : Int} (hd : decode y.2.1 pc = .ok (.baload, 1)) (hc : lay[a]? = some (2, n, rs)) (h0 : 0 ≤ i) (h1 : i < n) (k : Ok G y d mc ms Q (pc + 1) L (.inl (M a i.toNat) :: S) lay M kc ks) : Ok G y d mc ms Q pc L (.inl i :: .inr (.inr (some a)) :: S) lay M kc ks := by
  intro p l e s m args below meth c H locs ls X hS hP hl hL hs hM
  obtain ⟨hx, hb, hml, hown, hts, hret, hlk, hnm, hK, hF, hbs⟩ := id X
  have hi : I32 i := okS_hd hs
  have hcell : H[G.2.2.1 + a]? = some (arrV (G.2.1 2) n (fun j => Value.int (Int32.ofInt (M a j)))) := hP.2.2 a _ hc
  have hlt : (Int32.ofInt i).toNatClampNeg < n := by rw [mm_clamp hi]; omega
  have key := k p l e s m args below meth c H locs ls X hS hP hl hL (okS_cons ((show I32 (M a i.toNat) from by rcases (hM a _ hc i.toNat : M a i.toNat = 0 ∨ M a i.toNat = 1) with h | h <;> (rw [h]; exact ⟨by decide, by decide⟩))) (okS_tl (okS_tl hs))) hM
  show W p l e _ s m args below meth c H locs kc ks _ (F0 m pc ls (.int (Int32.ofInt i) :: .ref (g_ad G a) :: S.map (cv G)))
  rw [hP.ad hc]
  refine W.zald hx hb hcell ((arr_t hK).2.2 n _) (fun q => by cases q) (by rw [arrV_size]; exact mm_in hi h0 h1) ?_ rfl rfl hd key
  rw [arrV_read _ _ hlt, mm_clamp hi]; rfl
theorem r_iast {a n : Nat} {rs : List (Option Nat)} {i x : Int} {M' : Mem} (hd : decode y.2.1 pc = .ok (.iastore, 1)) (hc : lay[a]? = some (0, n, rs)) (h0 : 0 ≤ i) (h1 : i < n) (hM' : mup M a i.toNat x = M') (k : Ok G y d mc ms Q (pc + 1) L S lay M' kc ks) : Ok G y d mc ms Q pc L (.inl x :: .inl i :: .inr (.inr (some a)) :: S) lay M kc ks := by
  intro p l e s m args below meth c H locs ls X hS hP hl hL hs hM
  subst hM'
  obtain ⟨hx, hb, hml, hown, hts, hret, hlk, hnm, hK, hF, hbs⟩ := id X
  have hi : I32 i := okS_hd (okS_tl hs)
  have hcell : H[G.2.2.1 + a]? = some (arrV (G.2.1 0) n (fun j => Value.int (Int32.ofInt (M a j)))) := hP.2.2 a _ hc
  have hox := (show I32 x from okS_hd hs)
  show W p l e _ s m args below meth c H locs kc ks _ (F0 m pc ls (.int (Int32.ofInt x) :: .int (Int32.ofInt i) :: .ref (g_ad G a) :: S.map (cv G)))
  rw [hP.ad hc]
  refine W.iast hx hb hcell ((arr_t hK).1 n _) (fun q => by cases q) (by rw [arrV_size]; exact mm_in hi h0 h1) rfl rfl hd fun H1 e1 z oq => ?_
  have hla : ∀ c, c ≠ a → lay[c]? = lay[c]? := fun _ _ => rfl
  have hMa : ∀ c, c ≠ a → mup M a i.toNat x c = M c := fun c h => mup_ne h
  have hua : mup M a i.toNat x a = fun j => if j = i.toNat then x else M a j := by funext j; simp [mup]
  refine k p l e s m args below meth c H1 _ ls X (hS.put z oq (Nat.le_add_right _ _)) (hP.set z oq rfl hc hla hMa ?_) hl hL (okS_tl (okS_tl (okS_tl hs))) (hM.set hc hla hMa ?_)
  · show H1[G.2.2.1 + a]? = some (arrV _ _ _)
    rw [e1, arrV_store, mm_clamp hi, hua]
    congr 2
    funext j
    by_cases hj : j = i.toNat
    · subst hj
      simp [updV]
    · simp [updV, hj]
  · rw [hua]
    intro j
    by_cases hj : j = i.toNat
    · subst hj
      simpa using hox
    · simpa [hj] using hM a _ hc j
theorem r_last {a n : Nat} {rs : List (Option Nat)} {i x : Int} {M' : Mem} (hd : decode y.2.1 pc = .ok (.lastore, 1)) (hc : lay[a]? = some (1, n, rs)) (h0 : 0 ≤ i) (h1 : i < n) (hM' : mup M a i.toNat x = M') (k : Ok G y d mc ms Q (pc + 1) L S lay M' kc ks) : Ok G y d mc ms Q pc L (.inr (.inl x) :: .inl i :: .inr (.inr (some a)) :: S) lay M kc ks := by
  intro p l e s m args below meth c H locs ls X hS hP hl hL hs hM
  subst hM'
  obtain ⟨hx, hb, hml, hown, hts, hret, hlk, hnm, hK, hF, hbs⟩ := id X
  have hi : I32 i := okS_hd (okS_tl hs)
  have hcell : H[G.2.2.1 + a]? = some (arrV (G.2.1 1) n (fun j => Value.long (Int64.ofInt (M a j)))) := hP.2.2 a _ hc
  have hox := (show I64 x from okS_hd hs)
  show W p l e _ s m args below meth c H locs kc ks _ (F0 m pc ls (.long (Int64.ofInt x) :: .int (Int32.ofInt i) :: .ref (g_ad G a) :: S.map (cv G)))
  rw [hP.ad hc]
  refine W.last hx hb hcell ((arr_t hK).2.1 n _) (fun q => by cases q) (by rw [arrV_size]; exact mm_in hi h0 h1) rfl rfl hd fun H1 e1 z oq => ?_
  have hla : ∀ c, c ≠ a → lay[c]? = lay[c]? := fun _ _ => rfl
  have hMa : ∀ c, c ≠ a → mup M a i.toNat x c = M c := fun c h => mup_ne h
  have hua : mup M a i.toNat x a = fun j => if j = i.toNat then x else M a j := by funext j; simp [mup]
  refine k p l e s m args below meth c H1 _ ls X (hS.put z oq (Nat.le_add_right _ _)) (hP.set z oq rfl hc hla hMa ?_) hl hL (okS_tl (okS_tl (okS_tl hs))) (hM.set hc hla hMa ?_)
  · show H1[G.2.2.1 + a]? = some (arrV _ _ _)
    rw [e1, arrV_store, mm_clamp hi, hua]
    congr 2
    funext j
    by_cases hj : j = i.toNat
    · subst hj
      simp [updV]
    · simp [updV, hj]
  · rw [hua]
    intro j
    by_cases hj : j = i.toNat
    · subst hj
      simpa using hox
    · simpa [hj] using hM a _ hc j
theorem r_zast {a n : Nat} {rs : List (Option Nat)} {i x : Int} {M' : Mem} (hd : decode y.2.1 pc = .ok (.bastore, 1)) (hc : lay[a]? = some (2, n, rs)) (h0 : 0 ≤ i) (h1 : i < n) (hx01 : x = 0 ∨ x = 1) (hM' : mup M a i.toNat x = M') (k : Ok G y d mc ms Q (pc + 1) L S lay M' kc ks) : Ok G y d mc ms Q pc L (.inl x :: .inl i :: .inr (.inr (some a)) :: S) lay M kc ks := by
  intro p l e s m args below meth c H locs ls X hS hP hl hL hs hM
  subst hM'
  obtain ⟨hx, hb, hml, hown, hts, hret, hlk, hnm, hK, hF, hbs⟩ := id X
  have hi : I32 i := okS_hd (okS_tl hs)
  have hcell : H[G.2.2.1 + a]? = some (arrV (G.2.1 2) n (fun j => Value.int (Int32.ofInt (M a j)))) := hP.2.2 a _ hc
  have hox := hx01
  show W p l e _ s m args below meth c H locs kc ks _ (F0 m pc ls (.int (Int32.ofInt x) :: .int (Int32.ofInt i) :: .ref (g_ad G a) :: S.map (cv G)))
  rw [hP.ad hc]
  refine W.zast hx hb hcell ((arr_t hK).2.2 n _) (fun q => by cases q) (by rw [arrV_size]; exact mm_in hi h0 h1) rfl rfl hd fun H1 e1 z oq => ?_
  have hla : ∀ c, c ≠ a → lay[c]? = lay[c]? := fun _ _ => rfl
  have hMa : ∀ c, c ≠ a → mup M a i.toNat x c = M c := fun c h => mup_ne h
  have hua : mup M a i.toNat x a = fun j => if j = i.toNat then x else M a j := by funext j; simp [mup]
  refine k p l e s m args below meth c H1 _ ls X (hS.put z oq (Nat.le_add_right _ _)) (hP.set z oq rfl hc hla hMa ?_) hl hL (okS_tl (okS_tl (okS_tl hs))) (hM.set hc hla hMa ?_)
  · show H1[G.2.2.1 + a]? = some (arrV _ _ _)
    rw [e1, arrV_store, mm_clamp hi, hua]
    congr 2
    funext j
    by_cases hj : j = i.toNat
    · subst hj
      simp [updV]
      rcases hx01 with h | h <;> (subst h; rfl)
    · simp [updV, hj]
  · rw [hua]
    intro j
    by_cases hj : j = i.toNat
    · subst hj
      simpa using hox
    · simpa [hj] using hM a _ hc j
/-- the static table of tops of fees -/
theorem r_gets {idx : Nat} (hd : decode y.2.1 pc = .ok (.getstatic idx, 3)) (hw : Cond.fieldLink y.1.cls idx "CrewPairings" "FEE_TOPS" "[I" ∈ TBL) (k : Ok G y d mc ms Q (pc + 3) L (.inr (.inr (some 1000)) :: S) lay M kc ks) : Ok G y d mc ms Q pc L S lay M kc ks := by
  intro p l e s m args below meth c H locs ls X hS hP hl hL hs hM
  obtain ⟨hx, hb, hml, hown, hts, hret, hlk, hnm, hK, hF, hbs⟩ := id X
  exact va_gets hx hb hF.2.1 hS hown (hts _ hw) (fun _ h => h) hd (k p l e s m args below meth c H locs ls X hS hP hl hL (okS_cons trivial hs) hM)
theorem r_iald_fee {i : Int} (hd : decode y.2.1 pc = .ok (.iaload, 1)) (h0 : 0 ≤ i) (h1 : i < 5) (k : Ok G y d mc ms Q (pc + 1) L (.inl (feeT i.toNat) :: S) lay M kc ks) : Ok G y d mc ms Q pc L (.inl i :: .inr (.inr (some 1000)) :: S) lay M kc ks := by
  intro p l e s m args below meth c H locs ls X hS hP hl hL hs hM
  obtain ⟨hx, hb, hml, hown, hts, hret, hlk, hnm, hK, hF, hbs⟩ := id X
  have hi : I32 i := okS_hd hs
  refine va_ti hx hb hF.2.2.1 hS (mm_in hi h0 h1) (by rw [mm_clamp hi]; rfl) hd (k p l e s m args below meth c H locs ls X hS hP hl hL (okS_cons ?_ (okS_tl (okS_tl hs))) hM)
  show I32 (feeT i.toNat)
  unfold feeT I32
  split <;> decide
/-- the script -/
theorem r_iald_scr {i : Int} (hd : decode y.2.1 pc = .ok (.iaload, 1)) (h0 : 0 ≤ i) (h1 : i < G.2.2.2.2.1) (k : Ok G y d mc ms Q (pc + 1) L (.inl (G.2.2.2.2.2 i.toNat).toInt :: S) lay M kc ks) : Ok G y d mc ms Q pc L (.inl i :: .inr (.inr (some 1001)) :: S) lay M kc ks := by
  intro p l e s m args below meth c H locs ls X hS hP hl hL hs hM
  obtain ⟨hx, hb, hml, hown, hts, hret, hlk, hnm, hK, hF, hbs⟩ := id X
  have hi : I32 i := okS_hd hs
  refine va_sld hx hb hF.1.1 (Nat.lt_of_lt_of_le hF.1.2 hbs) (Nat.not_le.mpr hF.1.2) hS (mm_in hi h0 h1) hd ?_
  have key := k p l e s m args below meth c H locs ls X hS hP hl hL (okS_cons (I32_toInt _) (okS_tl (okS_tl hs))) hM
  rw [mm_clamp hi, ← ofI_toI (G.2.2.2.2.2 i.toNat)]
  exact key
theorem r_alen_scr (hd : decode y.2.1 pc = .ok (.arraylength, 1)) (hn : G.2.2.2.2.1 < 2147483648) (k : Ok G y d mc ms Q (pc + 1) L (.inl (G.2.2.2.2.1 : Int) :: S) lay M kc ks) : Ok G y d mc ms Q pc L (.inr (.inr (some 1001)) :: S) lay M kc ks := by
  intro p l e s m args below meth c H locs ls X hS hP hl hL hs hM
  obtain ⟨hx, hb, hml, hown, hts, hret, hlk, hnm, hK, hF, hbs⟩ := id X
  refine va_slen hx hb hF.1.1 (Nat.lt_of_lt_of_le hF.1.2 hbs) (Nat.not_le.mpr hF.1.2) hS hd ?_
  have key := k p l e s m args below meth c H locs ls X hS hP hl hL (okS_cons (show I32 _ by unfold I32; omega) (okS_tl hs)) hM
  rw [← Int32.ofInt_eq_ofNat]
  exact key
/-! ends -/
theorem r_iret {x : Int} (hd : decode y.2.1 pc = .ok (.ireturn, 1)) (hr : y.2.2.2 = some .int) (h1 : kc ≤ mc) (h2 : ks ≤ ms) (k : Q (some (.inl x)) lay M) : Ok G y d mc ms Q pc L [.inl x] lay M kc ks := by
  intro p l e s m args below meth c H locs ls X hS hP hl hL hs hM
  obtain ⟨hx, hb, hml, hown, hts, hret, hlocks, hnm, hK, hF, hbs⟩ := id X
  refine W.widen h1 h2 ?_
  exact W.iret hx hb (hret.trans hr) (fun t ht hW => ⟨⟨some (.inl x), lay, M, rfl, k, fun v hv => by cases hv; exact okS_hd hs, by rw [ht]; exact hP, hM⟩, hS.F ht⟩) hS.2.2 hd hlocks
theorem r_zret {x : Int} (hd : decode y.2.1 pc = .ok (.ireturn, 1)) (hr : y.2.2.2 = some .boolean) (hx01 : x = 0 ∨ x = 1) (h1 : kc ≤ mc) (h2 : ks ≤ ms) (k : Q (some (.inl x)) lay M) : Ok G y d mc ms Q pc L [.inl x] lay M kc ks := by
  intro p l e s m args below meth c H locs ls X hS hP hl hL hs hM
  obtain ⟨hx, hb, hml, hown, hts, hret, hlocks, hnm, hK, hF, hbs⟩ := id X
  refine W.widen h1 h2 ?_
  exact W.zret hx hb (hret.trans hr) (by rcases hx01 with h | h <;> (subst h; rfl)) (fun t ht hW => ⟨⟨some (.inl x), lay, M, rfl, k, fun v hv => by cases hv; exact okS_hd hs, by rw [ht]; exact hP, hM⟩, hS.F ht⟩) hS.2.2 hd hlocks
theorem r_lret {x : Int} (hd : decode y.2.1 pc = .ok (.lreturn, 1)) (hr : y.2.2.2 = some .long) (h1 : kc ≤ mc) (h2 : ks ≤ ms) (k : Q (some (.inr (.inl x))) lay M) : Ok G y d mc ms Q pc L [.inr (.inl x)] lay M kc ks := by
  intro p l e s m args below meth c H locs ls X hS hP hl hL hs hM
  obtain ⟨hx, hb, hml, hown, hts, hret, hlocks, hnm, hK, hF, hbs⟩ := id X
  refine W.widen h1 h2 ?_
  exact W.lret hx hb (hret.trans hr) (fun t ht hW => ⟨⟨some (.inr (.inl x)), lay, M, rfl, k, fun v hv => by cases hv; exact okS_hd hs, by rw [ht]; exact hP, hM⟩, hS.F ht⟩) hS.2.2 hd hlocks
theorem r_vret (hd : decode y.2.1 pc = .ok (.return_, 1)) (hr : y.2.2.2 = none) (h1 : kc ≤ mc) (h2 : ks ≤ ms) (k : Q none lay M) : Ok G y d mc ms Q pc L [] lay M kc ks := by
  intro p l e s m args below meth c H locs ls X hS hP hl hL hs hM
  obtain ⟨hx, hb, hml, hown, hts, hret, hlocks, hnm, hK, hF, hbs⟩ := id X
  refine W.widen h1 h2 ?_
  exact W.vret hx hb (hret.trans hr) (fun t ht hW => ⟨⟨none, lay, M, rfl, k, fun v hv => (by cases hv), by rw [ht]; exact hP, hM⟩, hS.F ht⟩) hS.2.2 hd hlocks
end RULES3
