/-! the JDK's texts: length, charAt; the words of the tape -/
section STRS
variable {G : GE} {y : MI} {d mc ms : Nat} {Q : Option MV → Lay → Mem → Prop} {pc : Nat} {L : List (Option MV)} {S : List MV} {lay : Lay} {M : Mem} {kc ks : Nat}
theorem g_adS (G : GE) (i : Nat) : g_ad G (1002 + i) = G.2.2.2.1 (2 + i) := by
  unfold g_ad; rw [if_neg (by omega), show 1002 + i - 1000 = 2 + i by omega]
theorem g_adV (G : GE) (i : Nat) : g_ad G (1009 + i) = G.2.2.2.1 (9 + i) := by
  unfold g_ad; rw [if_neg (by omega), show 1009 + i - 1000 = 9 + i by omega]
theorem r_pop {x : Int} (hd : decode y.2.1 pc = .ok (.pop, 1)) (k : Ok G y d mc ms Q (pc + 1) L S lay M kc ks) : Ok G y d mc ms Q pc L (.inl x :: S) lay M kc ks := by
  intro p l e s m args below meth c H locs ls X hS hP hl hL hs hM
  refine lv_pop X.1 X.2.1 hd rfl ?_
  exact k p l e s m args below meth c H locs ls X hS hP hl hL (okS_tl hs) hM
theorem r_i2c {x : Int} (hd : decode y.2.1 pc = .ok (.i2c, 1)) (h0 : 0 ≤ x) (h1 : x < 65536) (k : Ok G y d mc ms Q (pc + 1) L (.inl x :: S) lay M kc ks) : Ok G y d mc ms Q pc L (.inl x :: S) lay M kc ks := by
  intro p l e s m args below meth c H locs ls X hS hP hl hL hs hM
  have ex : (Int32.ofInt x).toInt = x := toI_ofI (okS_hd hs)
  refine lv_i2c X.1 X.2.1 hd (lg_i2c_word (v := Int32.ofInt x) (by rw [ex]; exact h0) (by rw [ex]; exact h1)) ?_
  exact k p l e s m args below meth c H locs ls X hS hP hl hL hs hM
theorem r_str {i : Nat} (hi : i < 7) (hd : decode y.2.1 pc = .ok (.ldc (strIdx i), 2)) (hy : y.1.cls = "CrewPairings$Tape") (k : Ok G y d mc ms Q (pc + 2) L (.inr (.inr (some (1002 + i))) :: S) lay M kc ks) : Ok G y d mc ms Q pc L S lay M kc ks := by
  intro p l e s m args below meth c H locs ls X hS hP hl hL hs hM
  obtain ⟨hx, hb, hml, hown, hts, hret, hlk, hnm, hK, hF, hbs⟩ := id X
  have key := k p l e s m args below meth c H locs ls X hS hP hl hL (okS_cons trivial hs) hM
  refine va_ldcS hx hb (by rw [← hy]; exact hown) (hF.2.2.2.2.1 i hi) hd ?_
  rw [← g_adS G i]; exact key
theorem r_strVal {i : Nat} (hi : i < 7) (hd : decode y.2.1 pc = .ok (.getfield 9, 3)) (hy : y.1.cls = "java/lang/String") (k : Ok G y d mc ms Q (pc + 3) L (.inr (.inr (some (1009 + i))) :: S) lay M kc ks) : Ok G y d mc ms Q pc L (.inr (.inr (some (1002 + i))) :: S) lay M kc ks := by
  intro p l e s m args below meth c H locs ls X hS hP hl hL hs hM
  obtain ⟨hx, hb, hml, hown, hts, hret, hlk, hnm, hK, hF, hbs⟩ := id X
  have key := k p l e s m args below meth c H locs ls X hS hP hl hL (okS_cons trivial (okS_tl hs)) hM
  show W p l e _ s m args below meth c H locs kc ks _ (F0 m pc ls (.ref (g_ad G (1002 + i)) :: S.map (cv G)))
  rw [g_adS]
  refine vk_getf hx hb ((hF.2.2.2.1.1 i hi).2.2.1) hS (by rw [← hy]; exact hown) (hts (Cond.fieldLink "java/lang/String" 9 "java/lang/String" "value" "[B") (tb_in 1826 (by decide +kernel) rfl)) (fun _ h => h) hd ?_
  show W p l e _ s m args below meth c H locs kc ks _ (F0 m (pc + 3) ls (.ref (G.2.2.2.1 (9 + i)) :: S.map (cv G)))
  rw [← g_adV G i]; exact key
theorem r_strCod {i : Nat} (hi : i < 7) (hd : decode y.2.1 pc = .ok (.getfield 15, 3)) (hy : y.1.cls = "java/lang/String") (k : Ok G y d mc ms Q (pc + 3) L (.inl 0 :: S) lay M kc ks) : Ok G y d mc ms Q pc L (.inr (.inr (some (1002 + i))) :: S) lay M kc ks := by
  intro p l e s m args below meth c H locs ls X hS hP hl hL hs hM
  obtain ⟨hx, hb, hml, hown, hts, hret, hlk, hnm, hK, hF, hbs⟩ := id X
  have key := k p l e s m args below meth c H locs ls X hS hP hl hL (okS_cons ⟨by decide, by decide⟩ (okS_tl hs)) hM
  show W p l e _ s m args below meth c H locs kc ks _ (F0 m pc ls (.ref (g_ad G (1002 + i)) :: S.map (cv G)))
  rw [g_adS]
  refine vk_getf hx hb ((hF.2.2.2.1.1 i hi).2.1) hS (by rw [← hy]; exact hown) (hts (Cond.fieldLink "java/lang/String" 15 "java/lang/String" "coder" "B") (tb_in 1827 (by decide +kernel) rfl)) (fun _ h => h) hd ?_
  exact key
theorem r_compact (hd : decode y.2.1 pc = .ok (.getstatic 38, 3)) (hy : y.1.cls = "java/lang/String") (k : Ok G y d mc ms Q (pc + 3) L (.inl 1 :: S) lay M kc ks) : Ok G y d mc ms Q pc L S lay M kc ks := by
  intro p l e s m args below meth c H locs ls X hS hP hl hL hs hM
  obtain ⟨hx, hb, hml, hown, hts, hret, hlk, hnm, hK, hF, hbs⟩ := id X
  have key := k p l e s m args below meth c H locs ls X hS hP hl hL (okS_cons ⟨by decide, by decide⟩ hs) hM
  exact va_gets hx hb hF.2.2.2.2.2.1.1 hS (by rw [← hy]; exact hown) (hts (Cond.fieldLink "java/lang/String" 38 "java/lang/String" "COMPACT_STRINGS" "Z") (tb_in 1064 (by decide +kernel) rfl)) (fun _ h => h) hd key
theorem r_fmt (hd : decode y.2.1 pc = .ok (.getstatic 1053, 3)) (hy : y.1.cls = "java/lang/String") (k : ∀ r : Option Nat, Ok G y d mc ms Q (pc + 3) L (.inr (.inr r) :: S) lay M kc ks) : Ok G y d mc ms Q pc L S lay M kc ks := by
  intro p l e s m args below meth c H locs ls X hS hP hl hL hs hM
  obtain ⟨hx, hb, hml, hown, hts, hret, hlk, hnm, hK, hF, hbs⟩ := id X
  have hw := hts (Cond.fieldLink "java/lang/String" 1053 "jdk/internal/util/Preconditions" "SIOOBE_FORMATTER" "Ljava/util/function/BiFunction;") (tb_in 1080 (by decide +kernel) rfl)
  rcases hF.2.2.2.2.2.1.2 with h | h
  · exact va_gets hx hb h hS (by rw [← hy]; exact hown) hw (fun _ h => h) hd (k none p l e s m args below meth c H locs ls X hS hP hl hL (okS_cons trivial hs) hM)
  · exact va_gets hx hb h hS (by rw [← hy]; exact hown) hw (fun _ h => h) hd (k (some 1016) p l e s m args below meth c H locs ls X hS hP hl hL (okS_cons trivial hs) hM)
def strC (i j : Nat) : Int := ((strByt.getD i []).getD j 0).toInt
def strN (i : Nat) : Nat := strLen.getD i 0
theorem r_bytLen {i : Nat} (hi : i < 7) (hd : decode y.2.1 pc = .ok (.arraylength, 1)) (k : Ok G y d mc ms Q (pc + 1) L (.inl (strN i : Nat) :: S) lay M kc ks) : Ok G y d mc ms Q pc L (.inr (.inr (some (1009 + i))) :: S) lay M kc ks := by
  intro p l e s m args below meth c H locs ls X hS hP hl hL hs hM
  obtain ⟨hx, hb, hml, hown, hts, hret, hlk, hnm, hK, hF, hbs⟩ := id X
  have hn : ∀ i, i < 7 → strN i ≤ 4 := by decide
  have hn := hn i hi
  have key := k p l e s m args below meth c H locs ls X hS hP hl hL (okS_cons (show I32 _ by unfold I32; omega) (okS_tl hs)) hM
  show W p l e _ s m args below meth c H locs kc ks _ (F0 m pc ls (.ref (g_ad G (1009 + i)) :: S.map (cv G)))
  rw [g_adV]
  refine va_tlen hx hb ((hF.2.2.2.1.1 i hi).2.2.2) hS rfl hd ?_
  rw [← Int32.ofInt_eq_ofNat]
  exact key
theorem r_bytAt {i j : Nat} (hi : i < 7) (hj : j < strN i) (hd : decode y.2.1 pc = .ok (.baload, 1)) (k : Ok G y d mc ms Q (pc + 1) L (.inl (strC i j) :: S) lay M kc ks) : Ok G y d mc ms Q pc L (.inl (j : Int) :: .inr (.inr (some (1009 + i))) :: S) lay M kc ks := by
  intro p l e s m args below meth c H locs ls X hS hP hl hL hs hM
  obtain ⟨hx, hb, hml, hown, hts, hret, hlk, hnm, hK, hF, hbs⟩ := id X
  have hi32 : I32 (j : Int) := okS_hd hs
  have key := k p l e s m args below meth c H locs ls X hS hP hl hL (okS_cons (I32_toInt _) (okS_tl (okS_tl hs))) hM
  show W p l e _ s m args below meth c H locs kc ks _ (F0 m pc ls (.int (Int32.ofInt (j : Int)) :: .ref (g_ad G (1009 + i)) :: S.map (cv G)))
  rw [g_adV]
  refine va_tb (v := .int ((strByt.getD i []).getD j 0)) hx hb ((hF.2.2.2.1.1 i hi).2.2.2) hS (mm_in hi32 (by omega) (by unfold strN at hj; omega)) (by rw [mm_clamp hi32, Int.toNat_natCast]) hd ?_
  rw [← ofI_toI ((strByt.getD i []).getD j 0)]
  exact key
theorem r_aret {a : Nat} {nm : String} (hd : decode y.2.1 pc = .ok (.areturn, 1)) (hr : y.2.2.2 = some (.object nm)) (h1 : kc ≤ mc) (h2 : ks ≤ ms) (k : Q (some (.inr (.inr (some a)))) lay M) : Ok G y d mc ms Q pc L [.inr (.inr (some a))] lay M kc ks := by
  intro p l e s m args below meth c H locs ls X hS hP hl hL hs hM
  obtain ⟨hx, hb, hml, hown, hts, hret, hlocks, hnm, hK, hF, hbs⟩ := id X
  refine W.widen h1 h2 ?_
  exact W.aret hx hb (hret.trans hr) (.inl ⟨_, rfl⟩) (.inr ⟨_, rfl⟩) (fun t ht hW => ⟨⟨some (.inr (.inr (some a))), lay, M, rfl, k, fun v hv => by cases hv; trivial, by rw [ht]; exact hP, hM⟩, hS.F ht⟩) hS.2.2 hd hlocks
theorem r_nret {x : Int} {ty : FieldType} (hd : decode y.2.1 pc = .ok (.ireturn, 1)) (hr : y.2.2.2 = some ty) (hn : narrow ty (.int (Int32.ofInt x)) = .int (Int32.ofInt x)) (h1 : kc ≤ mc) (h2 : ks ≤ ms) (k : Q (some (.inl x)) lay M) : Ok G y d mc ms Q pc L [.inl x] lay M kc ks := by
  intro p l e s m args below meth c H locs ls X hS hP hl hL hs hM
  obtain ⟨hx, hb, hml, hown, hts, hret, hlocks, hnm, hK, hF, hbs⟩ := id X
  refine W.widen h1 h2 ?_
  exact W.zret hx hb (hret.trans hr) hn (fun t ht hW => ⟨⟨some (.inl x), lay, M, rfl, k, fun v hv => by cases hv; exact okS_hd hs, by rw [ht]; exact hP, hM⟩, hS.F ht⟩) hS.2.2 hd hlocks
theorem r_invVS {idx i : Nat} {y' : MI} {mc' ms' : Nat} (as : List MV) {St : List MV} (hi : i < 7) (hd : decode y.2.1 pc = .ok (.invokevirtual idx, 3)) (hstk : as.reverse ++ .inr (.inr (some (1002 + i))) :: S = St) (hcn : y'.1.cls = "java/lang/String") (hc : CV y.1.cls idx y' as.length) (hr : cvc S ≤ 8) (h1 : kc + mc' ≤ mc) (h2 : ks + ms' ≤ ms)
    (k : Cal G y' d mc' ms' (.inr (.inr (some (1002 + i))) :: as) lay M (fun r lay' M' => Ok G y (d + 1) mc ms Q (pc + 3) L (r.toList ++ S) lay' M' (kc + mc') (ks + ms'))) : Ok G y (d + 1) mc ms Q pc L St lay M kc ks := by
  intro p l e s m args below meth c H locs ls X hS hP hl hL hs hM
  subst hstk
  obtain ⟨⟨q1, q2, q3, q4⟩, q5, q6, q7⟩ := hc
  obtain ⟨hx, hb, hml, hown, hts, hret, hlk, hnm, hK, hF, hbs⟩ := id X
  have hsS : okS S := fun v hv => hs v (List.mem_append_right _ (List.mem_cons_of_mem _ hv))
  have hsA : okS (.inr (.inr (some (1002 + i))) :: as) := okS_cons trivial (fun v hv => hs v (List.mem_append_left _ (List.mem_reverse.mpr hv)))
  have hM' := k hsA hM l
  refine Ok.back (y' := y') (as := as) X hS hl hL hsS (a := ((.inr (.inr (some (1002 + i))) :: as).map (cv G)).toArray) (va_runV (As := as.map (cv G)) (b := g_ad G (1002 + i)) (rest := S.map (cv G)) ⟨hx, hb, hml, hown, hts⟩ hM' ⟨callB_of as.length hts (goodY q1) rfl rfl rfl (hts _ q2) (hts _ q5) q3 (rm_le q4), hts _ q6, hts _ q7⟩ ⟨PcG.blind, ?_, preG X hS hP⟩ rfl (by simp) hl.1 (by simp [cv]) (lv_room (by rw [cat_sum]; exact hr)) hd ⟨h1, h2⟩)
  rw [hcn, g_adS]
  exact vk_recv (adK := fun i => G.2.2.2.1 (2 + i)) (i := i) hF.2.2.2.1 hi hS
end STRS
def strOK : Bool := (List.range 7).all fun i => (List.range 4).all fun j => if j < strN i then decide (iand (strC i j) 255 = strC i j) && (decide (wdT i j = strC i j) && (decide (0 < strC i j) && decide (strC i j < 128))) else decide (wdT i j = 0)
theorem strOK_t : strOK = true := by decide +kernel
theorem str_in {i j : Nat} (hi : i < 7) (hj : j < strN i) (h4 : j < 4) : iand (strC i j) 255 = strC i j ∧ wdT i j = strC i j ∧ 0 < strC i j ∧ strC i j < 128 := by
  have h := List.all_eq_true.mp (List.all_eq_true.mp strOK_t i (List.mem_range.mpr hi)) j (List.mem_range.mpr h4)
  rw [if_pos hj] at h
  simpa using h
theorem str_out {i j : Nat} (hi : i < 7) (hj : strN i ≤ j) (h4 : j < 4) : wdT i j = 0 := by
  have h := List.all_eq_true.mp (List.all_eq_true.mp strOK_t i (List.mem_range.mpr hi)) j (List.mem_range.mpr h4)
  rw [if_neg (by omega)] at h
  simpa using h
theorem strN_le : ∀ i, i < 7 → strN i ≤ 4 := by decide
theorem strSh : ∀ i, i < 7 → ishr ((strN i : Nat) : Int) 0 = ((strN i : Nat) : Int) := by decide +kernel
section STRS2
variable {G : GE} {d : Nat} {M : Mem}
theorem cJ_coder {K : Int → Mem → Prop} {i : Nat} (hi : i < 7) (h : K 0 M) : CalI G miJ0_coder_7d493 d [.inr (.inr (some (1002 + i)))] M K := by
  refine Cal.of (L0 := [some (.inr (.inr (some (1002 + i))))]) (by decide) (Nat.le_of_ble_eq_true rfl) rfl ?_
  refine r_compact (pc := 0) (tb_at tkJ0_coder_7d493 0 rfl) rfl ?_
  refine q_if_eq (tgt := 13) (pc := 3) (tb_at tkJ0_coder_7d493 1 rfl) (by decide) (fun c => absurd c (by decide)) (fun _ => ?_)
  refine r_aload_n (pc := 6) (tb_at tkJ0_coder_7d493 2 rfl) rfl rfl ?_
  refine r_strCod (pc := 7) hi (tb_at tkJ0_coder_7d493 3 rfl) rfl ?_
  refine r_goto (tgt := 14) (pc := 10) (tb_at tkJ0_coder_7d493 4 rfl) (by decide) ?_
  exact r_nret (pc := 14) (tb_at tkJ0_coder_7d493 6 rfl) rfl rfl (Nat.le_refl _) (Nat.le_refl _) ⟨_, rfl, rfl, h⟩
theorem cJ_latin {K : Int → Mem → Prop} {i : Nat} (hi : i < 7) (h : K 1 M) : CalI G miJ0_isLatin1_aae02 d [.inr (.inr (some (1002 + i)))] M K := by
  refine Cal.of (L0 := [some (.inr (.inr (some (1002 + i))))]) (by decide) (Nat.le_of_ble_eq_true rfl) rfl ?_
  refine r_compact (pc := 0) (tb_at tkJ0_isLatin1_aae02 0 rfl) rfl ?_
  refine q_if_eq (tgt := 17) (pc := 3) (tb_at tkJ0_isLatin1_aae02 1 rfl) (by decide) (fun c => absurd c (by decide)) (fun _ => ?_)
  refine r_aload_n (pc := 6) (tb_at tkJ0_isLatin1_aae02 2 rfl) rfl rfl ?_
  refine r_strCod (pc := 7) hi (tb_at tkJ0_isLatin1_aae02 3 rfl) rfl ?_
  refine q_if_ne (tgt := 17) (pc := 10) (tb_at tkJ0_isLatin1_aae02 4 rfl) (by decide) (fun c => absurd rfl c) (fun _ => ?_)
  refine r_iconst (pc := 13) (tb_at tkJ0_isLatin1_aae02 5 rfl) ⟨by decide, by decide⟩ ?_
  refine r_goto (tgt := 18) (pc := 14) (tb_at tkJ0_isLatin1_aae02 6 rfl) (by decide) ?_
  exact r_zret (pc := 18) (tb_at tkJ0_isLatin1_aae02 8 rfl) rfl (.inr rfl) (Nat.le_refl _) (Nat.le_refl _) ⟨_, rfl, rfl, h⟩
theorem cJ_len {K : Int → Mem → Prop} {i : Nat} (hi : i < 7) (h : K (strN i : Nat) M) : CalI G miJ0_length_8abf5 (d + 1) [.inr (.inr (some (1002 + i)))] M K := by
  refine Cal.of (L0 := [some (.inr (.inr (some (1002 + i))))]) (by decide) (Nat.le_of_ble_eq_true rfl) rfl ?_
  refine r_aload_n (pc := 0) (tb_at tkJ0_length_8abf5 0 rfl) rfl rfl ?_
  refine r_strVal (pc := 1) hi (tb_at tkJ0_length_8abf5 1 rfl) rfl ?_
  refine r_bytLen (pc := 4) hi (tb_at tkJ0_length_8abf5 2 rfl) ?_
  refine r_aload_n (pc := 5) (tb_at tkJ0_length_8abf5 3 rfl) rfl rfl ?_
  refine r_invVS (mc' := 0) (ms' := 0) (i := i) [] (S := [.inl ((strN i : Nat) : Int)]) (pc := 6) hi (tb_at tkJ0_length_8abf5 4 rfl) rfl rfl clJ0_335 (Nat.le_of_ble_eq_true rfl) (Nat.le_refl _) (Nat.le_refl _) ?_
  refine CalI.toQ (cJ_coder hi ?_)
  show OkI G miJ0_length_8abf5 (d + 1) K 9 [some (.inr (.inr (some (1002 + i))))] [.inl 0, .inl ((strN i : Nat) : Int)] M
  refine r_ishr (pc := 9) (tb_at tkJ0_length_8abf5 5 rfl) ?_
  rw [strSh i hi]
  exact r_iret (pc := 10) (tb_at tkJ0_length_8abf5 6 rfl) rfl (Nat.le_refl _) (Nat.le_refl _) ⟨_, rfl, rfl, h⟩
theorem cJ_chk {K : Int → Mem → Prop} {j n : Int} {r : Option Nat} (h0 : 0 ≤ j) (h1 : j < n) (h : K j M) : CalI G miJ3_checkIndex_8e157 d [.inl j, .inl n, .inr (.inr r)] M K := by
  refine Cal.of (L0 := [some (.inl j), some (.inl n), some (.inr (.inr r))]) (by decide) (Nat.le_of_ble_eq_true rfl) rfl ?_
  refine r_iload_n (pc := 0) (tb_at tkJ3_checkIndex_8e157 0 rfl) rfl rfl ?_
  refine q_if_lt (tgt := 9) (pc := 1) (tb_at tkJ3_checkIndex_8e157 1 rfl) (by decide) (fun c => absurd c (by omega)) (fun _ => ?_)
  refine r_iload_n (pc := 4) (tb_at tkJ3_checkIndex_8e157 2 rfl) rfl rfl ?_
  refine r_iload_n (pc := 5) (tb_at tkJ3_checkIndex_8e157 3 rfl) rfl rfl ?_
  refine q_icmp_lt (tgt := 16) (pc := 6) (tb_at tkJ3_checkIndex_8e157 4 rfl) (by decide) (fun _ => ?_) (fun c => absurd c (by omega))
  refine r_iload_n (pc := 16) (tb_at tkJ3_checkIndex_8e157 10 rfl) rfl rfl ?_
  exact r_iret (pc := 17) (tb_at tkJ3_checkIndex_8e157 11 rfl) rfl (Nat.le_refl _) (Nat.le_refl _) ⟨_, rfl, rfl, h⟩
theorem cJ_chkS {K : Mem → Prop} {j n : Int} (h0 : 0 ≤ j) (h1 : j < n) (h : K M) : CalV G miJ0_checkIndex_df160 (d + 1) [.inl j, .inl n] M K := by
  refine Cal.of (L0 := [some (.inl j), some (.inl n)]) (by decide) (Nat.le_of_ble_eq_true rfl) rfl ?_
  refine r_iload_n (pc := 0) (tb_at tkJ0_checkIndex_df160 0 rfl) rfl rfl ?_
  refine r_iload_n (pc := 1) (tb_at tkJ0_checkIndex_df160 1 rfl) rfl rfl ?_
  refine r_fmt (pc := 2) (tb_at tkJ0_checkIndex_df160 2 rfl) rfl (fun r => ?_)
  refine r_invS (mc' := 0) (ms' := 0) [.inl j, .inl n, .inr (.inr r)] (S := []) (pc := 5) (tb_at tkJ0_checkIndex_df160 3 rfl) rfl clJ0_1059 (Nat.le_of_ble_eq_true rfl) (Nat.le_refl _) (Nat.le_refl _) ?_
  refine CalI.toQ (cJ_chk h0 h1 ?_)
  show OkV G miJ0_checkIndex_df160 (d + 1) K 8 [some (.inl j), some (.inl n)] [.inl j] M
  refine r_pop (pc := 8) (tb_at tkJ0_checkIndex_df160 4 rfl) ?_
  exact r_vret (pc := 9) (tb_at tkJ0_checkIndex_df160 5 rfl) rfl (Nat.le_refl _) (Nat.le_refl _) ⟨rfl, rfl, h⟩
theorem nar_char {x : Int} (h0 : 0 ≤ x) (h1 : x < 65536) : narrow .char (.int (Int32.ofInt x)) = .int (Int32.ofInt x) := by
  have e : (Int32.ofInt x).toInt = x := toI_ofI ⟨by omega, by omega⟩
  exact congrArg Value.int (lg_i2c_small (v := Int32.ofInt x) (by rw [e]; exact h0) (by rw [e]; exact h1))
theorem cJ_charL {K : Int → Mem → Prop} {i j : Nat} (hi : i < 7) (hj : j < strN i) (h : K (strC i j) M) : CalI G miJ1_charAt_3b067 (d + 2) [.inr (.inr (some (1009 + i))), .inl (j : Int)] M K := by
  have hn := strN_le i hi
  obtain ⟨s1, s2, s3, s4⟩ := str_in hi hj (by omega)
  refine Cal.of (L0 := [some (.inr (.inr (some (1009 + i)))), some (.inl (j : Int))]) (by decide) (Nat.le_of_ble_eq_true rfl) rfl ?_
  refine r_iload_n (pc := 0) (tb_at tkJ1_charAt_3b067 0 rfl) rfl rfl ?_
  refine r_aload_n (pc := 1) (tb_at tkJ1_charAt_3b067 1 rfl) rfl rfl ?_
  refine r_bytLen (pc := 2) hi (tb_at tkJ1_charAt_3b067 2 rfl) ?_
  refine r_invS (mc' := 0) (ms' := 0) [.inl (j : Int), .inl ((strN i : Nat) : Int)] (S := []) (pc := 3) (tb_at tkJ1_charAt_3b067 3 rfl) rfl clJ1_9 (Nat.le_of_ble_eq_true rfl) (Nat.le_refl _) (Nat.le_refl _) ?_
  refine CalV.toQ (cJ_chkS (by omega) (by omega) ?_)
  show OkI G miJ1_charAt_3b067 (d + 2) K 6 [some (.inr (.inr (some (1009 + i)))), some (.inl (j : Int))] [] M
  refine r_aload_n (pc := 6) (tb_at tkJ1_charAt_3b067 4 rfl) rfl rfl ?_
  refine r_iload_n (pc := 7) (tb_at tkJ1_charAt_3b067 5 rfl) rfl rfl ?_
  refine r_bytAt (pc := 8) hi hj (tb_at tkJ1_charAt_3b067 6 rfl) ?_
  refine r_sipush (pc := 9) (tb_at tkJ1_charAt_3b067 7 rfl) ⟨by decide, by decide, by decide⟩ ?_
  refine r_iand (pc := 12) (tb_at tkJ1_charAt_3b067 8 rfl) ?_
  rw [s1]
  refine r_i2c (pc := 13) (tb_at tkJ1_charAt_3b067 9 rfl) (by omega) (by omega) ?_
  exact r_nret (pc := 14) (tb_at tkJ1_charAt_3b067 10 rfl) rfl (nar_char (by omega) (by omega)) (Nat.le_refl _) (Nat.le_refl _) ⟨_, rfl, rfl, h⟩
theorem cJ_charAt {K : Int → Mem → Prop} {i j : Nat} (hi : i < 7) (hj : j < strN i) (h : K (strC i j) M) : CalI G miJ0_charAt_5068e (d + 3) [.inr (.inr (some (1002 + i))), .inl (j : Int)] M K := by
  have hn := strN_le i hi
  obtain ⟨s1, s2, s3, s4⟩ := str_in hi hj (by omega)
  refine Cal.of (L0 := [some (.inr (.inr (some (1002 + i)))), some (.inl (j : Int))]) (by decide) (Nat.le_of_ble_eq_true rfl) rfl ?_
  refine r_aload_n (pc := 0) (tb_at tkJ0_charAt_5068e 0 rfl) rfl rfl ?_
  refine r_invVS (mc' := 0) (ms' := 0) (i := i) [] (S := []) (pc := 1) hi (tb_at tkJ0_charAt_5068e 1 rfl) rfl rfl clJ0_492 (Nat.le_of_ble_eq_true rfl) (Nat.le_refl _) (Nat.le_refl _) ?_
  refine CalI.toQ (cJ_latin hi ?_)
  show OkI G miJ0_charAt_5068e (d + 3) K 4 [some (.inr (.inr (some (1002 + i)))), some (.inl (j : Int))] [.inl 1] M
  refine q_if_eq (tgt := 16) (pc := 4) (tb_at tkJ0_charAt_5068e 2 rfl) (by decide) (fun c => absurd c (by decide)) (fun _ => ?_)
  refine r_aload_n (pc := 7) (tb_at tkJ0_charAt_5068e 3 rfl) rfl rfl ?_
  refine r_strVal (pc := 8) hi (tb_at tkJ0_charAt_5068e 4 rfl) rfl ?_
  refine r_iload_n (pc := 11) (tb_at tkJ0_charAt_5068e 5 rfl) rfl rfl ?_
  refine r_invS (mc' := 0) (ms' := 0) [.inr (.inr (some (1009 + i))), .inl (j : Int)] (S := []) (pc := 12) (tb_at tkJ0_charAt_5068e 6 rfl) rfl clJ0_495 (Nat.le_of_ble_eq_true rfl) (Nat.le_refl _) (Nat.le_refl _) ?_
  refine CalI.toQ (cJ_charL hi hj ?_)
  show OkI G miJ0_charAt_5068e (d + 3) K 15 [some (.inr (.inr (some (1002 + i)))), some (.inl (j : Int))] [.inl (strC i j)] M
  exact r_nret (pc := 15) (tb_at tkJ0_charAt_5068e 7 rfl) rfl (nar_char (by omega) (by omega)) (Nat.le_refl _) (Nat.le_refl _) ⟨_, rfl, rfl, h⟩
theorem c9_wordOf {Q : Option MV → Lay → Mem → Prop} {i : Nat} (hi : i < 7) (h : Q (some (.inr (.inr (some (1002 + i))))) lay0 M) : Cal G miX9_wordOf d 0 0 [.inl (i : Int)] lay0 M Q := by
  refine Cal.of (L0 := [some (.inl (i : Int))]) (by decide) (Nat.le_of_ble_eq_true rfl) rfl ?_
  refine r_iload_n (pc := 0) (tb_at tkX9_wordOf 0 rfl) rfl rfl ?_
  rcases (by omega : i = 0 ∨ i = 1 ∨ i = 2 ∨ i = 3 ∨ i = 4 ∨ i = 5 ∨ i = 6) with c | c | c | c | c | c | c
  · subst c
    refine r_tblIn (off := 39) (tgt := 40) (pc := 1) (tb_at tkX9_wordOf 1 rfl) (by omega) (by omega) rfl (by decide) ?_
    refine r_str (i := 0) (pc := 40) hi (tb_at tkX9_wordOf 2 rfl) rfl ?_
    exact r_aret (pc := 42) (tb_at tkX9_wordOf 3 rfl) rfl (Nat.le_refl _) (Nat.le_refl _) h
  · subst c
    refine r_tblIn (off := 42) (tgt := 43) (pc := 1) (tb_at tkX9_wordOf 1 rfl) (by omega) (by omega) rfl (by decide) ?_
    refine r_str (i := 1) (pc := 43) hi (tb_at tkX9_wordOf 4 rfl) rfl ?_
    exact r_aret (pc := 45) (tb_at tkX9_wordOf 5 rfl) rfl (Nat.le_refl _) (Nat.le_refl _) h
  · subst c
    refine r_tblIn (off := 45) (tgt := 46) (pc := 1) (tb_at tkX9_wordOf 1 rfl) (by omega) (by omega) rfl (by decide) ?_
    refine r_str (i := 2) (pc := 46) hi (tb_at tkX9_wordOf 6 rfl) rfl ?_
    exact r_aret (pc := 48) (tb_at tkX9_wordOf 7 rfl) rfl (Nat.le_refl _) (Nat.le_refl _) h
  · subst c
    refine r_tblIn (off := 48) (tgt := 49) (pc := 1) (tb_at tkX9_wordOf 1 rfl) (by omega) (by omega) rfl (by decide) ?_
    refine r_str (i := 3) (pc := 49) hi (tb_at tkX9_wordOf 8 rfl) rfl ?_
    exact r_aret (pc := 51) (tb_at tkX9_wordOf 9 rfl) rfl (Nat.le_refl _) (Nat.le_refl _) h
  · subst c
    refine r_tblIn (off := 51) (tgt := 52) (pc := 1) (tb_at tkX9_wordOf 1 rfl) (by omega) (by omega) rfl (by decide) ?_
    refine r_str (i := 4) (pc := 52) hi (tb_at tkX9_wordOf 10 rfl) rfl ?_
    exact r_aret (pc := 54) (tb_at tkX9_wordOf 11 rfl) rfl (Nat.le_refl _) (Nat.le_refl _) h
  · subst c
    refine r_tblIn (off := 54) (tgt := 55) (pc := 1) (tb_at tkX9_wordOf 1 rfl) (by omega) (by omega) rfl (by decide) ?_
    refine r_str (i := 5) (pc := 55) hi (tb_at tkX9_wordOf 12 rfl) rfl ?_
    exact r_aret (pc := 57) (tb_at tkX9_wordOf 13 rfl) rfl (Nat.le_refl _) (Nat.le_refl _) h
  · subst c
    refine r_tblOut (tgt := 58) (pc := 1) (tb_at tkX9_wordOf 1 rfl) (.inr (by omega)) (by decide) ?_
    refine r_str (i := 6) (pc := 58) hi (tb_at tkX9_wordOf 14 rfl) rfl ?_
    exact r_aret (pc := 60) (tb_at tkX9_wordOf 15 rfl) rfl (Nat.le_refl _) (Nat.le_refl _) h
/-- what the comparison finds -/
theorem isWb_yes {t : Nat → Int} {a e i : Nat} (hi : i < 7) (hn : e = a + strN i) (h : ∀ j, j < strN i → strC i j = t (a + j)) : isWb t a e i = true := by
  have h4 := strN_le i hi
  unfold isWb
  rw [Bool.and_eq_true]
  refine ⟨decide_eq_true (by omega), List.all_eq_true.mpr fun k hk => decide_eq_true ?_⟩
  have hk := List.mem_range.mp hk
  by_cases c : k < strN i
  · rw [if_pos (by omega), (str_in hi c hk).2.1]; exact h k c
  · rw [if_neg (by omega)]; exact str_out hi (by omega) hk
theorem isWb_len {t : Nat → Int} {a e i : Nat} (hi : i < 7) (hae : a ≤ e) (hz : ∀ j, a ≤ j → j < e → t j ≠ 0) (h : isWb t a e i = true) : e = a + strN i := by
  have h4 := strN_le i hi
  unfold isWb at h
  rw [Bool.and_eq_true] at h
  have h1 := of_decide_eq_true h.1
  have h2 : ∀ k, k < 4 → wdT i k = if a + k < e then t (a + k) else 0 := fun k hk => of_decide_eq_true (List.all_eq_true.mp h.2 k (List.mem_range.mpr hk))
  rcases Nat.lt_trichotomy e (a + strN i) with c | c | c
  · have z := h2 (e - a) (by omega)
    rw [if_neg (by omega)] at z
    have := str_in hi (j := e - a) (by omega) (by omega)
    omega
  · exact c
  · have z := h2 (strN i) (by omega)
    rw [if_pos (by omega), str_out hi (Nat.le_refl _) (by omega)] at z
    exact absurd z.symm (hz _ (by omega) (by omega))
theorem isWb_at {t : Nat → Int} {a e i j : Nat} (hi : i < 7) (hn : e = a + strN i) (hj : j < strN i) (h : isWb t a e i = true) : strC i j = t (a + j) := by
  have h4 := strN_le i hi
  unfold isWb at h
  rw [Bool.and_eq_true] at h
  have z := of_decide_eq_true (List.all_eq_true.mp h.2 j (List.mem_range.mpr (by omega)))
  rw [if_pos (by omega), (str_in hi hj (by omega)).2.1] at z
  exact z
theorem c9_isWord {K : Int → Mem → Prop} {t : Nat → Int} {m a e i : Nat} (hi : i < 7) (h59 : ∀ j, j < m → M 59 j = t j) (hm : m ≤ 60) (hae : a ≤ e) (hem : e ≤ m) (hz : ∀ j, a ≤ j → j < e → t j ≠ 0) (h1 : isWb t a e i = true → K 1 M) (h0 : isWb t a e i = false → K 0 M) : CalI G miX9_isWord (d + 4) [.inr (.inr (some 58)), .inr (.inr (some (1002 + i))), .inl (a : Int), .inl (e : Int)] M K := by
  have h4 := strN_le i hi
  refine Cal.of (L0 := [some (.inr (.inr (some 58))), some (.inr (.inr (some (1002 + i)))), some (.inl (a : Int)), some (.inl (e : Int)), none]) (by decide) (Nat.le_of_ble_eq_true rfl) rfl ?_
  refine r_aload_n (pc := 0) (tb_at tkX9_isWord 0 rfl) rfl rfl ?_
  refine r_invVS (mc' := 0) (ms' := 0) (i := i) [] (S := []) (pc := 1) hi (tb_at tkX9_isWord 1 rfl) rfl rfl clX9_67 (Nat.le_of_ble_eq_true rfl) (Nat.le_refl _) (Nat.le_refl _) ?_
  refine CalI.toQ (cJ_len hi ?_)
  show OkI G miX9_isWord (d + 4) K 4 [some (.inr (.inr (some 58))), some (.inr (.inr (some (1002 + i)))), some (.inl (a : Int)), some (.inl (e : Int)), none] [.inl ((strN i : Nat) : Int)] M
  refine r_iload_n (pc := 4) (tb_at tkX9_isWord 2 rfl) rfl rfl ?_
  refine r_iload_n (pc := 5) (tb_at tkX9_isWord 3 rfl) rfl rfl ?_
  refine r_isub (pc := 6) (tb_at tkX9_isWord 4 rfl) ?_
  rw [w32_eq (x := (e : Int) - (a : Int)) (by omega) (by omega)]
  refine q_icmp_eq (tgt := 12) (pc := 7) (tb_at tkX9_isWord 5 rfl) (by decide) (fun c => ?_) (fun c => ?_)
  · have hn : e = a + strN i := by omega
    refine r_iconst (pc := 12) (tb_at tkX9_isWord 8 rfl) ⟨by decide, by decide⟩ ?_
    refine r_istore (L' := [some (.inr (.inr (some 58))), some (.inr (.inr (some (1002 + i)))), some (.inl (a : Int)), some (.inl (e : Int)), some (.inl ((0 : Nat) : Int))]) (pc := 13) (tb_at tkX9_isWord 9 rfl) (by decide) rfl ?_
    have key := dn (P := fun k => (∀ j, j < k → strC i j = t (a + j)) → OkI G miX9_isWord (d + 4) K 15 [some (.inr (.inr (some 58))), some (.inr (.inr (some (1002 + i)))), some (.inl (a : Int)), some (.inl (e : Int)), some (.inl (k : Int))] [] M) (strN i) ?_ (fun k hk ih hq => ?_) 0 (Nat.zero_le _) (fun j hj => absurd hj (by omega))
    · exact key
    · intro hq
      refine r_iload (pc := 15) (tb_at tkX9_isWord 10 rfl) rfl ?_
      refine r_aload_n (pc := 17) (tb_at tkX9_isWord 11 rfl) rfl rfl ?_
      refine r_invVS (mc' := 0) (ms' := 0) (i := i) [] (S := [.inl ((strN i : Nat) : Int)]) (pc := 18) hi (tb_at tkX9_isWord 12 rfl) rfl rfl clX9_67 (Nat.le_of_ble_eq_true rfl) (Nat.le_refl _) (Nat.le_refl _) ?_
      refine CalI.toQ (cJ_len hi ?_)
      show OkI G miX9_isWord (d + 4) K 21 [some (.inr (.inr (some 58))), some (.inr (.inr (some (1002 + i)))), some (.inl (a : Int)), some (.inl (e : Int)), some (.inl ((strN i : Nat) : Int))] [.inl ((strN i : Nat) : Int), .inl ((strN i : Nat) : Int)] M
      refine q_icmp_ge (tgt := 50) (pc := 21) (tb_at tkX9_isWord 13 rfl) (by decide) (fun c => ?_) (fun c => absurd c (by omega))
      refine r_iconst (pc := 50) (tb_at tkX9_isWord 28 rfl) ⟨by decide, by decide⟩ ?_
      exact r_zret (pc := 51) (tb_at tkX9_isWord 29 rfl) rfl (.inr rfl) (Nat.le_refl _) (Nat.le_refl _) ⟨_, rfl, rfl, h1 (isWb_yes hi hn hq)⟩
    · refine r_iload (pc := 15) (tb_at tkX9_isWord 10 rfl) rfl ?_
      refine r_aload_n (pc := 17) (tb_at tkX9_isWord 11 rfl) rfl rfl ?_
      refine r_invVS (mc' := 0) (ms' := 0) (i := i) [] (S := [.inl (k : Int)]) (pc := 18) hi (tb_at tkX9_isWord 12 rfl) rfl rfl clX9_67 (Nat.le_of_ble_eq_true rfl) (Nat.le_refl _) (Nat.le_refl _) ?_
      refine CalI.toQ (cJ_len hi ?_)
      show OkI G miX9_isWord (d + 4) K 21 [some (.inr (.inr (some 58))), some (.inr (.inr (some (1002 + i)))), some (.inl (a : Int)), some (.inl (e : Int)), some (.inl (k : Int))] [.inl ((strN i : Nat) : Int), .inl (k : Int)] M
      refine q_icmp_ge (tgt := 50) (pc := 21) (tb_at tkX9_isWord 13 rfl) (by decide) (fun c => absurd c (by omega)) (fun c => ?_)
      refine r_aload_n (pc := 24) (tb_at tkX9_isWord 14 rfl) rfl rfl ?_
      refine r_iload (pc := 25) (tb_at tkX9_isWord 15 rfl) rfl ?_
      refine r_invVS (mc' := 0) (ms' := 0) (i := i) [.inl (k : Int)] (S := []) (pc := 27) hi (tb_at tkX9_isWord 16 rfl) rfl rfl clX9_73 (Nat.le_of_ble_eq_true rfl) (Nat.le_refl _) (Nat.le_refl _) ?_
      refine CalI.toQ (cJ_charAt hi hk ?_)
      show OkI G miX9_isWord (d + 4) K 30 [some (.inr (.inr (some 58))), some (.inr (.inr (some (1002 + i)))), some (.inl (a : Int)), some (.inl (e : Int)), some (.inl (k : Int))] [.inl (strC i k)] M
      refine r_aload_n (pc := 30) (tb_at tkX9_isWord 17 rfl) rfl rfl ?_
      refine r_get 8 0 (pc := 31) (tb_at tkX9_isWord 18 rfl) ly_58 flX9_11 rfl ?_
      refine r_iload_n (pc := 34) (tb_at tkX9_isWord 19 rfl) rfl rfl ?_
      refine r_iload (pc := 35) (tb_at tkX9_isWord 20 rfl) rfl ?_
      refine r_iadd (pc := 37) (tb_at tkX9_isWord 21 rfl) ?_
      rw [w32_eq (x := (a : Int) + (k : Int)) (by omega) (by omega)]
      refine r_iald (pc := 38) (tb_at tkX9_isWord 22 rfl) ly_59 (by omega) (by omega) ?_
      rw [show ((a : Int) + (k : Int)).toNat = a + k by omega, h59 (a + k) (by omega)]
      refine q_icmp_eq (tgt := 44) (pc := 39) (tb_at tkX9_isWord 23 rfl) (by decide) (fun c => ?_) (fun c => ?_)
      · refine r_iinc (L' := [some (.inr (.inr (some 58))), some (.inr (.inr (some (1002 + i)))), some (.inl (a : Int)), some (.inl (e : Int)), some (.inl (w32 ((k : Int) + 1)))]) (pc := 44) (tb_at tkX9_isWord 26 rfl) rfl (by decide) rfl ?_
        refine r_goto (tgt := 15) (pc := 47) (tb_at tkX9_isWord 27 rfl) (by decide) ?_
        rw [w32n (by omega)]
        refine ih (fun j hj => ?_)
        by_cases e1 : j = k
        · subst e1; exact c
        · exact hq j (by omega)
      · refine r_iconst (pc := 42) (tb_at tkX9_isWord 24 rfl) ⟨by decide, by decide⟩ ?_
        refine r_zret (pc := 43) (tb_at tkX9_isWord 25 rfl) rfl (.inl rfl) (Nat.le_refl _) (Nat.le_refl _) ⟨_, rfl, rfl, h0 ?_⟩
        cases z : isWb t a e i with
        | false => rfl
        | true => exact absurd (isWb_at hi hn hk z) c
  · refine r_iconst (pc := 10) (tb_at tkX9_isWord 6 rfl) ⟨by decide, by decide⟩ ?_
    refine r_zret (pc := 11) (tb_at tkX9_isWord 7 rfl) rfl (.inl rfl) (Nat.le_refl _) (Nat.le_refl _) ⟨_, rfl, rfl, h0 ?_⟩
    cases z : isWb t a e i with
    | false => rfl
    | true =>
      have := isWb_len hi hae hz z
      exact absurd (show ((strN i : Nat) : Int) = (e : Int) - (a : Int) by omega) c
theorem wcode_at {t : Nat → Int} {a e i : Nat} (hi : i < 7) (h : isWb t a e i = true) : wcode t a e = some i := by
  cases z : wcode t a e with
  | none =>
    have := List.find?_eq_none.mp z i (List.mem_range.mpr hi)
    exact absurd h this
  | some w =>
    have h1 := List.find?_some z
    have h2 := List.mem_range.mp (List.mem_of_find?_eq_some z)
    rw [isWb_one h2 hi h1 h]
theorem wcode_no {t : Nat → Int} {a e : Nat} (h : ∀ i, i < 7 → isWb t a e i = false) : wcode t a e = none := by
  refine List.find?_eq_none.mpr fun w hw => ?_
  rw [h w (List.mem_range.mp hw)]
  decide
theorem c9_takesWord {K : Int → Mem → Prop} {t : Nat → Int} {m a e c : Nat} (h58 : M 58 2 = (m : Int)) (h59 : ∀ i, i < m → M 59 i = t i) (hm : m ≤ 60) (hae : a ≤ e) (hem : e ≤ m) (hz : ∀ j, a ≤ j → j < e → t j ≠ 0) (hc : M 58 3 = (c : Int)) (hc6 : c < 60) (h1 : ∀ w, wcode t a e = some w → K 1 (mup (mup (mup M 58 4 (wantN w : Int)) 60 c (w : Int)) 58 3 ((c : Int) + 1))) (h0 : wcode t a e = none → K 0 M) : CalI G miX9_takesWord (d + 8) [.inr (.inr (some 58)), .inl (a : Int), .inl (e : Int)] M K := by
  refine Cal.of (L0 := [some (.inr (.inr (some 58))), some (.inl (a : Int)), some (.inl (e : Int)), none]) (by decide) (Nat.le_of_ble_eq_true rfl) rfl ?_
  refine r_iconst (pc := 0) (tb_at tkX9_takesWord 0 rfl) ⟨by decide, by decide⟩ ?_
  refine r_istore_n (L' := [some (.inr (.inr (some 58))), some (.inl (a : Int)), some (.inl (e : Int)), some (.inl ((0 : Nat) : Int))]) (pc := 1) (tb_at tkX9_takesWord 1 rfl) rfl (by decide) rfl ?_
  have key := dn (P := fun k => (∀ j, j < k → isWb t a e j = false) → OkI G miX9_takesWord (d + 8) K 2 [some (.inr (.inr (some 58))), some (.inl (a : Int)), some (.inl (e : Int)), some (.inl (k : Int))] [] M) 7 ?_ (fun k hk ih hq => ?_) 0 (Nat.zero_le _) (fun j hj => absurd hj (by omega))
  · exact key
  · intro hq
    refine r_iload_n (pc := 2) (tb_at tkX9_takesWord 2 rfl) rfl rfl ?_
    refine r_bipush (pc := 3) (tb_at tkX9_takesWord 3 rfl) ⟨by decide, by decide, by decide⟩ ?_
    refine q_icmp_ge (tgt := 42) (pc := 5) (tb_at tkX9_takesWord 4 rfl) (by decide) (fun c => ?_) (fun c => absurd c (by decide))
    refine r_iconst (pc := 42) (tb_at tkX9_takesWord 23 rfl) ⟨by decide, by decide⟩ ?_
    exact r_zret (pc := 43) (tb_at tkX9_takesWord 24 rfl) rfl (.inl rfl) (Nat.le_refl _) (Nat.le_refl _) ⟨_, rfl, rfl, h0 (wcode_no hq)⟩
  · refine r_iload_n (pc := 2) (tb_at tkX9_takesWord 2 rfl) rfl rfl ?_
    refine r_bipush (pc := 3) (tb_at tkX9_takesWord 3 rfl) ⟨by decide, by decide, by decide⟩ ?_
    refine q_icmp_ge (tgt := 42) (pc := 5) (tb_at tkX9_takesWord 4 rfl) (by decide) (fun c => absurd c (by omega)) (fun c1 => ?_)
    refine r_aload_n (pc := 8) (tb_at tkX9_takesWord 5 rfl) rfl rfl ?_
    refine r_iload_n (pc := 9) (tb_at tkX9_takesWord 6 rfl) rfl rfl ?_
    refine r_invS (mc' := 0) (ms' := 0) [.inl (k : Int)] (S := [.inr (.inr (some 58))]) (pc := 10) (tb_at tkX9_takesWord 7 rfl) rfl clX9_52 (Nat.le_of_ble_eq_true rfl) (Nat.le_refl _) (Nat.le_refl _) ?_
    refine c9_wordOf hk ?_
    show OkI G miX9_takesWord (d + 8) K 13 [some (.inr (.inr (some 58))), some (.inl (a : Int)), some (.inl (e : Int)), some (.inl (k : Int))] [.inr (.inr (some (1002 + k))), .inr (.inr (some 58))] M
    refine r_iload_n (pc := 13) (tb_at tkX9_takesWord 8 rfl) rfl rfl ?_
    refine r_iload_n (pc := 14) (tb_at tkX9_takesWord 9 rfl) rfl rfl ?_
    refine r_invV (mc' := 0) (ms' := 0) [.inr (.inr (some (1002 + k))), .inl (a : Int), .inl (e : Int)] (S := []) (pc := 15) (tb_at tkX9_takesWord 10 rfl) rfl ly_58 rfl rfl clX9_56 (Nat.le_of_ble_eq_true rfl) (Nat.le_refl _) (Nat.le_refl _) ?_
    refine CalI.toQ (c9_isWord (d := d + 3) hk h59 hm hae hem hz (fun w1 => ?_) (fun w0 => ?_))
    · show OkI G miX9_takesWord (d + 8) K 18 [some (.inr (.inr (some 58))), some (.inl (a : Int)), some (.inl (e : Int)), some (.inl (k : Int))] [.inl 1] M
      refine q_if_eq (tgt := 36) (pc := 18) (tb_at tkX9_takesWord 11 rfl) (by decide) (fun c => absurd c (by decide)) (fun _ => ?_)
      refine r_aload_n (pc := 21) (tb_at tkX9_takesWord 12 rfl) rfl rfl ?_
      refine r_iload_n (pc := 22) (tb_at tkX9_takesWord 13 rfl) rfl rfl ?_
      refine r_invS (mc' := 0) (ms' := 0) [.inl (k : Int)] (S := [.inr (.inr (some 58))]) (pc := 23) (tb_at tkX9_takesWord 14 rfl) rfl clX9_60 (Nat.le_of_ble_eq_true rfl) (Nat.le_refl _) (Nat.le_refl _) ?_
      refine CalI.toQ ?_
      have go : OkI G miX9_takesWord (d + 8) K 26 [some (.inr (.inr (some 58))), some (.inl (a : Int)), some (.inl (e : Int)), some (.inl (k : Int))] [.inl (wantN k : Int), .inr (.inr (some 58))] M := by
        refine r_put 8 4 (wantN k : Int) (pc := 26) (tb_at tkX9_takesWord 15 rfl) ly_58 flX9_25 (fun r h => by cases h; rfl) (.inl rfl) rfl (fun h => by cases h) rfl ?_
        refine r_aload_n (pc := 29) (tb_at tkX9_takesWord 16 rfl) rfl rfl ?_
        refine r_iload_n (pc := 30) (tb_at tkX9_takesWord 17 rfl) rfl rfl ?_
        refine r_invV (mc' := 0) (ms' := 0) [.inl (k : Int)] (S := []) (pc := 31) (tb_at tkX9_takesWord 18 rfl) rfl ly_58 rfl rfl clX9_63 (Nat.le_of_ble_eq_true rfl) (Nat.le_refl _) (Nat.le_refl _) ?_
        refine CalV.toQ ?_
        have e3 : (mup M 58 4 (wantN k : Int)) 58 3 = (c : Int) := by rw [mup_at_ne (by decide)]; exact hc
        refine Cal.of (by decide) (Nat.le_of_ble_eq_true rfl) rfl (gX9_keep_0 ?_)
        rw [e3, Int.toNat_natCast]
        refine ⟨fun z => absurd z (by omega), fun _ => ⟨by omega, ?_⟩⟩
        rw [mup_ne (show (58 : Nat) ≠ 60 by decide), e3, w32_eq (x := (c : Int) + 1) (by omega) (by omega)]
        show OkI G miX9_takesWord (d + 8) K 34 [some (.inr (.inr (some 58))), some (.inl (a : Int)), some (.inl (e : Int)), some (.inl (k : Int))] [] _
        refine r_iconst (pc := 34) (tb_at tkX9_takesWord 19 rfl) ⟨by decide, by decide⟩ ?_
        exact r_zret (pc := 35) (tb_at tkX9_takesWord 20 rfl) rfl (.inr rfl) (Nat.le_refl _) (Nat.le_refl _) ⟨_, rfl, rfl, h1 k (wcode_at hk w1)⟩
      refine Cal.of (by decide) (Nat.le_of_ble_eq_true rfl) rfl (gX9_numbersOf_0 ?_)
      refine ⟨fun z => ?_, fun z => ?_, fun z => ?_, fun z => ?_⟩
      · obtain rfl : k = 0 := by omega
        exact go
      · obtain rfl : k = 1 := by omega
        exact go
      · obtain rfl : k = 2 := by omega
        exact go
      · obtain ⟨k', rfl⟩ : ∃ k', k = k' + 3 := ⟨k - 3, by omega⟩
        exact go
    · show OkI G miX9_takesWord (d + 8) K 18 [some (.inr (.inr (some 58))), some (.inl (a : Int)), some (.inl (e : Int)), some (.inl (k : Int))] [.inl 0] M
      refine q_if_eq (tgt := 36) (pc := 18) (tb_at tkX9_takesWord 11 rfl) (by decide) (fun _ => ?_) (fun c => absurd rfl c)
      refine r_iinc (L' := [some (.inr (.inr (some 58))), some (.inl (a : Int)), some (.inl (e : Int)), some (.inl (w32 ((k : Int) + 1)))]) (pc := 36) (tb_at tkX9_takesWord 21 rfl) rfl (by decide) rfl ?_
      refine r_goto (tgt := 2) (pc := 39) (tb_at tkX9_takesWord 22 rfl) (by decide) ?_
      rw [w32n (by omega)]
      refine ih (fun j hj => ?_)
      by_cases e1 : j = k
      · subst e1; exact w0
      · exact hq j (by omega)
end STRS2
