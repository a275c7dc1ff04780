/-! the JDK's methods: fill, bitCount, max -/
section JDK
variable {G : GE} {y : MI} {d mc ms : Nat} {Q : Option MV → Lay → Mem → Prop} {pc : Nat} {L : List (Option MV)} {S : List MV} {lay : Lay} {M : Mem} {kc ks : Nat}
theorem r_alenI {a n : Nat} {rs : List (Option Nat)} (hd : decode y.2.1 pc = .ok (.arraylength, 1)) (hc : lay[a]? = some (0, n, rs)) (hn : n < 2147483648) (k : Ok G y d mc ms Q (pc + 1) L (.inl (n : Int) :: S) lay M kc ks) : Ok G y d mc ms Q pc L (.inr (.inr (some a)) :: S) lay M kc ks := by
  intro p l e s m args below meth c H locs ls X hS hP hl hL hs hM
  obtain ⟨hx, hb, hml, hown, hts, hret, hlk, hnm, hK, hF, hbs⟩ := id X
  have hcell : H[G.2.2.1 + a]? = some (arrV (G.2.1 0) n (fun j => Value.int (Int32.ofInt (M a j)))) := hP.2.2 a _ hc
  have key := k p l e s m args below meth c H locs ls X hS hP hl hL (okS_cons (show I32 _ by unfold I32; omega) (okS_tl hs)) hM
  show W p l e _ s m args below meth c H locs kc ks _ (F0 m pc ls (.ref (g_ad G a) :: S.map (cv G)))
  rw [hP.ad hc]
  refine W.alen (n := Int32.ofInt (n : Int)) hx hb hcell ((arr_t hK).1 n _) ?_ rfl rfl hd key
  rw [arrV_size]; exact (ofI_nat n).symm
theorem r_mmax {idx : Nat} {a b : Int} (hd : decode y.2.1 pc = .ok (.invokestatic idx, 3)) (hw1 : Cond.methodLink y.1.cls idx Lib.Math.max.name ∈ TBL) (hw2 : Cond.static Lib.Math.max.name ∈ TBL) (hw3 : Cond.initialized "java/lang/Math" ∈ TBL) (hw4 : Cond.code Lib.Math.max.name Lib.Math.max.code 2 (some .int) ∈ TBL) (hr : cvc S ≤ 8) (h1 : kc ≤ mc) (h2 : ks ≤ ms) (k : Ok G y (d + 1) mc ms Q (pc + 3) L (.inl (if a < b then b else a) :: S) lay M kc ks) : Ok G y (d + 1) mc ms Q pc L (.inl b :: .inl a :: S) lay M kc ks := by
  intro p l e s m args below meth c H locs ls X hS hP hl hL hs hM
  obtain ⟨hx, hb, hml, hown, hts, hret, hlk, hnm, hK, hF, hbs⟩ := id X
  have ib : I32 b := okS_hd hs
  have ia : I32 a := okS_hd (okS_tl hs)
  have key := k p l e s m args below meth c H locs ls X hS hP hl hL (okS_cons (show I32 (if a < b then b else a) by split <;> assumption) (okS_tl (okS_tl hs))) hM
  refine va_mmax hx hb (hml.trans hl.1.symm) hown (hts _ hw1) (hts _ hw2) (hts _ hw3) (hts _ hw4) (by simp [rmD]) ?_ (by simpa [rmD] using h1) (by simpa [rmD] using h2) hd ?_
  · rw [cat_sum]; show cvc S + 13 ≤ 100 * (d + 1); omega
  · have e : (if Int32.ofInt a < Int32.ofInt b then Int32.ofInt b else Int32.ofInt a) = Int32.ofInt (if a < b then b else a) := by
      by_cases c : a < b
      · rw [if_pos ((ofI_lt ia ib).mpr c), if_pos c]
      · rw [if_neg (fun z => c ((ofI_lt ia ib).mp z)), if_neg c]
    rw [e]; exact key
end JDK
set_option maxRecDepth 100000 in
set_option maxHeartbeats 4000000 in
theorem gJ7_fill_5 {G : GE} {d : Nat} {K : Mem → Prop} {M : Mem} {c n : Nat} {x v2 : Int} (hc : lay0[c]? = some (0, n, [])) (hn : n < 2147483648) (h : (((n : Int) ≤ v2 → K M) ∧ (v2 < (n : Int) → (0 ≤ v2 ∧ v2 < (n : Int)) ∧ OkV G miJ7_fill_53178 d K 5 [some (.inr (.inr (some c))), some (.inl x), some (.inl (w32 (v2 + 1))), some (.inl (n : Int))] [] (mup M c (v2).toNat x)))) : OkV G miJ7_fill_53178 d K 5 [some (.inr (.inr (some c))), some (.inl x), some (.inl v2), some (.inl (n : Int))] [] M := by
  refine r_iload_n (pc := 5) (tb_at tkJ7_fill_53178 5 rfl) rfl rfl ?_
  refine r_iload_n (pc := 6) (tb_at tkJ7_fill_53178 6 rfl) rfl rfl ?_
  refine q_icmp_ge (tgt := 20) (pc := 7) (tb_at tkJ7_fill_53178 7 rfl) (by decide) (fun c => ?_) (fun c => ?_)
  · replace h := h.1 c
    exact r_vret (pc := 20) (tb_at tkJ7_fill_53178 14 rfl) rfl (Nat.le_refl _) (Nat.le_refl _) ⟨rfl, rfl, h⟩
  · replace h := h.2 c
    refine r_aload_n (pc := 10) (tb_at tkJ7_fill_53178 8 rfl) rfl rfl ?_
    refine r_iload_n (pc := 11) (tb_at tkJ7_fill_53178 9 rfl) rfl rfl ?_
    refine r_iload_n (pc := 12) (tb_at tkJ7_fill_53178 10 rfl) rfl rfl ?_
    refine r_iast (pc := 13) (tb_at tkJ7_fill_53178 11 rfl) hc h.1.1 h.1.2 rfl ?_
    refine r_iinc (pc := 14) (tb_at tkJ7_fill_53178 12 rfl) rfl (by decide) rfl ?_
    refine r_goto (tgt := 5) (pc := 17) (tb_at tkJ7_fill_53178 13 rfl) (by decide) ?_
    exact h.2
set_option maxRecDepth 100000 in
set_option maxHeartbeats 4000000 in
theorem gJ7_fill_0 {G : GE} {d : Nat} {K : Mem → Prop} {M : Mem} {c n : Nat} {x : Int} (hc : lay0[c]? = some (0, n, [])) (hn : n < 2147483648) (h : OkV G miJ7_fill_53178 d K 5 [some (.inr (.inr (some c))), some (.inl x), some (.inl 0), some (.inl (n : Int))] [] M) : OkV G miJ7_fill_53178 d K 0 [some (.inr (.inr (some c))), some (.inl x), none, none] [] M := by
  refine r_iconst (pc := 0) (tb_at tkJ7_fill_53178 0 rfl) ⟨by decide, by decide⟩ ?_
  refine r_istore_n (pc := 1) (tb_at tkJ7_fill_53178 1 rfl) rfl (by decide) rfl ?_
  refine r_aload_n (pc := 2) (tb_at tkJ7_fill_53178 2 rfl) rfl rfl ?_
  refine r_alenI (pc := 3) (tb_at tkJ7_fill_53178 3 rfl) hc hn ?_
  refine r_istore_n (pc := 4) (tb_at tkJ7_fill_53178 4 rfl) rfl (by decide) rfl ?_
  exact h
def bcE (v : Int) : Int :=
  let a := w32 (v - iand (iushr v 1) 1431655765)
  let b := w32 (iand a 858993459 + iand (iushr a 2) 858993459)
  let c := iand (w32 (b + iushr b 4)) 252645135
  let e := w32 (c + iushr c 8)
  let f := w32 (e + iushr e 16)
  iand f 63
theorem bcE_cnt : ∀ s : Nat, s < 128 → bcE (s : Int) = (cnt s : Int) := by decide +kernel
set_option maxRecDepth 100000 in
set_option maxHeartbeats 4000000 in
theorem gJ6_bitCount_0 {G : GE} {d : Nat} {K : Int → Mem → Prop} {M : Mem} {v : Int} (h : K (bcE v) M) : OkI G miJ6_bitCount_0f7a4 d K 0 [some (.inl v)] [] M := by
  refine r_iload_n (pc := 0) (tb_at tkJ6_bitCount_0f7a4 0 rfl) rfl rfl ?_
  refine r_iload_n (pc := 1) (tb_at tkJ6_bitCount_0f7a4 1 rfl) rfl rfl ?_
  refine r_iconst (pc := 2) (tb_at tkJ6_bitCount_0f7a4 2 rfl) ⟨by decide, by decide⟩ ?_
  refine r_iushr (pc := 3) (tb_at tkJ6_bitCount_0f7a4 3 rfl) ?_
  refine r_ldcw (n := 1431655765) (pc := 4) (tb_at tkJ6_bitCount_0f7a4 4 rfl) kcJ6_265 ⟨by decide, by decide⟩ ?_
  refine r_iand (pc := 7) (tb_at tkJ6_bitCount_0f7a4 5 rfl) ?_
  refine r_isub (pc := 8) (tb_at tkJ6_bitCount_0f7a4 6 rfl) ?_
  refine r_istore_n (pc := 9) (tb_at tkJ6_bitCount_0f7a4 7 rfl) rfl (by decide) rfl ?_
  refine r_iload_n (pc := 10) (tb_at tkJ6_bitCount_0f7a4 8 rfl) rfl rfl ?_
  refine r_ldcw (n := 858993459) (pc := 11) (tb_at tkJ6_bitCount_0f7a4 9 rfl) kcJ6_266 ⟨by decide, by decide⟩ ?_
  refine r_iand (pc := 14) (tb_at tkJ6_bitCount_0f7a4 10 rfl) ?_
  refine r_iload_n (pc := 15) (tb_at tkJ6_bitCount_0f7a4 11 rfl) rfl rfl ?_
  refine r_iconst (pc := 16) (tb_at tkJ6_bitCount_0f7a4 12 rfl) ⟨by decide, by decide⟩ ?_
  refine r_iushr (pc := 17) (tb_at tkJ6_bitCount_0f7a4 13 rfl) ?_
  refine r_ldcw (n := 858993459) (pc := 18) (tb_at tkJ6_bitCount_0f7a4 14 rfl) kcJ6_266 ⟨by decide, by decide⟩ ?_
  refine r_iand (pc := 21) (tb_at tkJ6_bitCount_0f7a4 15 rfl) ?_
  refine r_iadd (pc := 22) (tb_at tkJ6_bitCount_0f7a4 16 rfl) ?_
  refine r_istore_n (pc := 23) (tb_at tkJ6_bitCount_0f7a4 17 rfl) rfl (by decide) rfl ?_
  refine r_iload_n (pc := 24) (tb_at tkJ6_bitCount_0f7a4 18 rfl) rfl rfl ?_
  refine r_iload_n (pc := 25) (tb_at tkJ6_bitCount_0f7a4 19 rfl) rfl rfl ?_
  refine r_iconst (pc := 26) (tb_at tkJ6_bitCount_0f7a4 20 rfl) ⟨by decide, by decide⟩ ?_
  refine r_iushr (pc := 27) (tb_at tkJ6_bitCount_0f7a4 21 rfl) ?_
  refine r_iadd (pc := 28) (tb_at tkJ6_bitCount_0f7a4 22 rfl) ?_
  refine r_ldcw (n := 252645135) (pc := 29) (tb_at tkJ6_bitCount_0f7a4 23 rfl) kcJ6_267 ⟨by decide, by decide⟩ ?_
  refine r_iand (pc := 32) (tb_at tkJ6_bitCount_0f7a4 24 rfl) ?_
  refine r_istore_n (pc := 33) (tb_at tkJ6_bitCount_0f7a4 25 rfl) rfl (by decide) rfl ?_
  refine r_iload_n (pc := 34) (tb_at tkJ6_bitCount_0f7a4 26 rfl) rfl rfl ?_
  refine r_iload_n (pc := 35) (tb_at tkJ6_bitCount_0f7a4 27 rfl) rfl rfl ?_
  refine r_bipush (pc := 36) (tb_at tkJ6_bitCount_0f7a4 28 rfl) ⟨by decide, by decide, by decide⟩ ?_
  refine r_iushr (pc := 38) (tb_at tkJ6_bitCount_0f7a4 29 rfl) ?_
  refine r_iadd (pc := 39) (tb_at tkJ6_bitCount_0f7a4 30 rfl) ?_
  refine r_istore_n (pc := 40) (tb_at tkJ6_bitCount_0f7a4 31 rfl) rfl (by decide) rfl ?_
  refine r_iload_n (pc := 41) (tb_at tkJ6_bitCount_0f7a4 32 rfl) rfl rfl ?_
  refine r_iload_n (pc := 42) (tb_at tkJ6_bitCount_0f7a4 33 rfl) rfl rfl ?_
  refine r_bipush (pc := 43) (tb_at tkJ6_bitCount_0f7a4 34 rfl) ⟨by decide, by decide, by decide⟩ ?_
  refine r_iushr (pc := 45) (tb_at tkJ6_bitCount_0f7a4 35 rfl) ?_
  refine r_iadd (pc := 46) (tb_at tkJ6_bitCount_0f7a4 36 rfl) ?_
  refine r_istore_n (pc := 47) (tb_at tkJ6_bitCount_0f7a4 37 rfl) rfl (by decide) rfl ?_
  refine r_iload_n (pc := 48) (tb_at tkJ6_bitCount_0f7a4 38 rfl) rfl rfl ?_
  refine r_bipush (pc := 49) (tb_at tkJ6_bitCount_0f7a4 39 rfl) ⟨by decide, by decide, by decide⟩ ?_
  refine r_iand (pc := 51) (tb_at tkJ6_bitCount_0f7a4 40 rfl) ?_
  exact r_iret (pc := 52) (tb_at tkJ6_bitCount_0f7a4 41 rfl) rfl (Nat.le_refl _) (Nat.le_refl _) ⟨_, rfl, rfl, h⟩
set_option maxRecDepth 100000 in
set_option maxHeartbeats 4000000 in
theorem gX2_spread_40m {G : GE} {d : Nat} {K : Int → Mem → Prop} {M : Mem} {v1 v2 v3 v4 : Int}  (h : (((M 1 8) ≤ v4 → (0 ≤ v3 ∧ v3 < 7) ∧ OkI G miX2_spread (d + 1) K 4 [some (.inr (.inr (some 54))), some (.inl (w32 (v1 + (M 57 (v3).toNat)))), some (.inl (w32 (v2 + 1))), none, none] [] M) ∧ (v4 < (M 1 8) → (0 ≤ v3 ∧ v3 < 7) ∧ (((iand (ishr (M 55 (v3).toNat) v4) 1) = 0 → OkI G miX2_spread (d + 1) K 40 [some (.inr (.inr (some 54))), some (.inl v1), some (.inl v2), some (.inl v3), some (.inl (w32 (v4 + 1)))] [] M) ∧ (¬ (iand (ishr (M 55 (v3).toNat) v4) 1) = 0 → (0 ≤ v3 ∧ v3 < 7) ∧ (0 ≤ v4 ∧ v4 < 7) ∧ (0 ≤ (v4 * 7) + v3 ∧ (v4 * 7) + v3 < 49) ∧ ((0 ≤ v3 ∧ v3 < 7) ∧ OkI G miX2_spread (d + 1) K 40 [some (.inr (.inr (some 54))), some (.inl v1), some (.inl v2), some (.inl v3), some (.inl (w32 (v4 + 1)))] [] (mup M 57 (v3).toNat (if (M 57 (v3).toNat) < (w32 ((M 57 (v4).toNat) - (M 22 ((v4 * 7) + v3).toNat))) then (w32 ((M 57 (v4).toNat) - (M 22 ((v4 * 7) + v3).toNat))) else (M 57 (v3).toNat))))))))) : OkI G miX2_spread (d + 1) K 40 [some (.inr (.inr (some 54))), some (.inl v1), some (.inl v2), some (.inl v3), some (.inl v4)] [] M := by
  refine r_iload (pc := 40) (tb_at tkX2_spread 25 rfl) rfl ?_
  refine r_aload_n (pc := 42) (tb_at tkX2_spread 26 rfl) rfl rfl ?_
  refine r_get 2 0 (pc := 43) (tb_at tkX2_spread 27 rfl) ly_54 flX2_21 rfl ?_
  refine r_get 5 8 (pc := 46) (tb_at tkX2_spread 28 rfl) ly_1 flX2_53 rfl ?_
  refine q_icmp_ge (tgt := 110) (pc := 49) (tb_at tkX2_spread 29 rfl) (by decide) (fun c => ?_) (fun c => ?_)
  · replace h := h.1 c
    refine r_iload_n (pc := 110) (tb_at tkX2_spread 64 rfl) rfl rfl ?_
    refine r_aload_n (pc := 111) (tb_at tkX2_spread 65 rfl) rfl rfl ?_
    refine r_get 2 4 (pc := 112) (tb_at tkX2_spread 66 rfl) ly_54 flX2_18 rfl ?_
    refine r_iload_n (pc := 115) (tb_at tkX2_spread 67 rfl) rfl rfl ?_
    refine r_iald (pc := 116) (tb_at tkX2_spread 68 rfl) ly_57 h.1.1 h.1.2 ?_
    replace h := h.2
    refine r_iadd (pc := 117) (tb_at tkX2_spread 69 rfl) ?_
    refine r_istore_n (L' := [some (.inr (.inr (some 54))), some (.inl (w32 (v1 + (M 57 (v3).toNat)))), some (.inl v2), some (.inl v3), some (.inl v4)]) (pc := 118) (tb_at tkX2_spread 70 rfl) rfl (by decide) rfl ?_
    refine r_iinc (L' := [some (.inr (.inr (some 54))), some (.inl (w32 (v1 + (M 57 (v3).toNat)))), some (.inl (w32 (v2 + 1))), some (.inl v3), some (.inl v4)]) (pc := 119) (tb_at tkX2_spread 71 rfl) rfl (by decide) rfl ?_
    refine r_goto (tgt := 4) (pc := 122) (tb_at tkX2_spread 72 rfl) (by decide) ?_
    exact Ok.forget h (And.intro rfl (And.intro rfl (And.intro rfl trivial)))
  · replace h := h.2 c
    refine r_aload_n (pc := 52) (tb_at tkX2_spread 30 rfl) rfl rfl ?_
    refine r_get 2 2 (pc := 53) (tb_at tkX2_spread 31 rfl) ly_54 flX2_9 rfl ?_
    refine r_iload_n (pc := 56) (tb_at tkX2_spread 32 rfl) rfl rfl ?_
    refine r_iald (pc := 57) (tb_at tkX2_spread 33 rfl) ly_55 h.1.1 h.1.2 ?_
    replace h := h.2
    refine r_iload (pc := 58) (tb_at tkX2_spread 34 rfl) rfl ?_
    refine r_ishr (pc := 60) (tb_at tkX2_spread 35 rfl) ?_
    refine r_iconst (pc := 61) (tb_at tkX2_spread 36 rfl) ⟨by decide, by decide⟩ ?_
    refine r_iand (pc := 62) (tb_at tkX2_spread 37 rfl) ?_
    refine q_if_eq (tgt := 104) (pc := 63) (tb_at tkX2_spread 38 rfl) (by decide) (fun c => ?_) (fun c => ?_)
    · replace h := h.1 c
      refine r_iinc (L' := [some (.inr (.inr (some 54))), some (.inl v1), some (.inl v2), some (.inl v3), some (.inl (w32 (v4 + 1)))]) (pc := 104) (tb_at tkX2_spread 62 rfl) rfl (by decide) rfl ?_
      refine r_goto (tgt := 40) (pc := 107) (tb_at tkX2_spread 63 rfl) (by decide) ?_
      exact h
    · replace h := h.2 c
      refine r_aload_n (pc := 66) (tb_at tkX2_spread 39 rfl) rfl rfl ?_
      refine r_get 2 4 (pc := 67) (tb_at tkX2_spread 40 rfl) ly_54 flX2_18 rfl ?_
      refine r_iload_n (pc := 70) (tb_at tkX2_spread 41 rfl) rfl rfl ?_
      refine r_aload_n (pc := 71) (tb_at tkX2_spread 42 rfl) rfl rfl ?_
      refine r_get 2 4 (pc := 72) (tb_at tkX2_spread 43 rfl) ly_54 flX2_18 rfl ?_
      refine r_iload_n (pc := 75) (tb_at tkX2_spread 44 rfl) rfl rfl ?_
      refine r_iald (pc := 76) (tb_at tkX2_spread 45 rfl) ly_57 h.1.1 h.1.2 ?_
      replace h := h.2
      refine r_aload_n (pc := 77) (tb_at tkX2_spread 46 rfl) rfl rfl ?_
      refine r_get 2 4 (pc := 78) (tb_at tkX2_spread 47 rfl) ly_54 flX2_18 rfl ?_
      refine r_iload (pc := 81) (tb_at tkX2_spread 48 rfl) rfl ?_
      refine r_iald (pc := 83) (tb_at tkX2_spread 49 rfl) ly_57 h.1.1 h.1.2 ?_
      replace h := h.2
      refine r_aload_n (pc := 84) (tb_at tkX2_spread 50 rfl) rfl rfl ?_
      refine r_get 2 1 (pc := 85) (tb_at tkX2_spread 51 rfl) ly_54 flX2_25 rfl ?_
      refine r_get 4 3 (pc := 88) (tb_at tkX2_spread 52 rfl) ly_19 flX2_66 rfl ?_
      refine r_iload (pc := 91) (tb_at tkX2_spread 53 rfl) rfl ?_
      refine r_bipush (pc := 93) (tb_at tkX2_spread 54 rfl) ⟨by decide, by decide, by decide⟩ ?_
      refine r_imul (pc := 95) (tb_at tkX2_spread 55 rfl) ?_
      refine r_iload_n (pc := 96) (tb_at tkX2_spread 56 rfl) rfl rfl ?_
      refine r_iadd_l (pc := 97) (tb_at tkX2_spread 57 rfl) ?_
      refine r_iald_w (pc := 98) (tb_at tkX2_spread 58 rfl) ly_22 (by decide) h.1.1 h.1.2 ?_
      replace h := h.2
      refine r_isub (pc := 99) (tb_at tkX2_spread 59 rfl) ?_
      refine r_mmax (S := [.inl v3, .inr (.inr (some 57))]) (pc := 100) (tb_at tkX2_spread 60 rfl) clX2_69.2.1 clX2_69.2.2 cbJ9_max_7cf53.2.1 cbJ9_max_7cf53.1 (Nat.le_of_ble_eq_true rfl) (Nat.le_refl _) (Nat.le_refl _) ?_
      show OkI G miX2_spread (d + 1) K 103 [some (.inr (.inr (some 54))), some (.inl v1), some (.inl v2), some (.inl v3), some (.inl v4)] [.inl (if (M 57 (v3).toNat) < (w32 ((M 57 (v4).toNat) - (M 22 ((v4 * 7) + v3).toNat))) then (w32 ((M 57 (v4).toNat) - (M 22 ((v4 * 7) + v3).toNat))) else (M 57 (v3).toNat)), .inl v3, .inr (.inr (some 57))] M
      refine r_iast (pc := 103) (tb_at tkX2_spread 61 rfl) ly_57 h.1.1 h.1.2 rfl ?_
      replace h := h.2
      refine r_iinc (L' := [some (.inr (.inr (some 54))), some (.inl v1), some (.inl v2), some (.inl v3), some (.inl (w32 (v4 + 1)))]) (pc := 104) (tb_at tkX2_spread 62 rfl) rfl (by decide) rfl ?_
      refine r_goto (tgt := 40) (pc := 107) (tb_at tkX2_spread 63 rfl) (by decide) ?_
      exact h
section JDK2
variable {G : GE} {d : Nat} {M : Mem}
theorem cJ_fill {K : Mem → Prop} {c n : Nat} {x : Int} (hc : lay0[c]? = some (0, n, [])) (hn : n ≤ 1000) (h : ∀ f : Nat → Int, (∀ i, i < n → f i = x) → K (mset M c f)) : CalV G miJ7_fill_53178 d [.inr (.inr (some c)), .inl x] M K := by
  refine Cal.of (by decide) (Nat.le_of_ble_eq_true rfl) rfl (gJ7_fill_0 hc (by omega) ?_)
  have key := dn (P := fun k => ∀ f : Nat → Int, (∀ i, i < k → f i = x) → OkV G miJ7_fill_53178 d K 5 [some (.inr (.inr (some c))), some (.inl x), some (.inl (k : Int)), some (.inl (n : Int))] [] (mset M c f)) n ?_ (fun k hk ih f hf => ?_) 0 (Nat.zero_le _) (M c) (fun i hi => absurd hi (Nat.not_lt_zero _))
  · rw [mset_self] at key; exact key
  · intro f hf
    exact gJ7_fill_5 hc (by omega) ⟨fun _ => h f hf, fun c => absurd c (by omega)⟩
  · refine gJ7_fill_5 hc (by omega) ⟨fun c => absurd c (by omega), fun _ => ⟨by omega, ?_⟩⟩
    rw [w32n (by omega), Int.toNat_natCast, mup_mset, mset_mset, mset_at]
    refine ih _ (fun i hi => ?_)
    by_cases e : i = k
    · subst e; exact fup_at _ _ _
    · rw [fup_ne _ e]; exact hf i (by omega)
theorem cJ_bitCount {K : Int → Mem → Prop} {v : Int} {s : Nat} (e : v = (s : Int)) (hs : s < 128) (h : K (cnt s : Int) M) : CalI G miJ6_bitCount_0f7a4 d [.inl v] M K := by
  subst e
  refine Cal.of (by decide) (Nat.le_of_ble_eq_true rfl) rfl (gJ6_bitCount_0 ?_)
  rw [bcE_cnt s hs]; exact h
end JDK2
