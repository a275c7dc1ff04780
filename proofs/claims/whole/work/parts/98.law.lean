/-! the law: its loop (by wip/gen/law.py) -/
set_option maxRecDepth 100000 in
set_option maxHeartbeats 4000000 in
theorem gL_law_18 {G : GE} {d : Nat} {K : Int → Mem → Prop} {M : Mem} {v3 : Int} (hGL : G.2.2.2.2.1 < 2147483648) (hGN : G.2.2.2.2.1 ≤ 2147483647) (h : (((w32 ((G.2.2.2.2.1 : Int) - 7)) < v3 → K 1 M) ∧ (v3 ≤ (w32 ((G.2.2.2.2.1 : Int) - 7)) → (0 ≤ v3 ∧ v3 < (G.2.2.2.2.1 : Int)) ∧ (((iand ((G.2.2.2.2.2 (v3).toNat).toInt) 63) = 0 → Ok G miL_law (d + 1) 97 11937 (QI K) 204 [some (.inr (.inr (some 1001))), some (.inr (.inr (some 0))), some (.inr (.inr (some 66))), some (.inl v3)] [] lay0 M 97 11937) ∧ ((iand ((G.2.2.2.2.2 (v3).toNat).toInt) 63) = 1 → Ok G miL_law (d + 1) 97 11937 (QI K) 257 [some (.inr (.inr (some 1001))), some (.inr (.inr (some 0))), some (.inr (.inr (some 66))), some (.inl v3)] [] lay0 M 97 11937) ∧ ((iand ((G.2.2.2.2.2 (v3).toNat).toInt) 63) = 2 → Ok G miL_law (d + 1) 97 11937 (QI K) 270 [some (.inr (.inr (some 1001))), some (.inr (.inr (some 0))), some (.inr (.inr (some 66))), some (.inl v3)] [] lay0 M 97 11937) ∧ ((iand ((G.2.2.2.2.2 (v3).toNat).toInt) 63) = 3 → Ok G miL_law (d + 1) 97 11937 (QI K) 303 [some (.inr (.inr (some 1001))), some (.inr (.inr (some 0))), some (.inr (.inr (some 66))), some (.inl v3)] [] lay0 M 97 11937) ∧ ((iand ((G.2.2.2.2.2 (v3).toNat).toInt) 63) = 4 → Ok G miL_law (d + 1) 97 11937 (QI K) 346 [some (.inr (.inr (some 1001))), some (.inr (.inr (some 0))), some (.inr (.inr (some 66))), some (.inl v3)] [] lay0 M 97 11937) ∧ ((iand ((G.2.2.2.2.2 (v3).toNat).toInt) 63) = 5 → Ok G miL_law (d + 1) 97 11937 (QI K) 389 [some (.inr (.inr (some 1001))), some (.inr (.inr (some 0))), some (.inr (.inr (some 66))), some (.inl v3)] [] lay0 M 97 11937) ∧ ((iand ((G.2.2.2.2.2 (v3).toNat).toInt) 63) = 6 → Ok G miL_law (d + 1) 97 11937 (QI K) 422 [some (.inr (.inr (some 1001))), some (.inr (.inr (some 0))), some (.inr (.inr (some 66))), some (.inl v3)] [] lay0 M 97 11937) ∧ ((iand ((G.2.2.2.2.2 (v3).toNat).toInt) 63) = 7 → Ok G miL_law (d + 1) 97 11937 (QI K) 455 [some (.inr (.inr (some 1001))), some (.inr (.inr (some 0))), some (.inr (.inr (some 66))), some (.inl v3)] [] lay0 M 97 11937) ∧ ((iand ((G.2.2.2.2.2 (v3).toNat).toInt) 63) = 8 → Ok G miL_law (d + 1) 97 11937 (QI K) 478 [some (.inr (.inr (some 1001))), some (.inr (.inr (some 0))), some (.inr (.inr (some 66))), some (.inl v3)] [] lay0 M 97 11937) ∧ ((iand ((G.2.2.2.2.2 (v3).toNat).toInt) 63) = 9 → Ok G miL_law (d + 1) 97 11937 (QI K) 511 [some (.inr (.inr (some 1001))), some (.inr (.inr (some 0))), some (.inr (.inr (some 66))), some (.inl v3)] [] lay0 M 97 11937) ∧ ((iand ((G.2.2.2.2.2 (v3).toNat).toInt) 63) = 10 → Ok G miL_law (d + 1) 97 11937 (QI K) 554 [some (.inr (.inr (some 1001))), some (.inr (.inr (some 0))), some (.inr (.inr (some 66))), some (.inl v3)] [] lay0 M 97 11937) ∧ ((iand ((G.2.2.2.2.2 (v3).toNat).toInt) 63) = 11 → Ok G miL_law (d + 1) 97 11937 (QI K) 587 [some (.inr (.inr (some 1001))), some (.inr (.inr (some 0))), some (.inr (.inr (some 66))), some (.inl v3)] [] lay0 M 97 11937) ∧ ((iand ((G.2.2.2.2.2 (v3).toNat).toInt) 63) = 12 → Ok G miL_law (d + 1) 97 11937 (QI K) 620 [some (.inr (.inr (some 1001))), some (.inr (.inr (some 0))), some (.inr (.inr (some 66))), some (.inl v3)] [] lay0 M 97 11937) ∧ ((iand ((G.2.2.2.2.2 (v3).toNat).toInt) 63) = 13 → Ok G miL_law (d + 1) 97 11937 (QI K) 643 [some (.inr (.inr (some 1001))), some (.inr (.inr (some 0))), some (.inr (.inr (some 66))), some (.inl v3)] [] lay0 M 97 11937) ∧ ((iand ((G.2.2.2.2.2 (v3).toNat).toInt) 63) = 14 → Ok G miL_law (d + 1) 97 11937 (QI K) 676 [some (.inr (.inr (some 1001))), some (.inr (.inr (some 0))), some (.inr (.inr (some 66))), some (.inl v3)] [] lay0 M 97 11937) ∧ ((iand ((G.2.2.2.2.2 (v3).toNat).toInt) 63) = 15 → Ok G miL_law (d + 1) 97 11937 (QI K) 699 [some (.inr (.inr (some 1001))), some (.inr (.inr (some 0))), some (.inr (.inr (some 66))), some (.inl v3)] [] lay0 M 97 11937) ∧ ((iand ((G.2.2.2.2.2 (v3).toNat).toInt) 63) = 16 → Ok G miL_law (d + 1) 97 11937 (QI K) 732 [some (.inr (.inr (some 1001))), some (.inr (.inr (some 0))), some (.inr (.inr (some 66))), some (.inl v3)] [] lay0 M 97 11937) ∧ ((iand ((G.2.2.2.2.2 (v3).toNat).toInt) 63) = 17 → Ok G miL_law (d + 1) 97 11937 (QI K) 756 [some (.inr (.inr (some 1001))), some (.inr (.inr (some 0))), some (.inr (.inr (some 66))), some (.inl v3)] [] lay0 M 97 11937) ∧ ((iand ((G.2.2.2.2.2 (v3).toNat).toInt) 63) = 18 → Ok G miL_law (d + 1) 97 11937 (QI K) 790 [some (.inr (.inr (some 1001))), some (.inr (.inr (some 0))), some (.inr (.inr (some 66))), some (.inl v3)] [] lay0 M 97 11937) ∧ ((iand ((G.2.2.2.2.2 (v3).toNat).toInt) 63) = 19 → Ok G miL_law (d + 1) 97 11937 (QI K) 844 [some (.inr (.inr (some 1001))), some (.inr (.inr (some 0))), some (.inr (.inr (some 66))), some (.inl v3)] [] lay0 M 97 11937) ∧ ((iand ((G.2.2.2.2.2 (v3).toNat).toInt) 63) = 20 → Ok G miL_law (d + 1) 97 11937 (QI K) 867 [some (.inr (.inr (some 1001))), some (.inr (.inr (some 0))), some (.inr (.inr (some 66))), some (.inl v3)] [] lay0 M 97 11937) ∧ ((iand ((G.2.2.2.2.2 (v3).toNat).toInt) 63) = 21 → Ok G miL_law (d + 1) 97 11937 (QI K) 910 [some (.inr (.inr (some 1001))), some (.inr (.inr (some 0))), some (.inr (.inr (some 66))), some (.inl v3)] [] lay0 M 97 11937) ∧ ((iand ((G.2.2.2.2.2 (v3).toNat).toInt) 63) = 22 → Ok G miL_law (d + 1) 97 11937 (QI K) 943 [some (.inr (.inr (some 1001))), some (.inr (.inr (some 0))), some (.inr (.inr (some 66))), some (.inl v3)] [] lay0 M 97 11937) ∧ ((iand ((G.2.2.2.2.2 (v3).toNat).toInt) 63) = 23 → Ok G miL_law (d + 1) 97 11937 (QI K) 967 [some (.inr (.inr (some 1001))), some (.inr (.inr (some 0))), some (.inr (.inr (some 66))), some (.inl v3)] [] lay0 M 97 11937) ∧ ((iand ((G.2.2.2.2.2 (v3).toNat).toInt) 63) = 24 → Ok G miL_law (d + 1) 97 11937 (QI K) 1010 [some (.inr (.inr (some 1001))), some (.inr (.inr (some 0))), some (.inr (.inr (some 66))), some (.inl v3)] [] lay0 M 97 11937) ∧ ((iand ((G.2.2.2.2.2 (v3).toNat).toInt) 63) = 25 → Ok G miL_law (d + 1) 97 11937 (QI K) 1033 [some (.inr (.inr (some 1001))), some (.inr (.inr (some 0))), some (.inr (.inr (some 66))), some (.inl v3)] [] lay0 M 97 11937) ∧ ((iand ((G.2.2.2.2.2 (v3).toNat).toInt) 63) = 26 → Ok G miL_law (d + 1) 97 11937 (QI K) 1066 [some (.inr (.inr (some 1001))), some (.inr (.inr (some 0))), some (.inr (.inr (some 66))), some (.inl v3)] [] lay0 M 97 11937) ∧ ((iand ((G.2.2.2.2.2 (v3).toNat).toInt) 63) = 27 → Ok G miL_law (d + 1) 97 11937 (QI K) 1129 [some (.inr (.inr (some 1001))), some (.inr (.inr (some 0))), some (.inr (.inr (some 66))), some (.inl v3)] [] lay0 M 97 11937) ∧ ((iand ((G.2.2.2.2.2 (v3).toNat).toInt) 63) = 28 → Ok G miL_law (d + 1) 97 11937 (QI K) 1204 [some (.inr (.inr (some 1001))), some (.inr (.inr (some 0))), some (.inr (.inr (some 66))), some (.inl v3)] [] lay0 M 97 11937) ∧ ((iand ((G.2.2.2.2.2 (v3).toNat).toInt) 63) = 29 → Ok G miL_law (d + 1) 97 11937 (QI K) 1217 [some (.inr (.inr (some 1001))), some (.inr (.inr (some 0))), some (.inr (.inr (some 66))), some (.inl v3)] [] lay0 M 97 11937) ∧ ((iand ((G.2.2.2.2.2 (v3).toNat).toInt) 63) = 30 → Ok G miL_law (d + 1) 97 11937 (QI K) 1250 [some (.inr (.inr (some 1001))), some (.inr (.inr (some 0))), some (.inr (.inr (some 66))), some (.inl v3)] [] lay0 M 97 11937) ∧ ((iand ((G.2.2.2.2.2 (v3).toNat).toInt) 63) = 31 → Ok G miL_law (d + 1) 97 11937 (QI K) 1273 [some (.inr (.inr (some 1001))), some (.inr (.inr (some 0))), some (.inr (.inr (some 66))), some (.inl v3)] [] lay0 M 97 11937) ∧ ((iand ((G.2.2.2.2.2 (v3).toNat).toInt) 63) = 32 → Ok G miL_law (d + 1) 97 11937 (QI K) 1326 [some (.inr (.inr (some 1001))), some (.inr (.inr (some 0))), some (.inr (.inr (some 66))), some (.inl v3)] [] lay0 M 97 11937) ∧ ((iand ((G.2.2.2.2.2 (v3).toNat).toInt) 63) = 33 → Ok G miL_law (d + 1) 97 11937 (QI K) 1339 [some (.inr (.inr (some 1001))), some (.inr (.inr (some 0))), some (.inr (.inr (some 66))), some (.inl v3)] [] lay0 M 97 11937) ∧ ((iand ((G.2.2.2.2.2 (v3).toNat).toInt) 63) = 34 → Ok G miL_law (d + 1) 97 11937 (QI K) 1352 [some (.inr (.inr (some 1001))), some (.inr (.inr (some 0))), some (.inr (.inr (some 66))), some (.inl v3)] [] lay0 M 97 11937) ∧ ((iand ((G.2.2.2.2.2 (v3).toNat).toInt) 63) = 35 → Ok G miL_law (d + 1) 97 11937 (QI K) 1375 [some (.inr (.inr (some 1001))), some (.inr (.inr (some 0))), some (.inr (.inr (some 66))), some (.inl v3)] [] lay0 M 97 11937) ∧ ((iand ((G.2.2.2.2.2 (v3).toNat).toInt) 63) = 36 → Ok G miL_law (d + 1) 97 11937 (QI K) 1418 [some (.inr (.inr (some 1001))), some (.inr (.inr (some 0))), some (.inr (.inr (some 66))), some (.inl v3)] [] lay0 M 97 11937) ∧ ((iand ((G.2.2.2.2.2 (v3).toNat).toInt) 63) = 37 → Ok G miL_law (d + 1) 97 11937 (QI K) 1491 [some (.inr (.inr (some 1001))), some (.inr (.inr (some 0))), some (.inr (.inr (some 66))), some (.inl v3)] [] lay0 M 97 11937) ∧ ((iand ((G.2.2.2.2.2 (v3).toNat).toInt) 63) = 38 → Ok G miL_law (d + 1) 97 11937 (QI K) 1525 [some (.inr (.inr (some 1001))), some (.inr (.inr (some 0))), some (.inr (.inr (some 66))), some (.inl v3)] [] lay0 M 97 11937) ∧ ((iand ((G.2.2.2.2.2 (v3).toNat).toInt) 63) < 0 ∨ 38 < (iand ((G.2.2.2.2.2 (v3).toNat).toInt) 63) → Ok G miL_law (d + 1) 97 11937 (QI K) 18 [some (.inr (.inr (some 1001))), some (.inr (.inr (some 0))), some (.inr (.inr (some 66))), some (.inl (w32 (v3 + 7)))] [] lay0 M 97 11937))))) : Ok G miL_law (d + 1) 97 11937 (QI K) 18 [some (.inr (.inr (some 1001))), some (.inr (.inr (some 0))), some (.inr (.inr (some 66))), some (.inl v3)] [] lay0 M 97 11937 := by
  refine r_iload_n (pc := 18) (tb_at tkL_law_0 10 rfl) rfl rfl ?_
  refine r_aload_n (pc := 19) (tb_at tkL_law_0 11 rfl) rfl rfl ?_
  refine r_alen_scr (pc := 20) (tb_at tkL_law_0 12 rfl) hGL ?_
  refine r_bipush (pc := 21) (tb_at tkL_law_0 13 rfl) ⟨by decide, by decide, by decide⟩ ?_
  refine r_isub (pc := 23) (tb_at tkL_law_0 14 rfl) ?_
  refine q_icmp_gt (tgt := 1594) (pc := 24) (tb_at tkL_law_0 15 rfl) (by decide) (fun c => ?_) (fun c => ?_)
  · replace h := h.1 c
    refine r_iconst (pc := 1594) (tb_at tkL_law_29 6 rfl) ⟨by decide, by decide⟩ ?_
    exact r_zret (pc := 1595) (tb_at tkL_law_29 7 rfl) rfl (by decide) (Nat.le_refl _) (Nat.le_refl _) ⟨_, rfl, rfl, h⟩
  · replace h := h.2 c
    refine r_aload_n (pc := 27) (tb_at tkL_law_0 16 rfl) rfl rfl ?_
    refine r_iload_n (pc := 28) (tb_at tkL_law_0 17 rfl) rfl rfl ?_
    refine r_iald_scr (pc := 29) (tb_at tkL_law_0 18 rfl) h.1.1 h.1.2 ?_
    replace h := h.2
    refine r_bipush (pc := 30) (tb_at tkL_law_0 19 rfl) ⟨by decide, by decide, by decide⟩ ?_
    refine r_iand (pc := 32) (tb_at tkL_law_0 20 rfl) ?_
    by_cases c0 : (iand ((G.2.2.2.2.2 (v3).toNat).toInt) 63) < 0 ∨ 38 < (iand ((G.2.2.2.2.2 (v3).toNat).toInt) 63)
    · refine r_tblOut (tgt := 1588) (pc := 33) (tb_at tkL_law_0 21 rfl) c0 (by decide) ?_
      replace h := h.2.2.2.2.2.2.2.2.2.2.2.2.2.2.2.2.2.2.2.2.2.2.2.2.2.2.2.2.2.2.2.2.2.2.2.2.2.2.2 c0
      refine r_iinc (L' := [some (.inr (.inr (some 1001))), some (.inr (.inr (some 0))), some (.inr (.inr (some 66))), some (.inl (w32 (v3 + 7)))]) (pc := 1588) (tb_at tkL_law_29 4 rfl) rfl (by decide) rfl ?_
      refine r_goto (tgt := 18) (pc := 1591) (tb_at tkL_law_29 5 rfl) (by decide) ?_
      exact h
    · have cc : (iand ((G.2.2.2.2.2 (v3).toNat).toInt) 63) = 0 ∨ (iand ((G.2.2.2.2.2 (v3).toNat).toInt) 63) = 1 ∨ (iand ((G.2.2.2.2.2 (v3).toNat).toInt) 63) = 2 ∨ (iand ((G.2.2.2.2.2 (v3).toNat).toInt) 63) = 3 ∨ (iand ((G.2.2.2.2.2 (v3).toNat).toInt) 63) = 4 ∨ (iand ((G.2.2.2.2.2 (v3).toNat).toInt) 63) = 5 ∨ (iand ((G.2.2.2.2.2 (v3).toNat).toInt) 63) = 6 ∨ (iand ((G.2.2.2.2.2 (v3).toNat).toInt) 63) = 7 ∨ (iand ((G.2.2.2.2.2 (v3).toNat).toInt) 63) = 8 ∨ (iand ((G.2.2.2.2.2 (v3).toNat).toInt) 63) = 9 ∨ (iand ((G.2.2.2.2.2 (v3).toNat).toInt) 63) = 10 ∨ (iand ((G.2.2.2.2.2 (v3).toNat).toInt) 63) = 11 ∨ (iand ((G.2.2.2.2.2 (v3).toNat).toInt) 63) = 12 ∨ (iand ((G.2.2.2.2.2 (v3).toNat).toInt) 63) = 13 ∨ (iand ((G.2.2.2.2.2 (v3).toNat).toInt) 63) = 14 ∨ (iand ((G.2.2.2.2.2 (v3).toNat).toInt) 63) = 15 ∨ (iand ((G.2.2.2.2.2 (v3).toNat).toInt) 63) = 16 ∨ (iand ((G.2.2.2.2.2 (v3).toNat).toInt) 63) = 17 ∨ (iand ((G.2.2.2.2.2 (v3).toNat).toInt) 63) = 18 ∨ (iand ((G.2.2.2.2.2 (v3).toNat).toInt) 63) = 19 ∨ (iand ((G.2.2.2.2.2 (v3).toNat).toInt) 63) = 20 ∨ (iand ((G.2.2.2.2.2 (v3).toNat).toInt) 63) = 21 ∨ (iand ((G.2.2.2.2.2 (v3).toNat).toInt) 63) = 22 ∨ (iand ((G.2.2.2.2.2 (v3).toNat).toInt) 63) = 23 ∨ (iand ((G.2.2.2.2.2 (v3).toNat).toInt) 63) = 24 ∨ (iand ((G.2.2.2.2.2 (v3).toNat).toInt) 63) = 25 ∨ (iand ((G.2.2.2.2.2 (v3).toNat).toInt) 63) = 26 ∨ (iand ((G.2.2.2.2.2 (v3).toNat).toInt) 63) = 27 ∨ (iand ((G.2.2.2.2.2 (v3).toNat).toInt) 63) = 28 ∨ (iand ((G.2.2.2.2.2 (v3).toNat).toInt) 63) = 29 ∨ (iand ((G.2.2.2.2.2 (v3).toNat).toInt) 63) = 30 ∨ (iand ((G.2.2.2.2.2 (v3).toNat).toInt) 63) = 31 ∨ (iand ((G.2.2.2.2.2 (v3).toNat).toInt) 63) = 32 ∨ (iand ((G.2.2.2.2.2 (v3).toNat).toInt) 63) = 33 ∨ (iand ((G.2.2.2.2.2 (v3).toNat).toInt) 63) = 34 ∨ (iand ((G.2.2.2.2.2 (v3).toNat).toInt) 63) = 35 ∨ (iand ((G.2.2.2.2.2 (v3).toNat).toInt) 63) = 36 ∨ (iand ((G.2.2.2.2.2 (v3).toNat).toInt) 63) = 37 ∨ (iand ((G.2.2.2.2.2 (v3).toNat).toInt) 63) = 38 := by omega
      rcases cc with c | c | c | c | c | c | c | c | c | c | c | c | c | c | c | c | c | c | c | c | c | c | c | c | c | c | c | c | c | c | c | c | c | c | c | c | c | c | c
      · refine r_tblIn (off := 171) (tgt := 204) (pc := 33) (tb_at tkL_law_0 21 rfl) (by omega) (by omega) (by rw [c]; rfl) (by decide) ?_
        replace h := h.1 c
        exact h
      · refine r_tblIn (off := 224) (tgt := 257) (pc := 33) (tb_at tkL_law_0 21 rfl) (by omega) (by omega) (by rw [c]; rfl) (by decide) ?_
        replace h := h.2.1 c
        exact h
      · refine r_tblIn (off := 237) (tgt := 270) (pc := 33) (tb_at tkL_law_0 21 rfl) (by omega) (by omega) (by rw [c]; rfl) (by decide) ?_
        replace h := h.2.2.1 c
        exact h
      · refine r_tblIn (off := 270) (tgt := 303) (pc := 33) (tb_at tkL_law_0 21 rfl) (by omega) (by omega) (by rw [c]; rfl) (by decide) ?_
        replace h := h.2.2.2.1 c
        exact h
      · refine r_tblIn (off := 313) (tgt := 346) (pc := 33) (tb_at tkL_law_0 21 rfl) (by omega) (by omega) (by rw [c]; rfl) (by decide) ?_
        replace h := h.2.2.2.2.1 c
        exact h
      · refine r_tblIn (off := 356) (tgt := 389) (pc := 33) (tb_at tkL_law_0 21 rfl) (by omega) (by omega) (by rw [c]; rfl) (by decide) ?_
        replace h := h.2.2.2.2.2.1 c
        exact h
      · refine r_tblIn (off := 389) (tgt := 422) (pc := 33) (tb_at tkL_law_0 21 rfl) (by omega) (by omega) (by rw [c]; rfl) (by decide) ?_
        replace h := h.2.2.2.2.2.2.1 c
        exact h
      · refine r_tblIn (off := 422) (tgt := 455) (pc := 33) (tb_at tkL_law_0 21 rfl) (by omega) (by omega) (by rw [c]; rfl) (by decide) ?_
        replace h := h.2.2.2.2.2.2.2.1 c
        exact h
      · refine r_tblIn (off := 445) (tgt := 478) (pc := 33) (tb_at tkL_law_0 21 rfl) (by omega) (by omega) (by rw [c]; rfl) (by decide) ?_
        replace h := h.2.2.2.2.2.2.2.2.1 c
        exact h
      · refine r_tblIn (off := 478) (tgt := 511) (pc := 33) (tb_at tkL_law_0 21 rfl) (by omega) (by omega) (by rw [c]; rfl) (by decide) ?_
        replace h := h.2.2.2.2.2.2.2.2.2.1 c
        exact h
      · refine r_tblIn (off := 521) (tgt := 554) (pc := 33) (tb_at tkL_law_0 21 rfl) (by omega) (by omega) (by rw [c]; rfl) (by decide) ?_
        replace h := h.2.2.2.2.2.2.2.2.2.2.1 c
        exact h
      · refine r_tblIn (off := 554) (tgt := 587) (pc := 33) (tb_at tkL_law_0 21 rfl) (by omega) (by omega) (by rw [c]; rfl) (by decide) ?_
        replace h := h.2.2.2.2.2.2.2.2.2.2.2.1 c
        exact h
      · refine r_tblIn (off := 587) (tgt := 620) (pc := 33) (tb_at tkL_law_0 21 rfl) (by omega) (by omega) (by rw [c]; rfl) (by decide) ?_
        replace h := h.2.2.2.2.2.2.2.2.2.2.2.2.1 c
        exact h
      · refine r_tblIn (off := 610) (tgt := 643) (pc := 33) (tb_at tkL_law_0 21 rfl) (by omega) (by omega) (by rw [c]; rfl) (by decide) ?_
        replace h := h.2.2.2.2.2.2.2.2.2.2.2.2.2.1 c
        exact h
      · refine r_tblIn (off := 643) (tgt := 676) (pc := 33) (tb_at tkL_law_0 21 rfl) (by omega) (by omega) (by rw [c]; rfl) (by decide) ?_
        replace h := h.2.2.2.2.2.2.2.2.2.2.2.2.2.2.1 c
        exact h
      · refine r_tblIn (off := 666) (tgt := 699) (pc := 33) (tb_at tkL_law_0 21 rfl) (by omega) (by omega) (by rw [c]; rfl) (by decide) ?_
        replace h := h.2.2.2.2.2.2.2.2.2.2.2.2.2.2.2.1 c
        exact h
      · refine r_tblIn (off := 699) (tgt := 732) (pc := 33) (tb_at tkL_law_0 21 rfl) (by omega) (by omega) (by rw [c]; rfl) (by decide) ?_
        replace h := h.2.2.2.2.2.2.2.2.2.2.2.2.2.2.2.2.1 c
        exact h
      · refine r_tblIn (off := 723) (tgt := 756) (pc := 33) (tb_at tkL_law_0 21 rfl) (by omega) (by omega) (by rw [c]; rfl) (by decide) ?_
        replace h := h.2.2.2.2.2.2.2.2.2.2.2.2.2.2.2.2.2.1 c
        exact h
      · refine r_tblIn (off := 757) (tgt := 790) (pc := 33) (tb_at tkL_law_0 21 rfl) (by omega) (by omega) (by rw [c]; rfl) (by decide) ?_
        replace h := h.2.2.2.2.2.2.2.2.2.2.2.2.2.2.2.2.2.2.1 c
        exact h
      · refine r_tblIn (off := 811) (tgt := 844) (pc := 33) (tb_at tkL_law_0 21 rfl) (by omega) (by omega) (by rw [c]; rfl) (by decide) ?_
        replace h := h.2.2.2.2.2.2.2.2.2.2.2.2.2.2.2.2.2.2.2.1 c
        exact h
      · refine r_tblIn (off := 834) (tgt := 867) (pc := 33) (tb_at tkL_law_0 21 rfl) (by omega) (by omega) (by rw [c]; rfl) (by decide) ?_
        replace h := h.2.2.2.2.2.2.2.2.2.2.2.2.2.2.2.2.2.2.2.2.1 c
        exact h
      · refine r_tblIn (off := 877) (tgt := 910) (pc := 33) (tb_at tkL_law_0 21 rfl) (by omega) (by omega) (by rw [c]; rfl) (by decide) ?_
        replace h := h.2.2.2.2.2.2.2.2.2.2.2.2.2.2.2.2.2.2.2.2.2.1 c
        exact h
      · refine r_tblIn (off := 910) (tgt := 943) (pc := 33) (tb_at tkL_law_0 21 rfl) (by omega) (by omega) (by rw [c]; rfl) (by decide) ?_
        replace h := h.2.2.2.2.2.2.2.2.2.2.2.2.2.2.2.2.2.2.2.2.2.2.1 c
        exact h
      · refine r_tblIn (off := 934) (tgt := 967) (pc := 33) (tb_at tkL_law_0 21 rfl) (by omega) (by omega) (by rw [c]; rfl) (by decide) ?_
        replace h := h.2.2.2.2.2.2.2.2.2.2.2.2.2.2.2.2.2.2.2.2.2.2.2.1 c
        exact h
      · refine r_tblIn (off := 977) (tgt := 1010) (pc := 33) (tb_at tkL_law_0 21 rfl) (by omega) (by omega) (by rw [c]; rfl) (by decide) ?_
        replace h := h.2.2.2.2.2.2.2.2.2.2.2.2.2.2.2.2.2.2.2.2.2.2.2.2.1 c
        exact h
      · refine r_tblIn (off := 1000) (tgt := 1033) (pc := 33) (tb_at tkL_law_0 21 rfl) (by omega) (by omega) (by rw [c]; rfl) (by decide) ?_
        replace h := h.2.2.2.2.2.2.2.2.2.2.2.2.2.2.2.2.2.2.2.2.2.2.2.2.2.1 c
        exact h
      · refine r_tblIn (off := 1033) (tgt := 1066) (pc := 33) (tb_at tkL_law_0 21 rfl) (by omega) (by omega) (by rw [c]; rfl) (by decide) ?_
        replace h := h.2.2.2.2.2.2.2.2.2.2.2.2.2.2.2.2.2.2.2.2.2.2.2.2.2.2.1 c
        exact h
      · refine r_tblIn (off := 1096) (tgt := 1129) (pc := 33) (tb_at tkL_law_0 21 rfl) (by omega) (by omega) (by rw [c]; rfl) (by decide) ?_
        replace h := h.2.2.2.2.2.2.2.2.2.2.2.2.2.2.2.2.2.2.2.2.2.2.2.2.2.2.2.1 c
        exact h
      · refine r_tblIn (off := 1171) (tgt := 1204) (pc := 33) (tb_at tkL_law_0 21 rfl) (by omega) (by omega) (by rw [c]; rfl) (by decide) ?_
        replace h := h.2.2.2.2.2.2.2.2.2.2.2.2.2.2.2.2.2.2.2.2.2.2.2.2.2.2.2.2.1 c
        exact h
      · refine r_tblIn (off := 1184) (tgt := 1217) (pc := 33) (tb_at tkL_law_0 21 rfl) (by omega) (by omega) (by rw [c]; rfl) (by decide) ?_
        replace h := h.2.2.2.2.2.2.2.2.2.2.2.2.2.2.2.2.2.2.2.2.2.2.2.2.2.2.2.2.2.1 c
        exact h
      · refine r_tblIn (off := 1217) (tgt := 1250) (pc := 33) (tb_at tkL_law_0 21 rfl) (by omega) (by omega) (by rw [c]; rfl) (by decide) ?_
        replace h := h.2.2.2.2.2.2.2.2.2.2.2.2.2.2.2.2.2.2.2.2.2.2.2.2.2.2.2.2.2.2.1 c
        exact h
      · refine r_tblIn (off := 1240) (tgt := 1273) (pc := 33) (tb_at tkL_law_0 21 rfl) (by omega) (by omega) (by rw [c]; rfl) (by decide) ?_
        replace h := h.2.2.2.2.2.2.2.2.2.2.2.2.2.2.2.2.2.2.2.2.2.2.2.2.2.2.2.2.2.2.2.1 c
        exact h
      · refine r_tblIn (off := 1293) (tgt := 1326) (pc := 33) (tb_at tkL_law_0 21 rfl) (by omega) (by omega) (by rw [c]; rfl) (by decide) ?_
        replace h := h.2.2.2.2.2.2.2.2.2.2.2.2.2.2.2.2.2.2.2.2.2.2.2.2.2.2.2.2.2.2.2.2.1 c
        exact h
      · refine r_tblIn (off := 1306) (tgt := 1339) (pc := 33) (tb_at tkL_law_0 21 rfl) (by omega) (by omega) (by rw [c]; rfl) (by decide) ?_
        replace h := h.2.2.2.2.2.2.2.2.2.2.2.2.2.2.2.2.2.2.2.2.2.2.2.2.2.2.2.2.2.2.2.2.2.1 c
        exact h
      · refine r_tblIn (off := 1319) (tgt := 1352) (pc := 33) (tb_at tkL_law_0 21 rfl) (by omega) (by omega) (by rw [c]; rfl) (by decide) ?_
        replace h := h.2.2.2.2.2.2.2.2.2.2.2.2.2.2.2.2.2.2.2.2.2.2.2.2.2.2.2.2.2.2.2.2.2.2.1 c
        exact h
      · refine r_tblIn (off := 1342) (tgt := 1375) (pc := 33) (tb_at tkL_law_0 21 rfl) (by omega) (by omega) (by rw [c]; rfl) (by decide) ?_
        replace h := h.2.2.2.2.2.2.2.2.2.2.2.2.2.2.2.2.2.2.2.2.2.2.2.2.2.2.2.2.2.2.2.2.2.2.2.1 c
        exact h
      · refine r_tblIn (off := 1385) (tgt := 1418) (pc := 33) (tb_at tkL_law_0 21 rfl) (by omega) (by omega) (by rw [c]; rfl) (by decide) ?_
        replace h := h.2.2.2.2.2.2.2.2.2.2.2.2.2.2.2.2.2.2.2.2.2.2.2.2.2.2.2.2.2.2.2.2.2.2.2.2.1 c
        exact h
      · refine r_tblIn (off := 1458) (tgt := 1491) (pc := 33) (tb_at tkL_law_0 21 rfl) (by omega) (by omega) (by rw [c]; rfl) (by decide) ?_
        replace h := h.2.2.2.2.2.2.2.2.2.2.2.2.2.2.2.2.2.2.2.2.2.2.2.2.2.2.2.2.2.2.2.2.2.2.2.2.2.1 c
        exact h
      · refine r_tblIn (off := 1492) (tgt := 1525) (pc := 33) (tb_at tkL_law_0 21 rfl) (by omega) (by omega) (by rw [c]; rfl) (by decide) ?_
        replace h := h.2.2.2.2.2.2.2.2.2.2.2.2.2.2.2.2.2.2.2.2.2.2.2.2.2.2.2.2.2.2.2.2.2.2.2.2.2.2.1 c
        exact h
set_option maxRecDepth 100000 in
set_option maxHeartbeats 4000000 in
theorem gL_law_204 {G : GE} {d : Nat} {K : Int → Mem → Prop} {M : Mem} {v3 : Int} (hGL : G.2.2.2.2.1 < 2147483648) (hGN : G.2.2.2.2.1 ≤ 2147483647) (h : (0 ≤ v3 + 1 ∧ v3 + 1 < (G.2.2.2.2.1 : Int)) ∧ (0 ≤ v3 + 2 ∧ v3 + 2 < (G.2.2.2.2.1 : Int)) ∧ (0 ≤ v3 + 3 ∧ v3 + 3 < (G.2.2.2.2.1 : Int)) ∧ (0 ≤ v3 + 4 ∧ v3 + 4 < (G.2.2.2.2.1 : Int)) ∧ CalI G miX10_fly d [.inr (.inr (some 0)), .inl ((G.2.2.2.2.2 (v3 + 1).toNat).toInt), .inl ((G.2.2.2.2.2 (v3 + 2).toNat).toInt), .inl ((G.2.2.2.2.2 (v3 + 3).toNat).toInt), .inl ((G.2.2.2.2.2 (v3 + 4).toNat).toInt)] M (fun x2 M1 => (0 ≤ v3 + 1 ∧ v3 + 1 < (G.2.2.2.2.1 : Int)) ∧ (0 ≤ v3 + 2 ∧ v3 + 2 < (G.2.2.2.2.1 : Int)) ∧ (0 ≤ v3 + 3 ∧ v3 + 3 < (G.2.2.2.2.1 : Int)) ∧ (0 ≤ v3 + 4 ∧ v3 + 4 < (G.2.2.2.2.1 : Int)) ∧ CalI G miX11_fly d [.inr (.inr (some 66)), .inl ((G.2.2.2.2.2 (v3 + 1).toNat).toInt), .inl ((G.2.2.2.2.2 (v3 + 2).toNat).toInt), .inl ((G.2.2.2.2.2 (v3 + 3).toNat).toInt), .inl ((G.2.2.2.2.2 (v3 + 4).toNat).toInt)] M1 (fun x4 M3 => ((x2 = x4 → Ok G miL_law (d + 1) 97 11937 (QI K) 18 [some (.inr (.inr (some 1001))), some (.inr (.inr (some 0))), some (.inr (.inr (some 66))), some (.inl (w32 (v3 + 7)))] [] lay0 M3 97 11937) ∧ (¬ x2 = x4 → K 0 M3))))) : Ok G miL_law (d + 1) 97 11937 (QI K) 204 [some (.inr (.inr (some 1001))), some (.inr (.inr (some 0))), some (.inr (.inr (some 66))), some (.inl v3)] [] lay0 M 97 11937 := by
  refine r_aload_n (pc := 204) (tb_at tkL_law_0 22 rfl) rfl rfl ?_
  refine r_aload_n (pc := 205) (tb_at tkL_law_0 23 rfl) rfl rfl ?_
  refine r_iload_n (pc := 206) (tb_at tkL_law_0 24 rfl) rfl rfl ?_
  refine r_iconst (pc := 207) (tb_at tkL_law_0 25 rfl) ⟨by decide, by decide⟩ ?_
  refine r_iadd (pc := 208) (tb_at tkL_law_0 26 rfl) ?_
  refine r_iald_scr_w (pc := 209) (tb_at tkL_law_0 27 rfl) hGN h.1.1 h.1.2 ?_
  replace h := h.2
  refine r_aload_n (pc := 210) (tb_at tkL_law_0 28 rfl) rfl rfl ?_
  refine r_iload_n (pc := 211) (tb_at tkL_law_0 29 rfl) rfl rfl ?_
  refine r_iconst (pc := 212) (tb_at tkL_law_0 30 rfl) ⟨by decide, by decide⟩ ?_
  refine r_iadd (pc := 213) (tb_at tkL_law_0 31 rfl) ?_
  refine r_iald_scr_w (pc := 214) (tb_at tkL_law_0 32 rfl) hGN h.1.1 h.1.2 ?_
  replace h := h.2
  refine r_aload_n (pc := 215) (tb_at tkL_law_0 33 rfl) rfl rfl ?_
  refine r_iload_n (pc := 216) (tb_at tkL_law_0 34 rfl) rfl rfl ?_
  refine r_iconst (pc := 217) (tb_at tkL_law_0 35 rfl) ⟨by decide, by decide⟩ ?_
  refine r_iadd (pc := 218) (tb_at tkL_law_0 36 rfl) ?_
  refine r_iald_scr_w (pc := 219) (tb_at tkL_law_0 37 rfl) hGN h.1.1 h.1.2 ?_
  replace h := h.2
  refine r_aload_n (pc := 220) (tb_at tkL_law_0 38 rfl) rfl rfl ?_
  refine r_iload_n (pc := 221) (tb_at tkL_law_0 39 rfl) rfl rfl ?_
  refine r_iconst (pc := 222) (tb_at tkL_law_1 0 rfl) ⟨by decide, by decide⟩ ?_
  refine r_iadd (pc := 223) (tb_at tkL_law_1 1 rfl) ?_
  refine r_iald_scr_w (pc := 224) (tb_at tkL_law_1 2 rfl) hGN h.1.1 h.1.2 ?_
  replace h := h.2
  refine r_invV (mc' := 0) (ms' := 0) [.inl ((G.2.2.2.2.2 (v3 + 1).toNat).toInt), .inl ((G.2.2.2.2.2 (v3 + 2).toNat).toInt), .inl ((G.2.2.2.2.2 (v3 + 3).toNat).toInt), .inl ((G.2.2.2.2.2 (v3 + 4).toNat).toInt)] (S := []) (pc := 225) (tb_at tkL_law_1 3 rfl) rfl ly_0 rfl rfl clL_13 (Nat.le_of_ble_eq_true rfl) (Nat.le_refl _) (Nat.le_refl _) ?_
  refine Cal.mono h ?_
  rintro _ _ M1 ⟨x2, rfl, rfl, h⟩
  show Ok G miL_law (d + 1) 97 11937 (QI K) 228 [some (.inr (.inr (some 1001))), some (.inr (.inr (some 0))), some (.inr (.inr (some 66))), some (.inl v3)] [.inl x2] lay0 M1 97 11937
  refine r_aload_n (pc := 228) (tb_at tkL_law_1 4 rfl) rfl rfl ?_
  refine r_aload_n (pc := 229) (tb_at tkL_law_1 5 rfl) rfl rfl ?_
  refine r_iload_n (pc := 230) (tb_at tkL_law_1 6 rfl) rfl rfl ?_
  refine r_iconst (pc := 231) (tb_at tkL_law_1 7 rfl) ⟨by decide, by decide⟩ ?_
  refine r_iadd (pc := 232) (tb_at tkL_law_1 8 rfl) ?_
  refine r_iald_scr_w (pc := 233) (tb_at tkL_law_1 9 rfl) hGN h.1.1 h.1.2 ?_
  replace h := h.2
  refine r_aload_n (pc := 234) (tb_at tkL_law_1 10 rfl) rfl rfl ?_
  refine r_iload_n (pc := 235) (tb_at tkL_law_1 11 rfl) rfl rfl ?_
  refine r_iconst (pc := 236) (tb_at tkL_law_1 12 rfl) ⟨by decide, by decide⟩ ?_
  refine r_iadd (pc := 237) (tb_at tkL_law_1 13 rfl) ?_
  refine r_iald_scr_w (pc := 238) (tb_at tkL_law_1 14 rfl) hGN h.1.1 h.1.2 ?_
  replace h := h.2
  refine r_aload_n (pc := 239) (tb_at tkL_law_1 15 rfl) rfl rfl ?_
  refine r_iload_n (pc := 240) (tb_at tkL_law_1 16 rfl) rfl rfl ?_
  refine r_iconst (pc := 241) (tb_at tkL_law_1 17 rfl) ⟨by decide, by decide⟩ ?_
  refine r_iadd (pc := 242) (tb_at tkL_law_1 18 rfl) ?_
  refine r_iald_scr_w (pc := 243) (tb_at tkL_law_1 19 rfl) hGN h.1.1 h.1.2 ?_
  replace h := h.2
  refine r_aload_n (pc := 244) (tb_at tkL_law_1 20 rfl) rfl rfl ?_
  refine r_iload_n (pc := 245) (tb_at tkL_law_1 21 rfl) rfl rfl ?_
  refine r_iconst (pc := 246) (tb_at tkL_law_1 22 rfl) ⟨by decide, by decide⟩ ?_
  refine r_iadd (pc := 247) (tb_at tkL_law_1 23 rfl) ?_
  refine r_iald_scr_w (pc := 248) (tb_at tkL_law_1 24 rfl) hGN h.1.1 h.1.2 ?_
  replace h := h.2
  refine r_invV (mc' := 0) (ms' := 0) [.inl ((G.2.2.2.2.2 (v3 + 1).toNat).toInt), .inl ((G.2.2.2.2.2 (v3 + 2).toNat).toInt), .inl ((G.2.2.2.2.2 (v3 + 3).toNat).toInt), .inl ((G.2.2.2.2.2 (v3 + 4).toNat).toInt)] (S := [.inl x2]) (pc := 249) (tb_at tkL_law_1 25 rfl) rfl ly_66 rfl rfl clL_17 (Nat.le_of_ble_eq_true rfl) (Nat.le_refl _) (Nat.le_refl _) ?_
  refine Cal.mono h ?_
  rintro _ _ M3 ⟨x4, rfl, rfl, h⟩
  show Ok G miL_law (d + 1) 97 11937 (QI K) 252 [some (.inr (.inr (some 1001))), some (.inr (.inr (some 0))), some (.inr (.inr (some 66))), some (.inl v3)] [.inl x4, .inl x2] lay0 M3 97 11937
  refine q_icmp_eq (tgt := 1588) (pc := 252) (tb_at tkL_law_1 26 rfl) (by decide) (fun c => ?_) (fun c => ?_)
  · replace h := h.1 c
    refine r_iinc (L' := [some (.inr (.inr (some 1001))), some (.inr (.inr (some 0))), some (.inr (.inr (some 66))), some (.inl (w32 (v3 + 7)))]) (pc := 1588) (tb_at tkL_law_29 4 rfl) rfl (by decide) rfl ?_
    refine r_goto (tgt := 18) (pc := 1591) (tb_at tkL_law_29 5 rfl) (by decide) ?_
    exact h
  · replace h := h.2 c
    refine r_iconst (pc := 255) (tb_at tkL_law_1 27 rfl) ⟨by decide, by decide⟩ ?_
    exact r_zret (pc := 256) (tb_at tkL_law_1 28 rfl) rfl (by decide) (Nat.le_refl _) (Nat.le_refl _) ⟨_, rfl, rfl, h⟩
set_option maxRecDepth 100000 in
set_option maxHeartbeats 4000000 in
theorem gL_law_257 {G : GE} {d : Nat} {K : Int → Mem → Prop} {M : Mem} {v3 : Int} (hGL : G.2.2.2.2.1 < 2147483648) (hGN : G.2.2.2.2.1 ≤ 2147483647) (h : CalI G miX10_drop d [.inr (.inr (some 0))] M (fun x2 M1 => CalI G miX11_drop d [.inr (.inr (some 66))] M1 (fun x4 M3 => ((x2 = x4 → Ok G miL_law (d + 1) 97 11937 (QI K) 18 [some (.inr (.inr (some 1001))), some (.inr (.inr (some 0))), some (.inr (.inr (some 66))), some (.inl (w32 (v3 + 7)))] [] lay0 M3 97 11937) ∧ (¬ x2 = x4 → K 0 M3))))) : Ok G miL_law (d + 1) 97 11937 (QI K) 257 [some (.inr (.inr (some 1001))), some (.inr (.inr (some 0))), some (.inr (.inr (some 66))), some (.inl v3)] [] lay0 M 97 11937 := by
  refine r_aload_n (pc := 257) (tb_at tkL_law_1 29 rfl) rfl rfl ?_
  refine r_invV (mc' := 0) (ms' := 0) [] (S := []) (pc := 258) (tb_at tkL_law_1 30 rfl) rfl ly_0 rfl rfl clL_18 (Nat.le_of_ble_eq_true rfl) (Nat.le_refl _) (Nat.le_refl _) ?_
  refine Cal.mono h ?_
  rintro _ _ M1 ⟨x2, rfl, rfl, h⟩
  show Ok G miL_law (d + 1) 97 11937 (QI K) 261 [some (.inr (.inr (some 1001))), some (.inr (.inr (some 0))), some (.inr (.inr (some 66))), some (.inl v3)] [.inl x2] lay0 M1 97 11937
  refine r_aload_n (pc := 261) (tb_at tkL_law_1 31 rfl) rfl rfl ?_
  refine r_invV (mc' := 0) (ms' := 0) [] (S := [.inl x2]) (pc := 262) (tb_at tkL_law_1 32 rfl) rfl ly_66 rfl rfl clL_22 (Nat.le_of_ble_eq_true rfl) (Nat.le_refl _) (Nat.le_refl _) ?_
  refine Cal.mono h ?_
  rintro _ _ M3 ⟨x4, rfl, rfl, h⟩
  show Ok G miL_law (d + 1) 97 11937 (QI K) 265 [some (.inr (.inr (some 1001))), some (.inr (.inr (some 0))), some (.inr (.inr (some 66))), some (.inl v3)] [.inl x4, .inl x2] lay0 M3 97 11937
  refine q_icmp_eq (tgt := 1588) (pc := 265) (tb_at tkL_law_1 33 rfl) (by decide) (fun c => ?_) (fun c => ?_)
  · replace h := h.1 c
    refine r_iinc (L' := [some (.inr (.inr (some 1001))), some (.inr (.inr (some 0))), some (.inr (.inr (some 66))), some (.inl (w32 (v3 + 7)))]) (pc := 1588) (tb_at tkL_law_29 4 rfl) rfl (by decide) rfl ?_
    refine r_goto (tgt := 18) (pc := 1591) (tb_at tkL_law_29 5 rfl) (by decide) ?_
    exact h
  · replace h := h.2 c
    refine r_iconst (pc := 268) (tb_at tkL_law_1 34 rfl) ⟨by decide, by decide⟩ ?_
    exact r_zret (pc := 269) (tb_at tkL_law_1 35 rfl) rfl (by decide) (Nat.le_refl _) (Nat.le_refl _) ⟨_, rfl, rfl, h⟩
set_option maxRecDepth 100000 in
set_option maxHeartbeats 4000000 in
theorem gL_law_270 {G : GE} {d : Nat} {K : Int → Mem → Prop} {M : Mem} {v3 : Int} (hGL : G.2.2.2.2.1 < 2147483648) (hGN : G.2.2.2.2.1 ≤ 2147483647) (h : (0 ≤ v3 + 1 ∧ v3 + 1 < (G.2.2.2.2.1 : Int)) ∧ (0 ≤ v3 + 2 ∧ v3 + 2 < (G.2.2.2.2.1 : Int)) ∧ CalI G miX10_of d [.inr (.inr (some 0)), .inl ((G.2.2.2.2.2 (v3 + 1).toNat).toInt), .inl ((G.2.2.2.2.2 (v3 + 2).toNat).toInt)] M (fun x2 M1 => (0 ≤ v3 + 1 ∧ v3 + 1 < (G.2.2.2.2.1 : Int)) ∧ (0 ≤ v3 + 2 ∧ v3 + 2 < (G.2.2.2.2.1 : Int)) ∧ CalI G miX11_of d [.inr (.inr (some 66)), .inl ((G.2.2.2.2.2 (v3 + 1).toNat).toInt), .inl ((G.2.2.2.2.2 (v3 + 2).toNat).toInt)] M1 (fun x4 M3 => ((x2 = x4 → Ok G miL_law (d + 1) 97 11937 (QI K) 18 [some (.inr (.inr (some 1001))), some (.inr (.inr (some 0))), some (.inr (.inr (some 66))), some (.inl (w32 (v3 + 7)))] [] lay0 M3 97 11937) ∧ (¬ x2 = x4 → K 0 M3))))) : Ok G miL_law (d + 1) 97 11937 (QI K) 270 [some (.inr (.inr (some 1001))), some (.inr (.inr (some 0))), some (.inr (.inr (some 66))), some (.inl v3)] [] lay0 M 97 11937 := by
  refine r_aload_n (pc := 270) (tb_at tkL_law_1 36 rfl) rfl rfl ?_
  refine r_aload_n (pc := 271) (tb_at tkL_law_1 37 rfl) rfl rfl ?_
  refine r_iload_n (pc := 272) (tb_at tkL_law_1 38 rfl) rfl rfl ?_
  refine r_iconst (pc := 273) (tb_at tkL_law_1 39 rfl) ⟨by decide, by decide⟩ ?_
  refine r_iadd (pc := 274) (tb_at tkL_law_2 0 rfl) ?_
  refine r_iald_scr_w (pc := 275) (tb_at tkL_law_2 1 rfl) hGN h.1.1 h.1.2 ?_
  replace h := h.2
  refine r_aload_n (pc := 276) (tb_at tkL_law_2 2 rfl) rfl rfl ?_
  refine r_iload_n (pc := 277) (tb_at tkL_law_2 3 rfl) rfl rfl ?_
  refine r_iconst (pc := 278) (tb_at tkL_law_2 4 rfl) ⟨by decide, by decide⟩ ?_
  refine r_iadd (pc := 279) (tb_at tkL_law_2 5 rfl) ?_
  refine r_iald_scr_w (pc := 280) (tb_at tkL_law_2 6 rfl) hGN h.1.1 h.1.2 ?_
  replace h := h.2
  refine r_invV (mc' := 0) (ms' := 0) [.inl ((G.2.2.2.2.2 (v3 + 1).toNat).toInt), .inl ((G.2.2.2.2.2 (v3 + 2).toNat).toInt)] (S := []) (pc := 281) (tb_at tkL_law_2 7 rfl) rfl ly_0 rfl rfl clL_23 (Nat.le_of_ble_eq_true rfl) (Nat.le_refl _) (Nat.le_refl _) ?_
  refine Cal.mono h ?_
  rintro _ _ M1 ⟨x2, rfl, rfl, h⟩
  show Ok G miL_law (d + 1) 97 11937 (QI K) 284 [some (.inr (.inr (some 1001))), some (.inr (.inr (some 0))), some (.inr (.inr (some 66))), some (.inl v3)] [.inl x2] lay0 M1 97 11937
  refine r_aload_n (pc := 284) (tb_at tkL_law_2 8 rfl) rfl rfl ?_
  refine r_aload_n (pc := 285) (tb_at tkL_law_2 9 rfl) rfl rfl ?_
  refine r_iload_n (pc := 286) (tb_at tkL_law_2 10 rfl) rfl rfl ?_
  refine r_iconst (pc := 287) (tb_at tkL_law_2 11 rfl) ⟨by decide, by decide⟩ ?_
  refine r_iadd (pc := 288) (tb_at tkL_law_2 12 rfl) ?_
  refine r_iald_scr_w (pc := 289) (tb_at tkL_law_2 13 rfl) hGN h.1.1 h.1.2 ?_
  replace h := h.2
  refine r_aload_n (pc := 290) (tb_at tkL_law_2 14 rfl) rfl rfl ?_
  refine r_iload_n (pc := 291) (tb_at tkL_law_2 15 rfl) rfl rfl ?_
  refine r_iconst (pc := 292) (tb_at tkL_law_2 16 rfl) ⟨by decide, by decide⟩ ?_
  refine r_iadd (pc := 293) (tb_at tkL_law_2 17 rfl) ?_
  refine r_iald_scr_w (pc := 294) (tb_at tkL_law_2 18 rfl) hGN h.1.1 h.1.2 ?_
  replace h := h.2
  refine r_invV (mc' := 0) (ms' := 0) [.inl ((G.2.2.2.2.2 (v3 + 1).toNat).toInt), .inl ((G.2.2.2.2.2 (v3 + 2).toNat).toInt)] (S := [.inl x2]) (pc := 295) (tb_at tkL_law_2 19 rfl) rfl ly_66 rfl rfl clL_27 (Nat.le_of_ble_eq_true rfl) (Nat.le_refl _) (Nat.le_refl _) ?_
  refine Cal.mono h ?_
  rintro _ _ M3 ⟨x4, rfl, rfl, h⟩
  show Ok G miL_law (d + 1) 97 11937 (QI K) 298 [some (.inr (.inr (some 1001))), some (.inr (.inr (some 0))), some (.inr (.inr (some 66))), some (.inl v3)] [.inl x4, .inl x2] lay0 M3 97 11937
  refine q_icmp_eq (tgt := 1588) (pc := 298) (tb_at tkL_law_2 20 rfl) (by decide) (fun c => ?_) (fun c => ?_)
  · replace h := h.1 c
    refine r_iinc (L' := [some (.inr (.inr (some 1001))), some (.inr (.inr (some 0))), some (.inr (.inr (some 66))), some (.inl (w32 (v3 + 7)))]) (pc := 1588) (tb_at tkL_law_29 4 rfl) rfl (by decide) rfl ?_
    refine r_goto (tgt := 18) (pc := 1591) (tb_at tkL_law_29 5 rfl) (by decide) ?_
    exact h
  · replace h := h.2 c
    refine r_iconst (pc := 301) (tb_at tkL_law_2 21 rfl) ⟨by decide, by decide⟩ ?_
    exact r_zret (pc := 302) (tb_at tkL_law_2 22 rfl) rfl (by decide) (Nat.le_refl _) (Nat.le_refl _) ⟨_, rfl, rfl, h⟩
set_option maxRecDepth 100000 in
set_option maxHeartbeats 4000000 in
theorem gL_law_303 {G : GE} {d : Nat} {K : Int → Mem → Prop} {M : Mem} {v3 : Int} (hGL : G.2.2.2.2.1 < 2147483648) (hGN : G.2.2.2.2.1 ≤ 2147483647) (h : (0 ≤ v3 + 1 ∧ v3 + 1 < (G.2.2.2.2.1 : Int)) ∧ (0 ≤ v3 + 2 ∧ v3 + 2 < (G.2.2.2.2.1 : Int)) ∧ (0 ≤ v3 + 3 ∧ v3 + 3 < (G.2.2.2.2.1 : Int)) ∧ CalI G miX10_shift d [.inr (.inr (some 0)), .inl ((G.2.2.2.2.2 (v3 + 1).toNat).toInt), .inl ((G.2.2.2.2.2 (v3 + 2).toNat).toInt), .inl ((G.2.2.2.2.2 (v3 + 3).toNat).toInt)] M (fun x2 M1 => (0 ≤ v3 + 1 ∧ v3 + 1 < (G.2.2.2.2.1 : Int)) ∧ (0 ≤ v3 + 2 ∧ v3 + 2 < (G.2.2.2.2.1 : Int)) ∧ (0 ≤ v3 + 3 ∧ v3 + 3 < (G.2.2.2.2.1 : Int)) ∧ CalI G miX11_shift d [.inr (.inr (some 66)), .inl ((G.2.2.2.2.2 (v3 + 1).toNat).toInt), .inl ((G.2.2.2.2.2 (v3 + 2).toNat).toInt), .inl ((G.2.2.2.2.2 (v3 + 3).toNat).toInt)] M1 (fun x4 M3 => ((x2 = x4 → Ok G miL_law (d + 1) 97 11937 (QI K) 18 [some (.inr (.inr (some 1001))), some (.inr (.inr (some 0))), some (.inr (.inr (some 66))), some (.inl (w32 (v3 + 7)))] [] lay0 M3 97 11937) ∧ (¬ x2 = x4 → K 0 M3))))) : Ok G miL_law (d + 1) 97 11937 (QI K) 303 [some (.inr (.inr (some 1001))), some (.inr (.inr (some 0))), some (.inr (.inr (some 66))), some (.inl v3)] [] lay0 M 97 11937 := by
  refine r_aload_n (pc := 303) (tb_at tkL_law_2 23 rfl) rfl rfl ?_
  refine r_aload_n (pc := 304) (tb_at tkL_law_2 24 rfl) rfl rfl ?_
  refine r_iload_n (pc := 305) (tb_at tkL_law_2 25 rfl) rfl rfl ?_
  refine r_iconst (pc := 306) (tb_at tkL_law_2 26 rfl) ⟨by decide, by decide⟩ ?_
  refine r_iadd (pc := 307) (tb_at tkL_law_2 27 rfl) ?_
  refine r_iald_scr_w (pc := 308) (tb_at tkL_law_2 28 rfl) hGN h.1.1 h.1.2 ?_
  replace h := h.2
  refine r_aload_n (pc := 309) (tb_at tkL_law_2 29 rfl) rfl rfl ?_
  refine r_iload_n (pc := 310) (tb_at tkL_law_2 30 rfl) rfl rfl ?_
  refine r_iconst (pc := 311) (tb_at tkL_law_2 31 rfl) ⟨by decide, by decide⟩ ?_
  refine r_iadd (pc := 312) (tb_at tkL_law_2 32 rfl) ?_
  refine r_iald_scr_w (pc := 313) (tb_at tkL_law_2 33 rfl) hGN h.1.1 h.1.2 ?_
  replace h := h.2
  refine r_aload_n (pc := 314) (tb_at tkL_law_2 34 rfl) rfl rfl ?_
  refine r_iload_n (pc := 315) (tb_at tkL_law_2 35 rfl) rfl rfl ?_
  refine r_iconst (pc := 316) (tb_at tkL_law_2 36 rfl) ⟨by decide, by decide⟩ ?_
  refine r_iadd (pc := 317) (tb_at tkL_law_2 37 rfl) ?_
  refine r_iald_scr_w (pc := 318) (tb_at tkL_law_2 38 rfl) hGN h.1.1 h.1.2 ?_
  replace h := h.2
  refine r_invV (mc' := 0) (ms' := 0) [.inl ((G.2.2.2.2.2 (v3 + 1).toNat).toInt), .inl ((G.2.2.2.2.2 (v3 + 2).toNat).toInt), .inl ((G.2.2.2.2.2 (v3 + 3).toNat).toInt)] (S := []) (pc := 319) (tb_at tkL_law_2 39 rfl) rfl ly_0 rfl rfl clL_28 (Nat.le_of_ble_eq_true rfl) (Nat.le_refl _) (Nat.le_refl _) ?_
  refine Cal.mono h ?_
  rintro _ _ M1 ⟨x2, rfl, rfl, h⟩
  show Ok G miL_law (d + 1) 97 11937 (QI K) 322 [some (.inr (.inr (some 1001))), some (.inr (.inr (some 0))), some (.inr (.inr (some 66))), some (.inl v3)] [.inl x2] lay0 M1 97 11937
  refine r_aload_n (pc := 322) (tb_at tkL_law_3 0 rfl) rfl rfl ?_
  refine r_aload_n (pc := 323) (tb_at tkL_law_3 1 rfl) rfl rfl ?_
  refine r_iload_n (pc := 324) (tb_at tkL_law_3 2 rfl) rfl rfl ?_
  refine r_iconst (pc := 325) (tb_at tkL_law_3 3 rfl) ⟨by decide, by decide⟩ ?_
  refine r_iadd (pc := 326) (tb_at tkL_law_3 4 rfl) ?_
  refine r_iald_scr_w (pc := 327) (tb_at tkL_law_3 5 rfl) hGN h.1.1 h.1.2 ?_
  replace h := h.2
  refine r_aload_n (pc := 328) (tb_at tkL_law_3 6 rfl) rfl rfl ?_
  refine r_iload_n (pc := 329) (tb_at tkL_law_3 7 rfl) rfl rfl ?_
  refine r_iconst (pc := 330) (tb_at tkL_law_3 8 rfl) ⟨by decide, by decide⟩ ?_
  refine r_iadd (pc := 331) (tb_at tkL_law_3 9 rfl) ?_
  refine r_iald_scr_w (pc := 332) (tb_at tkL_law_3 10 rfl) hGN h.1.1 h.1.2 ?_
  replace h := h.2
  refine r_aload_n (pc := 333) (tb_at tkL_law_3 11 rfl) rfl rfl ?_
  refine r_iload_n (pc := 334) (tb_at tkL_law_3 12 rfl) rfl rfl ?_
  refine r_iconst (pc := 335) (tb_at tkL_law_3 13 rfl) ⟨by decide, by decide⟩ ?_
  refine r_iadd (pc := 336) (tb_at tkL_law_3 14 rfl) ?_
  refine r_iald_scr_w (pc := 337) (tb_at tkL_law_3 15 rfl) hGN h.1.1 h.1.2 ?_
  replace h := h.2
  refine r_invV (mc' := 0) (ms' := 0) [.inl ((G.2.2.2.2.2 (v3 + 1).toNat).toInt), .inl ((G.2.2.2.2.2 (v3 + 2).toNat).toInt), .inl ((G.2.2.2.2.2 (v3 + 3).toNat).toInt)] (S := [.inl x2]) (pc := 338) (tb_at tkL_law_3 16 rfl) rfl ly_66 rfl rfl clL_32 (Nat.le_of_ble_eq_true rfl) (Nat.le_refl _) (Nat.le_refl _) ?_
  refine Cal.mono h ?_
  rintro _ _ M3 ⟨x4, rfl, rfl, h⟩
  show Ok G miL_law (d + 1) 97 11937 (QI K) 341 [some (.inr (.inr (some 1001))), some (.inr (.inr (some 0))), some (.inr (.inr (some 66))), some (.inl v3)] [.inl x4, .inl x2] lay0 M3 97 11937
  refine q_icmp_eq (tgt := 1588) (pc := 341) (tb_at tkL_law_3 17 rfl) (by decide) (fun c => ?_) (fun c => ?_)
  · replace h := h.1 c
    refine r_iinc (L' := [some (.inr (.inr (some 1001))), some (.inr (.inr (some 0))), some (.inr (.inr (some 66))), some (.inl (w32 (v3 + 7)))]) (pc := 1588) (tb_at tkL_law_29 4 rfl) rfl (by decide) rfl ?_
    refine r_goto (tgt := 18) (pc := 1591) (tb_at tkL_law_29 5 rfl) (by decide) ?_
    exact h
  · replace h := h.2 c
    refine r_iconst (pc := 344) (tb_at tkL_law_3 18 rfl) ⟨by decide, by decide⟩ ?_
    exact r_zret (pc := 345) (tb_at tkL_law_3 19 rfl) rfl (by decide) (Nat.le_refl _) (Nat.le_refl _) ⟨_, rfl, rfl, h⟩
set_option maxRecDepth 100000 in
set_option maxHeartbeats 4000000 in
theorem gL_law_346 {G : GE} {d : Nat} {K : Int → Mem → Prop} {M : Mem} {v3 : Int} (hGL : G.2.2.2.2.1 < 2147483648) (hGN : G.2.2.2.2.1 ≤ 2147483647) (h : (0 ≤ v3 + 1 ∧ v3 + 1 < (G.2.2.2.2.1 : Int)) ∧ (0 ≤ v3 + 2 ∧ v3 + 2 < (G.2.2.2.2.1 : Int)) ∧ (0 ≤ v3 + 3 ∧ v3 + 3 < (G.2.2.2.2.1 : Int)) ∧ CalI G miX10_kind d [.inr (.inr (some 0)), .inl ((G.2.2.2.2.2 (v3 + 1).toNat).toInt), .inl ((G.2.2.2.2.2 (v3 + 2).toNat).toInt), .inl ((G.2.2.2.2.2 (v3 + 3).toNat).toInt)] M (fun x2 M1 => (0 ≤ v3 + 1 ∧ v3 + 1 < (G.2.2.2.2.1 : Int)) ∧ (0 ≤ v3 + 2 ∧ v3 + 2 < (G.2.2.2.2.1 : Int)) ∧ (0 ≤ v3 + 3 ∧ v3 + 3 < (G.2.2.2.2.1 : Int)) ∧ CalI G miX11_kind d [.inr (.inr (some 66)), .inl ((G.2.2.2.2.2 (v3 + 1).toNat).toInt), .inl ((G.2.2.2.2.2 (v3 + 2).toNat).toInt), .inl ((G.2.2.2.2.2 (v3 + 3).toNat).toInt)] M1 (fun x4 M3 => ((x2 = x4 → Ok G miL_law (d + 1) 97 11937 (QI K) 18 [some (.inr (.inr (some 1001))), some (.inr (.inr (some 0))), some (.inr (.inr (some 66))), some (.inl (w32 (v3 + 7)))] [] lay0 M3 97 11937) ∧ (¬ x2 = x4 → K 0 M3))))) : Ok G miL_law (d + 1) 97 11937 (QI K) 346 [some (.inr (.inr (some 1001))), some (.inr (.inr (some 0))), some (.inr (.inr (some 66))), some (.inl v3)] [] lay0 M 97 11937 := by
  refine r_aload_n (pc := 346) (tb_at tkL_law_3 20 rfl) rfl rfl ?_
  refine r_aload_n (pc := 347) (tb_at tkL_law_3 21 rfl) rfl rfl ?_
  refine r_iload_n (pc := 348) (tb_at tkL_law_3 22 rfl) rfl rfl ?_
  refine r_iconst (pc := 349) (tb_at tkL_law_3 23 rfl) ⟨by decide, by decide⟩ ?_
  refine r_iadd (pc := 350) (tb_at tkL_law_3 24 rfl) ?_
  refine r_iald_scr_w (pc := 351) (tb_at tkL_law_3 25 rfl) hGN h.1.1 h.1.2 ?_
  replace h := h.2
  refine r_aload_n (pc := 352) (tb_at tkL_law_3 26 rfl) rfl rfl ?_
  refine r_iload_n (pc := 353) (tb_at tkL_law_3 27 rfl) rfl rfl ?_
  refine r_iconst (pc := 354) (tb_at tkL_law_3 28 rfl) ⟨by decide, by decide⟩ ?_
  refine r_iadd (pc := 355) (tb_at tkL_law_3 29 rfl) ?_
  refine r_iald_scr_w (pc := 356) (tb_at tkL_law_3 30 rfl) hGN h.1.1 h.1.2 ?_
  replace h := h.2
  refine r_aload_n (pc := 357) (tb_at tkL_law_3 31 rfl) rfl rfl ?_
  refine r_iload_n (pc := 358) (tb_at tkL_law_3 32 rfl) rfl rfl ?_
  refine r_iconst (pc := 359) (tb_at tkL_law_3 33 rfl) ⟨by decide, by decide⟩ ?_
  refine r_iadd (pc := 360) (tb_at tkL_law_3 34 rfl) ?_
  refine r_iald_scr_w (pc := 361) (tb_at tkL_law_3 35 rfl) hGN h.1.1 h.1.2 ?_
  replace h := h.2
  refine r_invV (mc' := 0) (ms' := 0) [.inl ((G.2.2.2.2.2 (v3 + 1).toNat).toInt), .inl ((G.2.2.2.2.2 (v3 + 2).toNat).toInt), .inl ((G.2.2.2.2.2 (v3 + 3).toNat).toInt)] (S := []) (pc := 362) (tb_at tkL_law_3 36 rfl) rfl ly_0 rfl rfl clL_33 (Nat.le_of_ble_eq_true rfl) (Nat.le_refl _) (Nat.le_refl _) ?_
  refine Cal.mono h ?_
  rintro _ _ M1 ⟨x2, rfl, rfl, h⟩
  show Ok G miL_law (d + 1) 97 11937 (QI K) 365 [some (.inr (.inr (some 1001))), some (.inr (.inr (some 0))), some (.inr (.inr (some 66))), some (.inl v3)] [.inl x2] lay0 M1 97 11937
  refine r_aload_n (pc := 365) (tb_at tkL_law_3 37 rfl) rfl rfl ?_
  refine r_aload_n (pc := 366) (tb_at tkL_law_3 38 rfl) rfl rfl ?_
  refine r_iload_n (pc := 367) (tb_at tkL_law_3 39 rfl) rfl rfl ?_
  refine r_iconst (pc := 368) (tb_at tkL_law_4 0 rfl) ⟨by decide, by decide⟩ ?_
  refine r_iadd (pc := 369) (tb_at tkL_law_4 1 rfl) ?_
  refine r_iald_scr_w (pc := 370) (tb_at tkL_law_4 2 rfl) hGN h.1.1 h.1.2 ?_
  replace h := h.2
  refine r_aload_n (pc := 371) (tb_at tkL_law_4 3 rfl) rfl rfl ?_
  refine r_iload_n (pc := 372) (tb_at tkL_law_4 4 rfl) rfl rfl ?_
  refine r_iconst (pc := 373) (tb_at tkL_law_4 5 rfl) ⟨by decide, by decide⟩ ?_
  refine r_iadd (pc := 374) (tb_at tkL_law_4 6 rfl) ?_
  refine r_iald_scr_w (pc := 375) (tb_at tkL_law_4 7 rfl) hGN h.1.1 h.1.2 ?_
  replace h := h.2
  refine r_aload_n (pc := 376) (tb_at tkL_law_4 8 rfl) rfl rfl ?_
  refine r_iload_n (pc := 377) (tb_at tkL_law_4 9 rfl) rfl rfl ?_
  refine r_iconst (pc := 378) (tb_at tkL_law_4 10 rfl) ⟨by decide, by decide⟩ ?_
  refine r_iadd (pc := 379) (tb_at tkL_law_4 11 rfl) ?_
  refine r_iald_scr_w (pc := 380) (tb_at tkL_law_4 12 rfl) hGN h.1.1 h.1.2 ?_
  replace h := h.2
  refine r_invV (mc' := 0) (ms' := 0) [.inl ((G.2.2.2.2.2 (v3 + 1).toNat).toInt), .inl ((G.2.2.2.2.2 (v3 + 2).toNat).toInt), .inl ((G.2.2.2.2.2 (v3 + 3).toNat).toInt)] (S := [.inl x2]) (pc := 381) (tb_at tkL_law_4 13 rfl) rfl ly_66 rfl rfl clL_36 (Nat.le_of_ble_eq_true rfl) (Nat.le_refl _) (Nat.le_refl _) ?_
  refine Cal.mono h ?_
  rintro _ _ M3 ⟨x4, rfl, rfl, h⟩
  show Ok G miL_law (d + 1) 97 11937 (QI K) 384 [some (.inr (.inr (some 1001))), some (.inr (.inr (some 0))), some (.inr (.inr (some 66))), some (.inl v3)] [.inl x4, .inl x2] lay0 M3 97 11937
  refine q_icmp_eq (tgt := 1588) (pc := 384) (tb_at tkL_law_4 14 rfl) (by decide) (fun c => ?_) (fun c => ?_)
  · replace h := h.1 c
    refine r_iinc (L' := [some (.inr (.inr (some 1001))), some (.inr (.inr (some 0))), some (.inr (.inr (some 66))), some (.inl (w32 (v3 + 7)))]) (pc := 1588) (tb_at tkL_law_29 4 rfl) rfl (by decide) rfl ?_
    refine r_goto (tgt := 18) (pc := 1591) (tb_at tkL_law_29 5 rfl) (by decide) ?_
    exact h
  · replace h := h.2 c
    refine r_iconst (pc := 387) (tb_at tkL_law_4 15 rfl) ⟨by decide, by decide⟩ ?_
    exact r_zret (pc := 388) (tb_at tkL_law_4 16 rfl) rfl (by decide) (Nat.le_refl _) (Nat.le_refl _) ⟨_, rfl, rfl, h⟩
set_option maxRecDepth 100000 in
set_option maxHeartbeats 4000000 in
theorem gL_law_389 {G : GE} {d : Nat} {K : Int → Mem → Prop} {M : Mem} {v3 : Int} (hGL : G.2.2.2.2.1 < 2147483648) (hGN : G.2.2.2.2.1 ≤ 2147483647) (h : (0 ≤ v3 + 1 ∧ v3 + 1 < (G.2.2.2.2.1 : Int)) ∧ (0 ≤ v3 + 2 ∧ v3 + 2 < (G.2.2.2.2.1 : Int)) ∧ CalI G miX10_told d [.inr (.inr (some 0)), .inl ((G.2.2.2.2.2 (v3 + 1).toNat).toInt), .inl ((G.2.2.2.2.2 (v3 + 2).toNat).toInt)] M (fun x2 M1 => (0 ≤ v3 + 1 ∧ v3 + 1 < (G.2.2.2.2.1 : Int)) ∧ (0 ≤ v3 + 2 ∧ v3 + 2 < (G.2.2.2.2.1 : Int)) ∧ CalI G miX11_told d [.inr (.inr (some 66)), .inl ((G.2.2.2.2.2 (v3 + 1).toNat).toInt), .inl ((G.2.2.2.2.2 (v3 + 2).toNat).toInt)] M1 (fun x4 M3 => ((x2 = x4 → Ok G miL_law (d + 1) 97 11937 (QI K) 18 [some (.inr (.inr (some 1001))), some (.inr (.inr (some 0))), some (.inr (.inr (some 66))), some (.inl (w32 (v3 + 7)))] [] lay0 M3 97 11937) ∧ (¬ x2 = x4 → K 0 M3))))) : Ok G miL_law (d + 1) 97 11937 (QI K) 389 [some (.inr (.inr (some 1001))), some (.inr (.inr (some 0))), some (.inr (.inr (some 66))), some (.inl v3)] [] lay0 M 97 11937 := by
  refine r_aload_n (pc := 389) (tb_at tkL_law_4 17 rfl) rfl rfl ?_
  refine r_aload_n (pc := 390) (tb_at tkL_law_4 18 rfl) rfl rfl ?_
  refine r_iload_n (pc := 391) (tb_at tkL_law_4 19 rfl) rfl rfl ?_
  refine r_iconst (pc := 392) (tb_at tkL_law_4 20 rfl) ⟨by decide, by decide⟩ ?_
  refine r_iadd (pc := 393) (tb_at tkL_law_4 21 rfl) ?_
  refine r_iald_scr_w (pc := 394) (tb_at tkL_law_4 22 rfl) hGN h.1.1 h.1.2 ?_
  replace h := h.2
  refine r_aload_n (pc := 395) (tb_at tkL_law_4 23 rfl) rfl rfl ?_
  refine r_iload_n (pc := 396) (tb_at tkL_law_4 24 rfl) rfl rfl ?_
  refine r_iconst (pc := 397) (tb_at tkL_law_4 25 rfl) ⟨by decide, by decide⟩ ?_
  refine r_iadd (pc := 398) (tb_at tkL_law_4 26 rfl) ?_
  refine r_iald_scr_w (pc := 399) (tb_at tkL_law_4 27 rfl) hGN h.1.1 h.1.2 ?_
  replace h := h.2
  refine r_invV (mc' := 0) (ms' := 0) [.inl ((G.2.2.2.2.2 (v3 + 1).toNat).toInt), .inl ((G.2.2.2.2.2 (v3 + 2).toNat).toInt)] (S := []) (pc := 400) (tb_at tkL_law_4 28 rfl) rfl ly_0 rfl rfl clL_37 (Nat.le_of_ble_eq_true rfl) (Nat.le_refl _) (Nat.le_refl _) ?_
  refine Cal.mono h ?_
  rintro _ _ M1 ⟨x2, rfl, rfl, h⟩
  show Ok G miL_law (d + 1) 97 11937 (QI K) 403 [some (.inr (.inr (some 1001))), some (.inr (.inr (some 0))), some (.inr (.inr (some 66))), some (.inl v3)] [.inl x2] lay0 M1 97 11937
  refine r_aload_n (pc := 403) (tb_at tkL_law_4 29 rfl) rfl rfl ?_
  refine r_aload_n (pc := 404) (tb_at tkL_law_4 30 rfl) rfl rfl ?_
  refine r_iload_n (pc := 405) (tb_at tkL_law_4 31 rfl) rfl rfl ?_
  refine r_iconst (pc := 406) (tb_at tkL_law_4 32 rfl) ⟨by decide, by decide⟩ ?_
  refine r_iadd (pc := 407) (tb_at tkL_law_4 33 rfl) ?_
  refine r_iald_scr_w (pc := 408) (tb_at tkL_law_4 34 rfl) hGN h.1.1 h.1.2 ?_
  replace h := h.2
  refine r_aload_n (pc := 409) (tb_at tkL_law_4 35 rfl) rfl rfl ?_
  refine r_iload_n (pc := 410) (tb_at tkL_law_4 36 rfl) rfl rfl ?_
  refine r_iconst (pc := 411) (tb_at tkL_law_4 37 rfl) ⟨by decide, by decide⟩ ?_
  refine r_iadd (pc := 412) (tb_at tkL_law_4 38 rfl) ?_
  refine r_iald_scr_w (pc := 413) (tb_at tkL_law_4 39 rfl) hGN h.1.1 h.1.2 ?_
  replace h := h.2
  refine r_invV (mc' := 0) (ms' := 0) [.inl ((G.2.2.2.2.2 (v3 + 1).toNat).toInt), .inl ((G.2.2.2.2.2 (v3 + 2).toNat).toInt)] (S := [.inl x2]) (pc := 414) (tb_at tkL_law_5 0 rfl) rfl ly_66 rfl rfl clL_40 (Nat.le_of_ble_eq_true rfl) (Nat.le_refl _) (Nat.le_refl _) ?_
  refine Cal.mono h ?_
  rintro _ _ M3 ⟨x4, rfl, rfl, h⟩
  show Ok G miL_law (d + 1) 97 11937 (QI K) 417 [some (.inr (.inr (some 1001))), some (.inr (.inr (some 0))), some (.inr (.inr (some 66))), some (.inl v3)] [.inl x4, .inl x2] lay0 M3 97 11937
  refine q_icmp_eq (tgt := 1588) (pc := 417) (tb_at tkL_law_5 1 rfl) (by decide) (fun c => ?_) (fun c => ?_)
  · replace h := h.1 c
    refine r_iinc (L' := [some (.inr (.inr (some 1001))), some (.inr (.inr (some 0))), some (.inr (.inr (some 66))), some (.inl (w32 (v3 + 7)))]) (pc := 1588) (tb_at tkL_law_29 4 rfl) rfl (by decide) rfl ?_
    refine r_goto (tgt := 18) (pc := 1591) (tb_at tkL_law_29 5 rfl) (by decide) ?_
    exact h
  · replace h := h.2 c
    refine r_iconst (pc := 420) (tb_at tkL_law_5 2 rfl) ⟨by decide, by decide⟩ ?_
    exact r_zret (pc := 421) (tb_at tkL_law_5 3 rfl) rfl (by decide) (Nat.le_refl _) (Nat.le_refl _) ⟨_, rfl, rfl, h⟩
set_option maxRecDepth 100000 in
set_option maxHeartbeats 4000000 in
theorem gL_law_422 {G : GE} {d : Nat} {K : Int → Mem → Prop} {M : Mem} {v3 : Int} (hGL : G.2.2.2.2.1 < 2147483648) (hGN : G.2.2.2.2.1 ≤ 2147483647) (h : (0 ≤ v3 + 1 ∧ v3 + 1 < (G.2.2.2.2.1 : Int)) ∧ (0 ≤ v3 + 2 ∧ v3 + 2 < (G.2.2.2.2.1 : Int)) ∧ CalI G miX10_taken d [.inr (.inr (some 0)), .inl ((G.2.2.2.2.2 (v3 + 1).toNat).toInt), .inl ((G.2.2.2.2.2 (v3 + 2).toNat).toInt)] M (fun x2 M1 => (0 ≤ v3 + 1 ∧ v3 + 1 < (G.2.2.2.2.1 : Int)) ∧ (0 ≤ v3 + 2 ∧ v3 + 2 < (G.2.2.2.2.1 : Int)) ∧ CalI G miX11_taken d [.inr (.inr (some 66)), .inl ((G.2.2.2.2.2 (v3 + 1).toNat).toInt), .inl ((G.2.2.2.2.2 (v3 + 2).toNat).toInt)] M1 (fun x4 M3 => ((x2 = x4 → Ok G miL_law (d + 1) 97 11937 (QI K) 18 [some (.inr (.inr (some 1001))), some (.inr (.inr (some 0))), some (.inr (.inr (some 66))), some (.inl (w32 (v3 + 7)))] [] lay0 M3 97 11937) ∧ (¬ x2 = x4 → K 0 M3))))) : Ok G miL_law (d + 1) 97 11937 (QI K) 422 [some (.inr (.inr (some 1001))), some (.inr (.inr (some 0))), some (.inr (.inr (some 66))), some (.inl v3)] [] lay0 M 97 11937 := by
  refine r_aload_n (pc := 422) (tb_at tkL_law_5 4 rfl) rfl rfl ?_
  refine r_aload_n (pc := 423) (tb_at tkL_law_5 5 rfl) rfl rfl ?_
  refine r_iload_n (pc := 424) (tb_at tkL_law_5 6 rfl) rfl rfl ?_
  refine r_iconst (pc := 425) (tb_at tkL_law_5 7 rfl) ⟨by decide, by decide⟩ ?_
  refine r_iadd (pc := 426) (tb_at tkL_law_5 8 rfl) ?_
  refine r_iald_scr_w (pc := 427) (tb_at tkL_law_5 9 rfl) hGN h.1.1 h.1.2 ?_
  replace h := h.2
  refine r_aload_n (pc := 428) (tb_at tkL_law_5 10 rfl) rfl rfl ?_
  refine r_iload_n (pc := 429) (tb_at tkL_law_5 11 rfl) rfl rfl ?_
  refine r_iconst (pc := 430) (tb_at tkL_law_5 12 rfl) ⟨by decide, by decide⟩ ?_
  refine r_iadd (pc := 431) (tb_at tkL_law_5 13 rfl) ?_
  refine r_iald_scr_w (pc := 432) (tb_at tkL_law_5 14 rfl) hGN h.1.1 h.1.2 ?_
  replace h := h.2
  refine r_invV (mc' := 0) (ms' := 0) [.inl ((G.2.2.2.2.2 (v3 + 1).toNat).toInt), .inl ((G.2.2.2.2.2 (v3 + 2).toNat).toInt)] (S := []) (pc := 433) (tb_at tkL_law_5 15 rfl) rfl ly_0 rfl rfl clL_41 (Nat.le_of_ble_eq_true rfl) (Nat.le_refl _) (Nat.le_refl _) ?_
  refine Cal.mono h ?_
  rintro _ _ M1 ⟨x2, rfl, rfl, h⟩
  show Ok G miL_law (d + 1) 97 11937 (QI K) 436 [some (.inr (.inr (some 1001))), some (.inr (.inr (some 0))), some (.inr (.inr (some 66))), some (.inl v3)] [.inl x2] lay0 M1 97 11937
  refine r_aload_n (pc := 436) (tb_at tkL_law_5 16 rfl) rfl rfl ?_
  refine r_aload_n (pc := 437) (tb_at tkL_law_5 17 rfl) rfl rfl ?_
  refine r_iload_n (pc := 438) (tb_at tkL_law_5 18 rfl) rfl rfl ?_
  refine r_iconst (pc := 439) (tb_at tkL_law_5 19 rfl) ⟨by decide, by decide⟩ ?_
  refine r_iadd (pc := 440) (tb_at tkL_law_5 20 rfl) ?_
  refine r_iald_scr_w (pc := 441) (tb_at tkL_law_5 21 rfl) hGN h.1.1 h.1.2 ?_
  replace h := h.2
  refine r_aload_n (pc := 442) (tb_at tkL_law_5 22 rfl) rfl rfl ?_
  refine r_iload_n (pc := 443) (tb_at tkL_law_5 23 rfl) rfl rfl ?_
  refine r_iconst (pc := 444) (tb_at tkL_law_5 24 rfl) ⟨by decide, by decide⟩ ?_
  refine r_iadd (pc := 445) (tb_at tkL_law_5 25 rfl) ?_
  refine r_iald_scr_w (pc := 446) (tb_at tkL_law_5 26 rfl) hGN h.1.1 h.1.2 ?_
  replace h := h.2
  refine r_invV (mc' := 0) (ms' := 0) [.inl ((G.2.2.2.2.2 (v3 + 1).toNat).toInt), .inl ((G.2.2.2.2.2 (v3 + 2).toNat).toInt)] (S := [.inl x2]) (pc := 447) (tb_at tkL_law_5 27 rfl) rfl ly_66 rfl rfl clL_44 (Nat.le_of_ble_eq_true rfl) (Nat.le_refl _) (Nat.le_refl _) ?_
  refine Cal.mono h ?_
  rintro _ _ M3 ⟨x4, rfl, rfl, h⟩
  show Ok G miL_law (d + 1) 97 11937 (QI K) 450 [some (.inr (.inr (some 1001))), some (.inr (.inr (some 0))), some (.inr (.inr (some 66))), some (.inl v3)] [.inl x4, .inl x2] lay0 M3 97 11937
  refine q_icmp_eq (tgt := 1588) (pc := 450) (tb_at tkL_law_5 28 rfl) (by decide) (fun c => ?_) (fun c => ?_)
  · replace h := h.1 c
    refine r_iinc (L' := [some (.inr (.inr (some 1001))), some (.inr (.inr (some 0))), some (.inr (.inr (some 66))), some (.inl (w32 (v3 + 7)))]) (pc := 1588) (tb_at tkL_law_29 4 rfl) rfl (by decide) rfl ?_
    refine r_goto (tgt := 18) (pc := 1591) (tb_at tkL_law_29 5 rfl) (by decide) ?_
    exact h
  · replace h := h.2 c
    refine r_iconst (pc := 453) (tb_at tkL_law_5 29 rfl) ⟨by decide, by decide⟩ ?_
    exact r_zret (pc := 454) (tb_at tkL_law_5 30 rfl) rfl (by decide) (Nat.le_refl _) (Nat.le_refl _) ⟨_, rfl, rfl, h⟩
set_option maxRecDepth 100000 in
set_option maxHeartbeats 4000000 in
theorem gL_law_455 {G : GE} {d : Nat} {K : Int → Mem → Prop} {M : Mem} {v3 : Int} (hGL : G.2.2.2.2.1 < 2147483648) (hGN : G.2.2.2.2.1 ≤ 2147483647) (h : (0 ≤ v3 + 1 ∧ v3 + 1 < (G.2.2.2.2.1 : Int)) ∧ CalI G miX10_base d [.inr (.inr (some 0)), .inl ((G.2.2.2.2.2 (v3 + 1).toNat).toInt)] M (fun x2 M1 => (0 ≤ v3 + 1 ∧ v3 + 1 < (G.2.2.2.2.1 : Int)) ∧ CalI G miX11_base d [.inr (.inr (some 66)), .inl ((G.2.2.2.2.2 (v3 + 1).toNat).toInt)] M1 (fun x4 M3 => ((x2 = x4 → Ok G miL_law (d + 1) 97 11937 (QI K) 18 [some (.inr (.inr (some 1001))), some (.inr (.inr (some 0))), some (.inr (.inr (some 66))), some (.inl (w32 (v3 + 7)))] [] lay0 M3 97 11937) ∧ (¬ x2 = x4 → K 0 M3))))) : Ok G miL_law (d + 1) 97 11937 (QI K) 455 [some (.inr (.inr (some 1001))), some (.inr (.inr (some 0))), some (.inr (.inr (some 66))), some (.inl v3)] [] lay0 M 97 11937 := by
  refine r_aload_n (pc := 455) (tb_at tkL_law_5 31 rfl) rfl rfl ?_
  refine r_aload_n (pc := 456) (tb_at tkL_law_5 32 rfl) rfl rfl ?_
  refine r_iload_n (pc := 457) (tb_at tkL_law_5 33 rfl) rfl rfl ?_
  refine r_iconst (pc := 458) (tb_at tkL_law_5 34 rfl) ⟨by decide, by decide⟩ ?_
  refine r_iadd (pc := 459) (tb_at tkL_law_5 35 rfl) ?_
  refine r_iald_scr_w (pc := 460) (tb_at tkL_law_5 36 rfl) hGN h.1.1 h.1.2 ?_
  replace h := h.2
  refine r_invV (mc' := 0) (ms' := 0) [.inl ((G.2.2.2.2.2 (v3 + 1).toNat).toInt)] (S := []) (pc := 461) (tb_at tkL_law_5 37 rfl) rfl ly_0 rfl rfl clL_45 (Nat.le_of_ble_eq_true rfl) (Nat.le_refl _) (Nat.le_refl _) ?_
  refine Cal.mono h ?_
  rintro _ _ M1 ⟨x2, rfl, rfl, h⟩
  show Ok G miL_law (d + 1) 97 11937 (QI K) 464 [some (.inr (.inr (some 1001))), some (.inr (.inr (some 0))), some (.inr (.inr (some 66))), some (.inl v3)] [.inl x2] lay0 M1 97 11937
  refine r_aload_n (pc := 464) (tb_at tkL_law_5 38 rfl) rfl rfl ?_
  refine r_aload_n (pc := 465) (tb_at tkL_law_5 39 rfl) rfl rfl ?_
  refine r_iload_n (pc := 466) (tb_at tkL_law_6 0 rfl) rfl rfl ?_
  refine r_iconst (pc := 467) (tb_at tkL_law_6 1 rfl) ⟨by decide, by decide⟩ ?_
  refine r_iadd (pc := 468) (tb_at tkL_law_6 2 rfl) ?_
  refine r_iald_scr_w (pc := 469) (tb_at tkL_law_6 3 rfl) hGN h.1.1 h.1.2 ?_
  replace h := h.2
  refine r_invV (mc' := 0) (ms' := 0) [.inl ((G.2.2.2.2.2 (v3 + 1).toNat).toInt)] (S := [.inl x2]) (pc := 470) (tb_at tkL_law_6 4 rfl) rfl ly_66 rfl rfl clL_49 (Nat.le_of_ble_eq_true rfl) (Nat.le_refl _) (Nat.le_refl _) ?_
  refine Cal.mono h ?_
  rintro _ _ M3 ⟨x4, rfl, rfl, h⟩
  show Ok G miL_law (d + 1) 97 11937 (QI K) 473 [some (.inr (.inr (some 1001))), some (.inr (.inr (some 0))), some (.inr (.inr (some 66))), some (.inl v3)] [.inl x4, .inl x2] lay0 M3 97 11937
  refine q_icmp_eq (tgt := 1588) (pc := 473) (tb_at tkL_law_6 5 rfl) (by decide) (fun c => ?_) (fun c => ?_)
  · replace h := h.1 c
    refine r_iinc (L' := [some (.inr (.inr (some 1001))), some (.inr (.inr (some 0))), some (.inr (.inr (some 66))), some (.inl (w32 (v3 + 7)))]) (pc := 1588) (tb_at tkL_law_29 4 rfl) rfl (by decide) rfl ?_
    refine r_goto (tgt := 18) (pc := 1591) (tb_at tkL_law_29 5 rfl) (by decide) ?_
    exact h
  · replace h := h.2 c
    refine r_iconst (pc := 476) (tb_at tkL_law_6 6 rfl) ⟨by decide, by decide⟩ ?_
    exact r_zret (pc := 477) (tb_at tkL_law_6 7 rfl) rfl (by decide) (Nat.le_refl _) (Nat.le_refl _) ⟨_, rfl, rfl, h⟩
set_option maxRecDepth 100000 in
set_option maxHeartbeats 4000000 in
theorem gL_law_478 {G : GE} {d : Nat} {K : Int → Mem → Prop} {M : Mem} {v3 : Int} (hGL : G.2.2.2.2.1 < 2147483648) (hGN : G.2.2.2.2.1 ≤ 2147483647) (h : (0 ≤ v3 + 1 ∧ v3 + 1 < (G.2.2.2.2.1 : Int)) ∧ (0 ≤ v3 + 2 ∧ v3 + 2 < (G.2.2.2.2.1 : Int)) ∧ CalI G miX10_fee d [.inr (.inr (some 0)), .inl ((G.2.2.2.2.2 (v3 + 1).toNat).toInt), .inl ((G.2.2.2.2.2 (v3 + 2).toNat).toInt)] M (fun x2 M1 => (0 ≤ v3 + 1 ∧ v3 + 1 < (G.2.2.2.2.1 : Int)) ∧ (0 ≤ v3 + 2 ∧ v3 + 2 < (G.2.2.2.2.1 : Int)) ∧ CalI G miX11_fee d [.inr (.inr (some 66)), .inl ((G.2.2.2.2.2 (v3 + 1).toNat).toInt), .inl ((G.2.2.2.2.2 (v3 + 2).toNat).toInt)] M1 (fun x4 M3 => ((x2 = x4 → Ok G miL_law (d + 1) 97 11937 (QI K) 18 [some (.inr (.inr (some 1001))), some (.inr (.inr (some 0))), some (.inr (.inr (some 66))), some (.inl (w32 (v3 + 7)))] [] lay0 M3 97 11937) ∧ (¬ x2 = x4 → K 0 M3))))) : Ok G miL_law (d + 1) 97 11937 (QI K) 478 [some (.inr (.inr (some 1001))), some (.inr (.inr (some 0))), some (.inr (.inr (some 66))), some (.inl v3)] [] lay0 M 97 11937 := by
  refine r_aload_n (pc := 478) (tb_at tkL_law_6 8 rfl) rfl rfl ?_
  refine r_aload_n (pc := 479) (tb_at tkL_law_6 9 rfl) rfl rfl ?_
  refine r_iload_n (pc := 480) (tb_at tkL_law_6 10 rfl) rfl rfl ?_
  refine r_iconst (pc := 481) (tb_at tkL_law_6 11 rfl) ⟨by decide, by decide⟩ ?_
  refine r_iadd (pc := 482) (tb_at tkL_law_6 12 rfl) ?_
  refine r_iald_scr_w (pc := 483) (tb_at tkL_law_6 13 rfl) hGN h.1.1 h.1.2 ?_
  replace h := h.2
  refine r_aload_n (pc := 484) (tb_at tkL_law_6 14 rfl) rfl rfl ?_
  refine r_iload_n (pc := 485) (tb_at tkL_law_6 15 rfl) rfl rfl ?_
  refine r_iconst (pc := 486) (tb_at tkL_law_6 16 rfl) ⟨by decide, by decide⟩ ?_
  refine r_iadd (pc := 487) (tb_at tkL_law_6 17 rfl) ?_
  refine r_iald_scr_w (pc := 488) (tb_at tkL_law_6 18 rfl) hGN h.1.1 h.1.2 ?_
  replace h := h.2
  refine r_invV (mc' := 0) (ms' := 0) [.inl ((G.2.2.2.2.2 (v3 + 1).toNat).toInt), .inl ((G.2.2.2.2.2 (v3 + 2).toNat).toInt)] (S := []) (pc := 489) (tb_at tkL_law_6 19 rfl) rfl ly_0 rfl rfl clL_50 (Nat.le_of_ble_eq_true rfl) (Nat.le_refl _) (Nat.le_refl _) ?_
  refine Cal.mono h ?_
  rintro _ _ M1 ⟨x2, rfl, rfl, h⟩
  show Ok G miL_law (d + 1) 97 11937 (QI K) 492 [some (.inr (.inr (some 1001))), some (.inr (.inr (some 0))), some (.inr (.inr (some 66))), some (.inl v3)] [.inl x2] lay0 M1 97 11937
  refine r_aload_n (pc := 492) (tb_at tkL_law_6 20 rfl) rfl rfl ?_
  refine r_aload_n (pc := 493) (tb_at tkL_law_6 21 rfl) rfl rfl ?_
  refine r_iload_n (pc := 494) (tb_at tkL_law_6 22 rfl) rfl rfl ?_
  refine r_iconst (pc := 495) (tb_at tkL_law_6 23 rfl) ⟨by decide, by decide⟩ ?_
  refine r_iadd (pc := 496) (tb_at tkL_law_6 24 rfl) ?_
  refine r_iald_scr_w (pc := 497) (tb_at tkL_law_6 25 rfl) hGN h.1.1 h.1.2 ?_
  replace h := h.2
  refine r_aload_n (pc := 498) (tb_at tkL_law_6 26 rfl) rfl rfl ?_
  refine r_iload_n (pc := 499) (tb_at tkL_law_6 27 rfl) rfl rfl ?_
  refine r_iconst (pc := 500) (tb_at tkL_law_6 28 rfl) ⟨by decide, by decide⟩ ?_
  refine r_iadd (pc := 501) (tb_at tkL_law_6 29 rfl) ?_
  refine r_iald_scr_w (pc := 502) (tb_at tkL_law_6 30 rfl) hGN h.1.1 h.1.2 ?_
  replace h := h.2
  refine r_invV (mc' := 0) (ms' := 0) [.inl ((G.2.2.2.2.2 (v3 + 1).toNat).toInt), .inl ((G.2.2.2.2.2 (v3 + 2).toNat).toInt)] (S := [.inl x2]) (pc := 503) (tb_at tkL_law_6 31 rfl) rfl ly_66 rfl rfl clL_53 (Nat.le_of_ble_eq_true rfl) (Nat.le_refl _) (Nat.le_refl _) ?_
  refine Cal.mono h ?_
  rintro _ _ M3 ⟨x4, rfl, rfl, h⟩
  show Ok G miL_law (d + 1) 97 11937 (QI K) 506 [some (.inr (.inr (some 1001))), some (.inr (.inr (some 0))), some (.inr (.inr (some 66))), some (.inl v3)] [.inl x4, .inl x2] lay0 M3 97 11937
  refine q_icmp_eq (tgt := 1588) (pc := 506) (tb_at tkL_law_6 32 rfl) (by decide) (fun c => ?_) (fun c => ?_)
  · replace h := h.1 c
    refine r_iinc (L' := [some (.inr (.inr (some 1001))), some (.inr (.inr (some 0))), some (.inr (.inr (some 66))), some (.inl (w32 (v3 + 7)))]) (pc := 1588) (tb_at tkL_law_29 4 rfl) rfl (by decide) rfl ?_
    refine r_goto (tgt := 18) (pc := 1591) (tb_at tkL_law_29 5 rfl) (by decide) ?_
    exact h
  · replace h := h.2 c
    refine r_iconst (pc := 509) (tb_at tkL_law_6 33 rfl) ⟨by decide, by decide⟩ ?_
    exact r_zret (pc := 510) (tb_at tkL_law_6 34 rfl) rfl (by decide) (Nat.le_refl _) (Nat.le_refl _) ⟨_, rfl, rfl, h⟩
set_option maxRecDepth 100000 in
set_option maxHeartbeats 4000000 in
theorem gL_law_511 {G : GE} {d : Nat} {K : Int → Mem → Prop} {M : Mem} {v3 : Int} (hGL : G.2.2.2.2.1 < 2147483648) (hGN : G.2.2.2.2.1 ≤ 2147483647) (h : (0 ≤ v3 + 1 ∧ v3 + 1 < (G.2.2.2.2.1 : Int)) ∧ (0 ≤ v3 + 2 ∧ v3 + 2 < (G.2.2.2.2.1 : Int)) ∧ (0 ≤ v3 + 3 ∧ v3 + 3 < (G.2.2.2.2.1 : Int)) ∧ CalI G miX10_mark d [.inr (.inr (some 0)), .inl ((G.2.2.2.2.2 (v3 + 1).toNat).toInt), .inl ((G.2.2.2.2.2 (v3 + 2).toNat).toInt), .inl ((G.2.2.2.2.2 (v3 + 3).toNat).toInt)] M (fun x2 M1 => (0 ≤ v3 + 1 ∧ v3 + 1 < (G.2.2.2.2.1 : Int)) ∧ (0 ≤ v3 + 2 ∧ v3 + 2 < (G.2.2.2.2.1 : Int)) ∧ (0 ≤ v3 + 3 ∧ v3 + 3 < (G.2.2.2.2.1 : Int)) ∧ CalI G miX11_mark d [.inr (.inr (some 66)), .inl ((G.2.2.2.2.2 (v3 + 1).toNat).toInt), .inl ((G.2.2.2.2.2 (v3 + 2).toNat).toInt), .inl ((G.2.2.2.2.2 (v3 + 3).toNat).toInt)] M1 (fun x4 M3 => ((x2 = x4 → Ok G miL_law (d + 1) 97 11937 (QI K) 18 [some (.inr (.inr (some 1001))), some (.inr (.inr (some 0))), some (.inr (.inr (some 66))), some (.inl (w32 (v3 + 7)))] [] lay0 M3 97 11937) ∧ (¬ x2 = x4 → K 0 M3))))) : Ok G miL_law (d + 1) 97 11937 (QI K) 511 [some (.inr (.inr (some 1001))), some (.inr (.inr (some 0))), some (.inr (.inr (some 66))), some (.inl v3)] [] lay0 M 97 11937 := by
  refine r_aload_n (pc := 511) (tb_at tkL_law_6 35 rfl) rfl rfl ?_
  refine r_aload_n (pc := 512) (tb_at tkL_law_6 36 rfl) rfl rfl ?_
  refine r_iload_n (pc := 513) (tb_at tkL_law_6 37 rfl) rfl rfl ?_
  refine r_iconst (pc := 514) (tb_at tkL_law_6 38 rfl) ⟨by decide, by decide⟩ ?_
  refine r_iadd (pc := 515) (tb_at tkL_law_6 39 rfl) ?_
  refine r_iald_scr_w (pc := 516) (tb_at tkL_law_7 0 rfl) hGN h.1.1 h.1.2 ?_
  replace h := h.2
  refine r_aload_n (pc := 517) (tb_at tkL_law_7 1 rfl) rfl rfl ?_
  refine r_iload_n (pc := 518) (tb_at tkL_law_7 2 rfl) rfl rfl ?_
  refine r_iconst (pc := 519) (tb_at tkL_law_7 3 rfl) ⟨by decide, by decide⟩ ?_
  refine r_iadd (pc := 520) (tb_at tkL_law_7 4 rfl) ?_
  refine r_iald_scr_w (pc := 521) (tb_at tkL_law_7 5 rfl) hGN h.1.1 h.1.2 ?_
  replace h := h.2
  refine r_aload_n (pc := 522) (tb_at tkL_law_7 6 rfl) rfl rfl ?_
  refine r_iload_n (pc := 523) (tb_at tkL_law_7 7 rfl) rfl rfl ?_
  refine r_iconst (pc := 524) (tb_at tkL_law_7 8 rfl) ⟨by decide, by decide⟩ ?_
  refine r_iadd (pc := 525) (tb_at tkL_law_7 9 rfl) ?_
  refine r_iald_scr_w (pc := 526) (tb_at tkL_law_7 10 rfl) hGN h.1.1 h.1.2 ?_
  replace h := h.2
  refine r_invV (mc' := 0) (ms' := 0) [.inl ((G.2.2.2.2.2 (v3 + 1).toNat).toInt), .inl ((G.2.2.2.2.2 (v3 + 2).toNat).toInt), .inl ((G.2.2.2.2.2 (v3 + 3).toNat).toInt)] (S := []) (pc := 527) (tb_at tkL_law_7 11 rfl) rfl ly_0 rfl rfl clL_54 (Nat.le_of_ble_eq_true rfl) (Nat.le_refl _) (Nat.le_refl _) ?_
  refine Cal.mono h ?_
  rintro _ _ M1 ⟨x2, rfl, rfl, h⟩
  show Ok G miL_law (d + 1) 97 11937 (QI K) 530 [some (.inr (.inr (some 1001))), some (.inr (.inr (some 0))), some (.inr (.inr (some 66))), some (.inl v3)] [.inl x2] lay0 M1 97 11937
  refine r_aload_n (pc := 530) (tb_at tkL_law_7 12 rfl) rfl rfl ?_
  refine r_aload_n (pc := 531) (tb_at tkL_law_7 13 rfl) rfl rfl ?_
  refine r_iload_n (pc := 532) (tb_at tkL_law_7 14 rfl) rfl rfl ?_
  refine r_iconst (pc := 533) (tb_at tkL_law_7 15 rfl) ⟨by decide, by decide⟩ ?_
  refine r_iadd (pc := 534) (tb_at tkL_law_7 16 rfl) ?_
  refine r_iald_scr_w (pc := 535) (tb_at tkL_law_7 17 rfl) hGN h.1.1 h.1.2 ?_
  replace h := h.2
  refine r_aload_n (pc := 536) (tb_at tkL_law_7 18 rfl) rfl rfl ?_
  refine r_iload_n (pc := 537) (tb_at tkL_law_7 19 rfl) rfl rfl ?_
  refine r_iconst (pc := 538) (tb_at tkL_law_7 20 rfl) ⟨by decide, by decide⟩ ?_
  refine r_iadd (pc := 539) (tb_at tkL_law_7 21 rfl) ?_
  refine r_iald_scr_w (pc := 540) (tb_at tkL_law_7 22 rfl) hGN h.1.1 h.1.2 ?_
  replace h := h.2
  refine r_aload_n (pc := 541) (tb_at tkL_law_7 23 rfl) rfl rfl ?_
  refine r_iload_n (pc := 542) (tb_at tkL_law_7 24 rfl) rfl rfl ?_
  refine r_iconst (pc := 543) (tb_at tkL_law_7 25 rfl) ⟨by decide, by decide⟩ ?_
  refine r_iadd (pc := 544) (tb_at tkL_law_7 26 rfl) ?_
  refine r_iald_scr_w (pc := 545) (tb_at tkL_law_7 27 rfl) hGN h.1.1 h.1.2 ?_
  replace h := h.2
  refine r_invV (mc' := 0) (ms' := 0) [.inl ((G.2.2.2.2.2 (v3 + 1).toNat).toInt), .inl ((G.2.2.2.2.2 (v3 + 2).toNat).toInt), .inl ((G.2.2.2.2.2 (v3 + 3).toNat).toInt)] (S := [.inl x2]) (pc := 546) (tb_at tkL_law_7 28 rfl) rfl ly_66 rfl rfl clL_57 (Nat.le_of_ble_eq_true rfl) (Nat.le_refl _) (Nat.le_refl _) ?_
  refine Cal.mono h ?_
  rintro _ _ M3 ⟨x4, rfl, rfl, h⟩
  show Ok G miL_law (d + 1) 97 11937 (QI K) 549 [some (.inr (.inr (some 1001))), some (.inr (.inr (some 0))), some (.inr (.inr (some 66))), some (.inl v3)] [.inl x4, .inl x2] lay0 M3 97 11937
  refine q_icmp_eq (tgt := 1588) (pc := 549) (tb_at tkL_law_7 29 rfl) (by decide) (fun c => ?_) (fun c => ?_)
  · replace h := h.1 c
    refine r_iinc (L' := [some (.inr (.inr (some 1001))), some (.inr (.inr (some 0))), some (.inr (.inr (some 66))), some (.inl (w32 (v3 + 7)))]) (pc := 1588) (tb_at tkL_law_29 4 rfl) rfl (by decide) rfl ?_
    refine r_goto (tgt := 18) (pc := 1591) (tb_at tkL_law_29 5 rfl) (by decide) ?_
    exact h
  · replace h := h.2 c
    refine r_iconst (pc := 552) (tb_at tkL_law_7 30 rfl) ⟨by decide, by decide⟩ ?_
    exact r_zret (pc := 553) (tb_at tkL_law_7 31 rfl) rfl (by decide) (Nat.le_refl _) (Nat.le_refl _) ⟨_, rfl, rfl, h⟩
set_option maxRecDepth 100000 in
set_option maxHeartbeats 4000000 in
theorem gL_law_554 {G : GE} {d : Nat} {K : Int → Mem → Prop} {M : Mem} {v3 : Int} (hGL : G.2.2.2.2.1 < 2147483648) (hGN : G.2.2.2.2.1 ≤ 2147483647) (h : (0 ≤ v3 + 1 ∧ v3 + 1 < (G.2.2.2.2.1 : Int)) ∧ (0 ≤ v3 + 2 ∧ v3 + 2 < (G.2.2.2.2.1 : Int)) ∧ CalI G miX10_follows d [.inr (.inr (some 0)), .inl ((G.2.2.2.2.2 (v3 + 1).toNat).toInt), .inl ((G.2.2.2.2.2 (v3 + 2).toNat).toInt)] M (fun x2 M1 => (0 ≤ v3 + 1 ∧ v3 + 1 < (G.2.2.2.2.1 : Int)) ∧ (0 ≤ v3 + 2 ∧ v3 + 2 < (G.2.2.2.2.1 : Int)) ∧ CalI G miX11_follows d [.inr (.inr (some 66)), .inl ((G.2.2.2.2.2 (v3 + 1).toNat).toInt), .inl ((G.2.2.2.2.2 (v3 + 2).toNat).toInt)] M1 (fun x4 M3 => ((x2 = x4 → Ok G miL_law (d + 1) 97 11937 (QI K) 18 [some (.inr (.inr (some 1001))), some (.inr (.inr (some 0))), some (.inr (.inr (some 66))), some (.inl (w32 (v3 + 7)))] [] lay0 M3 97 11937) ∧ (¬ x2 = x4 → K 0 M3))))) : Ok G miL_law (d + 1) 97 11937 (QI K) 554 [some (.inr (.inr (some 1001))), some (.inr (.inr (some 0))), some (.inr (.inr (some 66))), some (.inl v3)] [] lay0 M 97 11937 := by
  refine r_aload_n (pc := 554) (tb_at tkL_law_7 32 rfl) rfl rfl ?_
  refine r_aload_n (pc := 555) (tb_at tkL_law_7 33 rfl) rfl rfl ?_
  refine r_iload_n (pc := 556) (tb_at tkL_law_7 34 rfl) rfl rfl ?_
  refine r_iconst (pc := 557) (tb_at tkL_law_7 35 rfl) ⟨by decide, by decide⟩ ?_
  refine r_iadd (pc := 558) (tb_at tkL_law_7 36 rfl) ?_
  refine r_iald_scr_w (pc := 559) (tb_at tkL_law_7 37 rfl) hGN h.1.1 h.1.2 ?_
  replace h := h.2
  refine r_aload_n (pc := 560) (tb_at tkL_law_7 38 rfl) rfl rfl ?_
  refine r_iload_n (pc := 561) (tb_at tkL_law_7 39 rfl) rfl rfl ?_
  refine r_iconst (pc := 562) (tb_at tkL_law_8 0 rfl) ⟨by decide, by decide⟩ ?_
  refine r_iadd (pc := 563) (tb_at tkL_law_8 1 rfl) ?_
  refine r_iald_scr_w (pc := 564) (tb_at tkL_law_8 2 rfl) hGN h.1.1 h.1.2 ?_
  replace h := h.2
  refine r_invV (mc' := 0) (ms' := 0) [.inl ((G.2.2.2.2.2 (v3 + 1).toNat).toInt), .inl ((G.2.2.2.2.2 (v3 + 2).toNat).toInt)] (S := []) (pc := 565) (tb_at tkL_law_8 3 rfl) rfl ly_0 rfl rfl clL_58 (Nat.le_of_ble_eq_true rfl) (Nat.le_refl _) (Nat.le_refl _) ?_
  refine Cal.mono h ?_
  rintro _ _ M1 ⟨x2, rfl, rfl, h⟩
  show Ok G miL_law (d + 1) 97 11937 (QI K) 568 [some (.inr (.inr (some 1001))), some (.inr (.inr (some 0))), some (.inr (.inr (some 66))), some (.inl v3)] [.inl x2] lay0 M1 97 11937
  refine r_aload_n (pc := 568) (tb_at tkL_law_8 4 rfl) rfl rfl ?_
  refine r_aload_n (pc := 569) (tb_at tkL_law_8 5 rfl) rfl rfl ?_
  refine r_iload_n (pc := 570) (tb_at tkL_law_8 6 rfl) rfl rfl ?_
  refine r_iconst (pc := 571) (tb_at tkL_law_8 7 rfl) ⟨by decide, by decide⟩ ?_
  refine r_iadd (pc := 572) (tb_at tkL_law_8 8 rfl) ?_
  refine r_iald_scr_w (pc := 573) (tb_at tkL_law_8 9 rfl) hGN h.1.1 h.1.2 ?_
  replace h := h.2
  refine r_aload_n (pc := 574) (tb_at tkL_law_8 10 rfl) rfl rfl ?_
  refine r_iload_n (pc := 575) (tb_at tkL_law_8 11 rfl) rfl rfl ?_
  refine r_iconst (pc := 576) (tb_at tkL_law_8 12 rfl) ⟨by decide, by decide⟩ ?_
  refine r_iadd (pc := 577) (tb_at tkL_law_8 13 rfl) ?_
  refine r_iald_scr_w (pc := 578) (tb_at tkL_law_8 14 rfl) hGN h.1.1 h.1.2 ?_
  replace h := h.2
  refine r_invV (mc' := 0) (ms' := 0) [.inl ((G.2.2.2.2.2 (v3 + 1).toNat).toInt), .inl ((G.2.2.2.2.2 (v3 + 2).toNat).toInt)] (S := [.inl x2]) (pc := 579) (tb_at tkL_law_8 15 rfl) rfl ly_66 rfl rfl clL_61 (Nat.le_of_ble_eq_true rfl) (Nat.le_refl _) (Nat.le_refl _) ?_
  refine Cal.mono h ?_
  rintro _ _ M3 ⟨x4, rfl, rfl, h⟩
  show Ok G miL_law (d + 1) 97 11937 (QI K) 582 [some (.inr (.inr (some 1001))), some (.inr (.inr (some 0))), some (.inr (.inr (some 66))), some (.inl v3)] [.inl x4, .inl x2] lay0 M3 97 11937
  refine q_icmp_eq (tgt := 1588) (pc := 582) (tb_at tkL_law_8 16 rfl) (by decide) (fun c => ?_) (fun c => ?_)
  · replace h := h.1 c
    refine r_iinc (L' := [some (.inr (.inr (some 1001))), some (.inr (.inr (some 0))), some (.inr (.inr (some 66))), some (.inl (w32 (v3 + 7)))]) (pc := 1588) (tb_at tkL_law_29 4 rfl) rfl (by decide) rfl ?_
    refine r_goto (tgt := 18) (pc := 1591) (tb_at tkL_law_29 5 rfl) (by decide) ?_
    exact h
  · replace h := h.2 c
    refine r_iconst (pc := 585) (tb_at tkL_law_8 17 rfl) ⟨by decide, by decide⟩ ?_
    exact r_zret (pc := 586) (tb_at tkL_law_8 18 rfl) rfl (by decide) (Nat.le_refl _) (Nat.le_refl _) ⟨_, rfl, rfl, h⟩
set_option maxRecDepth 100000 in
set_option maxHeartbeats 4000000 in
theorem gL_law_587 {G : GE} {d : Nat} {K : Int → Mem → Prop} {M : Mem} {v3 : Int} (hGL : G.2.2.2.2.1 < 2147483648) (hGN : G.2.2.2.2.1 ≤ 2147483647) (h : (0 ≤ v3 + 1 ∧ v3 + 1 < (G.2.2.2.2.1 : Int)) ∧ (0 ≤ v3 + 2 ∧ v3 + 2 < (G.2.2.2.2.1 : Int)) ∧ CalI G miX10_pairing d [.inr (.inr (some 0)), .inl ((G.2.2.2.2.2 (v3 + 1).toNat).toInt), .inl ((G.2.2.2.2.2 (v3 + 2).toNat).toInt)] M (fun x2 M1 => (0 ≤ v3 + 1 ∧ v3 + 1 < (G.2.2.2.2.1 : Int)) ∧ (0 ≤ v3 + 2 ∧ v3 + 2 < (G.2.2.2.2.1 : Int)) ∧ CalI G miX11_pairing d [.inr (.inr (some 66)), .inl ((G.2.2.2.2.2 (v3 + 1).toNat).toInt), .inl ((G.2.2.2.2.2 (v3 + 2).toNat).toInt)] M1 (fun x4 M3 => ((x2 = x4 → Ok G miL_law (d + 1) 97 11937 (QI K) 18 [some (.inr (.inr (some 1001))), some (.inr (.inr (some 0))), some (.inr (.inr (some 66))), some (.inl (w32 (v3 + 7)))] [] lay0 M3 97 11937) ∧ (¬ x2 = x4 → K 0 M3))))) : Ok G miL_law (d + 1) 97 11937 (QI K) 587 [some (.inr (.inr (some 1001))), some (.inr (.inr (some 0))), some (.inr (.inr (some 66))), some (.inl v3)] [] lay0 M 97 11937 := by
  refine r_aload_n (pc := 587) (tb_at tkL_law_8 19 rfl) rfl rfl ?_
  refine r_aload_n (pc := 588) (tb_at tkL_law_8 20 rfl) rfl rfl ?_
  refine r_iload_n (pc := 589) (tb_at tkL_law_8 21 rfl) rfl rfl ?_
  refine r_iconst (pc := 590) (tb_at tkL_law_8 22 rfl) ⟨by decide, by decide⟩ ?_
  refine r_iadd (pc := 591) (tb_at tkL_law_8 23 rfl) ?_
  refine r_iald_scr_w (pc := 592) (tb_at tkL_law_8 24 rfl) hGN h.1.1 h.1.2 ?_
  replace h := h.2
  refine r_aload_n (pc := 593) (tb_at tkL_law_8 25 rfl) rfl rfl ?_
  refine r_iload_n (pc := 594) (tb_at tkL_law_8 26 rfl) rfl rfl ?_
  refine r_iconst (pc := 595) (tb_at tkL_law_8 27 rfl) ⟨by decide, by decide⟩ ?_
  refine r_iadd (pc := 596) (tb_at tkL_law_8 28 rfl) ?_
  refine r_iald_scr_w (pc := 597) (tb_at tkL_law_8 29 rfl) hGN h.1.1 h.1.2 ?_
  replace h := h.2
  refine r_invV (mc' := 0) (ms' := 0) [.inl ((G.2.2.2.2.2 (v3 + 1).toNat).toInt), .inl ((G.2.2.2.2.2 (v3 + 2).toNat).toInt)] (S := []) (pc := 598) (tb_at tkL_law_8 30 rfl) rfl ly_0 rfl rfl clL_62 (Nat.le_of_ble_eq_true rfl) (Nat.le_refl _) (Nat.le_refl _) ?_
  refine Cal.mono h ?_
  rintro _ _ M1 ⟨x2, rfl, rfl, h⟩
  show Ok G miL_law (d + 1) 97 11937 (QI K) 601 [some (.inr (.inr (some 1001))), some (.inr (.inr (some 0))), some (.inr (.inr (some 66))), some (.inl v3)] [.inl x2] lay0 M1 97 11937
  refine r_aload_n (pc := 601) (tb_at tkL_law_8 31 rfl) rfl rfl ?_
  refine r_aload_n (pc := 602) (tb_at tkL_law_8 32 rfl) rfl rfl ?_
  refine r_iload_n (pc := 603) (tb_at tkL_law_8 33 rfl) rfl rfl ?_
  refine r_iconst (pc := 604) (tb_at tkL_law_8 34 rfl) ⟨by decide, by decide⟩ ?_
  refine r_iadd (pc := 605) (tb_at tkL_law_8 35 rfl) ?_
  refine r_iald_scr_w (pc := 606) (tb_at tkL_law_8 36 rfl) hGN h.1.1 h.1.2 ?_
  replace h := h.2
  refine r_aload_n (pc := 607) (tb_at tkL_law_8 37 rfl) rfl rfl ?_
  refine r_iload_n (pc := 608) (tb_at tkL_law_8 38 rfl) rfl rfl ?_
  refine r_iconst (pc := 609) (tb_at tkL_law_8 39 rfl) ⟨by decide, by decide⟩ ?_
  refine r_iadd (pc := 610) (tb_at tkL_law_9 0 rfl) ?_
  refine r_iald_scr_w (pc := 611) (tb_at tkL_law_9 1 rfl) hGN h.1.1 h.1.2 ?_
  replace h := h.2
  refine r_invV (mc' := 0) (ms' := 0) [.inl ((G.2.2.2.2.2 (v3 + 1).toNat).toInt), .inl ((G.2.2.2.2.2 (v3 + 2).toNat).toInt)] (S := [.inl x2]) (pc := 612) (tb_at tkL_law_9 2 rfl) rfl ly_66 rfl rfl clL_65 (Nat.le_of_ble_eq_true rfl) (Nat.le_refl _) (Nat.le_refl _) ?_
  refine Cal.mono h ?_
  rintro _ _ M3 ⟨x4, rfl, rfl, h⟩
  show Ok G miL_law (d + 1) 97 11937 (QI K) 615 [some (.inr (.inr (some 1001))), some (.inr (.inr (some 0))), some (.inr (.inr (some 66))), some (.inl v3)] [.inl x4, .inl x2] lay0 M3 97 11937
  refine q_icmp_eq (tgt := 1588) (pc := 615) (tb_at tkL_law_9 3 rfl) (by decide) (fun c => ?_) (fun c => ?_)
  · replace h := h.1 c
    refine r_iinc (L' := [some (.inr (.inr (some 1001))), some (.inr (.inr (some 0))), some (.inr (.inr (some 66))), some (.inl (w32 (v3 + 7)))]) (pc := 1588) (tb_at tkL_law_29 4 rfl) rfl (by decide) rfl ?_
    refine r_goto (tgt := 18) (pc := 1591) (tb_at tkL_law_29 5 rfl) (by decide) ?_
    exact h
  · replace h := h.2 c
    refine r_iconst (pc := 618) (tb_at tkL_law_9 4 rfl) ⟨by decide, by decide⟩ ?_
    exact r_zret (pc := 619) (tb_at tkL_law_9 5 rfl) rfl (by decide) (Nat.le_refl _) (Nat.le_refl _) ⟨_, rfl, rfl, h⟩
set_option maxRecDepth 100000 in
set_option maxHeartbeats 4000000 in
theorem gL_law_620 {G : GE} {d : Nat} {K : Int → Mem → Prop} {M : Mem} {v3 : Int} (hGL : G.2.2.2.2.1 < 2147483648) (hGN : G.2.2.2.2.1 ≤ 2147483647) (h : (0 ≤ v3 + 1 ∧ v3 + 1 < (G.2.2.2.2.1 : Int)) ∧ CalI G miX10_pairings d [.inr (.inr (some 0)), .inl ((G.2.2.2.2.2 (v3 + 1).toNat).toInt)] M (fun x2 M1 => (0 ≤ v3 + 1 ∧ v3 + 1 < (G.2.2.2.2.1 : Int)) ∧ CalI G miX11_pairings d [.inr (.inr (some 66)), .inl ((G.2.2.2.2.2 (v3 + 1).toNat).toInt)] M1 (fun x4 M3 => ((x2 = x4 → Ok G miL_law (d + 1) 97 11937 (QI K) 18 [some (.inr (.inr (some 1001))), some (.inr (.inr (some 0))), some (.inr (.inr (some 66))), some (.inl (w32 (v3 + 7)))] [] lay0 M3 97 11937) ∧ (¬ x2 = x4 → K 0 M3))))) : Ok G miL_law (d + 1) 97 11937 (QI K) 620 [some (.inr (.inr (some 1001))), some (.inr (.inr (some 0))), some (.inr (.inr (some 66))), some (.inl v3)] [] lay0 M 97 11937 := by
  refine r_aload_n (pc := 620) (tb_at tkL_law_9 6 rfl) rfl rfl ?_
  refine r_aload_n (pc := 621) (tb_at tkL_law_9 7 rfl) rfl rfl ?_
  refine r_iload_n (pc := 622) (tb_at tkL_law_9 8 rfl) rfl rfl ?_
  refine r_iconst (pc := 623) (tb_at tkL_law_9 9 rfl) ⟨by decide, by decide⟩ ?_
  refine r_iadd (pc := 624) (tb_at tkL_law_9 10 rfl) ?_
  refine r_iald_scr_w (pc := 625) (tb_at tkL_law_9 11 rfl) hGN h.1.1 h.1.2 ?_
  replace h := h.2
  refine r_invV (mc' := 0) (ms' := 0) [.inl ((G.2.2.2.2.2 (v3 + 1).toNat).toInt)] (S := []) (pc := 626) (tb_at tkL_law_9 12 rfl) rfl ly_0 rfl rfl clL_66 (Nat.le_of_ble_eq_true rfl) (Nat.le_refl _) (Nat.le_refl _) ?_
  refine Cal.mono h ?_
  rintro _ _ M1 ⟨x2, rfl, rfl, h⟩
  show Ok G miL_law (d + 1) 97 11937 (QI K) 629 [some (.inr (.inr (some 1001))), some (.inr (.inr (some 0))), some (.inr (.inr (some 66))), some (.inl v3)] [.inl x2] lay0 M1 97 11937
  refine r_aload_n (pc := 629) (tb_at tkL_law_9 13 rfl) rfl rfl ?_
  refine r_aload_n (pc := 630) (tb_at tkL_law_9 14 rfl) rfl rfl ?_
  refine r_iload_n (pc := 631) (tb_at tkL_law_9 15 rfl) rfl rfl ?_
  refine r_iconst (pc := 632) (tb_at tkL_law_9 16 rfl) ⟨by decide, by decide⟩ ?_
  refine r_iadd (pc := 633) (tb_at tkL_law_9 17 rfl) ?_
  refine r_iald_scr_w (pc := 634) (tb_at tkL_law_9 18 rfl) hGN h.1.1 h.1.2 ?_
  replace h := h.2
  refine r_invV (mc' := 0) (ms' := 0) [.inl ((G.2.2.2.2.2 (v3 + 1).toNat).toInt)] (S := [.inl x2]) (pc := 635) (tb_at tkL_law_9 19 rfl) rfl ly_66 rfl rfl clL_69 (Nat.le_of_ble_eq_true rfl) (Nat.le_refl _) (Nat.le_refl _) ?_
  refine Cal.mono h ?_
  rintro _ _ M3 ⟨x4, rfl, rfl, h⟩
  show Ok G miL_law (d + 1) 97 11937 (QI K) 638 [some (.inr (.inr (some 1001))), some (.inr (.inr (some 0))), some (.inr (.inr (some 66))), some (.inl v3)] [.inl x4, .inl x2] lay0 M3 97 11937
  refine q_icmp_eq (tgt := 1588) (pc := 638) (tb_at tkL_law_9 20 rfl) (by decide) (fun c => ?_) (fun c => ?_)
  · replace h := h.1 c
    refine r_iinc (L' := [some (.inr (.inr (some 1001))), some (.inr (.inr (some 0))), some (.inr (.inr (some 66))), some (.inl (w32 (v3 + 7)))]) (pc := 1588) (tb_at tkL_law_29 4 rfl) rfl (by decide) rfl ?_
    refine r_goto (tgt := 18) (pc := 1591) (tb_at tkL_law_29 5 rfl) (by decide) ?_
    exact h
  · replace h := h.2 c
    refine r_iconst (pc := 641) (tb_at tkL_law_9 21 rfl) ⟨by decide, by decide⟩ ?_
    exact r_zret (pc := 642) (tb_at tkL_law_9 22 rfl) rfl (by decide) (Nat.le_refl _) (Nat.le_refl _) ⟨_, rfl, rfl, h⟩
set_option maxRecDepth 100000 in
set_option maxHeartbeats 4000000 in
theorem gL_law_643 {G : GE} {d : Nat} {K : Int → Mem → Prop} {M : Mem} {v3 : Int} (hGL : G.2.2.2.2.1 < 2147483648) (hGN : G.2.2.2.2.1 ≤ 2147483647) (h : (0 ≤ v3 + 1 ∧ v3 + 1 < (G.2.2.2.2.1 : Int)) ∧ (0 ≤ v3 + 2 ∧ v3 + 2 < (G.2.2.2.2.1 : Int)) ∧ CalI G miX10_had d [.inr (.inr (some 0)), .inl ((G.2.2.2.2.2 (v3 + 1).toNat).toInt), .inl ((G.2.2.2.2.2 (v3 + 2).toNat).toInt)] M (fun x2 M1 => (0 ≤ v3 + 1 ∧ v3 + 1 < (G.2.2.2.2.1 : Int)) ∧ (0 ≤ v3 + 2 ∧ v3 + 2 < (G.2.2.2.2.1 : Int)) ∧ CalI G miX11_had d [.inr (.inr (some 66)), .inl ((G.2.2.2.2.2 (v3 + 1).toNat).toInt), .inl ((G.2.2.2.2.2 (v3 + 2).toNat).toInt)] M1 (fun x4 M3 => ((x2 = x4 → Ok G miL_law (d + 1) 97 11937 (QI K) 18 [some (.inr (.inr (some 1001))), some (.inr (.inr (some 0))), some (.inr (.inr (some 66))), some (.inl (w32 (v3 + 7)))] [] lay0 M3 97 11937) ∧ (¬ x2 = x4 → K 0 M3))))) : Ok G miL_law (d + 1) 97 11937 (QI K) 643 [some (.inr (.inr (some 1001))), some (.inr (.inr (some 0))), some (.inr (.inr (some 66))), some (.inl v3)] [] lay0 M 97 11937 := by
  refine r_aload_n (pc := 643) (tb_at tkL_law_9 23 rfl) rfl rfl ?_
  refine r_aload_n (pc := 644) (tb_at tkL_law_9 24 rfl) rfl rfl ?_
  refine r_iload_n (pc := 645) (tb_at tkL_law_9 25 rfl) rfl rfl ?_
  refine r_iconst (pc := 646) (tb_at tkL_law_9 26 rfl) ⟨by decide, by decide⟩ ?_
  refine r_iadd (pc := 647) (tb_at tkL_law_9 27 rfl) ?_
  refine r_iald_scr_w (pc := 648) (tb_at tkL_law_9 28 rfl) hGN h.1.1 h.1.2 ?_
  replace h := h.2
  refine r_aload_n (pc := 649) (tb_at tkL_law_9 29 rfl) rfl rfl ?_
  refine r_iload_n (pc := 650) (tb_at tkL_law_9 30 rfl) rfl rfl ?_
  refine r_iconst (pc := 651) (tb_at tkL_law_9 31 rfl) ⟨by decide, by decide⟩ ?_
  refine r_iadd (pc := 652) (tb_at tkL_law_9 32 rfl) ?_
  refine r_iald_scr_w (pc := 653) (tb_at tkL_law_9 33 rfl) hGN h.1.1 h.1.2 ?_
  replace h := h.2
  refine r_invV (mc' := 0) (ms' := 0) [.inl ((G.2.2.2.2.2 (v3 + 1).toNat).toInt), .inl ((G.2.2.2.2.2 (v3 + 2).toNat).toInt)] (S := []) (pc := 654) (tb_at tkL_law_9 34 rfl) rfl ly_0 rfl rfl clL_70 (Nat.le_of_ble_eq_true rfl) (Nat.le_refl _) (Nat.le_refl _) ?_
  refine Cal.mono h ?_
  rintro _ _ M1 ⟨x2, rfl, rfl, h⟩
  show Ok G miL_law (d + 1) 97 11937 (QI K) 657 [some (.inr (.inr (some 1001))), some (.inr (.inr (some 0))), some (.inr (.inr (some 66))), some (.inl v3)] [.inl x2] lay0 M1 97 11937
  refine r_aload_n (pc := 657) (tb_at tkL_law_9 35 rfl) rfl rfl ?_
  refine r_aload_n (pc := 658) (tb_at tkL_law_9 36 rfl) rfl rfl ?_
  refine r_iload_n (pc := 659) (tb_at tkL_law_9 37 rfl) rfl rfl ?_
  refine r_iconst (pc := 660) (tb_at tkL_law_9 38 rfl) ⟨by decide, by decide⟩ ?_
  refine r_iadd (pc := 661) (tb_at tkL_law_9 39 rfl) ?_
  refine r_iald_scr_w (pc := 662) (tb_at tkL_law_10 0 rfl) hGN h.1.1 h.1.2 ?_
  replace h := h.2
  refine r_aload_n (pc := 663) (tb_at tkL_law_10 1 rfl) rfl rfl ?_
  refine r_iload_n (pc := 664) (tb_at tkL_law_10 2 rfl) rfl rfl ?_
  refine r_iconst (pc := 665) (tb_at tkL_law_10 3 rfl) ⟨by decide, by decide⟩ ?_
  refine r_iadd (pc := 666) (tb_at tkL_law_10 4 rfl) ?_
  refine r_iald_scr_w (pc := 667) (tb_at tkL_law_10 5 rfl) hGN h.1.1 h.1.2 ?_
  replace h := h.2
  refine r_invV (mc' := 0) (ms' := 0) [.inl ((G.2.2.2.2.2 (v3 + 1).toNat).toInt), .inl ((G.2.2.2.2.2 (v3 + 2).toNat).toInt)] (S := [.inl x2]) (pc := 668) (tb_at tkL_law_10 6 rfl) rfl ly_66 rfl rfl clL_73 (Nat.le_of_ble_eq_true rfl) (Nat.le_refl _) (Nat.le_refl _) ?_
  refine Cal.mono h ?_
  rintro _ _ M3 ⟨x4, rfl, rfl, h⟩
  show Ok G miL_law (d + 1) 97 11937 (QI K) 671 [some (.inr (.inr (some 1001))), some (.inr (.inr (some 0))), some (.inr (.inr (some 66))), some (.inl v3)] [.inl x4, .inl x2] lay0 M3 97 11937
  refine q_icmp_eq (tgt := 1588) (pc := 671) (tb_at tkL_law_10 7 rfl) (by decide) (fun c => ?_) (fun c => ?_)
  · replace h := h.1 c
    refine r_iinc (L' := [some (.inr (.inr (some 1001))), some (.inr (.inr (some 0))), some (.inr (.inr (some 66))), some (.inl (w32 (v3 + 7)))]) (pc := 1588) (tb_at tkL_law_29 4 rfl) rfl (by decide) rfl ?_
    refine r_goto (tgt := 18) (pc := 1591) (tb_at tkL_law_29 5 rfl) (by decide) ?_
    exact h
  · replace h := h.2 c
    refine r_iconst (pc := 674) (tb_at tkL_law_10 8 rfl) ⟨by decide, by decide⟩ ?_
    exact r_zret (pc := 675) (tb_at tkL_law_10 9 rfl) rfl (by decide) (Nat.le_refl _) (Nat.le_refl _) ⟨_, rfl, rfl, h⟩
set_option maxRecDepth 100000 in
set_option maxHeartbeats 4000000 in
theorem gL_law_676 {G : GE} {d : Nat} {K : Int → Mem → Prop} {M : Mem} {v3 : Int} (hGL : G.2.2.2.2.1 < 2147483648) (hGN : G.2.2.2.2.1 ≤ 2147483647) (h : (0 ≤ v3 + 1 ∧ v3 + 1 < (G.2.2.2.2.1 : Int)) ∧ CalI G miX10_best d [.inr (.inr (some 0)), .inl ((G.2.2.2.2.2 (v3 + 1).toNat).toInt)] M (fun x2 M1 => (0 ≤ v3 + 1 ∧ v3 + 1 < (G.2.2.2.2.1 : Int)) ∧ CalI G miX11_best d [.inr (.inr (some 66)), .inl ((G.2.2.2.2.2 (v3 + 1).toNat).toInt)] M1 (fun x4 M3 => ((x2 = x4 → Ok G miL_law (d + 1) 97 11937 (QI K) 18 [some (.inr (.inr (some 1001))), some (.inr (.inr (some 0))), some (.inr (.inr (some 66))), some (.inl (w32 (v3 + 7)))] [] lay0 M3 97 11937) ∧ (¬ x2 = x4 → K 0 M3))))) : Ok G miL_law (d + 1) 97 11937 (QI K) 676 [some (.inr (.inr (some 1001))), some (.inr (.inr (some 0))), some (.inr (.inr (some 66))), some (.inl v3)] [] lay0 M 97 11937 := by
  refine r_aload_n (pc := 676) (tb_at tkL_law_10 10 rfl) rfl rfl ?_
  refine r_aload_n (pc := 677) (tb_at tkL_law_10 11 rfl) rfl rfl ?_
  refine r_iload_n (pc := 678) (tb_at tkL_law_10 12 rfl) rfl rfl ?_
  refine r_iconst (pc := 679) (tb_at tkL_law_10 13 rfl) ⟨by decide, by decide⟩ ?_
  refine r_iadd (pc := 680) (tb_at tkL_law_10 14 rfl) ?_
  refine r_iald_scr_w (pc := 681) (tb_at tkL_law_10 15 rfl) hGN h.1.1 h.1.2 ?_
  replace h := h.2
  refine r_invV (mc' := 0) (ms' := 0) [.inl ((G.2.2.2.2.2 (v3 + 1).toNat).toInt)] (S := []) (pc := 682) (tb_at tkL_law_10 16 rfl) rfl ly_0 rfl rfl clL_74 (Nat.le_of_ble_eq_true rfl) (Nat.le_refl _) (Nat.le_refl _) ?_
  refine Cal.mono h ?_
  rintro _ _ M1 ⟨x2, rfl, rfl, h⟩
  show Ok G miL_law (d + 1) 97 11937 (QI K) 685 [some (.inr (.inr (some 1001))), some (.inr (.inr (some 0))), some (.inr (.inr (some 66))), some (.inl v3)] [.inl x2] lay0 M1 97 11937
  refine r_aload_n (pc := 685) (tb_at tkL_law_10 17 rfl) rfl rfl ?_
  refine r_aload_n (pc := 686) (tb_at tkL_law_10 18 rfl) rfl rfl ?_
  refine r_iload_n (pc := 687) (tb_at tkL_law_10 19 rfl) rfl rfl ?_
  refine r_iconst (pc := 688) (tb_at tkL_law_10 20 rfl) ⟨by decide, by decide⟩ ?_
  refine r_iadd (pc := 689) (tb_at tkL_law_10 21 rfl) ?_
  refine r_iald_scr_w (pc := 690) (tb_at tkL_law_10 22 rfl) hGN h.1.1 h.1.2 ?_
  replace h := h.2
  refine r_invV (mc' := 0) (ms' := 0) [.inl ((G.2.2.2.2.2 (v3 + 1).toNat).toInt)] (S := [.inl x2]) (pc := 691) (tb_at tkL_law_10 23 rfl) rfl ly_66 rfl rfl clL_77 (Nat.le_of_ble_eq_true rfl) (Nat.le_refl _) (Nat.le_refl _) ?_
  refine Cal.mono h ?_
  rintro _ _ M3 ⟨x4, rfl, rfl, h⟩
  show Ok G miL_law (d + 1) 97 11937 (QI K) 694 [some (.inr (.inr (some 1001))), some (.inr (.inr (some 0))), some (.inr (.inr (some 66))), some (.inl v3)] [.inl x4, .inl x2] lay0 M3 97 11937
  refine q_icmp_eq (tgt := 1588) (pc := 694) (tb_at tkL_law_10 24 rfl) (by decide) (fun c => ?_) (fun c => ?_)
  · replace h := h.1 c
    refine r_iinc (L' := [some (.inr (.inr (some 1001))), some (.inr (.inr (some 0))), some (.inr (.inr (some 66))), some (.inl (w32 (v3 + 7)))]) (pc := 1588) (tb_at tkL_law_29 4 rfl) rfl (by decide) rfl ?_
    refine r_goto (tgt := 18) (pc := 1591) (tb_at tkL_law_29 5 rfl) (by decide) ?_
    exact h
  · replace h := h.2 c
    refine r_iconst (pc := 697) (tb_at tkL_law_10 25 rfl) ⟨by decide, by decide⟩ ?_
    exact r_zret (pc := 698) (tb_at tkL_law_10 26 rfl) rfl (by decide) (Nat.le_refl _) (Nat.le_refl _) ⟨_, rfl, rfl, h⟩
set_option maxRecDepth 100000 in
set_option maxHeartbeats 4000000 in
theorem gL_law_699 {G : GE} {d : Nat} {K : Int → Mem → Prop} {M : Mem} {v3 : Int} (hGL : G.2.2.2.2.1 < 2147483648) (hGN : G.2.2.2.2.1 ≤ 2147483647) (h : (0 ≤ v3 + 1 ∧ v3 + 1 < (G.2.2.2.2.1 : Int)) ∧ (0 ≤ v3 + 2 ∧ v3 + 2 < (G.2.2.2.2.1 : Int)) ∧ CalI G miX10_bestOf d [.inr (.inr (some 0)), .inl ((G.2.2.2.2.2 (v3 + 1).toNat).toInt), .inl ((G.2.2.2.2.2 (v3 + 2).toNat).toInt)] M (fun x2 M1 => (0 ≤ v3 + 1 ∧ v3 + 1 < (G.2.2.2.2.1 : Int)) ∧ (0 ≤ v3 + 2 ∧ v3 + 2 < (G.2.2.2.2.1 : Int)) ∧ CalI G miX11_bestOf d [.inr (.inr (some 66)), .inl ((G.2.2.2.2.2 (v3 + 1).toNat).toInt), .inl ((G.2.2.2.2.2 (v3 + 2).toNat).toInt)] M1 (fun x4 M3 => ((x2 = x4 → Ok G miL_law (d + 1) 97 11937 (QI K) 18 [some (.inr (.inr (some 1001))), some (.inr (.inr (some 0))), some (.inr (.inr (some 66))), some (.inl (w32 (v3 + 7)))] [] lay0 M3 97 11937) ∧ (¬ x2 = x4 → K 0 M3))))) : Ok G miL_law (d + 1) 97 11937 (QI K) 699 [some (.inr (.inr (some 1001))), some (.inr (.inr (some 0))), some (.inr (.inr (some 66))), some (.inl v3)] [] lay0 M 97 11937 := by
  refine r_aload_n (pc := 699) (tb_at tkL_law_10 27 rfl) rfl rfl ?_
  refine r_aload_n (pc := 700) (tb_at tkL_law_10 28 rfl) rfl rfl ?_
  refine r_iload_n (pc := 701) (tb_at tkL_law_10 29 rfl) rfl rfl ?_
  refine r_iconst (pc := 702) (tb_at tkL_law_10 30 rfl) ⟨by decide, by decide⟩ ?_
  refine r_iadd (pc := 703) (tb_at tkL_law_10 31 rfl) ?_
  refine r_iald_scr_w (pc := 704) (tb_at tkL_law_10 32 rfl) hGN h.1.1 h.1.2 ?_
  replace h := h.2
  refine r_aload_n (pc := 705) (tb_at tkL_law_10 33 rfl) rfl rfl ?_
  refine r_iload_n (pc := 706) (tb_at tkL_law_10 34 rfl) rfl rfl ?_
  refine r_iconst (pc := 707) (tb_at tkL_law_10 35 rfl) ⟨by decide, by decide⟩ ?_
  refine r_iadd (pc := 708) (tb_at tkL_law_10 36 rfl) ?_
  refine r_iald_scr_w (pc := 709) (tb_at tkL_law_10 37 rfl) hGN h.1.1 h.1.2 ?_
  replace h := h.2
  refine r_invV (mc' := 0) (ms' := 0) [.inl ((G.2.2.2.2.2 (v3 + 1).toNat).toInt), .inl ((G.2.2.2.2.2 (v3 + 2).toNat).toInt)] (S := []) (pc := 710) (tb_at tkL_law_10 38 rfl) rfl ly_0 rfl rfl clL_78 (Nat.le_of_ble_eq_true rfl) (Nat.le_refl _) (Nat.le_refl _) ?_
  refine Cal.mono h ?_
  rintro _ _ M1 ⟨x2, rfl, rfl, h⟩
  show Ok G miL_law (d + 1) 97 11937 (QI K) 713 [some (.inr (.inr (some 1001))), some (.inr (.inr (some 0))), some (.inr (.inr (some 66))), some (.inl v3)] [.inl x2] lay0 M1 97 11937
  refine r_aload_n (pc := 713) (tb_at tkL_law_10 39 rfl) rfl rfl ?_
  refine r_aload_n (pc := 714) (tb_at tkL_law_11 0 rfl) rfl rfl ?_
  refine r_iload_n (pc := 715) (tb_at tkL_law_11 1 rfl) rfl rfl ?_
  refine r_iconst (pc := 716) (tb_at tkL_law_11 2 rfl) ⟨by decide, by decide⟩ ?_
  refine r_iadd (pc := 717) (tb_at tkL_law_11 3 rfl) ?_
  refine r_iald_scr_w (pc := 718) (tb_at tkL_law_11 4 rfl) hGN h.1.1 h.1.2 ?_
  replace h := h.2
  refine r_aload_n (pc := 719) (tb_at tkL_law_11 5 rfl) rfl rfl ?_
  refine r_iload_n (pc := 720) (tb_at tkL_law_11 6 rfl) rfl rfl ?_
  refine r_iconst (pc := 721) (tb_at tkL_law_11 7 rfl) ⟨by decide, by decide⟩ ?_
  refine r_iadd (pc := 722) (tb_at tkL_law_11 8 rfl) ?_
  refine r_iald_scr_w (pc := 723) (tb_at tkL_law_11 9 rfl) hGN h.1.1 h.1.2 ?_
  replace h := h.2
  refine r_invV (mc' := 0) (ms' := 0) [.inl ((G.2.2.2.2.2 (v3 + 1).toNat).toInt), .inl ((G.2.2.2.2.2 (v3 + 2).toNat).toInt)] (S := [.inl x2]) (pc := 724) (tb_at tkL_law_11 10 rfl) rfl ly_66 rfl rfl clL_81 (Nat.le_of_ble_eq_true rfl) (Nat.le_refl _) (Nat.le_refl _) ?_
  refine Cal.mono h ?_
  rintro _ _ M3 ⟨x4, rfl, rfl, h⟩
  show Ok G miL_law (d + 1) 97 11937 (QI K) 727 [some (.inr (.inr (some 1001))), some (.inr (.inr (some 0))), some (.inr (.inr (some 66))), some (.inl v3)] [.inl x4, .inl x2] lay0 M3 97 11937
  refine q_icmp_eq (tgt := 1588) (pc := 727) (tb_at tkL_law_11 11 rfl) (by decide) (fun c => ?_) (fun c => ?_)
  · replace h := h.1 c
    refine r_iinc (L' := [some (.inr (.inr (some 1001))), some (.inr (.inr (some 0))), some (.inr (.inr (some 66))), some (.inl (w32 (v3 + 7)))]) (pc := 1588) (tb_at tkL_law_29 4 rfl) rfl (by decide) rfl ?_
    refine r_goto (tgt := 18) (pc := 1591) (tb_at tkL_law_29 5 rfl) (by decide) ?_
    exact h
  · replace h := h.2 c
    refine r_iconst (pc := 730) (tb_at tkL_law_11 12 rfl) ⟨by decide, by decide⟩ ?_
    exact r_zret (pc := 731) (tb_at tkL_law_11 13 rfl) rfl (by decide) (Nat.le_refl _) (Nat.le_refl _) ⟨_, rfl, rfl, h⟩
set_option maxRecDepth 100000 in
set_option maxHeartbeats 4000000 in
theorem gL_law_732 {G : GE} {d : Nat} {K : Int → Mem → Prop} {M : Mem} {v3 : Int} (hGL : G.2.2.2.2.1 < 2147483648) (hGN : G.2.2.2.2.1 ≤ 2147483647) (h : (0 ≤ v3 + 1 ∧ v3 + 1 < (G.2.2.2.2.1 : Int)) ∧ CalL G miX10_bound d [.inr (.inr (some 0)), .inl ((G.2.2.2.2.2 (v3 + 1).toNat).toInt)] M (fun x2 M1 => (0 ≤ v3 + 1 ∧ v3 + 1 < (G.2.2.2.2.1 : Int)) ∧ CalL G miX11_bound d [.inr (.inr (some 66)), .inl ((G.2.2.2.2.2 (v3 + 1).toNat).toInt)] M1 (fun x4 M3 => ((x2 = x4 → Ok G miL_law (d + 1) 97 11937 (QI K) 18 [some (.inr (.inr (some 1001))), some (.inr (.inr (some 0))), some (.inr (.inr (some 66))), some (.inl (w32 (v3 + 7)))] [] lay0 M3 97 11937) ∧ (¬ x2 = x4 → K 0 M3))))) : Ok G miL_law (d + 1) 97 11937 (QI K) 732 [some (.inr (.inr (some 1001))), some (.inr (.inr (some 0))), some (.inr (.inr (some 66))), some (.inl v3)] [] lay0 M 97 11937 := by
  refine r_aload_n (pc := 732) (tb_at tkL_law_11 14 rfl) rfl rfl ?_
  refine r_aload_n (pc := 733) (tb_at tkL_law_11 15 rfl) rfl rfl ?_
  refine r_iload_n (pc := 734) (tb_at tkL_law_11 16 rfl) rfl rfl ?_
  refine r_iconst (pc := 735) (tb_at tkL_law_11 17 rfl) ⟨by decide, by decide⟩ ?_
  refine r_iadd (pc := 736) (tb_at tkL_law_11 18 rfl) ?_
  refine r_iald_scr_w (pc := 737) (tb_at tkL_law_11 19 rfl) hGN h.1.1 h.1.2 ?_
  replace h := h.2
  refine r_invV (mc' := 0) (ms' := 0) [.inl ((G.2.2.2.2.2 (v3 + 1).toNat).toInt)] (S := []) (pc := 738) (tb_at tkL_law_11 20 rfl) rfl ly_0 rfl rfl clL_82 (Nat.le_of_ble_eq_true rfl) (Nat.le_refl _) (Nat.le_refl _) ?_
  refine Cal.mono h ?_
  rintro _ _ M1 ⟨x2, rfl, rfl, h⟩
  show Ok G miL_law (d + 1) 97 11937 (QI K) 741 [some (.inr (.inr (some 1001))), some (.inr (.inr (some 0))), some (.inr (.inr (some 66))), some (.inl v3)] [.inr (.inl x2)] lay0 M1 97 11937
  refine r_aload_n (pc := 741) (tb_at tkL_law_11 21 rfl) rfl rfl ?_
  refine r_aload_n (pc := 742) (tb_at tkL_law_11 22 rfl) rfl rfl ?_
  refine r_iload_n (pc := 743) (tb_at tkL_law_11 23 rfl) rfl rfl ?_
  refine r_iconst (pc := 744) (tb_at tkL_law_11 24 rfl) ⟨by decide, by decide⟩ ?_
  refine r_iadd (pc := 745) (tb_at tkL_law_11 25 rfl) ?_
  refine r_iald_scr_w (pc := 746) (tb_at tkL_law_11 26 rfl) hGN h.1.1 h.1.2 ?_
  replace h := h.2
  refine r_invV (mc' := 0) (ms' := 0) [.inl ((G.2.2.2.2.2 (v3 + 1).toNat).toInt)] (S := [.inr (.inl x2)]) (pc := 747) (tb_at tkL_law_11 27 rfl) rfl ly_66 rfl rfl clL_86 (Nat.le_of_ble_eq_true rfl) (Nat.le_refl _) (Nat.le_refl _) ?_
  refine Cal.mono h ?_
  rintro _ _ M3 ⟨x4, rfl, rfl, h⟩
  show Ok G miL_law (d + 1) 97 11937 (QI K) 750 [some (.inr (.inr (some 1001))), some (.inr (.inr (some 0))), some (.inr (.inr (some 66))), some (.inl v3)] [.inr (.inl x4), .inr (.inl x2)] lay0 M3 97 11937
  refine r_lcmp (pc := 750) (tb_at tkL_law_11 28 rfl) ?_
  refine q_lif_eq (tgt := 1588) (pc := 751) (tb_at tkL_law_11 29 rfl) (by decide) (fun c => ?_) (fun c => ?_)
  · replace h := h.1 c
    refine r_iinc (L' := [some (.inr (.inr (some 1001))), some (.inr (.inr (some 0))), some (.inr (.inr (some 66))), some (.inl (w32 (v3 + 7)))]) (pc := 1588) (tb_at tkL_law_29 4 rfl) rfl (by decide) rfl ?_
    refine r_goto (tgt := 18) (pc := 1591) (tb_at tkL_law_29 5 rfl) (by decide) ?_
    exact h
  · replace h := h.2 c
    refine r_iconst (pc := 754) (tb_at tkL_law_11 30 rfl) ⟨by decide, by decide⟩ ?_
    exact r_zret (pc := 755) (tb_at tkL_law_11 31 rfl) rfl (by decide) (Nat.le_refl _) (Nat.le_refl _) ⟨_, rfl, rfl, h⟩
set_option maxRecDepth 100000 in
set_option maxHeartbeats 4000000 in
theorem gL_law_756 {G : GE} {d : Nat} {K : Int → Mem → Prop} {M : Mem} {v3 : Int} (hGL : G.2.2.2.2.1 < 2147483648) (hGN : G.2.2.2.2.1 ≤ 2147483647) (h : (0 ≤ v3 + 1 ∧ v3 + 1 < (G.2.2.2.2.1 : Int)) ∧ (0 ≤ v3 + 2 ∧ v3 + 2 < (G.2.2.2.2.1 : Int)) ∧ CalL G miX10_price d [.inr (.inr (some 0)), .inl ((G.2.2.2.2.2 (v3 + 1).toNat).toInt), .inl ((G.2.2.2.2.2 (v3 + 2).toNat).toInt)] M (fun x2 M1 => (0 ≤ v3 + 1 ∧ v3 + 1 < (G.2.2.2.2.1 : Int)) ∧ (0 ≤ v3 + 2 ∧ v3 + 2 < (G.2.2.2.2.1 : Int)) ∧ CalL G miX11_price d [.inr (.inr (some 66)), .inl ((G.2.2.2.2.2 (v3 + 1).toNat).toInt), .inl ((G.2.2.2.2.2 (v3 + 2).toNat).toInt)] M1 (fun x4 M3 => ((x2 = x4 → Ok G miL_law (d + 1) 97 11937 (QI K) 18 [some (.inr (.inr (some 1001))), some (.inr (.inr (some 0))), some (.inr (.inr (some 66))), some (.inl (w32 (v3 + 7)))] [] lay0 M3 97 11937) ∧ (¬ x2 = x4 → K 0 M3))))) : Ok G miL_law (d + 1) 97 11937 (QI K) 756 [some (.inr (.inr (some 1001))), some (.inr (.inr (some 0))), some (.inr (.inr (some 66))), some (.inl v3)] [] lay0 M 97 11937 := by
  refine r_aload_n (pc := 756) (tb_at tkL_law_11 32 rfl) rfl rfl ?_
  refine r_aload_n (pc := 757) (tb_at tkL_law_11 33 rfl) rfl rfl ?_
  refine r_iload_n (pc := 758) (tb_at tkL_law_11 34 rfl) rfl rfl ?_
  refine r_iconst (pc := 759) (tb_at tkL_law_11 35 rfl) ⟨by decide, by decide⟩ ?_
  refine r_iadd (pc := 760) (tb_at tkL_law_11 36 rfl) ?_
  refine r_iald_scr_w (pc := 761) (tb_at tkL_law_11 37 rfl) hGN h.1.1 h.1.2 ?_
  replace h := h.2
  refine r_aload_n (pc := 762) (tb_at tkL_law_11 38 rfl) rfl rfl ?_
  refine r_iload_n (pc := 763) (tb_at tkL_law_11 39 rfl) rfl rfl ?_
  refine r_iconst (pc := 764) (tb_at tkL_law_12 0 rfl) ⟨by decide, by decide⟩ ?_
  refine r_iadd (pc := 765) (tb_at tkL_law_12 1 rfl) ?_
  refine r_iald_scr_w (pc := 766) (tb_at tkL_law_12 2 rfl) hGN h.1.1 h.1.2 ?_
  replace h := h.2
  refine r_invV (mc' := 0) (ms' := 0) [.inl ((G.2.2.2.2.2 (v3 + 1).toNat).toInt), .inl ((G.2.2.2.2.2 (v3 + 2).toNat).toInt)] (S := []) (pc := 767) (tb_at tkL_law_12 3 rfl) rfl ly_0 rfl rfl clL_87 (Nat.le_of_ble_eq_true rfl) (Nat.le_refl _) (Nat.le_refl _) ?_
  refine Cal.mono h ?_
  rintro _ _ M1 ⟨x2, rfl, rfl, h⟩
  show Ok G miL_law (d + 1) 97 11937 (QI K) 770 [some (.inr (.inr (some 1001))), some (.inr (.inr (some 0))), some (.inr (.inr (some 66))), some (.inl v3)] [.inr (.inl x2)] lay0 M1 97 11937
  refine r_aload_n (pc := 770) (tb_at tkL_law_12 4 rfl) rfl rfl ?_
  refine r_aload_n (pc := 771) (tb_at tkL_law_12 5 rfl) rfl rfl ?_
  refine r_iload_n (pc := 772) (tb_at tkL_law_12 6 rfl) rfl rfl ?_
  refine r_iconst (pc := 773) (tb_at tkL_law_12 7 rfl) ⟨by decide, by decide⟩ ?_
  refine r_iadd (pc := 774) (tb_at tkL_law_12 8 rfl) ?_
  refine r_iald_scr_w (pc := 775) (tb_at tkL_law_12 9 rfl) hGN h.1.1 h.1.2 ?_
  replace h := h.2
  refine r_aload_n (pc := 776) (tb_at tkL_law_12 10 rfl) rfl rfl ?_
  refine r_iload_n (pc := 777) (tb_at tkL_law_12 11 rfl) rfl rfl ?_
  refine r_iconst (pc := 778) (tb_at tkL_law_12 12 rfl) ⟨by decide, by decide⟩ ?_
  refine r_iadd (pc := 779) (tb_at tkL_law_12 13 rfl) ?_
  refine r_iald_scr_w (pc := 780) (tb_at tkL_law_12 14 rfl) hGN h.1.1 h.1.2 ?_
  replace h := h.2
  refine r_invV (mc' := 0) (ms' := 0) [.inl ((G.2.2.2.2.2 (v3 + 1).toNat).toInt), .inl ((G.2.2.2.2.2 (v3 + 2).toNat).toInt)] (S := [.inr (.inl x2)]) (pc := 781) (tb_at tkL_law_12 15 rfl) rfl ly_66 rfl rfl clL_91 (Nat.le_of_ble_eq_true rfl) (Nat.le_refl _) (Nat.le_refl _) ?_
  refine Cal.mono h ?_
  rintro _ _ M3 ⟨x4, rfl, rfl, h⟩
  show Ok G miL_law (d + 1) 97 11937 (QI K) 784 [some (.inr (.inr (some 1001))), some (.inr (.inr (some 0))), some (.inr (.inr (some 66))), some (.inl v3)] [.inr (.inl x4), .inr (.inl x2)] lay0 M3 97 11937
  refine r_lcmp (pc := 784) (tb_at tkL_law_12 16 rfl) ?_
  refine q_lif_eq (tgt := 1588) (pc := 785) (tb_at tkL_law_12 17 rfl) (by decide) (fun c => ?_) (fun c => ?_)
  · replace h := h.1 c
    refine r_iinc (L' := [some (.inr (.inr (some 1001))), some (.inr (.inr (some 0))), some (.inr (.inr (some 66))), some (.inl (w32 (v3 + 7)))]) (pc := 1588) (tb_at tkL_law_29 4 rfl) rfl (by decide) rfl ?_
    refine r_goto (tgt := 18) (pc := 1591) (tb_at tkL_law_29 5 rfl) (by decide) ?_
    exact h
  · replace h := h.2 c
    refine r_iconst (pc := 788) (tb_at tkL_law_12 18 rfl) ⟨by decide, by decide⟩ ?_
    exact r_zret (pc := 789) (tb_at tkL_law_12 19 rfl) rfl (by decide) (Nat.le_refl _) (Nat.le_refl _) ⟨_, rfl, rfl, h⟩
set_option maxRecDepth 100000 in
set_option maxHeartbeats 4000000 in
theorem gL_law_790 {G : GE} {d : Nat} {K : Int → Mem → Prop} {M : Mem} {v3 : Int} (hGL : G.2.2.2.2.1 < 2147483648) (hGN : G.2.2.2.2.1 ≤ 2147483647) (h : (0 ≤ v3 + 1 ∧ v3 + 1 < (G.2.2.2.2.1 : Int)) ∧ (0 ≤ v3 + 2 ∧ v3 + 2 < (G.2.2.2.2.1 : Int)) ∧ (0 ≤ v3 + 3 ∧ v3 + 3 < (G.2.2.2.2.1 : Int)) ∧ (0 ≤ v3 + 4 ∧ v3 + 4 < (G.2.2.2.2.1 : Int)) ∧ CalL G miX10_branch d [.inr (.inr (some 0)), .inl ((G.2.2.2.2.2 (v3 + 1).toNat).toInt), .inl ((G.2.2.2.2.2 (v3 + 2).toNat).toInt), .inl ((G.2.2.2.2.2 (v3 + 3).toNat).toInt), .inl ((G.2.2.2.2.2 (v3 + 4).toNat).toInt)] M (fun x2 M1 => (0 ≤ v3 + 1 ∧ v3 + 1 < (G.2.2.2.2.1 : Int)) ∧ (0 ≤ v3 + 2 ∧ v3 + 2 < (G.2.2.2.2.1 : Int)) ∧ (0 ≤ v3 + 3 ∧ v3 + 3 < (G.2.2.2.2.1 : Int)) ∧ (0 ≤ v3 + 4 ∧ v3 + 4 < (G.2.2.2.2.1 : Int)) ∧ CalL G miX11_branch d [.inr (.inr (some 66)), .inl ((G.2.2.2.2.2 (v3 + 1).toNat).toInt), .inl ((G.2.2.2.2.2 (v3 + 2).toNat).toInt), .inl ((G.2.2.2.2.2 (v3 + 3).toNat).toInt), .inl ((G.2.2.2.2.2 (v3 + 4).toNat).toInt)] M1 (fun x4 M3 => ((x2 = x4 → Ok G miL_law (d + 1) 97 11937 (QI K) 18 [some (.inr (.inr (some 1001))), some (.inr (.inr (some 0))), some (.inr (.inr (some 66))), some (.inl (w32 (v3 + 7)))] [] lay0 M3 97 11937) ∧ (¬ x2 = x4 → K 0 M3))))) : Ok G miL_law (d + 1) 97 11937 (QI K) 790 [some (.inr (.inr (some 1001))), some (.inr (.inr (some 0))), some (.inr (.inr (some 66))), some (.inl v3)] [] lay0 M 97 11937 := by
  refine r_aload_n (pc := 790) (tb_at tkL_law_12 20 rfl) rfl rfl ?_
  refine r_aload_n (pc := 791) (tb_at tkL_law_12 21 rfl) rfl rfl ?_
  refine r_iload_n (pc := 792) (tb_at tkL_law_12 22 rfl) rfl rfl ?_
  refine r_iconst (pc := 793) (tb_at tkL_law_12 23 rfl) ⟨by decide, by decide⟩ ?_
  refine r_iadd (pc := 794) (tb_at tkL_law_12 24 rfl) ?_
  refine r_iald_scr_w (pc := 795) (tb_at tkL_law_12 25 rfl) hGN h.1.1 h.1.2 ?_
  replace h := h.2
  refine r_aload_n (pc := 796) (tb_at tkL_law_12 26 rfl) rfl rfl ?_
  refine r_iload_n (pc := 797) (tb_at tkL_law_12 27 rfl) rfl rfl ?_
  refine r_iconst (pc := 798) (tb_at tkL_law_12 28 rfl) ⟨by decide, by decide⟩ ?_
  refine r_iadd (pc := 799) (tb_at tkL_law_12 29 rfl) ?_
  refine r_iald_scr_w (pc := 800) (tb_at tkL_law_12 30 rfl) hGN h.1.1 h.1.2 ?_
  replace h := h.2
  refine r_aload_n (pc := 801) (tb_at tkL_law_12 31 rfl) rfl rfl ?_
  refine r_iload_n (pc := 802) (tb_at tkL_law_12 32 rfl) rfl rfl ?_
  refine r_iconst (pc := 803) (tb_at tkL_law_12 33 rfl) ⟨by decide, by decide⟩ ?_
  refine r_iadd (pc := 804) (tb_at tkL_law_12 34 rfl) ?_
  refine r_iald_scr_w (pc := 805) (tb_at tkL_law_12 35 rfl) hGN h.1.1 h.1.2 ?_
  replace h := h.2
  refine r_aload_n (pc := 806) (tb_at tkL_law_12 36 rfl) rfl rfl ?_
  refine r_iload_n (pc := 807) (tb_at tkL_law_12 37 rfl) rfl rfl ?_
  refine r_iconst (pc := 808) (tb_at tkL_law_12 38 rfl) ⟨by decide, by decide⟩ ?_
  refine r_iadd (pc := 809) (tb_at tkL_law_12 39 rfl) ?_
  refine r_iald_scr_w (pc := 810) (tb_at tkL_law_13 0 rfl) hGN h.1.1 h.1.2 ?_
  replace h := h.2
  refine r_invV (mc' := 0) (ms' := 0) [.inl ((G.2.2.2.2.2 (v3 + 1).toNat).toInt), .inl ((G.2.2.2.2.2 (v3 + 2).toNat).toInt), .inl ((G.2.2.2.2.2 (v3 + 3).toNat).toInt), .inl ((G.2.2.2.2.2 (v3 + 4).toNat).toInt)] (S := []) (pc := 811) (tb_at tkL_law_13 1 rfl) rfl ly_0 rfl rfl clL_92 (Nat.le_of_ble_eq_true rfl) (Nat.le_refl _) (Nat.le_refl _) ?_
  refine Cal.mono h ?_
  rintro _ _ M1 ⟨x2, rfl, rfl, h⟩
  show Ok G miL_law (d + 1) 97 11937 (QI K) 814 [some (.inr (.inr (some 1001))), some (.inr (.inr (some 0))), some (.inr (.inr (some 66))), some (.inl v3)] [.inr (.inl x2)] lay0 M1 97 11937
  refine r_aload_n (pc := 814) (tb_at tkL_law_13 2 rfl) rfl rfl ?_
  refine r_aload_n (pc := 815) (tb_at tkL_law_13 3 rfl) rfl rfl ?_
  refine r_iload_n (pc := 816) (tb_at tkL_law_13 4 rfl) rfl rfl ?_
  refine r_iconst (pc := 817) (tb_at tkL_law_13 5 rfl) ⟨by decide, by decide⟩ ?_
  refine r_iadd (pc := 818) (tb_at tkL_law_13 6 rfl) ?_
  refine r_iald_scr_w (pc := 819) (tb_at tkL_law_13 7 rfl) hGN h.1.1 h.1.2 ?_
  replace h := h.2
  refine r_aload_n (pc := 820) (tb_at tkL_law_13 8 rfl) rfl rfl ?_
  refine r_iload_n (pc := 821) (tb_at tkL_law_13 9 rfl) rfl rfl ?_
  refine r_iconst (pc := 822) (tb_at tkL_law_13 10 rfl) ⟨by decide, by decide⟩ ?_
  refine r_iadd (pc := 823) (tb_at tkL_law_13 11 rfl) ?_
  refine r_iald_scr_w (pc := 824) (tb_at tkL_law_13 12 rfl) hGN h.1.1 h.1.2 ?_
  replace h := h.2
  refine r_aload_n (pc := 825) (tb_at tkL_law_13 13 rfl) rfl rfl ?_
  refine r_iload_n (pc := 826) (tb_at tkL_law_13 14 rfl) rfl rfl ?_
  refine r_iconst (pc := 827) (tb_at tkL_law_13 15 rfl) ⟨by decide, by decide⟩ ?_
  refine r_iadd (pc := 828) (tb_at tkL_law_13 16 rfl) ?_
  refine r_iald_scr_w (pc := 829) (tb_at tkL_law_13 17 rfl) hGN h.1.1 h.1.2 ?_
  replace h := h.2
  refine r_aload_n (pc := 830) (tb_at tkL_law_13 18 rfl) rfl rfl ?_
  refine r_iload_n (pc := 831) (tb_at tkL_law_13 19 rfl) rfl rfl ?_
  refine r_iconst (pc := 832) (tb_at tkL_law_13 20 rfl) ⟨by decide, by decide⟩ ?_
  refine r_iadd (pc := 833) (tb_at tkL_law_13 21 rfl) ?_
  refine r_iald_scr_w (pc := 834) (tb_at tkL_law_13 22 rfl) hGN h.1.1 h.1.2 ?_
  replace h := h.2
  refine r_invV (mc' := 0) (ms' := 0) [.inl ((G.2.2.2.2.2 (v3 + 1).toNat).toInt), .inl ((G.2.2.2.2.2 (v3 + 2).toNat).toInt), .inl ((G.2.2.2.2.2 (v3 + 3).toNat).toInt), .inl ((G.2.2.2.2.2 (v3 + 4).toNat).toInt)] (S := [.inr (.inl x2)]) (pc := 835) (tb_at tkL_law_13 23 rfl) rfl ly_66 rfl rfl clL_96 (Nat.le_of_ble_eq_true rfl) (Nat.le_refl _) (Nat.le_refl _) ?_
  refine Cal.mono h ?_
  rintro _ _ M3 ⟨x4, rfl, rfl, h⟩
  show Ok G miL_law (d + 1) 97 11937 (QI K) 838 [some (.inr (.inr (some 1001))), some (.inr (.inr (some 0))), some (.inr (.inr (some 66))), some (.inl v3)] [.inr (.inl x4), .inr (.inl x2)] lay0 M3 97 11937
  refine r_lcmp (pc := 838) (tb_at tkL_law_13 24 rfl) ?_
  refine q_lif_eq (tgt := 1588) (pc := 839) (tb_at tkL_law_13 25 rfl) (by decide) (fun c => ?_) (fun c => ?_)
  · replace h := h.1 c
    refine r_iinc (L' := [some (.inr (.inr (some 1001))), some (.inr (.inr (some 0))), some (.inr (.inr (some 66))), some (.inl (w32 (v3 + 7)))]) (pc := 1588) (tb_at tkL_law_29 4 rfl) rfl (by decide) rfl ?_
    refine r_goto (tgt := 18) (pc := 1591) (tb_at tkL_law_29 5 rfl) (by decide) ?_
    exact h
  · replace h := h.2 c
    refine r_iconst (pc := 842) (tb_at tkL_law_13 26 rfl) ⟨by decide, by decide⟩ ?_
    exact r_zret (pc := 843) (tb_at tkL_law_13 27 rfl) rfl (by decide) (Nat.le_refl _) (Nat.le_refl _) ⟨_, rfl, rfl, h⟩
set_option maxRecDepth 100000 in
set_option maxHeartbeats 4000000 in
theorem gL_law_844 {G : GE} {d : Nat} {K : Int → Mem → Prop} {M : Mem} {v3 : Int} (hGL : G.2.2.2.2.1 < 2147483648) (hGN : G.2.2.2.2.1 ≤ 2147483647) (h : (0 ≤ v3 + 1 ∧ v3 + 1 < (G.2.2.2.2.1 : Int)) ∧ CalI G miX10_tree d [.inr (.inr (some 0)), .inl ((G.2.2.2.2.2 (v3 + 1).toNat).toInt)] M (fun x2 M1 => (0 ≤ v3 + 1 ∧ v3 + 1 < (G.2.2.2.2.1 : Int)) ∧ CalI G miX11_tree d [.inr (.inr (some 66)), .inl ((G.2.2.2.2.2 (v3 + 1).toNat).toInt)] M1 (fun x4 M3 => ((x2 = x4 → Ok G miL_law (d + 1) 97 11937 (QI K) 18 [some (.inr (.inr (some 1001))), some (.inr (.inr (some 0))), some (.inr (.inr (some 66))), some (.inl (w32 (v3 + 7)))] [] lay0 M3 97 11937) ∧ (¬ x2 = x4 → K 0 M3))))) : Ok G miL_law (d + 1) 97 11937 (QI K) 844 [some (.inr (.inr (some 1001))), some (.inr (.inr (some 0))), some (.inr (.inr (some 66))), some (.inl v3)] [] lay0 M 97 11937 := by
  refine r_aload_n (pc := 844) (tb_at tkL_law_13 28 rfl) rfl rfl ?_
  refine r_aload_n (pc := 845) (tb_at tkL_law_13 29 rfl) rfl rfl ?_
  refine r_iload_n (pc := 846) (tb_at tkL_law_13 30 rfl) rfl rfl ?_
  refine r_iconst (pc := 847) (tb_at tkL_law_13 31 rfl) ⟨by decide, by decide⟩ ?_
  refine r_iadd (pc := 848) (tb_at tkL_law_13 32 rfl) ?_
  refine r_iald_scr_w (pc := 849) (tb_at tkL_law_13 33 rfl) hGN h.1.1 h.1.2 ?_
  replace h := h.2
  refine r_invV (mc' := 0) (ms' := 0) [.inl ((G.2.2.2.2.2 (v3 + 1).toNat).toInt)] (S := []) (pc := 850) (tb_at tkL_law_13 34 rfl) rfl ly_0 rfl rfl clL_97 (Nat.le_of_ble_eq_true rfl) (Nat.le_refl _) (Nat.le_refl _) ?_
  refine Cal.mono h ?_
  rintro _ _ M1 ⟨x2, rfl, rfl, h⟩
  show Ok G miL_law (d + 1) 97 11937 (QI K) 853 [some (.inr (.inr (some 1001))), some (.inr (.inr (some 0))), some (.inr (.inr (some 66))), some (.inl v3)] [.inl x2] lay0 M1 97 11937
  refine r_aload_n (pc := 853) (tb_at tkL_law_13 35 rfl) rfl rfl ?_
  refine r_aload_n (pc := 854) (tb_at tkL_law_13 36 rfl) rfl rfl ?_
  refine r_iload_n (pc := 855) (tb_at tkL_law_13 37 rfl) rfl rfl ?_
  refine r_iconst (pc := 856) (tb_at tkL_law_13 38 rfl) ⟨by decide, by decide⟩ ?_
  refine r_iadd (pc := 857) (tb_at tkL_law_13 39 rfl) ?_
  refine r_iald_scr_w (pc := 858) (tb_at tkL_law_14 0 rfl) hGN h.1.1 h.1.2 ?_
  replace h := h.2
  refine r_invV (mc' := 0) (ms' := 0) [.inl ((G.2.2.2.2.2 (v3 + 1).toNat).toInt)] (S := [.inl x2]) (pc := 859) (tb_at tkL_law_14 1 rfl) rfl ly_66 rfl rfl clL_100 (Nat.le_of_ble_eq_true rfl) (Nat.le_refl _) (Nat.le_refl _) ?_
  refine Cal.mono h ?_
  rintro _ _ M3 ⟨x4, rfl, rfl, h⟩
  show Ok G miL_law (d + 1) 97 11937 (QI K) 862 [some (.inr (.inr (some 1001))), some (.inr (.inr (some 0))), some (.inr (.inr (some 66))), some (.inl v3)] [.inl x4, .inl x2] lay0 M3 97 11937
  refine q_icmp_eq (tgt := 1588) (pc := 862) (tb_at tkL_law_14 2 rfl) (by decide) (fun c => ?_) (fun c => ?_)
  · replace h := h.1 c
    refine r_iinc (L' := [some (.inr (.inr (some 1001))), some (.inr (.inr (some 0))), some (.inr (.inr (some 66))), some (.inl (w32 (v3 + 7)))]) (pc := 1588) (tb_at tkL_law_29 4 rfl) rfl (by decide) rfl ?_
    refine r_goto (tgt := 18) (pc := 1591) (tb_at tkL_law_29 5 rfl) (by decide) ?_
    exact h
  · replace h := h.2 c
    refine r_iconst (pc := 865) (tb_at tkL_law_14 3 rfl) ⟨by decide, by decide⟩ ?_
    exact r_zret (pc := 866) (tb_at tkL_law_14 4 rfl) rfl (by decide) (Nat.le_refl _) (Nat.le_refl _) ⟨_, rfl, rfl, h⟩
set_option maxRecDepth 100000 in
set_option maxHeartbeats 4000000 in
theorem gL_law_867 {G : GE} {d : Nat} {K : Int → Mem → Prop} {M : Mem} {v3 : Int} (hGL : G.2.2.2.2.1 < 2147483648) (hGN : G.2.2.2.2.1 ≤ 2147483647) (h : (0 ≤ v3 + 1 ∧ v3 + 1 < (G.2.2.2.2.1 : Int)) ∧ (0 ≤ v3 + 2 ∧ v3 + 2 < (G.2.2.2.2.1 : Int)) ∧ (0 ≤ v3 + 3 ∧ v3 + 3 < (G.2.2.2.2.1 : Int)) ∧ CalI G miX10_proves d [.inr (.inr (some 0)), .inl ((G.2.2.2.2.2 (v3 + 1).toNat).toInt), .inl ((G.2.2.2.2.2 (v3 + 2).toNat).toInt), .inl ((G.2.2.2.2.2 (v3 + 3).toNat).toInt)] M (fun x2 M1 => (0 ≤ v3 + 1 ∧ v3 + 1 < (G.2.2.2.2.1 : Int)) ∧ (0 ≤ v3 + 2 ∧ v3 + 2 < (G.2.2.2.2.1 : Int)) ∧ (0 ≤ v3 + 3 ∧ v3 + 3 < (G.2.2.2.2.1 : Int)) ∧ CalI G miX11_proves d [.inr (.inr (some 66)), .inl ((G.2.2.2.2.2 (v3 + 1).toNat).toInt), .inl ((G.2.2.2.2.2 (v3 + 2).toNat).toInt), .inl ((G.2.2.2.2.2 (v3 + 3).toNat).toInt)] M1 (fun x4 M3 => ((x2 = x4 → Ok G miL_law (d + 1) 97 11937 (QI K) 18 [some (.inr (.inr (some 1001))), some (.inr (.inr (some 0))), some (.inr (.inr (some 66))), some (.inl (w32 (v3 + 7)))] [] lay0 M3 97 11937) ∧ (¬ x2 = x4 → K 0 M3))))) : Ok G miL_law (d + 1) 97 11937 (QI K) 867 [some (.inr (.inr (some 1001))), some (.inr (.inr (some 0))), some (.inr (.inr (some 66))), some (.inl v3)] [] lay0 M 97 11937 := by
  refine r_aload_n (pc := 867) (tb_at tkL_law_14 5 rfl) rfl rfl ?_
  refine r_aload_n (pc := 868) (tb_at tkL_law_14 6 rfl) rfl rfl ?_
  refine r_iload_n (pc := 869) (tb_at tkL_law_14 7 rfl) rfl rfl ?_
  refine r_iconst (pc := 870) (tb_at tkL_law_14 8 rfl) ⟨by decide, by decide⟩ ?_
  refine r_iadd (pc := 871) (tb_at tkL_law_14 9 rfl) ?_
  refine r_iald_scr_w (pc := 872) (tb_at tkL_law_14 10 rfl) hGN h.1.1 h.1.2 ?_
  replace h := h.2
  refine r_aload_n (pc := 873) (tb_at tkL_law_14 11 rfl) rfl rfl ?_
  refine r_iload_n (pc := 874) (tb_at tkL_law_14 12 rfl) rfl rfl ?_
  refine r_iconst (pc := 875) (tb_at tkL_law_14 13 rfl) ⟨by decide, by decide⟩ ?_
  refine r_iadd (pc := 876) (tb_at tkL_law_14 14 rfl) ?_
  refine r_iald_scr_w (pc := 877) (tb_at tkL_law_14 15 rfl) hGN h.1.1 h.1.2 ?_
  replace h := h.2
  refine r_aload_n (pc := 878) (tb_at tkL_law_14 16 rfl) rfl rfl ?_
  refine r_iload_n (pc := 879) (tb_at tkL_law_14 17 rfl) rfl rfl ?_
  refine r_iconst (pc := 880) (tb_at tkL_law_14 18 rfl) ⟨by decide, by decide⟩ ?_
  refine r_iadd (pc := 881) (tb_at tkL_law_14 19 rfl) ?_
  refine r_iald_scr_w (pc := 882) (tb_at tkL_law_14 20 rfl) hGN h.1.1 h.1.2 ?_
  replace h := h.2
  refine r_invV (mc' := 0) (ms' := 0) [.inl ((G.2.2.2.2.2 (v3 + 1).toNat).toInt), .inl ((G.2.2.2.2.2 (v3 + 2).toNat).toInt), .inl ((G.2.2.2.2.2 (v3 + 3).toNat).toInt)] (S := []) (pc := 883) (tb_at tkL_law_14 21 rfl) rfl ly_0 rfl rfl clL_101 (Nat.le_of_ble_eq_true rfl) (Nat.le_refl _) (Nat.le_refl _) ?_
  refine Cal.mono h ?_
  rintro _ _ M1 ⟨x2, rfl, rfl, h⟩
  show Ok G miL_law (d + 1) 97 11937 (QI K) 886 [some (.inr (.inr (some 1001))), some (.inr (.inr (some 0))), some (.inr (.inr (some 66))), some (.inl v3)] [.inl x2] lay0 M1 97 11937
  refine r_aload_n (pc := 886) (tb_at tkL_law_14 22 rfl) rfl rfl ?_
  refine r_aload_n (pc := 887) (tb_at tkL_law_14 23 rfl) rfl rfl ?_
  refine r_iload_n (pc := 888) (tb_at tkL_law_14 24 rfl) rfl rfl ?_
  refine r_iconst (pc := 889) (tb_at tkL_law_14 25 rfl) ⟨by decide, by decide⟩ ?_
  refine r_iadd (pc := 890) (tb_at tkL_law_14 26 rfl) ?_
  refine r_iald_scr_w (pc := 891) (tb_at tkL_law_14 27 rfl) hGN h.1.1 h.1.2 ?_
  replace h := h.2
  refine r_aload_n (pc := 892) (tb_at tkL_law_14 28 rfl) rfl rfl ?_
  refine r_iload_n (pc := 893) (tb_at tkL_law_14 29 rfl) rfl rfl ?_
  refine r_iconst (pc := 894) (tb_at tkL_law_14 30 rfl) ⟨by decide, by decide⟩ ?_
  refine r_iadd (pc := 895) (tb_at tkL_law_14 31 rfl) ?_
  refine r_iald_scr_w (pc := 896) (tb_at tkL_law_14 32 rfl) hGN h.1.1 h.1.2 ?_
  replace h := h.2
  refine r_aload_n (pc := 897) (tb_at tkL_law_14 33 rfl) rfl rfl ?_
  refine r_iload_n (pc := 898) (tb_at tkL_law_14 34 rfl) rfl rfl ?_
  refine r_iconst (pc := 899) (tb_at tkL_law_14 35 rfl) ⟨by decide, by decide⟩ ?_
  refine r_iadd (pc := 900) (tb_at tkL_law_14 36 rfl) ?_
  refine r_iald_scr_w (pc := 901) (tb_at tkL_law_14 37 rfl) hGN h.1.1 h.1.2 ?_
  replace h := h.2
  refine r_invV (mc' := 0) (ms' := 0) [.inl ((G.2.2.2.2.2 (v3 + 1).toNat).toInt), .inl ((G.2.2.2.2.2 (v3 + 2).toNat).toInt), .inl ((G.2.2.2.2.2 (v3 + 3).toNat).toInt)] (S := [.inl x2]) (pc := 902) (tb_at tkL_law_14 38 rfl) rfl ly_66 rfl rfl clL_104 (Nat.le_of_ble_eq_true rfl) (Nat.le_refl _) (Nat.le_refl _) ?_
  refine Cal.mono h ?_
  rintro _ _ M3 ⟨x4, rfl, rfl, h⟩
  show Ok G miL_law (d + 1) 97 11937 (QI K) 905 [some (.inr (.inr (some 1001))), some (.inr (.inr (some 0))), some (.inr (.inr (some 66))), some (.inl v3)] [.inl x4, .inl x2] lay0 M3 97 11937
  refine q_icmp_eq (tgt := 1588) (pc := 905) (tb_at tkL_law_14 39 rfl) (by decide) (fun c => ?_) (fun c => ?_)
  · replace h := h.1 c
    refine r_iinc (L' := [some (.inr (.inr (some 1001))), some (.inr (.inr (some 0))), some (.inr (.inr (some 66))), some (.inl (w32 (v3 + 7)))]) (pc := 1588) (tb_at tkL_law_29 4 rfl) rfl (by decide) rfl ?_
    refine r_goto (tgt := 18) (pc := 1591) (tb_at tkL_law_29 5 rfl) (by decide) ?_
    exact h
  · replace h := h.2 c
    refine r_iconst (pc := 908) (tb_at tkL_law_15 0 rfl) ⟨by decide, by decide⟩ ?_
    exact r_zret (pc := 909) (tb_at tkL_law_15 1 rfl) rfl (by decide) (Nat.le_refl _) (Nat.le_refl _) ⟨_, rfl, rfl, h⟩
set_option maxRecDepth 100000 in
set_option maxHeartbeats 4000000 in
theorem gL_law_910 {G : GE} {d : Nat} {K : Int → Mem → Prop} {M : Mem} {v3 : Int} (hGL : G.2.2.2.2.1 < 2147483648) (hGN : G.2.2.2.2.1 ≤ 2147483647) (h : (0 ≤ v3 + 1 ∧ v3 + 1 < (G.2.2.2.2.1 : Int)) ∧ (0 ≤ v3 + 2 ∧ v3 + 2 < (G.2.2.2.2.1 : Int)) ∧ CalI G miX10_labels d [.inr (.inr (some 0)), .inl ((G.2.2.2.2.2 (v3 + 1).toNat).toInt), .inl ((G.2.2.2.2.2 (v3 + 2).toNat).toInt)] M (fun x2 M1 => (0 ≤ v3 + 1 ∧ v3 + 1 < (G.2.2.2.2.1 : Int)) ∧ (0 ≤ v3 + 2 ∧ v3 + 2 < (G.2.2.2.2.1 : Int)) ∧ CalI G miX11_labels d [.inr (.inr (some 66)), .inl ((G.2.2.2.2.2 (v3 + 1).toNat).toInt), .inl ((G.2.2.2.2.2 (v3 + 2).toNat).toInt)] M1 (fun x4 M3 => ((x2 = x4 → Ok G miL_law (d + 1) 97 11937 (QI K) 18 [some (.inr (.inr (some 1001))), some (.inr (.inr (some 0))), some (.inr (.inr (some 66))), some (.inl (w32 (v3 + 7)))] [] lay0 M3 97 11937) ∧ (¬ x2 = x4 → K 0 M3))))) : Ok G miL_law (d + 1) 97 11937 (QI K) 910 [some (.inr (.inr (some 1001))), some (.inr (.inr (some 0))), some (.inr (.inr (some 66))), some (.inl v3)] [] lay0 M 97 11937 := by
  refine r_aload_n (pc := 910) (tb_at tkL_law_15 2 rfl) rfl rfl ?_
  refine r_aload_n (pc := 911) (tb_at tkL_law_15 3 rfl) rfl rfl ?_
  refine r_iload_n (pc := 912) (tb_at tkL_law_15 4 rfl) rfl rfl ?_
  refine r_iconst (pc := 913) (tb_at tkL_law_15 5 rfl) ⟨by decide, by decide⟩ ?_
  refine r_iadd (pc := 914) (tb_at tkL_law_15 6 rfl) ?_
  refine r_iald_scr_w (pc := 915) (tb_at tkL_law_15 7 rfl) hGN h.1.1 h.1.2 ?_
  replace h := h.2
  refine r_aload_n (pc := 916) (tb_at tkL_law_15 8 rfl) rfl rfl ?_
  refine r_iload_n (pc := 917) (tb_at tkL_law_15 9 rfl) rfl rfl ?_
  refine r_iconst (pc := 918) (tb_at tkL_law_15 10 rfl) ⟨by decide, by decide⟩ ?_
  refine r_iadd (pc := 919) (tb_at tkL_law_15 11 rfl) ?_
  refine r_iald_scr_w (pc := 920) (tb_at tkL_law_15 12 rfl) hGN h.1.1 h.1.2 ?_
  replace h := h.2
  refine r_invV (mc' := 0) (ms' := 0) [.inl ((G.2.2.2.2.2 (v3 + 1).toNat).toInt), .inl ((G.2.2.2.2.2 (v3 + 2).toNat).toInt)] (S := []) (pc := 921) (tb_at tkL_law_15 13 rfl) rfl ly_0 rfl rfl clL_105 (Nat.le_of_ble_eq_true rfl) (Nat.le_refl _) (Nat.le_refl _) ?_
  refine Cal.mono h ?_
  rintro _ _ M1 ⟨x2, rfl, rfl, h⟩
  show Ok G miL_law (d + 1) 97 11937 (QI K) 924 [some (.inr (.inr (some 1001))), some (.inr (.inr (some 0))), some (.inr (.inr (some 66))), some (.inl v3)] [.inl x2] lay0 M1 97 11937
  refine r_aload_n (pc := 924) (tb_at tkL_law_15 14 rfl) rfl rfl ?_
  refine r_aload_n (pc := 925) (tb_at tkL_law_15 15 rfl) rfl rfl ?_
  refine r_iload_n (pc := 926) (tb_at tkL_law_15 16 rfl) rfl rfl ?_
  refine r_iconst (pc := 927) (tb_at tkL_law_15 17 rfl) ⟨by decide, by decide⟩ ?_
  refine r_iadd (pc := 928) (tb_at tkL_law_15 18 rfl) ?_
  refine r_iald_scr_w (pc := 929) (tb_at tkL_law_15 19 rfl) hGN h.1.1 h.1.2 ?_
  replace h := h.2
  refine r_aload_n (pc := 930) (tb_at tkL_law_15 20 rfl) rfl rfl ?_
  refine r_iload_n (pc := 931) (tb_at tkL_law_15 21 rfl) rfl rfl ?_
  refine r_iconst (pc := 932) (tb_at tkL_law_15 22 rfl) ⟨by decide, by decide⟩ ?_
  refine r_iadd (pc := 933) (tb_at tkL_law_15 23 rfl) ?_
  refine r_iald_scr_w (pc := 934) (tb_at tkL_law_15 24 rfl) hGN h.1.1 h.1.2 ?_
  replace h := h.2
  refine r_invV (mc' := 0) (ms' := 0) [.inl ((G.2.2.2.2.2 (v3 + 1).toNat).toInt), .inl ((G.2.2.2.2.2 (v3 + 2).toNat).toInt)] (S := [.inl x2]) (pc := 935) (tb_at tkL_law_15 25 rfl) rfl ly_66 rfl rfl clL_108 (Nat.le_of_ble_eq_true rfl) (Nat.le_refl _) (Nat.le_refl _) ?_
  refine Cal.mono h ?_
  rintro _ _ M3 ⟨x4, rfl, rfl, h⟩
  show Ok G miL_law (d + 1) 97 11937 (QI K) 938 [some (.inr (.inr (some 1001))), some (.inr (.inr (some 0))), some (.inr (.inr (some 66))), some (.inl v3)] [.inl x4, .inl x2] lay0 M3 97 11937
  refine q_icmp_eq (tgt := 1588) (pc := 938) (tb_at tkL_law_15 26 rfl) (by decide) (fun c => ?_) (fun c => ?_)
  · replace h := h.1 c
    refine r_iinc (L' := [some (.inr (.inr (some 1001))), some (.inr (.inr (some 0))), some (.inr (.inr (some 66))), some (.inl (w32 (v3 + 7)))]) (pc := 1588) (tb_at tkL_law_29 4 rfl) rfl (by decide) rfl ?_
    refine r_goto (tgt := 18) (pc := 1591) (tb_at tkL_law_29 5 rfl) (by decide) ?_
    exact h
  · replace h := h.2 c
    refine r_iconst (pc := 941) (tb_at tkL_law_15 27 rfl) ⟨by decide, by decide⟩ ?_
    exact r_zret (pc := 942) (tb_at tkL_law_15 28 rfl) rfl (by decide) (Nat.le_refl _) (Nat.le_refl _) ⟨_, rfl, rfl, h⟩
set_option maxRecDepth 100000 in
set_option maxHeartbeats 4000000 in
theorem gL_law_943 {G : GE} {d : Nat} {K : Int → Mem → Prop} {M : Mem} {v3 : Int} (hGL : G.2.2.2.2.1 < 2147483648) (hGN : G.2.2.2.2.1 ≤ 2147483647) (h : (0 ≤ v3 + 1 ∧ v3 + 1 < (G.2.2.2.2.1 : Int)) ∧ CalL G miX10_way d [.inr (.inr (some 0)), .inl ((G.2.2.2.2.2 (v3 + 1).toNat).toInt)] M (fun x2 M1 => (0 ≤ v3 + 1 ∧ v3 + 1 < (G.2.2.2.2.1 : Int)) ∧ CalL G miX11_way d [.inr (.inr (some 66)), .inl ((G.2.2.2.2.2 (v3 + 1).toNat).toInt)] M1 (fun x4 M3 => ((x2 = x4 → Ok G miL_law (d + 1) 97 11937 (QI K) 18 [some (.inr (.inr (some 1001))), some (.inr (.inr (some 0))), some (.inr (.inr (some 66))), some (.inl (w32 (v3 + 7)))] [] lay0 M3 97 11937) ∧ (¬ x2 = x4 → K 0 M3))))) : Ok G miL_law (d + 1) 97 11937 (QI K) 943 [some (.inr (.inr (some 1001))), some (.inr (.inr (some 0))), some (.inr (.inr (some 66))), some (.inl v3)] [] lay0 M 97 11937 := by
  refine r_aload_n (pc := 943) (tb_at tkL_law_15 29 rfl) rfl rfl ?_
  refine r_aload_n (pc := 944) (tb_at tkL_law_15 30 rfl) rfl rfl ?_
  refine r_iload_n (pc := 945) (tb_at tkL_law_15 31 rfl) rfl rfl ?_
  refine r_iconst (pc := 946) (tb_at tkL_law_15 32 rfl) ⟨by decide, by decide⟩ ?_
  refine r_iadd (pc := 947) (tb_at tkL_law_15 33 rfl) ?_
  refine r_iald_scr_w (pc := 948) (tb_at tkL_law_15 34 rfl) hGN h.1.1 h.1.2 ?_
  replace h := h.2
  refine r_invV (mc' := 0) (ms' := 0) [.inl ((G.2.2.2.2.2 (v3 + 1).toNat).toInt)] (S := []) (pc := 949) (tb_at tkL_law_15 35 rfl) rfl ly_0 rfl rfl clL_109 (Nat.le_of_ble_eq_true rfl) (Nat.le_refl _) (Nat.le_refl _) ?_
  refine Cal.mono h ?_
  rintro _ _ M1 ⟨x2, rfl, rfl, h⟩
  show Ok G miL_law (d + 1) 97 11937 (QI K) 952 [some (.inr (.inr (some 1001))), some (.inr (.inr (some 0))), some (.inr (.inr (some 66))), some (.inl v3)] [.inr (.inl x2)] lay0 M1 97 11937
  refine r_aload_n (pc := 952) (tb_at tkL_law_15 36 rfl) rfl rfl ?_
  refine r_aload_n (pc := 953) (tb_at tkL_law_15 37 rfl) rfl rfl ?_
  refine r_iload_n (pc := 954) (tb_at tkL_law_15 38 rfl) rfl rfl ?_
  refine r_iconst (pc := 955) (tb_at tkL_law_15 39 rfl) ⟨by decide, by decide⟩ ?_
  refine r_iadd (pc := 956) (tb_at tkL_law_16 0 rfl) ?_
  refine r_iald_scr_w (pc := 957) (tb_at tkL_law_16 1 rfl) hGN h.1.1 h.1.2 ?_
  replace h := h.2
  refine r_invV (mc' := 0) (ms' := 0) [.inl ((G.2.2.2.2.2 (v3 + 1).toNat).toInt)] (S := [.inr (.inl x2)]) (pc := 958) (tb_at tkL_law_16 2 rfl) rfl ly_66 rfl rfl clL_112 (Nat.le_of_ble_eq_true rfl) (Nat.le_refl _) (Nat.le_refl _) ?_
  refine Cal.mono h ?_
  rintro _ _ M3 ⟨x4, rfl, rfl, h⟩
  show Ok G miL_law (d + 1) 97 11937 (QI K) 961 [some (.inr (.inr (some 1001))), some (.inr (.inr (some 0))), some (.inr (.inr (some 66))), some (.inl v3)] [.inr (.inl x4), .inr (.inl x2)] lay0 M3 97 11937
  refine r_lcmp (pc := 961) (tb_at tkL_law_16 3 rfl) ?_
  refine q_lif_eq (tgt := 1588) (pc := 962) (tb_at tkL_law_16 4 rfl) (by decide) (fun c => ?_) (fun c => ?_)
  · replace h := h.1 c
    refine r_iinc (L' := [some (.inr (.inr (some 1001))), some (.inr (.inr (some 0))), some (.inr (.inr (some 66))), some (.inl (w32 (v3 + 7)))]) (pc := 1588) (tb_at tkL_law_29 4 rfl) rfl (by decide) rfl ?_
    refine r_goto (tgt := 18) (pc := 1591) (tb_at tkL_law_29 5 rfl) (by decide) ?_
    exact h
  · replace h := h.2 c
    refine r_iconst (pc := 965) (tb_at tkL_law_16 5 rfl) ⟨by decide, by decide⟩ ?_
    exact r_zret (pc := 966) (tb_at tkL_law_16 6 rfl) rfl (by decide) (Nat.le_refl _) (Nat.le_refl _) ⟨_, rfl, rfl, h⟩
set_option maxRecDepth 100000 in
set_option maxHeartbeats 4000000 in
theorem gL_law_967 {G : GE} {d : Nat} {K : Int → Mem → Prop} {M : Mem} {v3 : Int} (hGL : G.2.2.2.2.1 < 2147483648) (hGN : G.2.2.2.2.1 ≤ 2147483647) (h : (0 ≤ v3 + 1 ∧ v3 + 1 < (G.2.2.2.2.1 : Int)) ∧ (0 ≤ v3 + 2 ∧ v3 + 2 < (G.2.2.2.2.1 : Int)) ∧ (0 ≤ v3 + 3 ∧ v3 + 3 < (G.2.2.2.2.1 : Int)) ∧ CalI G miX10_late d [.inr (.inr (some 0)), .inl ((G.2.2.2.2.2 (v3 + 1).toNat).toInt), .inl ((G.2.2.2.2.2 (v3 + 2).toNat).toInt), .inl ((G.2.2.2.2.2 (v3 + 3).toNat).toInt)] M (fun x2 M1 => (0 ≤ v3 + 1 ∧ v3 + 1 < (G.2.2.2.2.1 : Int)) ∧ (0 ≤ v3 + 2 ∧ v3 + 2 < (G.2.2.2.2.1 : Int)) ∧ (0 ≤ v3 + 3 ∧ v3 + 3 < (G.2.2.2.2.1 : Int)) ∧ CalI G miX11_late d [.inr (.inr (some 66)), .inl ((G.2.2.2.2.2 (v3 + 1).toNat).toInt), .inl ((G.2.2.2.2.2 (v3 + 2).toNat).toInt), .inl ((G.2.2.2.2.2 (v3 + 3).toNat).toInt)] M1 (fun x4 M3 => ((x2 = x4 → Ok G miL_law (d + 1) 97 11937 (QI K) 18 [some (.inr (.inr (some 1001))), some (.inr (.inr (some 0))), some (.inr (.inr (some 66))), some (.inl (w32 (v3 + 7)))] [] lay0 M3 97 11937) ∧ (¬ x2 = x4 → K 0 M3))))) : Ok G miL_law (d + 1) 97 11937 (QI K) 967 [some (.inr (.inr (some 1001))), some (.inr (.inr (some 0))), some (.inr (.inr (some 66))), some (.inl v3)] [] lay0 M 97 11937 := by
  refine r_aload_n (pc := 967) (tb_at tkL_law_16 7 rfl) rfl rfl ?_
  refine r_aload_n (pc := 968) (tb_at tkL_law_16 8 rfl) rfl rfl ?_
  refine r_iload_n (pc := 969) (tb_at tkL_law_16 9 rfl) rfl rfl ?_
  refine r_iconst (pc := 970) (tb_at tkL_law_16 10 rfl) ⟨by decide, by decide⟩ ?_
  refine r_iadd (pc := 971) (tb_at tkL_law_16 11 rfl) ?_
  refine r_iald_scr_w (pc := 972) (tb_at tkL_law_16 12 rfl) hGN h.1.1 h.1.2 ?_
  replace h := h.2
  refine r_aload_n (pc := 973) (tb_at tkL_law_16 13 rfl) rfl rfl ?_
  refine r_iload_n (pc := 974) (tb_at tkL_law_16 14 rfl) rfl rfl ?_
  refine r_iconst (pc := 975) (tb_at tkL_law_16 15 rfl) ⟨by decide, by decide⟩ ?_
  refine r_iadd (pc := 976) (tb_at tkL_law_16 16 rfl) ?_
  refine r_iald_scr_w (pc := 977) (tb_at tkL_law_16 17 rfl) hGN h.1.1 h.1.2 ?_
  replace h := h.2
  refine r_aload_n (pc := 978) (tb_at tkL_law_16 18 rfl) rfl rfl ?_
  refine r_iload_n (pc := 979) (tb_at tkL_law_16 19 rfl) rfl rfl ?_
  refine r_iconst (pc := 980) (tb_at tkL_law_16 20 rfl) ⟨by decide, by decide⟩ ?_
  refine r_iadd (pc := 981) (tb_at tkL_law_16 21 rfl) ?_
  refine r_iald_scr_w (pc := 982) (tb_at tkL_law_16 22 rfl) hGN h.1.1 h.1.2 ?_
  replace h := h.2
  refine r_invV (mc' := 0) (ms' := 0) [.inl ((G.2.2.2.2.2 (v3 + 1).toNat).toInt), .inl ((G.2.2.2.2.2 (v3 + 2).toNat).toInt), .inl ((G.2.2.2.2.2 (v3 + 3).toNat).toInt)] (S := []) (pc := 983) (tb_at tkL_law_16 23 rfl) rfl ly_0 rfl rfl clL_113 (Nat.le_of_ble_eq_true rfl) (Nat.le_refl _) (Nat.le_refl _) ?_
  refine Cal.mono h ?_
  rintro _ _ M1 ⟨x2, rfl, rfl, h⟩
  show Ok G miL_law (d + 1) 97 11937 (QI K) 986 [some (.inr (.inr (some 1001))), some (.inr (.inr (some 0))), some (.inr (.inr (some 66))), some (.inl v3)] [.inl x2] lay0 M1 97 11937
  refine r_aload_n (pc := 986) (tb_at tkL_law_16 24 rfl) rfl rfl ?_
  refine r_aload_n (pc := 987) (tb_at tkL_law_16 25 rfl) rfl rfl ?_
  refine r_iload_n (pc := 988) (tb_at tkL_law_16 26 rfl) rfl rfl ?_
  refine r_iconst (pc := 989) (tb_at tkL_law_16 27 rfl) ⟨by decide, by decide⟩ ?_
  refine r_iadd (pc := 990) (tb_at tkL_law_16 28 rfl) ?_
  refine r_iald_scr_w (pc := 991) (tb_at tkL_law_16 29 rfl) hGN h.1.1 h.1.2 ?_
  replace h := h.2
  refine r_aload_n (pc := 992) (tb_at tkL_law_16 30 rfl) rfl rfl ?_
  refine r_iload_n (pc := 993) (tb_at tkL_law_16 31 rfl) rfl rfl ?_
  refine r_iconst (pc := 994) (tb_at tkL_law_16 32 rfl) ⟨by decide, by decide⟩ ?_
  refine r_iadd (pc := 995) (tb_at tkL_law_16 33 rfl) ?_
  refine r_iald_scr_w (pc := 996) (tb_at tkL_law_16 34 rfl) hGN h.1.1 h.1.2 ?_
  replace h := h.2
  refine r_aload_n (pc := 997) (tb_at tkL_law_16 35 rfl) rfl rfl ?_
  refine r_iload_n (pc := 998) (tb_at tkL_law_16 36 rfl) rfl rfl ?_
  refine r_iconst (pc := 999) (tb_at tkL_law_16 37 rfl) ⟨by decide, by decide⟩ ?_
  refine r_iadd (pc := 1000) (tb_at tkL_law_16 38 rfl) ?_
  refine r_iald_scr_w (pc := 1001) (tb_at tkL_law_16 39 rfl) hGN h.1.1 h.1.2 ?_
  replace h := h.2
  refine r_invV (mc' := 0) (ms' := 0) [.inl ((G.2.2.2.2.2 (v3 + 1).toNat).toInt), .inl ((G.2.2.2.2.2 (v3 + 2).toNat).toInt), .inl ((G.2.2.2.2.2 (v3 + 3).toNat).toInt)] (S := [.inl x2]) (pc := 1002) (tb_at tkL_law_17 0 rfl) rfl ly_66 rfl rfl clL_116 (Nat.le_of_ble_eq_true rfl) (Nat.le_refl _) (Nat.le_refl _) ?_
  refine Cal.mono h ?_
  rintro _ _ M3 ⟨x4, rfl, rfl, h⟩
  show Ok G miL_law (d + 1) 97 11937 (QI K) 1005 [some (.inr (.inr (some 1001))), some (.inr (.inr (some 0))), some (.inr (.inr (some 66))), some (.inl v3)] [.inl x4, .inl x2] lay0 M3 97 11937
  refine q_icmp_eq (tgt := 1588) (pc := 1005) (tb_at tkL_law_17 1 rfl) (by decide) (fun c => ?_) (fun c => ?_)
  · replace h := h.1 c
    refine r_iinc (L' := [some (.inr (.inr (some 1001))), some (.inr (.inr (some 0))), some (.inr (.inr (some 66))), some (.inl (w32 (v3 + 7)))]) (pc := 1588) (tb_at tkL_law_29 4 rfl) rfl (by decide) rfl ?_
    refine r_goto (tgt := 18) (pc := 1591) (tb_at tkL_law_29 5 rfl) (by decide) ?_
    exact h
  · replace h := h.2 c
    refine r_iconst (pc := 1008) (tb_at tkL_law_17 2 rfl) ⟨by decide, by decide⟩ ?_
    exact r_zret (pc := 1009) (tb_at tkL_law_17 3 rfl) rfl (by decide) (Nat.le_refl _) (Nat.le_refl _) ⟨_, rfl, rfl, h⟩
set_option maxRecDepth 100000 in
set_option maxHeartbeats 4000000 in
theorem gL_law_1010 {G : GE} {d : Nat} {K : Int → Mem → Prop} {M : Mem} {v3 : Int} (hGL : G.2.2.2.2.1 < 2147483648) (hGN : G.2.2.2.2.1 ≤ 2147483647) (h : (0 ≤ v3 + 1 ∧ v3 + 1 < (G.2.2.2.2.1 : Int)) ∧ CalI G miX10_worst d [.inr (.inr (some 0)), .inl ((G.2.2.2.2.2 (v3 + 1).toNat).toInt)] M (fun x2 M1 => (0 ≤ v3 + 1 ∧ v3 + 1 < (G.2.2.2.2.1 : Int)) ∧ CalI G miX11_worst d [.inr (.inr (some 66)), .inl ((G.2.2.2.2.2 (v3 + 1).toNat).toInt)] M1 (fun x4 M3 => ((x2 = x4 → Ok G miL_law (d + 1) 97 11937 (QI K) 18 [some (.inr (.inr (some 1001))), some (.inr (.inr (some 0))), some (.inr (.inr (some 66))), some (.inl (w32 (v3 + 7)))] [] lay0 M3 97 11937) ∧ (¬ x2 = x4 → K 0 M3))))) : Ok G miL_law (d + 1) 97 11937 (QI K) 1010 [some (.inr (.inr (some 1001))), some (.inr (.inr (some 0))), some (.inr (.inr (some 66))), some (.inl v3)] [] lay0 M 97 11937 := by
  refine r_aload_n (pc := 1010) (tb_at tkL_law_17 4 rfl) rfl rfl ?_
  refine r_aload_n (pc := 1011) (tb_at tkL_law_17 5 rfl) rfl rfl ?_
  refine r_iload_n (pc := 1012) (tb_at tkL_law_17 6 rfl) rfl rfl ?_
  refine r_iconst (pc := 1013) (tb_at tkL_law_17 7 rfl) ⟨by decide, by decide⟩ ?_
  refine r_iadd (pc := 1014) (tb_at tkL_law_17 8 rfl) ?_
  refine r_iald_scr_w (pc := 1015) (tb_at tkL_law_17 9 rfl) hGN h.1.1 h.1.2 ?_
  replace h := h.2
  refine r_invV (mc' := 0) (ms' := 0) [.inl ((G.2.2.2.2.2 (v3 + 1).toNat).toInt)] (S := []) (pc := 1016) (tb_at tkL_law_17 10 rfl) rfl ly_0 rfl rfl clL_117 (Nat.le_of_ble_eq_true rfl) (Nat.le_refl _) (Nat.le_refl _) ?_
  refine Cal.mono h ?_
  rintro _ _ M1 ⟨x2, rfl, rfl, h⟩
  show Ok G miL_law (d + 1) 97 11937 (QI K) 1019 [some (.inr (.inr (some 1001))), some (.inr (.inr (some 0))), some (.inr (.inr (some 66))), some (.inl v3)] [.inl x2] lay0 M1 97 11937
  refine r_aload_n (pc := 1019) (tb_at tkL_law_17 11 rfl) rfl rfl ?_
  refine r_aload_n (pc := 1020) (tb_at tkL_law_17 12 rfl) rfl rfl ?_
  refine r_iload_n (pc := 1021) (tb_at tkL_law_17 13 rfl) rfl rfl ?_
  refine r_iconst (pc := 1022) (tb_at tkL_law_17 14 rfl) ⟨by decide, by decide⟩ ?_
  refine r_iadd (pc := 1023) (tb_at tkL_law_17 15 rfl) ?_
  refine r_iald_scr_w (pc := 1024) (tb_at tkL_law_17 16 rfl) hGN h.1.1 h.1.2 ?_
  replace h := h.2
  refine r_invV (mc' := 0) (ms' := 0) [.inl ((G.2.2.2.2.2 (v3 + 1).toNat).toInt)] (S := [.inl x2]) (pc := 1025) (tb_at tkL_law_17 17 rfl) rfl ly_66 rfl rfl clL_120 (Nat.le_of_ble_eq_true rfl) (Nat.le_refl _) (Nat.le_refl _) ?_
  refine Cal.mono h ?_
  rintro _ _ M3 ⟨x4, rfl, rfl, h⟩
  show Ok G miL_law (d + 1) 97 11937 (QI K) 1028 [some (.inr (.inr (some 1001))), some (.inr (.inr (some 0))), some (.inr (.inr (some 66))), some (.inl v3)] [.inl x4, .inl x2] lay0 M3 97 11937
  refine q_icmp_eq (tgt := 1588) (pc := 1028) (tb_at tkL_law_17 18 rfl) (by decide) (fun c => ?_) (fun c => ?_)
  · replace h := h.1 c
    refine r_iinc (L' := [some (.inr (.inr (some 1001))), some (.inr (.inr (some 0))), some (.inr (.inr (some 66))), some (.inl (w32 (v3 + 7)))]) (pc := 1588) (tb_at tkL_law_29 4 rfl) rfl (by decide) rfl ?_
    refine r_goto (tgt := 18) (pc := 1591) (tb_at tkL_law_29 5 rfl) (by decide) ?_
    exact h
  · replace h := h.2 c
    refine r_iconst (pc := 1031) (tb_at tkL_law_17 19 rfl) ⟨by decide, by decide⟩ ?_
    exact r_zret (pc := 1032) (tb_at tkL_law_17 20 rfl) rfl (by decide) (Nat.le_refl _) (Nat.le_refl _) ⟨_, rfl, rfl, h⟩
set_option maxRecDepth 100000 in
set_option maxHeartbeats 4000000 in
theorem gL_law_1033 {G : GE} {d : Nat} {K : Int → Mem → Prop} {M : Mem} {v3 : Int} (hGL : G.2.2.2.2.1 < 2147483648) (hGN : G.2.2.2.2.1 ≤ 2147483647) (h : (0 ≤ v3 + 1 ∧ v3 + 1 < (G.2.2.2.2.1 : Int)) ∧ (0 ≤ v3 + 2 ∧ v3 + 2 < (G.2.2.2.2.1 : Int)) ∧ CalI G miX10_drawn d [.inr (.inr (some 0)), .inl ((G.2.2.2.2.2 (v3 + 1).toNat).toInt), .inl ((G.2.2.2.2.2 (v3 + 2).toNat).toInt)] M (fun x2 M1 => (0 ≤ v3 + 1 ∧ v3 + 1 < (G.2.2.2.2.1 : Int)) ∧ (0 ≤ v3 + 2 ∧ v3 + 2 < (G.2.2.2.2.1 : Int)) ∧ CalI G miX11_drawn d [.inr (.inr (some 66)), .inl ((G.2.2.2.2.2 (v3 + 1).toNat).toInt), .inl ((G.2.2.2.2.2 (v3 + 2).toNat).toInt)] M1 (fun x4 M3 => ((x2 = x4 → Ok G miL_law (d + 1) 97 11937 (QI K) 18 [some (.inr (.inr (some 1001))), some (.inr (.inr (some 0))), some (.inr (.inr (some 66))), some (.inl (w32 (v3 + 7)))] [] lay0 M3 97 11937) ∧ (¬ x2 = x4 → K 0 M3))))) : Ok G miL_law (d + 1) 97 11937 (QI K) 1033 [some (.inr (.inr (some 1001))), some (.inr (.inr (some 0))), some (.inr (.inr (some 66))), some (.inl v3)] [] lay0 M 97 11937 := by
  refine r_aload_n (pc := 1033) (tb_at tkL_law_17 21 rfl) rfl rfl ?_
  refine r_aload_n (pc := 1034) (tb_at tkL_law_17 22 rfl) rfl rfl ?_
  refine r_iload_n (pc := 1035) (tb_at tkL_law_17 23 rfl) rfl rfl ?_
  refine r_iconst (pc := 1036) (tb_at tkL_law_17 24 rfl) ⟨by decide, by decide⟩ ?_
  refine r_iadd (pc := 1037) (tb_at tkL_law_17 25 rfl) ?_
  refine r_iald_scr_w (pc := 1038) (tb_at tkL_law_17 26 rfl) hGN h.1.1 h.1.2 ?_
  replace h := h.2
  refine r_aload_n (pc := 1039) (tb_at tkL_law_17 27 rfl) rfl rfl ?_
  refine r_iload_n (pc := 1040) (tb_at tkL_law_17 28 rfl) rfl rfl ?_
  refine r_iconst (pc := 1041) (tb_at tkL_law_17 29 rfl) ⟨by decide, by decide⟩ ?_
  refine r_iadd (pc := 1042) (tb_at tkL_law_17 30 rfl) ?_
  refine r_iald_scr_w (pc := 1043) (tb_at tkL_law_17 31 rfl) hGN h.1.1 h.1.2 ?_
  replace h := h.2
  refine r_invV (mc' := 0) (ms' := 0) [.inl ((G.2.2.2.2.2 (v3 + 1).toNat).toInt), .inl ((G.2.2.2.2.2 (v3 + 2).toNat).toInt)] (S := []) (pc := 1044) (tb_at tkL_law_17 32 rfl) rfl ly_0 rfl rfl clL_121 (Nat.le_of_ble_eq_true rfl) (Nat.le_refl _) (Nat.le_refl _) ?_
  refine Cal.mono h ?_
  rintro _ _ M1 ⟨x2, rfl, rfl, h⟩
  show Ok G miL_law (d + 1) 97 11937 (QI K) 1047 [some (.inr (.inr (some 1001))), some (.inr (.inr (some 0))), some (.inr (.inr (some 66))), some (.inl v3)] [.inl x2] lay0 M1 97 11937
  refine r_aload_n (pc := 1047) (tb_at tkL_law_17 33 rfl) rfl rfl ?_
  refine r_aload_n (pc := 1048) (tb_at tkL_law_17 34 rfl) rfl rfl ?_
  refine r_iload_n (pc := 1049) (tb_at tkL_law_17 35 rfl) rfl rfl ?_
  refine r_iconst (pc := 1050) (tb_at tkL_law_17 36 rfl) ⟨by decide, by decide⟩ ?_
  refine r_iadd (pc := 1051) (tb_at tkL_law_17 37 rfl) ?_
  refine r_iald_scr_w (pc := 1052) (tb_at tkL_law_17 38 rfl) hGN h.1.1 h.1.2 ?_
  replace h := h.2
  refine r_aload_n (pc := 1053) (tb_at tkL_law_17 39 rfl) rfl rfl ?_
  refine r_iload_n (pc := 1054) (tb_at tkL_law_18 0 rfl) rfl rfl ?_
  refine r_iconst (pc := 1055) (tb_at tkL_law_18 1 rfl) ⟨by decide, by decide⟩ ?_
  refine r_iadd (pc := 1056) (tb_at tkL_law_18 2 rfl) ?_
  refine r_iald_scr_w (pc := 1057) (tb_at tkL_law_18 3 rfl) hGN h.1.1 h.1.2 ?_
  replace h := h.2
  refine r_invV (mc' := 0) (ms' := 0) [.inl ((G.2.2.2.2.2 (v3 + 1).toNat).toInt), .inl ((G.2.2.2.2.2 (v3 + 2).toNat).toInt)] (S := [.inl x2]) (pc := 1058) (tb_at tkL_law_18 4 rfl) rfl ly_66 rfl rfl clL_124 (Nat.le_of_ble_eq_true rfl) (Nat.le_refl _) (Nat.le_refl _) ?_
  refine Cal.mono h ?_
  rintro _ _ M3 ⟨x4, rfl, rfl, h⟩
  show Ok G miL_law (d + 1) 97 11937 (QI K) 1061 [some (.inr (.inr (some 1001))), some (.inr (.inr (some 0))), some (.inr (.inr (some 66))), some (.inl v3)] [.inl x4, .inl x2] lay0 M3 97 11937
  refine q_icmp_eq (tgt := 1588) (pc := 1061) (tb_at tkL_law_18 5 rfl) (by decide) (fun c => ?_) (fun c => ?_)
  · replace h := h.1 c
    refine r_iinc (L' := [some (.inr (.inr (some 1001))), some (.inr (.inr (some 0))), some (.inr (.inr (some 66))), some (.inl (w32 (v3 + 7)))]) (pc := 1588) (tb_at tkL_law_29 4 rfl) rfl (by decide) rfl ?_
    refine r_goto (tgt := 18) (pc := 1591) (tb_at tkL_law_29 5 rfl) (by decide) ?_
    exact h
  · replace h := h.2 c
    refine r_iconst (pc := 1064) (tb_at tkL_law_18 6 rfl) ⟨by decide, by decide⟩ ?_
    exact r_zret (pc := 1065) (tb_at tkL_law_18 7 rfl) rfl (by decide) (Nat.le_refl _) (Nat.le_refl _) ⟨_, rfl, rfl, h⟩
set_option maxRecDepth 100000 in
set_option maxHeartbeats 4000000 in
theorem gL_law_1066 {G : GE} {d : Nat} {K : Int → Mem → Prop} {M : Mem} {v3 : Int} (hGL : G.2.2.2.2.1 < 2147483648) (hGN : G.2.2.2.2.1 ≤ 2147483647) (h : (0 ≤ v3 + 1 ∧ v3 + 1 < (G.2.2.2.2.1 : Int)) ∧ (0 ≤ v3 + 2 ∧ v3 + 2 < (G.2.2.2.2.1 : Int)) ∧ (0 ≤ v3 + 3 ∧ v3 + 3 < (G.2.2.2.2.1 : Int)) ∧ (0 ≤ v3 + 4 ∧ v3 + 4 < (G.2.2.2.2.1 : Int)) ∧ (0 ≤ v3 + 5 ∧ v3 + 5 < (G.2.2.2.2.1 : Int)) ∧ CalI G miX10_chance d [.inr (.inr (some 0)), .inl ((G.2.2.2.2.2 (v3 + 1).toNat).toInt), .inl ((G.2.2.2.2.2 (v3 + 2).toNat).toInt), .inl ((G.2.2.2.2.2 (v3 + 3).toNat).toInt), .inl ((G.2.2.2.2.2 (v3 + 4).toNat).toInt), .inl ((G.2.2.2.2.2 (v3 + 5).toNat).toInt)] M (fun x2 M1 => (0 ≤ v3 + 1 ∧ v3 + 1 < (G.2.2.2.2.1 : Int)) ∧ (0 ≤ v3 + 2 ∧ v3 + 2 < (G.2.2.2.2.1 : Int)) ∧ (0 ≤ v3 + 3 ∧ v3 + 3 < (G.2.2.2.2.1 : Int)) ∧ (0 ≤ v3 + 4 ∧ v3 + 4 < (G.2.2.2.2.1 : Int)) ∧ (0 ≤ v3 + 5 ∧ v3 + 5 < (G.2.2.2.2.1 : Int)) ∧ CalI G miX11_chance d [.inr (.inr (some 66)), .inl ((G.2.2.2.2.2 (v3 + 1).toNat).toInt), .inl ((G.2.2.2.2.2 (v3 + 2).toNat).toInt), .inl ((G.2.2.2.2.2 (v3 + 3).toNat).toInt), .inl ((G.2.2.2.2.2 (v3 + 4).toNat).toInt), .inl ((G.2.2.2.2.2 (v3 + 5).toNat).toInt)] M1 (fun x4 M3 => ((x2 = x4 → Ok G miL_law (d + 1) 97 11937 (QI K) 18 [some (.inr (.inr (some 1001))), some (.inr (.inr (some 0))), some (.inr (.inr (some 66))), some (.inl (w32 (v3 + 7)))] [] lay0 M3 97 11937) ∧ (¬ x2 = x4 → K 0 M3))))) : Ok G miL_law (d + 1) 97 11937 (QI K) 1066 [some (.inr (.inr (some 1001))), some (.inr (.inr (some 0))), some (.inr (.inr (some 66))), some (.inl v3)] [] lay0 M 97 11937 := by
  refine r_aload_n (pc := 1066) (tb_at tkL_law_18 8 rfl) rfl rfl ?_
  refine r_aload_n (pc := 1067) (tb_at tkL_law_18 9 rfl) rfl rfl ?_
  refine r_iload_n (pc := 1068) (tb_at tkL_law_18 10 rfl) rfl rfl ?_
  refine r_iconst (pc := 1069) (tb_at tkL_law_18 11 rfl) ⟨by decide, by decide⟩ ?_
  refine r_iadd (pc := 1070) (tb_at tkL_law_18 12 rfl) ?_
  refine r_iald_scr_w (pc := 1071) (tb_at tkL_law_18 13 rfl) hGN h.1.1 h.1.2 ?_
  replace h := h.2
  refine r_aload_n (pc := 1072) (tb_at tkL_law_18 14 rfl) rfl rfl ?_
  refine r_iload_n (pc := 1073) (tb_at tkL_law_18 15 rfl) rfl rfl ?_
  refine r_iconst (pc := 1074) (tb_at tkL_law_18 16 rfl) ⟨by decide, by decide⟩ ?_
  refine r_iadd (pc := 1075) (tb_at tkL_law_18 17 rfl) ?_
  refine r_iald_scr_w (pc := 1076) (tb_at tkL_law_18 18 rfl) hGN h.1.1 h.1.2 ?_
  replace h := h.2
  refine r_aload_n (pc := 1077) (tb_at tkL_law_18 19 rfl) rfl rfl ?_
  refine r_iload_n (pc := 1078) (tb_at tkL_law_18 20 rfl) rfl rfl ?_
  refine r_iconst (pc := 1079) (tb_at tkL_law_18 21 rfl) ⟨by decide, by decide⟩ ?_
  refine r_iadd (pc := 1080) (tb_at tkL_law_18 22 rfl) ?_
  refine r_iald_scr_w (pc := 1081) (tb_at tkL_law_18 23 rfl) hGN h.1.1 h.1.2 ?_
  replace h := h.2
  refine r_aload_n (pc := 1082) (tb_at tkL_law_18 24 rfl) rfl rfl ?_
  refine r_iload_n (pc := 1083) (tb_at tkL_law_18 25 rfl) rfl rfl ?_
  refine r_iconst (pc := 1084) (tb_at tkL_law_18 26 rfl) ⟨by decide, by decide⟩ ?_
  refine r_iadd (pc := 1085) (tb_at tkL_law_18 27 rfl) ?_
  refine r_iald_scr_w (pc := 1086) (tb_at tkL_law_18 28 rfl) hGN h.1.1 h.1.2 ?_
  replace h := h.2
  refine r_aload_n (pc := 1087) (tb_at tkL_law_18 29 rfl) rfl rfl ?_
  refine r_iload_n (pc := 1088) (tb_at tkL_law_18 30 rfl) rfl rfl ?_
  refine r_iconst (pc := 1089) (tb_at tkL_law_18 31 rfl) ⟨by decide, by decide⟩ ?_
  refine r_iadd (pc := 1090) (tb_at tkL_law_18 32 rfl) ?_
  refine r_iald_scr_w (pc := 1091) (tb_at tkL_law_18 33 rfl) hGN h.1.1 h.1.2 ?_
  replace h := h.2
  refine r_invV (mc' := 0) (ms' := 0) [.inl ((G.2.2.2.2.2 (v3 + 1).toNat).toInt), .inl ((G.2.2.2.2.2 (v3 + 2).toNat).toInt), .inl ((G.2.2.2.2.2 (v3 + 3).toNat).toInt), .inl ((G.2.2.2.2.2 (v3 + 4).toNat).toInt), .inl ((G.2.2.2.2.2 (v3 + 5).toNat).toInt)] (S := []) (pc := 1092) (tb_at tkL_law_18 34 rfl) rfl ly_0 rfl rfl clL_125 (Nat.le_of_ble_eq_true rfl) (Nat.le_refl _) (Nat.le_refl _) ?_
  refine Cal.mono h ?_
  rintro _ _ M1 ⟨x2, rfl, rfl, h⟩
  show Ok G miL_law (d + 1) 97 11937 (QI K) 1095 [some (.inr (.inr (some 1001))), some (.inr (.inr (some 0))), some (.inr (.inr (some 66))), some (.inl v3)] [.inl x2] lay0 M1 97 11937
  refine r_aload_n (pc := 1095) (tb_at tkL_law_18 35 rfl) rfl rfl ?_
  refine r_aload_n (pc := 1096) (tb_at tkL_law_18 36 rfl) rfl rfl ?_
  refine r_iload_n (pc := 1097) (tb_at tkL_law_18 37 rfl) rfl rfl ?_
  refine r_iconst (pc := 1098) (tb_at tkL_law_18 38 rfl) ⟨by decide, by decide⟩ ?_
  refine r_iadd (pc := 1099) (tb_at tkL_law_18 39 rfl) ?_
  refine r_iald_scr_w (pc := 1100) (tb_at tkL_law_19 0 rfl) hGN h.1.1 h.1.2 ?_
  replace h := h.2
  refine r_aload_n (pc := 1101) (tb_at tkL_law_19 1 rfl) rfl rfl ?_
  refine r_iload_n (pc := 1102) (tb_at tkL_law_19 2 rfl) rfl rfl ?_
  refine r_iconst (pc := 1103) (tb_at tkL_law_19 3 rfl) ⟨by decide, by decide⟩ ?_
  refine r_iadd (pc := 1104) (tb_at tkL_law_19 4 rfl) ?_
  refine r_iald_scr_w (pc := 1105) (tb_at tkL_law_19 5 rfl) hGN h.1.1 h.1.2 ?_
  replace h := h.2
  refine r_aload_n (pc := 1106) (tb_at tkL_law_19 6 rfl) rfl rfl ?_
  refine r_iload_n (pc := 1107) (tb_at tkL_law_19 7 rfl) rfl rfl ?_
  refine r_iconst (pc := 1108) (tb_at tkL_law_19 8 rfl) ⟨by decide, by decide⟩ ?_
  refine r_iadd (pc := 1109) (tb_at tkL_law_19 9 rfl) ?_
  refine r_iald_scr_w (pc := 1110) (tb_at tkL_law_19 10 rfl) hGN h.1.1 h.1.2 ?_
  replace h := h.2
  refine r_aload_n (pc := 1111) (tb_at tkL_law_19 11 rfl) rfl rfl ?_
  refine r_iload_n (pc := 1112) (tb_at tkL_law_19 12 rfl) rfl rfl ?_
  refine r_iconst (pc := 1113) (tb_at tkL_law_19 13 rfl) ⟨by decide, by decide⟩ ?_
  refine r_iadd (pc := 1114) (tb_at tkL_law_19 14 rfl) ?_
  refine r_iald_scr_w (pc := 1115) (tb_at tkL_law_19 15 rfl) hGN h.1.1 h.1.2 ?_
  replace h := h.2
  refine r_aload_n (pc := 1116) (tb_at tkL_law_19 16 rfl) rfl rfl ?_
  refine r_iload_n (pc := 1117) (tb_at tkL_law_19 17 rfl) rfl rfl ?_
  refine r_iconst (pc := 1118) (tb_at tkL_law_19 18 rfl) ⟨by decide, by decide⟩ ?_
  refine r_iadd (pc := 1119) (tb_at tkL_law_19 19 rfl) ?_
  refine r_iald_scr_w (pc := 1120) (tb_at tkL_law_19 20 rfl) hGN h.1.1 h.1.2 ?_
  replace h := h.2
  refine r_invV (mc' := 0) (ms' := 0) [.inl ((G.2.2.2.2.2 (v3 + 1).toNat).toInt), .inl ((G.2.2.2.2.2 (v3 + 2).toNat).toInt), .inl ((G.2.2.2.2.2 (v3 + 3).toNat).toInt), .inl ((G.2.2.2.2.2 (v3 + 4).toNat).toInt), .inl ((G.2.2.2.2.2 (v3 + 5).toNat).toInt)] (S := [.inl x2]) (pc := 1121) (tb_at tkL_law_19 21 rfl) rfl ly_66 rfl rfl clL_129 (Nat.le_of_ble_eq_true rfl) (Nat.le_refl _) (Nat.le_refl _) ?_
  refine Cal.mono h ?_
  rintro _ _ M3 ⟨x4, rfl, rfl, h⟩
  show Ok G miL_law (d + 1) 97 11937 (QI K) 1124 [some (.inr (.inr (some 1001))), some (.inr (.inr (some 0))), some (.inr (.inr (some 66))), some (.inl v3)] [.inl x4, .inl x2] lay0 M3 97 11937
  refine q_icmp_eq (tgt := 1588) (pc := 1124) (tb_at tkL_law_19 22 rfl) (by decide) (fun c => ?_) (fun c => ?_)
  · replace h := h.1 c
    refine r_iinc (L' := [some (.inr (.inr (some 1001))), some (.inr (.inr (some 0))), some (.inr (.inr (some 66))), some (.inl (w32 (v3 + 7)))]) (pc := 1588) (tb_at tkL_law_29 4 rfl) rfl (by decide) rfl ?_
    refine r_goto (tgt := 18) (pc := 1591) (tb_at tkL_law_29 5 rfl) (by decide) ?_
    exact h
  · replace h := h.2 c
    refine r_iconst (pc := 1127) (tb_at tkL_law_19 23 rfl) ⟨by decide, by decide⟩ ?_
    exact r_zret (pc := 1128) (tb_at tkL_law_19 24 rfl) rfl (by decide) (Nat.le_refl _) (Nat.le_refl _) ⟨_, rfl, rfl, h⟩
set_option maxRecDepth 100000 in
set_option maxHeartbeats 4000000 in
theorem gL_law_1129 {G : GE} {d : Nat} {K : Int → Mem → Prop} {M : Mem} {v3 : Int} (hGL : G.2.2.2.2.1 < 2147483648) (hGN : G.2.2.2.2.1 ≤ 2147483647) (h : (0 ≤ v3 + 1 ∧ v3 + 1 < (G.2.2.2.2.1 : Int)) ∧ (0 ≤ v3 + 2 ∧ v3 + 2 < (G.2.2.2.2.1 : Int)) ∧ (0 ≤ v3 + 3 ∧ v3 + 3 < (G.2.2.2.2.1 : Int)) ∧ (0 ≤ v3 + 4 ∧ v3 + 4 < (G.2.2.2.2.1 : Int)) ∧ (0 ≤ v3 + 5 ∧ v3 + 5 < (G.2.2.2.2.1 : Int)) ∧ (0 ≤ v3 + 6 ∧ v3 + 6 < (G.2.2.2.2.1 : Int)) ∧ CalI G miX10_feed d [.inr (.inr (some 0)), .inl ((G.2.2.2.2.2 (v3 + 1).toNat).toInt), .inl ((G.2.2.2.2.2 (v3 + 2).toNat).toInt), .inl ((G.2.2.2.2.2 (v3 + 3).toNat).toInt), .inl ((G.2.2.2.2.2 (v3 + 4).toNat).toInt), .inl ((G.2.2.2.2.2 (v3 + 5).toNat).toInt), .inl ((G.2.2.2.2.2 (v3 + 6).toNat).toInt)] M (fun x2 M1 => (0 ≤ v3 + 1 ∧ v3 + 1 < (G.2.2.2.2.1 : Int)) ∧ (0 ≤ v3 + 2 ∧ v3 + 2 < (G.2.2.2.2.1 : Int)) ∧ (0 ≤ v3 + 3 ∧ v3 + 3 < (G.2.2.2.2.1 : Int)) ∧ (0 ≤ v3 + 4 ∧ v3 + 4 < (G.2.2.2.2.1 : Int)) ∧ (0 ≤ v3 + 5 ∧ v3 + 5 < (G.2.2.2.2.1 : Int)) ∧ (0 ≤ v3 + 6 ∧ v3 + 6 < (G.2.2.2.2.1 : Int)) ∧ CalI G miX11_feed d [.inr (.inr (some 66)), .inl ((G.2.2.2.2.2 (v3 + 1).toNat).toInt), .inl ((G.2.2.2.2.2 (v3 + 2).toNat).toInt), .inl ((G.2.2.2.2.2 (v3 + 3).toNat).toInt), .inl ((G.2.2.2.2.2 (v3 + 4).toNat).toInt), .inl ((G.2.2.2.2.2 (v3 + 5).toNat).toInt), .inl ((G.2.2.2.2.2 (v3 + 6).toNat).toInt)] M1 (fun x4 M3 => ((x2 = x4 → Ok G miL_law (d + 1) 97 11937 (QI K) 18 [some (.inr (.inr (some 1001))), some (.inr (.inr (some 0))), some (.inr (.inr (some 66))), some (.inl (w32 (v3 + 7)))] [] lay0 M3 97 11937) ∧ (¬ x2 = x4 → K 0 M3))))) : Ok G miL_law (d + 1) 97 11937 (QI K) 1129 [some (.inr (.inr (some 1001))), some (.inr (.inr (some 0))), some (.inr (.inr (some 66))), some (.inl v3)] [] lay0 M 97 11937 := by
  refine r_aload_n (pc := 1129) (tb_at tkL_law_19 25 rfl) rfl rfl ?_
  refine r_aload_n (pc := 1130) (tb_at tkL_law_19 26 rfl) rfl rfl ?_
  refine r_iload_n (pc := 1131) (tb_at tkL_law_19 27 rfl) rfl rfl ?_
  refine r_iconst (pc := 1132) (tb_at tkL_law_19 28 rfl) ⟨by decide, by decide⟩ ?_
  refine r_iadd (pc := 1133) (tb_at tkL_law_19 29 rfl) ?_
  refine r_iald_scr_w (pc := 1134) (tb_at tkL_law_19 30 rfl) hGN h.1.1 h.1.2 ?_
  replace h := h.2
  refine r_aload_n (pc := 1135) (tb_at tkL_law_19 31 rfl) rfl rfl ?_
  refine r_iload_n (pc := 1136) (tb_at tkL_law_19 32 rfl) rfl rfl ?_
  refine r_iconst (pc := 1137) (tb_at tkL_law_19 33 rfl) ⟨by decide, by decide⟩ ?_
  refine r_iadd (pc := 1138) (tb_at tkL_law_19 34 rfl) ?_
  refine r_iald_scr_w (pc := 1139) (tb_at tkL_law_19 35 rfl) hGN h.1.1 h.1.2 ?_
  replace h := h.2
  refine r_aload_n (pc := 1140) (tb_at tkL_law_19 36 rfl) rfl rfl ?_
  refine r_iload_n (pc := 1141) (tb_at tkL_law_19 37 rfl) rfl rfl ?_
  refine r_iconst (pc := 1142) (tb_at tkL_law_19 38 rfl) ⟨by decide, by decide⟩ ?_
  refine r_iadd (pc := 1143) (tb_at tkL_law_19 39 rfl) ?_
  refine r_iald_scr_w (pc := 1144) (tb_at tkL_law_20 0 rfl) hGN h.1.1 h.1.2 ?_
  replace h := h.2
  refine r_aload_n (pc := 1145) (tb_at tkL_law_20 1 rfl) rfl rfl ?_
  refine r_iload_n (pc := 1146) (tb_at tkL_law_20 2 rfl) rfl rfl ?_
  refine r_iconst (pc := 1147) (tb_at tkL_law_20 3 rfl) ⟨by decide, by decide⟩ ?_
  refine r_iadd (pc := 1148) (tb_at tkL_law_20 4 rfl) ?_
  refine r_iald_scr_w (pc := 1149) (tb_at tkL_law_20 5 rfl) hGN h.1.1 h.1.2 ?_
  replace h := h.2
  refine r_aload_n (pc := 1150) (tb_at tkL_law_20 6 rfl) rfl rfl ?_
  refine r_iload_n (pc := 1151) (tb_at tkL_law_20 7 rfl) rfl rfl ?_
  refine r_iconst (pc := 1152) (tb_at tkL_law_20 8 rfl) ⟨by decide, by decide⟩ ?_
  refine r_iadd (pc := 1153) (tb_at tkL_law_20 9 rfl) ?_
  refine r_iald_scr_w (pc := 1154) (tb_at tkL_law_20 10 rfl) hGN h.1.1 h.1.2 ?_
  replace h := h.2
  refine r_aload_n (pc := 1155) (tb_at tkL_law_20 11 rfl) rfl rfl ?_
  refine r_iload_n (pc := 1156) (tb_at tkL_law_20 12 rfl) rfl rfl ?_
  refine r_bipush (pc := 1157) (tb_at tkL_law_20 13 rfl) ⟨by decide, by decide, by decide⟩ ?_
  refine r_iadd (pc := 1159) (tb_at tkL_law_20 14 rfl) ?_
  refine r_iald_scr_w (pc := 1160) (tb_at tkL_law_20 15 rfl) hGN h.1.1 h.1.2 ?_
  replace h := h.2
  refine r_invV (mc' := 0) (ms' := 0) [.inl ((G.2.2.2.2.2 (v3 + 1).toNat).toInt), .inl ((G.2.2.2.2.2 (v3 + 2).toNat).toInt), .inl ((G.2.2.2.2.2 (v3 + 3).toNat).toInt), .inl ((G.2.2.2.2.2 (v3 + 4).toNat).toInt), .inl ((G.2.2.2.2.2 (v3 + 5).toNat).toInt), .inl ((G.2.2.2.2.2 (v3 + 6).toNat).toInt)] (S := []) (pc := 1161) (tb_at tkL_law_20 16 rfl) rfl ly_0 rfl rfl clL_130 (Nat.le_of_ble_eq_true rfl) (Nat.le_refl _) (Nat.le_refl _) ?_
  refine Cal.mono h ?_
  rintro _ _ M1 ⟨x2, rfl, rfl, h⟩
  show Ok G miL_law (d + 1) 97 11937 (QI K) 1164 [some (.inr (.inr (some 1001))), some (.inr (.inr (some 0))), some (.inr (.inr (some 66))), some (.inl v3)] [.inl x2] lay0 M1 97 11937
  refine r_aload_n (pc := 1164) (tb_at tkL_law_20 17 rfl) rfl rfl ?_
  refine r_aload_n (pc := 1165) (tb_at tkL_law_20 18 rfl) rfl rfl ?_
  refine r_iload_n (pc := 1166) (tb_at tkL_law_20 19 rfl) rfl rfl ?_
  refine r_iconst (pc := 1167) (tb_at tkL_law_20 20 rfl) ⟨by decide, by decide⟩ ?_
  refine r_iadd (pc := 1168) (tb_at tkL_law_20 21 rfl) ?_
  refine r_iald_scr_w (pc := 1169) (tb_at tkL_law_20 22 rfl) hGN h.1.1 h.1.2 ?_
  replace h := h.2
  refine r_aload_n (pc := 1170) (tb_at tkL_law_20 23 rfl) rfl rfl ?_
  refine r_iload_n (pc := 1171) (tb_at tkL_law_20 24 rfl) rfl rfl ?_
  refine r_iconst (pc := 1172) (tb_at tkL_law_20 25 rfl) ⟨by decide, by decide⟩ ?_
  refine r_iadd (pc := 1173) (tb_at tkL_law_20 26 rfl) ?_
  refine r_iald_scr_w (pc := 1174) (tb_at tkL_law_20 27 rfl) hGN h.1.1 h.1.2 ?_
  replace h := h.2
  refine r_aload_n (pc := 1175) (tb_at tkL_law_20 28 rfl) rfl rfl ?_
  refine r_iload_n (pc := 1176) (tb_at tkL_law_20 29 rfl) rfl rfl ?_
  refine r_iconst (pc := 1177) (tb_at tkL_law_20 30 rfl) ⟨by decide, by decide⟩ ?_
  refine r_iadd (pc := 1178) (tb_at tkL_law_20 31 rfl) ?_
  refine r_iald_scr_w (pc := 1179) (tb_at tkL_law_20 32 rfl) hGN h.1.1 h.1.2 ?_
  replace h := h.2
  refine r_aload_n (pc := 1180) (tb_at tkL_law_20 33 rfl) rfl rfl ?_
  refine r_iload_n (pc := 1181) (tb_at tkL_law_20 34 rfl) rfl rfl ?_
  refine r_iconst (pc := 1182) (tb_at tkL_law_20 35 rfl) ⟨by decide, by decide⟩ ?_
  refine r_iadd (pc := 1183) (tb_at tkL_law_20 36 rfl) ?_
  refine r_iald_scr_w (pc := 1184) (tb_at tkL_law_20 37 rfl) hGN h.1.1 h.1.2 ?_
  replace h := h.2
  refine r_aload_n (pc := 1185) (tb_at tkL_law_20 38 rfl) rfl rfl ?_
  refine r_iload_n (pc := 1186) (tb_at tkL_law_20 39 rfl) rfl rfl ?_
  refine r_iconst (pc := 1187) (tb_at tkL_law_21 0 rfl) ⟨by decide, by decide⟩ ?_
  refine r_iadd (pc := 1188) (tb_at tkL_law_21 1 rfl) ?_
  refine r_iald_scr_w (pc := 1189) (tb_at tkL_law_21 2 rfl) hGN h.1.1 h.1.2 ?_
  replace h := h.2
  refine r_aload_n (pc := 1190) (tb_at tkL_law_21 3 rfl) rfl rfl ?_
  refine r_iload_n (pc := 1191) (tb_at tkL_law_21 4 rfl) rfl rfl ?_
  refine r_bipush (pc := 1192) (tb_at tkL_law_21 5 rfl) ⟨by decide, by decide, by decide⟩ ?_
  refine r_iadd (pc := 1194) (tb_at tkL_law_21 6 rfl) ?_
  refine r_iald_scr_w (pc := 1195) (tb_at tkL_law_21 7 rfl) hGN h.1.1 h.1.2 ?_
  replace h := h.2
  refine r_invV (mc' := 0) (ms' := 0) [.inl ((G.2.2.2.2.2 (v3 + 1).toNat).toInt), .inl ((G.2.2.2.2.2 (v3 + 2).toNat).toInt), .inl ((G.2.2.2.2.2 (v3 + 3).toNat).toInt), .inl ((G.2.2.2.2.2 (v3 + 4).toNat).toInt), .inl ((G.2.2.2.2.2 (v3 + 5).toNat).toInt), .inl ((G.2.2.2.2.2 (v3 + 6).toNat).toInt)] (S := [.inl x2]) (pc := 1196) (tb_at tkL_law_21 8 rfl) rfl ly_66 rfl rfl clL_134 (Nat.le_of_ble_eq_true rfl) (Nat.le_refl _) (Nat.le_refl _) ?_
  refine Cal.mono h ?_
  rintro _ _ M3 ⟨x4, rfl, rfl, h⟩
  show Ok G miL_law (d + 1) 97 11937 (QI K) 1199 [some (.inr (.inr (some 1001))), some (.inr (.inr (some 0))), some (.inr (.inr (some 66))), some (.inl v3)] [.inl x4, .inl x2] lay0 M3 97 11937
  refine q_icmp_eq (tgt := 1588) (pc := 1199) (tb_at tkL_law_21 9 rfl) (by decide) (fun c => ?_) (fun c => ?_)
  · replace h := h.1 c
    refine r_iinc (L' := [some (.inr (.inr (some 1001))), some (.inr (.inr (some 0))), some (.inr (.inr (some 66))), some (.inl (w32 (v3 + 7)))]) (pc := 1588) (tb_at tkL_law_29 4 rfl) rfl (by decide) rfl ?_
    refine r_goto (tgt := 18) (pc := 1591) (tb_at tkL_law_29 5 rfl) (by decide) ?_
    exact h
  · replace h := h.2 c
    refine r_iconst (pc := 1202) (tb_at tkL_law_21 10 rfl) ⟨by decide, by decide⟩ ?_
    exact r_zret (pc := 1203) (tb_at tkL_law_21 11 rfl) rfl (by decide) (Nat.le_refl _) (Nat.le_refl _) ⟨_, rfl, rfl, h⟩
set_option maxRecDepth 100000 in
set_option maxHeartbeats 4000000 in
theorem gL_law_1204 {G : GE} {d : Nat} {K : Int → Mem → Prop} {M : Mem} {v3 : Int} (hGL : G.2.2.2.2.1 < 2147483648) (hGN : G.2.2.2.2.1 ≤ 2147483647) (h : CalI G miX10_text d [.inr (.inr (some 0))] M (fun x2 M1 => CalI G miX11_text d [.inr (.inr (some 66))] M1 (fun x4 M3 => ((x2 = x4 → Ok G miL_law (d + 1) 97 11937 (QI K) 18 [some (.inr (.inr (some 1001))), some (.inr (.inr (some 0))), some (.inr (.inr (some 66))), some (.inl (w32 (v3 + 7)))] [] lay0 M3 97 11937) ∧ (¬ x2 = x4 → K 0 M3))))) : Ok G miL_law (d + 1) 97 11937 (QI K) 1204 [some (.inr (.inr (some 1001))), some (.inr (.inr (some 0))), some (.inr (.inr (some 66))), some (.inl v3)] [] lay0 M 97 11937 := by
  refine r_aload_n (pc := 1204) (tb_at tkL_law_21 12 rfl) rfl rfl ?_
  refine r_invV (mc' := 0) (ms' := 0) [] (S := []) (pc := 1205) (tb_at tkL_law_21 13 rfl) rfl ly_0 rfl rfl clL_135 (Nat.le_of_ble_eq_true rfl) (Nat.le_refl _) (Nat.le_refl _) ?_
  refine Cal.mono h ?_
  rintro _ _ M1 ⟨x2, rfl, rfl, h⟩
  show Ok G miL_law (d + 1) 97 11937 (QI K) 1208 [some (.inr (.inr (some 1001))), some (.inr (.inr (some 0))), some (.inr (.inr (some 66))), some (.inl v3)] [.inl x2] lay0 M1 97 11937
  refine r_aload_n (pc := 1208) (tb_at tkL_law_21 14 rfl) rfl rfl ?_
  refine r_invV (mc' := 0) (ms' := 0) [] (S := [.inl x2]) (pc := 1209) (tb_at tkL_law_21 15 rfl) rfl ly_66 rfl rfl clL_138 (Nat.le_of_ble_eq_true rfl) (Nat.le_refl _) (Nat.le_refl _) ?_
  refine Cal.mono h ?_
  rintro _ _ M3 ⟨x4, rfl, rfl, h⟩
  show Ok G miL_law (d + 1) 97 11937 (QI K) 1212 [some (.inr (.inr (some 1001))), some (.inr (.inr (some 0))), some (.inr (.inr (some 66))), some (.inl v3)] [.inl x4, .inl x2] lay0 M3 97 11937
  refine q_icmp_eq (tgt := 1588) (pc := 1212) (tb_at tkL_law_21 16 rfl) (by decide) (fun c => ?_) (fun c => ?_)
  · replace h := h.1 c
    refine r_iinc (L' := [some (.inr (.inr (some 1001))), some (.inr (.inr (some 0))), some (.inr (.inr (some 66))), some (.inl (w32 (v3 + 7)))]) (pc := 1588) (tb_at tkL_law_29 4 rfl) rfl (by decide) rfl ?_
    refine r_goto (tgt := 18) (pc := 1591) (tb_at tkL_law_29 5 rfl) (by decide) ?_
    exact h
  · replace h := h.2 c
    refine r_iconst (pc := 1215) (tb_at tkL_law_21 17 rfl) ⟨by decide, by decide⟩ ?_
    exact r_zret (pc := 1216) (tb_at tkL_law_21 18 rfl) rfl (by decide) (Nat.le_refl _) (Nat.le_refl _) ⟨_, rfl, rfl, h⟩
set_option maxRecDepth 100000 in
set_option maxHeartbeats 4000000 in
theorem gL_law_1217 {G : GE} {d : Nat} {K : Int → Mem → Prop} {M : Mem} {v3 : Int} (hGL : G.2.2.2.2.1 < 2147483648) (hGN : G.2.2.2.2.1 ≤ 2147483647) (h : (0 ≤ v3 + 1 ∧ v3 + 1 < (G.2.2.2.2.1 : Int)) ∧ (0 ≤ v3 + 2 ∧ v3 + 2 < (G.2.2.2.2.1 : Int)) ∧ CalI G miX10_tells d [.inr (.inr (some 0)), .inl ((G.2.2.2.2.2 (v3 + 1).toNat).toInt), .inl ((G.2.2.2.2.2 (v3 + 2).toNat).toInt)] M (fun x2 M1 => (0 ≤ v3 + 1 ∧ v3 + 1 < (G.2.2.2.2.1 : Int)) ∧ (0 ≤ v3 + 2 ∧ v3 + 2 < (G.2.2.2.2.1 : Int)) ∧ CalI G miX11_tells d [.inr (.inr (some 66)), .inl ((G.2.2.2.2.2 (v3 + 1).toNat).toInt), .inl ((G.2.2.2.2.2 (v3 + 2).toNat).toInt)] M1 (fun x4 M3 => ((x2 = x4 → Ok G miL_law (d + 1) 97 11937 (QI K) 18 [some (.inr (.inr (some 1001))), some (.inr (.inr (some 0))), some (.inr (.inr (some 66))), some (.inl (w32 (v3 + 7)))] [] lay0 M3 97 11937) ∧ (¬ x2 = x4 → K 0 M3))))) : Ok G miL_law (d + 1) 97 11937 (QI K) 1217 [some (.inr (.inr (some 1001))), some (.inr (.inr (some 0))), some (.inr (.inr (some 66))), some (.inl v3)] [] lay0 M 97 11937 := by
  refine r_aload_n (pc := 1217) (tb_at tkL_law_21 19 rfl) rfl rfl ?_
  refine r_aload_n (pc := 1218) (tb_at tkL_law_21 20 rfl) rfl rfl ?_
  refine r_iload_n (pc := 1219) (tb_at tkL_law_21 21 rfl) rfl rfl ?_
  refine r_iconst (pc := 1220) (tb_at tkL_law_21 22 rfl) ⟨by decide, by decide⟩ ?_
  refine r_iadd (pc := 1221) (tb_at tkL_law_21 23 rfl) ?_
  refine r_iald_scr_w (pc := 1222) (tb_at tkL_law_21 24 rfl) hGN h.1.1 h.1.2 ?_
  replace h := h.2
  refine r_aload_n (pc := 1223) (tb_at tkL_law_21 25 rfl) rfl rfl ?_
  refine r_iload_n (pc := 1224) (tb_at tkL_law_21 26 rfl) rfl rfl ?_
  refine r_iconst (pc := 1225) (tb_at tkL_law_21 27 rfl) ⟨by decide, by decide⟩ ?_
  refine r_iadd (pc := 1226) (tb_at tkL_law_21 28 rfl) ?_
  refine r_iald_scr_w (pc := 1227) (tb_at tkL_law_21 29 rfl) hGN h.1.1 h.1.2 ?_
  replace h := h.2
  refine r_invV (mc' := 0) (ms' := 0) [.inl ((G.2.2.2.2.2 (v3 + 1).toNat).toInt), .inl ((G.2.2.2.2.2 (v3 + 2).toNat).toInt)] (S := []) (pc := 1228) (tb_at tkL_law_21 30 rfl) rfl ly_0 rfl rfl clL_139 (Nat.le_of_ble_eq_true rfl) (Nat.le_refl _) (Nat.le_refl _) ?_
  refine Cal.mono h ?_
  rintro _ _ M1 ⟨x2, rfl, rfl, h⟩
  show Ok G miL_law (d + 1) 97 11937 (QI K) 1231 [some (.inr (.inr (some 1001))), some (.inr (.inr (some 0))), some (.inr (.inr (some 66))), some (.inl v3)] [.inl x2] lay0 M1 97 11937
  refine r_aload_n (pc := 1231) (tb_at tkL_law_21 31 rfl) rfl rfl ?_
  refine r_aload_n (pc := 1232) (tb_at tkL_law_21 32 rfl) rfl rfl ?_
  refine r_iload_n (pc := 1233) (tb_at tkL_law_21 33 rfl) rfl rfl ?_
  refine r_iconst (pc := 1234) (tb_at tkL_law_21 34 rfl) ⟨by decide, by decide⟩ ?_
  refine r_iadd (pc := 1235) (tb_at tkL_law_21 35 rfl) ?_
  refine r_iald_scr_w (pc := 1236) (tb_at tkL_law_21 36 rfl) hGN h.1.1 h.1.2 ?_
  replace h := h.2
  refine r_aload_n (pc := 1237) (tb_at tkL_law_21 37 rfl) rfl rfl ?_
  refine r_iload_n (pc := 1238) (tb_at tkL_law_21 38 rfl) rfl rfl ?_
  refine r_iconst (pc := 1239) (tb_at tkL_law_21 39 rfl) ⟨by decide, by decide⟩ ?_
  refine r_iadd (pc := 1240) (tb_at tkL_law_22 0 rfl) ?_
  refine r_iald_scr_w (pc := 1241) (tb_at tkL_law_22 1 rfl) hGN h.1.1 h.1.2 ?_
  replace h := h.2
  refine r_invV (mc' := 0) (ms' := 0) [.inl ((G.2.2.2.2.2 (v3 + 1).toNat).toInt), .inl ((G.2.2.2.2.2 (v3 + 2).toNat).toInt)] (S := [.inl x2]) (pc := 1242) (tb_at tkL_law_22 2 rfl) rfl ly_66 rfl rfl clL_142 (Nat.le_of_ble_eq_true rfl) (Nat.le_refl _) (Nat.le_refl _) ?_
  refine Cal.mono h ?_
  rintro _ _ M3 ⟨x4, rfl, rfl, h⟩
  show Ok G miL_law (d + 1) 97 11937 (QI K) 1245 [some (.inr (.inr (some 1001))), some (.inr (.inr (some 0))), some (.inr (.inr (some 66))), some (.inl v3)] [.inl x4, .inl x2] lay0 M3 97 11937
  refine q_icmp_eq (tgt := 1588) (pc := 1245) (tb_at tkL_law_22 3 rfl) (by decide) (fun c => ?_) (fun c => ?_)
  · replace h := h.1 c
    refine r_iinc (L' := [some (.inr (.inr (some 1001))), some (.inr (.inr (some 0))), some (.inr (.inr (some 66))), some (.inl (w32 (v3 + 7)))]) (pc := 1588) (tb_at tkL_law_29 4 rfl) rfl (by decide) rfl ?_
    refine r_goto (tgt := 18) (pc := 1591) (tb_at tkL_law_29 5 rfl) (by decide) ?_
    exact h
  · replace h := h.2 c
    refine r_iconst (pc := 1248) (tb_at tkL_law_22 4 rfl) ⟨by decide, by decide⟩ ?_
    exact r_zret (pc := 1249) (tb_at tkL_law_22 5 rfl) rfl (by decide) (Nat.le_refl _) (Nat.le_refl _) ⟨_, rfl, rfl, h⟩
set_option maxRecDepth 100000 in
set_option maxHeartbeats 4000000 in
theorem gL_law_1250 {G : GE} {d : Nat} {K : Int → Mem → Prop} {M : Mem} {v3 : Int} (hGL : G.2.2.2.2.1 < 2147483648) (hGN : G.2.2.2.2.1 ≤ 2147483647) (h : (0 ≤ v3 + 1 ∧ v3 + 1 < (G.2.2.2.2.1 : Int)) ∧ CalI G miX10_film d [.inr (.inr (some 0)), .inl ((G.2.2.2.2.2 (v3 + 1).toNat).toInt)] M (fun x2 M1 => (0 ≤ v3 + 1 ∧ v3 + 1 < (G.2.2.2.2.1 : Int)) ∧ CalI G miX11_film d [.inr (.inr (some 66)), .inl ((G.2.2.2.2.2 (v3 + 1).toNat).toInt)] M1 (fun x4 M3 => ((x2 = x4 → Ok G miL_law (d + 1) 97 11937 (QI K) 18 [some (.inr (.inr (some 1001))), some (.inr (.inr (some 0))), some (.inr (.inr (some 66))), some (.inl (w32 (v3 + 7)))] [] lay0 M3 97 11937) ∧ (¬ x2 = x4 → K 0 M3))))) : Ok G miL_law (d + 1) 97 11937 (QI K) 1250 [some (.inr (.inr (some 1001))), some (.inr (.inr (some 0))), some (.inr (.inr (some 66))), some (.inl v3)] [] lay0 M 97 11937 := by
  refine r_aload_n (pc := 1250) (tb_at tkL_law_22 6 rfl) rfl rfl ?_
  refine r_aload_n (pc := 1251) (tb_at tkL_law_22 7 rfl) rfl rfl ?_
  refine r_iload_n (pc := 1252) (tb_at tkL_law_22 8 rfl) rfl rfl ?_
  refine r_iconst (pc := 1253) (tb_at tkL_law_22 9 rfl) ⟨by decide, by decide⟩ ?_
  refine r_iadd (pc := 1254) (tb_at tkL_law_22 10 rfl) ?_
  refine r_iald_scr_w (pc := 1255) (tb_at tkL_law_22 11 rfl) hGN h.1.1 h.1.2 ?_
  replace h := h.2
  refine r_invV (mc' := 0) (ms' := 0) [.inl ((G.2.2.2.2.2 (v3 + 1).toNat).toInt)] (S := []) (pc := 1256) (tb_at tkL_law_22 12 rfl) rfl ly_0 rfl rfl clL_143 (Nat.le_of_ble_eq_true rfl) (Nat.le_refl _) (Nat.le_refl _) ?_
  refine Cal.mono h ?_
  rintro _ _ M1 ⟨x2, rfl, rfl, h⟩
  show Ok G miL_law (d + 1) 97 11937 (QI K) 1259 [some (.inr (.inr (some 1001))), some (.inr (.inr (some 0))), some (.inr (.inr (some 66))), some (.inl v3)] [.inl x2] lay0 M1 97 11937
  refine r_aload_n (pc := 1259) (tb_at tkL_law_22 13 rfl) rfl rfl ?_
  refine r_aload_n (pc := 1260) (tb_at tkL_law_22 14 rfl) rfl rfl ?_
  refine r_iload_n (pc := 1261) (tb_at tkL_law_22 15 rfl) rfl rfl ?_
  refine r_iconst (pc := 1262) (tb_at tkL_law_22 16 rfl) ⟨by decide, by decide⟩ ?_
  refine r_iadd (pc := 1263) (tb_at tkL_law_22 17 rfl) ?_
  refine r_iald_scr_w (pc := 1264) (tb_at tkL_law_22 18 rfl) hGN h.1.1 h.1.2 ?_
  replace h := h.2
  refine r_invV (mc' := 0) (ms' := 0) [.inl ((G.2.2.2.2.2 (v3 + 1).toNat).toInt)] (S := [.inl x2]) (pc := 1265) (tb_at tkL_law_22 19 rfl) rfl ly_66 rfl rfl clL_146 (Nat.le_of_ble_eq_true rfl) (Nat.le_refl _) (Nat.le_refl _) ?_
  refine Cal.mono h ?_
  rintro _ _ M3 ⟨x4, rfl, rfl, h⟩
  show Ok G miL_law (d + 1) 97 11937 (QI K) 1268 [some (.inr (.inr (some 1001))), some (.inr (.inr (some 0))), some (.inr (.inr (some 66))), some (.inl v3)] [.inl x4, .inl x2] lay0 M3 97 11937
  refine q_icmp_eq (tgt := 1588) (pc := 1268) (tb_at tkL_law_22 20 rfl) (by decide) (fun c => ?_) (fun c => ?_)
  · replace h := h.1 c
    refine r_iinc (L' := [some (.inr (.inr (some 1001))), some (.inr (.inr (some 0))), some (.inr (.inr (some 66))), some (.inl (w32 (v3 + 7)))]) (pc := 1588) (tb_at tkL_law_29 4 rfl) rfl (by decide) rfl ?_
    refine r_goto (tgt := 18) (pc := 1591) (tb_at tkL_law_29 5 rfl) (by decide) ?_
    exact h
  · replace h := h.2 c
    refine r_iconst (pc := 1271) (tb_at tkL_law_22 21 rfl) ⟨by decide, by decide⟩ ?_
    exact r_zret (pc := 1272) (tb_at tkL_law_22 22 rfl) rfl (by decide) (Nat.le_refl _) (Nat.le_refl _) ⟨_, rfl, rfl, h⟩
set_option maxRecDepth 100000 in
set_option maxHeartbeats 4000000 in
theorem gL_law_1273 {G : GE} {d : Nat} {K : Int → Mem → Prop} {M : Mem} {v3 : Int} (hGL : G.2.2.2.2.1 < 2147483648) (hGN : G.2.2.2.2.1 ≤ 2147483647) (h : (0 ≤ v3 + 1 ∧ v3 + 1 < (G.2.2.2.2.1 : Int)) ∧ (0 ≤ v3 + 2 ∧ v3 + 2 < (G.2.2.2.2.1 : Int)) ∧ (0 ≤ v3 + 3 ∧ v3 + 3 < (G.2.2.2.2.1 : Int)) ∧ (0 ≤ v3 + 4 ∧ v3 + 4 < (G.2.2.2.2.1 : Int)) ∧ CalI G miX10_load d [.inr (.inr (some 0)), .inl ((G.2.2.2.2.2 (v3 + 1).toNat).toInt), .inl ((G.2.2.2.2.2 (v3 + 2).toNat).toInt), .inl ((G.2.2.2.2.2 (v3 + 3).toNat).toInt), .inl ((G.2.2.2.2.2 (v3 + 4).toNat).toInt)] M (fun x2 M1 => (0 ≤ v3 + 1 ∧ v3 + 1 < (G.2.2.2.2.1 : Int)) ∧ (0 ≤ v3 + 2 ∧ v3 + 2 < (G.2.2.2.2.1 : Int)) ∧ (0 ≤ v3 + 3 ∧ v3 + 3 < (G.2.2.2.2.1 : Int)) ∧ (0 ≤ v3 + 4 ∧ v3 + 4 < (G.2.2.2.2.1 : Int)) ∧ CalI G miX11_load d [.inr (.inr (some 66)), .inl ((G.2.2.2.2.2 (v3 + 1).toNat).toInt), .inl ((G.2.2.2.2.2 (v3 + 2).toNat).toInt), .inl ((G.2.2.2.2.2 (v3 + 3).toNat).toInt), .inl ((G.2.2.2.2.2 (v3 + 4).toNat).toInt)] M1 (fun x4 M3 => ((x2 = x4 → Ok G miL_law (d + 1) 97 11937 (QI K) 18 [some (.inr (.inr (some 1001))), some (.inr (.inr (some 0))), some (.inr (.inr (some 66))), some (.inl (w32 (v3 + 7)))] [] lay0 M3 97 11937) ∧ (¬ x2 = x4 → K 0 M3))))) : Ok G miL_law (d + 1) 97 11937 (QI K) 1273 [some (.inr (.inr (some 1001))), some (.inr (.inr (some 0))), some (.inr (.inr (some 66))), some (.inl v3)] [] lay0 M 97 11937 := by
  refine r_aload_n (pc := 1273) (tb_at tkL_law_22 23 rfl) rfl rfl ?_
  refine r_aload_n (pc := 1274) (tb_at tkL_law_22 24 rfl) rfl rfl ?_
  refine r_iload_n (pc := 1275) (tb_at tkL_law_22 25 rfl) rfl rfl ?_
  refine r_iconst (pc := 1276) (tb_at tkL_law_22 26 rfl) ⟨by decide, by decide⟩ ?_
  refine r_iadd (pc := 1277) (tb_at tkL_law_22 27 rfl) ?_
  refine r_iald_scr_w (pc := 1278) (tb_at tkL_law_22 28 rfl) hGN h.1.1 h.1.2 ?_
  replace h := h.2
  refine r_aload_n (pc := 1279) (tb_at tkL_law_22 29 rfl) rfl rfl ?_
  refine r_iload_n (pc := 1280) (tb_at tkL_law_22 30 rfl) rfl rfl ?_
  refine r_iconst (pc := 1281) (tb_at tkL_law_22 31 rfl) ⟨by decide, by decide⟩ ?_
  refine r_iadd (pc := 1282) (tb_at tkL_law_22 32 rfl) ?_
  refine r_iald_scr_w (pc := 1283) (tb_at tkL_law_22 33 rfl) hGN h.1.1 h.1.2 ?_
  replace h := h.2
  refine r_aload_n (pc := 1284) (tb_at tkL_law_22 34 rfl) rfl rfl ?_
  refine r_iload_n (pc := 1285) (tb_at tkL_law_22 35 rfl) rfl rfl ?_
  refine r_iconst (pc := 1286) (tb_at tkL_law_22 36 rfl) ⟨by decide, by decide⟩ ?_
  refine r_iadd (pc := 1287) (tb_at tkL_law_22 37 rfl) ?_
  refine r_iald_scr_w (pc := 1288) (tb_at tkL_law_22 38 rfl) hGN h.1.1 h.1.2 ?_
  replace h := h.2
  refine r_aload_n (pc := 1289) (tb_at tkL_law_22 39 rfl) rfl rfl ?_
  refine r_iload_n (pc := 1290) (tb_at tkL_law_23 0 rfl) rfl rfl ?_
  refine r_iconst (pc := 1291) (tb_at tkL_law_23 1 rfl) ⟨by decide, by decide⟩ ?_
  refine r_iadd (pc := 1292) (tb_at tkL_law_23 2 rfl) ?_
  refine r_iald_scr_w (pc := 1293) (tb_at tkL_law_23 3 rfl) hGN h.1.1 h.1.2 ?_
  replace h := h.2
  refine r_invV (mc' := 0) (ms' := 0) [.inl ((G.2.2.2.2.2 (v3 + 1).toNat).toInt), .inl ((G.2.2.2.2.2 (v3 + 2).toNat).toInt), .inl ((G.2.2.2.2.2 (v3 + 3).toNat).toInt), .inl ((G.2.2.2.2.2 (v3 + 4).toNat).toInt)] (S := []) (pc := 1294) (tb_at tkL_law_23 4 rfl) rfl ly_0 rfl rfl clL_147 (Nat.le_of_ble_eq_true rfl) (Nat.le_refl _) (Nat.le_refl _) ?_
  refine Cal.mono h ?_
  rintro _ _ M1 ⟨x2, rfl, rfl, h⟩
  show Ok G miL_law (d + 1) 97 11937 (QI K) 1297 [some (.inr (.inr (some 1001))), some (.inr (.inr (some 0))), some (.inr (.inr (some 66))), some (.inl v3)] [.inl x2] lay0 M1 97 11937
  refine r_aload_n (pc := 1297) (tb_at tkL_law_23 5 rfl) rfl rfl ?_
  refine r_aload_n (pc := 1298) (tb_at tkL_law_23 6 rfl) rfl rfl ?_
  refine r_iload_n (pc := 1299) (tb_at tkL_law_23 7 rfl) rfl rfl ?_
  refine r_iconst (pc := 1300) (tb_at tkL_law_23 8 rfl) ⟨by decide, by decide⟩ ?_
  refine r_iadd (pc := 1301) (tb_at tkL_law_23 9 rfl) ?_
  refine r_iald_scr_w (pc := 1302) (tb_at tkL_law_23 10 rfl) hGN h.1.1 h.1.2 ?_
  replace h := h.2
  refine r_aload_n (pc := 1303) (tb_at tkL_law_23 11 rfl) rfl rfl ?_
  refine r_iload_n (pc := 1304) (tb_at tkL_law_23 12 rfl) rfl rfl ?_
  refine r_iconst (pc := 1305) (tb_at tkL_law_23 13 rfl) ⟨by decide, by decide⟩ ?_
  refine r_iadd (pc := 1306) (tb_at tkL_law_23 14 rfl) ?_
  refine r_iald_scr_w (pc := 1307) (tb_at tkL_law_23 15 rfl) hGN h.1.1 h.1.2 ?_
  replace h := h.2
  refine r_aload_n (pc := 1308) (tb_at tkL_law_23 16 rfl) rfl rfl ?_
  refine r_iload_n (pc := 1309) (tb_at tkL_law_23 17 rfl) rfl rfl ?_
  refine r_iconst (pc := 1310) (tb_at tkL_law_23 18 rfl) ⟨by decide, by decide⟩ ?_
  refine r_iadd (pc := 1311) (tb_at tkL_law_23 19 rfl) ?_
  refine r_iald_scr_w (pc := 1312) (tb_at tkL_law_23 20 rfl) hGN h.1.1 h.1.2 ?_
  replace h := h.2
  refine r_aload_n (pc := 1313) (tb_at tkL_law_23 21 rfl) rfl rfl ?_
  refine r_iload_n (pc := 1314) (tb_at tkL_law_23 22 rfl) rfl rfl ?_
  refine r_iconst (pc := 1315) (tb_at tkL_law_23 23 rfl) ⟨by decide, by decide⟩ ?_
  refine r_iadd (pc := 1316) (tb_at tkL_law_23 24 rfl) ?_
  refine r_iald_scr_w (pc := 1317) (tb_at tkL_law_23 25 rfl) hGN h.1.1 h.1.2 ?_
  replace h := h.2
  refine r_invV (mc' := 0) (ms' := 0) [.inl ((G.2.2.2.2.2 (v3 + 1).toNat).toInt), .inl ((G.2.2.2.2.2 (v3 + 2).toNat).toInt), .inl ((G.2.2.2.2.2 (v3 + 3).toNat).toInt), .inl ((G.2.2.2.2.2 (v3 + 4).toNat).toInt)] (S := [.inl x2]) (pc := 1318) (tb_at tkL_law_23 26 rfl) rfl ly_66 rfl rfl clL_150 (Nat.le_of_ble_eq_true rfl) (Nat.le_refl _) (Nat.le_refl _) ?_
  refine Cal.mono h ?_
  rintro _ _ M3 ⟨x4, rfl, rfl, h⟩
  show Ok G miL_law (d + 1) 97 11937 (QI K) 1321 [some (.inr (.inr (some 1001))), some (.inr (.inr (some 0))), some (.inr (.inr (some 66))), some (.inl v3)] [.inl x4, .inl x2] lay0 M3 97 11937
  refine q_icmp_eq (tgt := 1588) (pc := 1321) (tb_at tkL_law_23 27 rfl) (by decide) (fun c => ?_) (fun c => ?_)
  · replace h := h.1 c
    refine r_iinc (L' := [some (.inr (.inr (some 1001))), some (.inr (.inr (some 0))), some (.inr (.inr (some 66))), some (.inl (w32 (v3 + 7)))]) (pc := 1588) (tb_at tkL_law_29 4 rfl) rfl (by decide) rfl ?_
    refine r_goto (tgt := 18) (pc := 1591) (tb_at tkL_law_29 5 rfl) (by decide) ?_
    exact h
  · replace h := h.2 c
    refine r_iconst (pc := 1324) (tb_at tkL_law_23 28 rfl) ⟨by decide, by decide⟩ ?_
    exact r_zret (pc := 1325) (tb_at tkL_law_23 29 rfl) rfl (by decide) (Nat.le_refl _) (Nat.le_refl _) ⟨_, rfl, rfl, h⟩
set_option maxRecDepth 100000 in
set_option maxHeartbeats 4000000 in
theorem gL_law_1326 {G : GE} {d : Nat} {K : Int → Mem → Prop} {M : Mem} {v3 : Int} (hGL : G.2.2.2.2.1 < 2147483648) (hGN : G.2.2.2.2.1 ≤ 2147483647) (h : CalI G miX10_image d [.inr (.inr (some 0))] M (fun x2 M1 => CalI G miX11_image d [.inr (.inr (some 66))] M1 (fun x4 M3 => ((x2 = x4 → Ok G miL_law (d + 1) 97 11937 (QI K) 18 [some (.inr (.inr (some 1001))), some (.inr (.inr (some 0))), some (.inr (.inr (some 66))), some (.inl (w32 (v3 + 7)))] [] lay0 M3 97 11937) ∧ (¬ x2 = x4 → K 0 M3))))) : Ok G miL_law (d + 1) 97 11937 (QI K) 1326 [some (.inr (.inr (some 1001))), some (.inr (.inr (some 0))), some (.inr (.inr (some 66))), some (.inl v3)] [] lay0 M 97 11937 := by
  refine r_aload_n (pc := 1326) (tb_at tkL_law_23 30 rfl) rfl rfl ?_
  refine r_invV (mc' := 0) (ms' := 0) [] (S := []) (pc := 1327) (tb_at tkL_law_23 31 rfl) rfl ly_0 rfl rfl clL_151 (Nat.le_of_ble_eq_true rfl) (Nat.le_refl _) (Nat.le_refl _) ?_
  refine Cal.mono h ?_
  rintro _ _ M1 ⟨x2, rfl, rfl, h⟩
  show Ok G miL_law (d + 1) 97 11937 (QI K) 1330 [some (.inr (.inr (some 1001))), some (.inr (.inr (some 0))), some (.inr (.inr (some 66))), some (.inl v3)] [.inl x2] lay0 M1 97 11937
  refine r_aload_n (pc := 1330) (tb_at tkL_law_23 32 rfl) rfl rfl ?_
  refine r_invV (mc' := 0) (ms' := 0) [] (S := [.inl x2]) (pc := 1331) (tb_at tkL_law_23 33 rfl) rfl ly_66 rfl rfl clL_154 (Nat.le_of_ble_eq_true rfl) (Nat.le_refl _) (Nat.le_refl _) ?_
  refine Cal.mono h ?_
  rintro _ _ M3 ⟨x4, rfl, rfl, h⟩
  show Ok G miL_law (d + 1) 97 11937 (QI K) 1334 [some (.inr (.inr (some 1001))), some (.inr (.inr (some 0))), some (.inr (.inr (some 66))), some (.inl v3)] [.inl x4, .inl x2] lay0 M3 97 11937
  refine q_icmp_eq (tgt := 1588) (pc := 1334) (tb_at tkL_law_23 34 rfl) (by decide) (fun c => ?_) (fun c => ?_)
  · replace h := h.1 c
    refine r_iinc (L' := [some (.inr (.inr (some 1001))), some (.inr (.inr (some 0))), some (.inr (.inr (some 66))), some (.inl (w32 (v3 + 7)))]) (pc := 1588) (tb_at tkL_law_29 4 rfl) rfl (by decide) rfl ?_
    refine r_goto (tgt := 18) (pc := 1591) (tb_at tkL_law_29 5 rfl) (by decide) ?_
    exact h
  · replace h := h.2 c
    refine r_iconst (pc := 1337) (tb_at tkL_law_23 35 rfl) ⟨by decide, by decide⟩ ?_
    exact r_zret (pc := 1338) (tb_at tkL_law_23 36 rfl) rfl (by decide) (Nat.le_refl _) (Nat.le_refl _) ⟨_, rfl, rfl, h⟩
set_option maxRecDepth 100000 in
set_option maxHeartbeats 4000000 in
theorem gL_law_1339 {G : GE} {d : Nat} {K : Int → Mem → Prop} {M : Mem} {v3 : Int} (hGL : G.2.2.2.2.1 < 2147483648) (hGN : G.2.2.2.2.1 ≤ 2147483647) (h : CalI G miX10_back d [.inr (.inr (some 0))] M (fun x2 M1 => CalI G miX11_back d [.inr (.inr (some 66))] M1 (fun x4 M3 => ((x2 = x4 → Ok G miL_law (d + 1) 97 11937 (QI K) 18 [some (.inr (.inr (some 1001))), some (.inr (.inr (some 0))), some (.inr (.inr (some 66))), some (.inl (w32 (v3 + 7)))] [] lay0 M3 97 11937) ∧ (¬ x2 = x4 → K 0 M3))))) : Ok G miL_law (d + 1) 97 11937 (QI K) 1339 [some (.inr (.inr (some 1001))), some (.inr (.inr (some 0))), some (.inr (.inr (some 66))), some (.inl v3)] [] lay0 M 97 11937 := by
  refine r_aload_n (pc := 1339) (tb_at tkL_law_23 37 rfl) rfl rfl ?_
  refine r_invV (mc' := 0) (ms' := 0) [] (S := []) (pc := 1340) (tb_at tkL_law_23 38 rfl) rfl ly_0 rfl rfl clL_155 (Nat.le_of_ble_eq_true rfl) (Nat.le_refl _) (Nat.le_refl _) ?_
  refine Cal.mono h ?_
  rintro _ _ M1 ⟨x2, rfl, rfl, h⟩
  show Ok G miL_law (d + 1) 97 11937 (QI K) 1343 [some (.inr (.inr (some 1001))), some (.inr (.inr (some 0))), some (.inr (.inr (some 66))), some (.inl v3)] [.inl x2] lay0 M1 97 11937
  refine r_aload_n (pc := 1343) (tb_at tkL_law_23 39 rfl) rfl rfl ?_
  refine r_invV (mc' := 0) (ms' := 0) [] (S := [.inl x2]) (pc := 1344) (tb_at tkL_law_24 0 rfl) rfl ly_66 rfl rfl clL_158 (Nat.le_of_ble_eq_true rfl) (Nat.le_refl _) (Nat.le_refl _) ?_
  refine Cal.mono h ?_
  rintro _ _ M3 ⟨x4, rfl, rfl, h⟩
  show Ok G miL_law (d + 1) 97 11937 (QI K) 1347 [some (.inr (.inr (some 1001))), some (.inr (.inr (some 0))), some (.inr (.inr (some 66))), some (.inl v3)] [.inl x4, .inl x2] lay0 M3 97 11937
  refine q_icmp_eq (tgt := 1588) (pc := 1347) (tb_at tkL_law_24 1 rfl) (by decide) (fun c => ?_) (fun c => ?_)
  · replace h := h.1 c
    refine r_iinc (L' := [some (.inr (.inr (some 1001))), some (.inr (.inr (some 0))), some (.inr (.inr (some 66))), some (.inl (w32 (v3 + 7)))]) (pc := 1588) (tb_at tkL_law_29 4 rfl) rfl (by decide) rfl ?_
    refine r_goto (tgt := 18) (pc := 1591) (tb_at tkL_law_29 5 rfl) (by decide) ?_
    exact h
  · replace h := h.2 c
    refine r_iconst (pc := 1350) (tb_at tkL_law_24 2 rfl) ⟨by decide, by decide⟩ ?_
    exact r_zret (pc := 1351) (tb_at tkL_law_24 3 rfl) rfl (by decide) (Nat.le_refl _) (Nat.le_refl _) ⟨_, rfl, rfl, h⟩
set_option maxRecDepth 100000 in
set_option maxHeartbeats 4000000 in
theorem gL_law_1352 {G : GE} {d : Nat} {K : Int → Mem → Prop} {M : Mem} {v3 : Int} (hGL : G.2.2.2.2.1 < 2147483648) (hGN : G.2.2.2.2.1 ≤ 2147483647) (h : (0 ≤ v3 + 1 ∧ v3 + 1 < (G.2.2.2.2.1 : Int)) ∧ CalI G miX10_count d [.inr (.inr (some 0)), .inl ((G.2.2.2.2.2 (v3 + 1).toNat).toInt)] M (fun x2 M1 => (0 ≤ v3 + 1 ∧ v3 + 1 < (G.2.2.2.2.1 : Int)) ∧ CalI G miX11_count d [.inr (.inr (some 66)), .inl ((G.2.2.2.2.2 (v3 + 1).toNat).toInt)] M1 (fun x4 M3 => ((x2 = x4 → Ok G miL_law (d + 1) 97 11937 (QI K) 18 [some (.inr (.inr (some 1001))), some (.inr (.inr (some 0))), some (.inr (.inr (some 66))), some (.inl (w32 (v3 + 7)))] [] lay0 M3 97 11937) ∧ (¬ x2 = x4 → K 0 M3))))) : Ok G miL_law (d + 1) 97 11937 (QI K) 1352 [some (.inr (.inr (some 1001))), some (.inr (.inr (some 0))), some (.inr (.inr (some 66))), some (.inl v3)] [] lay0 M 97 11937 := by
  refine r_aload_n (pc := 1352) (tb_at tkL_law_24 4 rfl) rfl rfl ?_
  refine r_aload_n (pc := 1353) (tb_at tkL_law_24 5 rfl) rfl rfl ?_
  refine r_iload_n (pc := 1354) (tb_at tkL_law_24 6 rfl) rfl rfl ?_
  refine r_iconst (pc := 1355) (tb_at tkL_law_24 7 rfl) ⟨by decide, by decide⟩ ?_
  refine r_iadd (pc := 1356) (tb_at tkL_law_24 8 rfl) ?_
  refine r_iald_scr_w (pc := 1357) (tb_at tkL_law_24 9 rfl) hGN h.1.1 h.1.2 ?_
  replace h := h.2
  refine r_invV (mc' := 0) (ms' := 0) [.inl ((G.2.2.2.2.2 (v3 + 1).toNat).toInt)] (S := []) (pc := 1358) (tb_at tkL_law_24 10 rfl) rfl ly_0 rfl rfl clL_159 (Nat.le_of_ble_eq_true rfl) (Nat.le_refl _) (Nat.le_refl _) ?_
  refine Cal.mono h ?_
  rintro _ _ M1 ⟨x2, rfl, rfl, h⟩
  show Ok G miL_law (d + 1) 97 11937 (QI K) 1361 [some (.inr (.inr (some 1001))), some (.inr (.inr (some 0))), some (.inr (.inr (some 66))), some (.inl v3)] [.inl x2] lay0 M1 97 11937
  refine r_aload_n (pc := 1361) (tb_at tkL_law_24 11 rfl) rfl rfl ?_
  refine r_aload_n (pc := 1362) (tb_at tkL_law_24 12 rfl) rfl rfl ?_
  refine r_iload_n (pc := 1363) (tb_at tkL_law_24 13 rfl) rfl rfl ?_
  refine r_iconst (pc := 1364) (tb_at tkL_law_24 14 rfl) ⟨by decide, by decide⟩ ?_
  refine r_iadd (pc := 1365) (tb_at tkL_law_24 15 rfl) ?_
  refine r_iald_scr_w (pc := 1366) (tb_at tkL_law_24 16 rfl) hGN h.1.1 h.1.2 ?_
  replace h := h.2
  refine r_invV (mc' := 0) (ms' := 0) [.inl ((G.2.2.2.2.2 (v3 + 1).toNat).toInt)] (S := [.inl x2]) (pc := 1367) (tb_at tkL_law_24 17 rfl) rfl ly_66 rfl rfl clL_162 (Nat.le_of_ble_eq_true rfl) (Nat.le_refl _) (Nat.le_refl _) ?_
  refine Cal.mono h ?_
  rintro _ _ M3 ⟨x4, rfl, rfl, h⟩
  show Ok G miL_law (d + 1) 97 11937 (QI K) 1370 [some (.inr (.inr (some 1001))), some (.inr (.inr (some 0))), some (.inr (.inr (some 66))), some (.inl v3)] [.inl x4, .inl x2] lay0 M3 97 11937
  refine q_icmp_eq (tgt := 1588) (pc := 1370) (tb_at tkL_law_24 18 rfl) (by decide) (fun c => ?_) (fun c => ?_)
  · replace h := h.1 c
    refine r_iinc (L' := [some (.inr (.inr (some 1001))), some (.inr (.inr (some 0))), some (.inr (.inr (some 66))), some (.inl (w32 (v3 + 7)))]) (pc := 1588) (tb_at tkL_law_29 4 rfl) rfl (by decide) rfl ?_
    refine r_goto (tgt := 18) (pc := 1591) (tb_at tkL_law_29 5 rfl) (by decide) ?_
    exact h
  · replace h := h.2 c
    refine r_iconst (pc := 1373) (tb_at tkL_law_24 19 rfl) ⟨by decide, by decide⟩ ?_
    exact r_zret (pc := 1374) (tb_at tkL_law_24 20 rfl) rfl (by decide) (Nat.le_refl _) (Nat.le_refl _) ⟨_, rfl, rfl, h⟩
set_option maxRecDepth 100000 in
set_option maxHeartbeats 4000000 in
theorem gL_law_1375 {G : GE} {d : Nat} {K : Int → Mem → Prop} {M : Mem} {v3 : Int} (hGL : G.2.2.2.2.1 < 2147483648) (hGN : G.2.2.2.2.1 ≤ 2147483647) (h : (0 ≤ v3 + 1 ∧ v3 + 1 < (G.2.2.2.2.1 : Int)) ∧ (0 ≤ v3 + 2 ∧ v3 + 2 < (G.2.2.2.2.1 : Int)) ∧ (0 ≤ v3 + 3 ∧ v3 + 3 < (G.2.2.2.2.1 : Int)) ∧ CalI G miX10_sheet d [.inr (.inr (some 0)), .inl ((G.2.2.2.2.2 (v3 + 1).toNat).toInt), .inl ((G.2.2.2.2.2 (v3 + 2).toNat).toInt), .inl ((G.2.2.2.2.2 (v3 + 3).toNat).toInt)] M (fun x2 M1 => (0 ≤ v3 + 1 ∧ v3 + 1 < (G.2.2.2.2.1 : Int)) ∧ (0 ≤ v3 + 2 ∧ v3 + 2 < (G.2.2.2.2.1 : Int)) ∧ (0 ≤ v3 + 3 ∧ v3 + 3 < (G.2.2.2.2.1 : Int)) ∧ CalI G miX11_sheet d [.inr (.inr (some 66)), .inl ((G.2.2.2.2.2 (v3 + 1).toNat).toInt), .inl ((G.2.2.2.2.2 (v3 + 2).toNat).toInt), .inl ((G.2.2.2.2.2 (v3 + 3).toNat).toInt)] M1 (fun x4 M3 => ((x2 = x4 → Ok G miL_law (d + 1) 97 11937 (QI K) 18 [some (.inr (.inr (some 1001))), some (.inr (.inr (some 0))), some (.inr (.inr (some 66))), some (.inl (w32 (v3 + 7)))] [] lay0 M3 97 11937) ∧ (¬ x2 = x4 → K 0 M3))))) : Ok G miL_law (d + 1) 97 11937 (QI K) 1375 [some (.inr (.inr (some 1001))), some (.inr (.inr (some 0))), some (.inr (.inr (some 66))), some (.inl v3)] [] lay0 M 97 11937 := by
  refine r_aload_n (pc := 1375) (tb_at tkL_law_24 21 rfl) rfl rfl ?_
  refine r_aload_n (pc := 1376) (tb_at tkL_law_24 22 rfl) rfl rfl ?_
  refine r_iload_n (pc := 1377) (tb_at tkL_law_24 23 rfl) rfl rfl ?_
  refine r_iconst (pc := 1378) (tb_at tkL_law_24 24 rfl) ⟨by decide, by decide⟩ ?_
  refine r_iadd (pc := 1379) (tb_at tkL_law_24 25 rfl) ?_
  refine r_iald_scr_w (pc := 1380) (tb_at tkL_law_24 26 rfl) hGN h.1.1 h.1.2 ?_
  replace h := h.2
  refine r_aload_n (pc := 1381) (tb_at tkL_law_24 27 rfl) rfl rfl ?_
  refine r_iload_n (pc := 1382) (tb_at tkL_law_24 28 rfl) rfl rfl ?_
  refine r_iconst (pc := 1383) (tb_at tkL_law_24 29 rfl) ⟨by decide, by decide⟩ ?_
  refine r_iadd (pc := 1384) (tb_at tkL_law_24 30 rfl) ?_
  refine r_iald_scr_w (pc := 1385) (tb_at tkL_law_24 31 rfl) hGN h.1.1 h.1.2 ?_
  replace h := h.2
  refine r_aload_n (pc := 1386) (tb_at tkL_law_24 32 rfl) rfl rfl ?_
  refine r_iload_n (pc := 1387) (tb_at tkL_law_24 33 rfl) rfl rfl ?_
  refine r_iconst (pc := 1388) (tb_at tkL_law_24 34 rfl) ⟨by decide, by decide⟩ ?_
  refine r_iadd (pc := 1389) (tb_at tkL_law_24 35 rfl) ?_
  refine r_iald_scr_w (pc := 1390) (tb_at tkL_law_24 36 rfl) hGN h.1.1 h.1.2 ?_
  replace h := h.2
  refine r_invV (mc' := 0) (ms' := 0) [.inl ((G.2.2.2.2.2 (v3 + 1).toNat).toInt), .inl ((G.2.2.2.2.2 (v3 + 2).toNat).toInt), .inl ((G.2.2.2.2.2 (v3 + 3).toNat).toInt)] (S := []) (pc := 1391) (tb_at tkL_law_24 37 rfl) rfl ly_0 rfl rfl clL_163 (Nat.le_of_ble_eq_true rfl) (Nat.le_refl _) (Nat.le_refl _) ?_
  refine Cal.mono h ?_
  rintro _ _ M1 ⟨x2, rfl, rfl, h⟩
  show Ok G miL_law (d + 1) 97 11937 (QI K) 1394 [some (.inr (.inr (some 1001))), some (.inr (.inr (some 0))), some (.inr (.inr (some 66))), some (.inl v3)] [.inl x2] lay0 M1 97 11937
  refine r_aload_n (pc := 1394) (tb_at tkL_law_24 38 rfl) rfl rfl ?_
  refine r_aload_n (pc := 1395) (tb_at tkL_law_24 39 rfl) rfl rfl ?_
  refine r_iload_n (pc := 1396) (tb_at tkL_law_25 0 rfl) rfl rfl ?_
  refine r_iconst (pc := 1397) (tb_at tkL_law_25 1 rfl) ⟨by decide, by decide⟩ ?_
  refine r_iadd (pc := 1398) (tb_at tkL_law_25 2 rfl) ?_
  refine r_iald_scr_w (pc := 1399) (tb_at tkL_law_25 3 rfl) hGN h.1.1 h.1.2 ?_
  replace h := h.2
  refine r_aload_n (pc := 1400) (tb_at tkL_law_25 4 rfl) rfl rfl ?_
  refine r_iload_n (pc := 1401) (tb_at tkL_law_25 5 rfl) rfl rfl ?_
  refine r_iconst (pc := 1402) (tb_at tkL_law_25 6 rfl) ⟨by decide, by decide⟩ ?_
  refine r_iadd (pc := 1403) (tb_at tkL_law_25 7 rfl) ?_
  refine r_iald_scr_w (pc := 1404) (tb_at tkL_law_25 8 rfl) hGN h.1.1 h.1.2 ?_
  replace h := h.2
  refine r_aload_n (pc := 1405) (tb_at tkL_law_25 9 rfl) rfl rfl ?_
  refine r_iload_n (pc := 1406) (tb_at tkL_law_25 10 rfl) rfl rfl ?_
  refine r_iconst (pc := 1407) (tb_at tkL_law_25 11 rfl) ⟨by decide, by decide⟩ ?_
  refine r_iadd (pc := 1408) (tb_at tkL_law_25 12 rfl) ?_
  refine r_iald_scr_w (pc := 1409) (tb_at tkL_law_25 13 rfl) hGN h.1.1 h.1.2 ?_
  replace h := h.2
  refine r_invV (mc' := 0) (ms' := 0) [.inl ((G.2.2.2.2.2 (v3 + 1).toNat).toInt), .inl ((G.2.2.2.2.2 (v3 + 2).toNat).toInt), .inl ((G.2.2.2.2.2 (v3 + 3).toNat).toInt)] (S := [.inl x2]) (pc := 1410) (tb_at tkL_law_25 14 rfl) rfl ly_66 rfl rfl clL_166 (Nat.le_of_ble_eq_true rfl) (Nat.le_refl _) (Nat.le_refl _) ?_
  refine Cal.mono h ?_
  rintro _ _ M3 ⟨x4, rfl, rfl, h⟩
  show Ok G miL_law (d + 1) 97 11937 (QI K) 1413 [some (.inr (.inr (some 1001))), some (.inr (.inr (some 0))), some (.inr (.inr (some 66))), some (.inl v3)] [.inl x4, .inl x2] lay0 M3 97 11937
  refine q_icmp_eq (tgt := 1588) (pc := 1413) (tb_at tkL_law_25 15 rfl) (by decide) (fun c => ?_) (fun c => ?_)
  · replace h := h.1 c
    refine r_iinc (L' := [some (.inr (.inr (some 1001))), some (.inr (.inr (some 0))), some (.inr (.inr (some 66))), some (.inl (w32 (v3 + 7)))]) (pc := 1588) (tb_at tkL_law_29 4 rfl) rfl (by decide) rfl ?_
    refine r_goto (tgt := 18) (pc := 1591) (tb_at tkL_law_29 5 rfl) (by decide) ?_
    exact h
  · replace h := h.2 c
    refine r_iconst (pc := 1416) (tb_at tkL_law_25 16 rfl) ⟨by decide, by decide⟩ ?_
    exact r_zret (pc := 1417) (tb_at tkL_law_25 17 rfl) rfl (by decide) (Nat.le_refl _) (Nat.le_refl _) ⟨_, rfl, rfl, h⟩
set_option maxRecDepth 100000 in
set_option maxHeartbeats 4000000 in
theorem gL_law_1418 {G : GE} {d : Nat} {K : Int → Mem → Prop} {M : Mem} {v3 : Int} (hGL : G.2.2.2.2.1 < 2147483648) (hGN : G.2.2.2.2.1 ≤ 2147483647) (h : (0 ≤ v3 + 1 ∧ v3 + 1 < (G.2.2.2.2.1 : Int)) ∧ (0 ≤ v3 + 2 ∧ v3 + 2 < (G.2.2.2.2.1 : Int)) ∧ (0 ≤ v3 + 3 ∧ v3 + 3 < (G.2.2.2.2.1 : Int)) ∧ (0 ≤ v3 + 4 ∧ v3 + 4 < (G.2.2.2.2.1 : Int)) ∧ CalI G miX10_put d [.inr (.inr (some 0)), .inl ((G.2.2.2.2.2 (v3 + 1).toNat).toInt), .inl ((G.2.2.2.2.2 (v3 + 2).toNat).toInt), .inr (.inl (lor (lshl ((G.2.2.2.2.2 (v3 + 3).toNat).toInt) 32) (land ((G.2.2.2.2.2 (v3 + 4).toNat).toInt) 4294967295)))] M (fun x2 M1 => (0 ≤ v3 + 1 ∧ v3 + 1 < (G.2.2.2.2.1 : Int)) ∧ (0 ≤ v3 + 2 ∧ v3 + 2 < (G.2.2.2.2.1 : Int)) ∧ (0 ≤ v3 + 3 ∧ v3 + 3 < (G.2.2.2.2.1 : Int)) ∧ (0 ≤ v3 + 4 ∧ v3 + 4 < (G.2.2.2.2.1 : Int)) ∧ CalI G miX11_put d [.inr (.inr (some 66)), .inl ((G.2.2.2.2.2 (v3 + 1).toNat).toInt), .inl ((G.2.2.2.2.2 (v3 + 2).toNat).toInt), .inr (.inl (lor (lshl ((G.2.2.2.2.2 (v3 + 3).toNat).toInt) 32) (land ((G.2.2.2.2.2 (v3 + 4).toNat).toInt) 4294967295)))] M1 (fun x4 M3 => ((x2 = x4 → Ok G miL_law (d + 1) 97 11937 (QI K) 18 [some (.inr (.inr (some 1001))), some (.inr (.inr (some 0))), some (.inr (.inr (some 66))), some (.inl (w32 (v3 + 7)))] [] lay0 M3 97 11937) ∧ (¬ x2 = x4 → K 0 M3))))) : Ok G miL_law (d + 1) 97 11937 (QI K) 1418 [some (.inr (.inr (some 1001))), some (.inr (.inr (some 0))), some (.inr (.inr (some 66))), some (.inl v3)] [] lay0 M 97 11937 := by
  refine r_aload_n (pc := 1418) (tb_at tkL_law_25 18 rfl) rfl rfl ?_
  refine r_aload_n (pc := 1419) (tb_at tkL_law_25 19 rfl) rfl rfl ?_
  refine r_iload_n (pc := 1420) (tb_at tkL_law_25 20 rfl) rfl rfl ?_
  refine r_iconst (pc := 1421) (tb_at tkL_law_25 21 rfl) ⟨by decide, by decide⟩ ?_
  refine r_iadd (pc := 1422) (tb_at tkL_law_25 22 rfl) ?_
  refine r_iald_scr_w (pc := 1423) (tb_at tkL_law_25 23 rfl) hGN h.1.1 h.1.2 ?_
  replace h := h.2
  refine r_aload_n (pc := 1424) (tb_at tkL_law_25 24 rfl) rfl rfl ?_
  refine r_iload_n (pc := 1425) (tb_at tkL_law_25 25 rfl) rfl rfl ?_
  refine r_iconst (pc := 1426) (tb_at tkL_law_25 26 rfl) ⟨by decide, by decide⟩ ?_
  refine r_iadd (pc := 1427) (tb_at tkL_law_25 27 rfl) ?_
  refine r_iald_scr_w (pc := 1428) (tb_at tkL_law_25 28 rfl) hGN h.1.1 h.1.2 ?_
  replace h := h.2
  refine r_aload_n (pc := 1429) (tb_at tkL_law_25 29 rfl) rfl rfl ?_
  refine r_iload_n (pc := 1430) (tb_at tkL_law_25 30 rfl) rfl rfl ?_
  refine r_iconst (pc := 1431) (tb_at tkL_law_25 31 rfl) ⟨by decide, by decide⟩ ?_
  refine r_iadd (pc := 1432) (tb_at tkL_law_25 32 rfl) ?_
  refine r_iald_scr_w (pc := 1433) (tb_at tkL_law_25 33 rfl) hGN h.1.1 h.1.2 ?_
  replace h := h.2
  refine r_i2l (pc := 1434) (tb_at tkL_law_25 34 rfl) ?_
  refine r_bipush (pc := 1435) (tb_at tkL_law_25 35 rfl) ⟨by decide, by decide, by decide⟩ ?_
  refine r_lshl (pc := 1437) (tb_at tkL_law_25 36 rfl) ?_
  refine r_aload_n (pc := 1438) (tb_at tkL_law_25 37 rfl) rfl rfl ?_
  refine r_iload_n (pc := 1439) (tb_at tkL_law_25 38 rfl) rfl rfl ?_
  refine r_iconst (pc := 1440) (tb_at tkL_law_25 39 rfl) ⟨by decide, by decide⟩ ?_
  refine r_iadd (pc := 1441) (tb_at tkL_law_26 0 rfl) ?_
  refine r_iald_scr_w (pc := 1442) (tb_at tkL_law_26 1 rfl) hGN h.1.1 h.1.2 ?_
  replace h := h.2
  refine r_i2l (pc := 1443) (tb_at tkL_law_26 2 rfl) ?_
  refine r_ldc2 (n := 4294967295) (pc := 1444) (tb_at tkL_law_26 3 rfl) kcL_167 ⟨by decide, by decide⟩ ?_
  refine r_land (pc := 1447) (tb_at tkL_law_26 4 rfl) ?_
  refine r_lor (pc := 1448) (tb_at tkL_law_26 5 rfl) ?_
  refine r_invV (mc' := 0) (ms' := 0) [.inl ((G.2.2.2.2.2 (v3 + 1).toNat).toInt), .inl ((G.2.2.2.2.2 (v3 + 2).toNat).toInt), .inr (.inl (lor (lshl ((G.2.2.2.2.2 (v3 + 3).toNat).toInt) 32) (land ((G.2.2.2.2.2 (v3 + 4).toNat).toInt) 4294967295)))] (S := []) (pc := 1449) (tb_at tkL_law_26 6 rfl) rfl ly_0 rfl rfl clL_169 (Nat.le_of_ble_eq_true rfl) (Nat.le_refl _) (Nat.le_refl _) ?_
  refine Cal.mono h ?_
  rintro _ _ M1 ⟨x2, rfl, rfl, h⟩
  show Ok G miL_law (d + 1) 97 11937 (QI K) 1452 [some (.inr (.inr (some 1001))), some (.inr (.inr (some 0))), some (.inr (.inr (some 66))), some (.inl v3)] [.inl x2] lay0 M1 97 11937
  refine r_aload_n (pc := 1452) (tb_at tkL_law_26 7 rfl) rfl rfl ?_
  refine r_aload_n (pc := 1453) (tb_at tkL_law_26 8 rfl) rfl rfl ?_
  refine r_iload_n (pc := 1454) (tb_at tkL_law_26 9 rfl) rfl rfl ?_
  refine r_iconst (pc := 1455) (tb_at tkL_law_26 10 rfl) ⟨by decide, by decide⟩ ?_
  refine r_iadd (pc := 1456) (tb_at tkL_law_26 11 rfl) ?_
  refine r_iald_scr_w (pc := 1457) (tb_at tkL_law_26 12 rfl) hGN h.1.1 h.1.2 ?_
  replace h := h.2
  refine r_aload_n (pc := 1458) (tb_at tkL_law_26 13 rfl) rfl rfl ?_
  refine r_iload_n (pc := 1459) (tb_at tkL_law_26 14 rfl) rfl rfl ?_
  refine r_iconst (pc := 1460) (tb_at tkL_law_26 15 rfl) ⟨by decide, by decide⟩ ?_
  refine r_iadd (pc := 1461) (tb_at tkL_law_26 16 rfl) ?_
  refine r_iald_scr_w (pc := 1462) (tb_at tkL_law_26 17 rfl) hGN h.1.1 h.1.2 ?_
  replace h := h.2
  refine r_aload_n (pc := 1463) (tb_at tkL_law_26 18 rfl) rfl rfl ?_
  refine r_iload_n (pc := 1464) (tb_at tkL_law_26 19 rfl) rfl rfl ?_
  refine r_iconst (pc := 1465) (tb_at tkL_law_26 20 rfl) ⟨by decide, by decide⟩ ?_
  refine r_iadd (pc := 1466) (tb_at tkL_law_26 21 rfl) ?_
  refine r_iald_scr_w (pc := 1467) (tb_at tkL_law_26 22 rfl) hGN h.1.1 h.1.2 ?_
  replace h := h.2
  refine r_i2l (pc := 1468) (tb_at tkL_law_26 23 rfl) ?_
  refine r_bipush (pc := 1469) (tb_at tkL_law_26 24 rfl) ⟨by decide, by decide, by decide⟩ ?_
  refine r_lshl (pc := 1471) (tb_at tkL_law_26 25 rfl) ?_
  refine r_aload_n (pc := 1472) (tb_at tkL_law_26 26 rfl) rfl rfl ?_
  refine r_iload_n (pc := 1473) (tb_at tkL_law_26 27 rfl) rfl rfl ?_
  refine r_iconst (pc := 1474) (tb_at tkL_law_26 28 rfl) ⟨by decide, by decide⟩ ?_
  refine r_iadd (pc := 1475) (tb_at tkL_law_26 29 rfl) ?_
  refine r_iald_scr_w (pc := 1476) (tb_at tkL_law_26 30 rfl) hGN h.1.1 h.1.2 ?_
  replace h := h.2
  refine r_i2l (pc := 1477) (tb_at tkL_law_26 31 rfl) ?_
  refine r_ldc2 (n := 4294967295) (pc := 1478) (tb_at tkL_law_26 32 rfl) kcL_167 ⟨by decide, by decide⟩ ?_
  refine r_land (pc := 1481) (tb_at tkL_law_26 33 rfl) ?_
  refine r_lor (pc := 1482) (tb_at tkL_law_26 34 rfl) ?_
  refine r_invV (mc' := 0) (ms' := 0) [.inl ((G.2.2.2.2.2 (v3 + 1).toNat).toInt), .inl ((G.2.2.2.2.2 (v3 + 2).toNat).toInt), .inr (.inl (lor (lshl ((G.2.2.2.2.2 (v3 + 3).toNat).toInt) 32) (land ((G.2.2.2.2.2 (v3 + 4).toNat).toInt) 4294967295)))] (S := [.inl x2]) (pc := 1483) (tb_at tkL_law_26 35 rfl) rfl ly_66 rfl rfl clL_173 (Nat.le_of_ble_eq_true rfl) (Nat.le_refl _) (Nat.le_refl _) ?_
  refine Cal.mono h ?_
  rintro _ _ M3 ⟨x4, rfl, rfl, h⟩
  show Ok G miL_law (d + 1) 97 11937 (QI K) 1486 [some (.inr (.inr (some 1001))), some (.inr (.inr (some 0))), some (.inr (.inr (some 66))), some (.inl v3)] [.inl x4, .inl x2] lay0 M3 97 11937
  refine q_icmp_eq (tgt := 1588) (pc := 1486) (tb_at tkL_law_26 36 rfl) (by decide) (fun c => ?_) (fun c => ?_)
  · replace h := h.1 c
    refine r_iinc (L' := [some (.inr (.inr (some 1001))), some (.inr (.inr (some 0))), some (.inr (.inr (some 66))), some (.inl (w32 (v3 + 7)))]) (pc := 1588) (tb_at tkL_law_29 4 rfl) rfl (by decide) rfl ?_
    refine r_goto (tgt := 18) (pc := 1591) (tb_at tkL_law_29 5 rfl) (by decide) ?_
    exact h
  · replace h := h.2 c
    refine r_iconst (pc := 1489) (tb_at tkL_law_26 37 rfl) ⟨by decide, by decide⟩ ?_
    exact r_zret (pc := 1490) (tb_at tkL_law_26 38 rfl) rfl (by decide) (Nat.le_refl _) (Nat.le_refl _) ⟨_, rfl, rfl, h⟩
set_option maxRecDepth 100000 in
set_option maxHeartbeats 4000000 in
theorem gL_law_1491 {G : GE} {d : Nat} {K : Int → Mem → Prop} {M : Mem} {v3 : Int} (hGL : G.2.2.2.2.1 < 2147483648) (hGN : G.2.2.2.2.1 ≤ 2147483647) (h : (0 ≤ v3 + 1 ∧ v3 + 1 < (G.2.2.2.2.1 : Int)) ∧ (0 ≤ v3 + 2 ∧ v3 + 2 < (G.2.2.2.2.1 : Int)) ∧ CalL G miX10_item d [.inr (.inr (some 0)), .inl ((G.2.2.2.2.2 (v3 + 1).toNat).toInt), .inl ((G.2.2.2.2.2 (v3 + 2).toNat).toInt)] M (fun x2 M1 => (0 ≤ v3 + 1 ∧ v3 + 1 < (G.2.2.2.2.1 : Int)) ∧ (0 ≤ v3 + 2 ∧ v3 + 2 < (G.2.2.2.2.1 : Int)) ∧ CalL G miX11_item d [.inr (.inr (some 66)), .inl ((G.2.2.2.2.2 (v3 + 1).toNat).toInt), .inl ((G.2.2.2.2.2 (v3 + 2).toNat).toInt)] M1 (fun x4 M3 => ((x2 = x4 → Ok G miL_law (d + 1) 97 11937 (QI K) 18 [some (.inr (.inr (some 1001))), some (.inr (.inr (some 0))), some (.inr (.inr (some 66))), some (.inl (w32 (v3 + 7)))] [] lay0 M3 97 11937) ∧ (¬ x2 = x4 → K 0 M3))))) : Ok G miL_law (d + 1) 97 11937 (QI K) 1491 [some (.inr (.inr (some 1001))), some (.inr (.inr (some 0))), some (.inr (.inr (some 66))), some (.inl v3)] [] lay0 M 97 11937 := by
  refine r_aload_n (pc := 1491) (tb_at tkL_law_26 39 rfl) rfl rfl ?_
  refine r_aload_n (pc := 1492) (tb_at tkL_law_27 0 rfl) rfl rfl ?_
  refine r_iload_n (pc := 1493) (tb_at tkL_law_27 1 rfl) rfl rfl ?_
  refine r_iconst (pc := 1494) (tb_at tkL_law_27 2 rfl) ⟨by decide, by decide⟩ ?_
  refine r_iadd (pc := 1495) (tb_at tkL_law_27 3 rfl) ?_
  refine r_iald_scr_w (pc := 1496) (tb_at tkL_law_27 4 rfl) hGN h.1.1 h.1.2 ?_
  replace h := h.2
  refine r_aload_n (pc := 1497) (tb_at tkL_law_27 5 rfl) rfl rfl ?_
  refine r_iload_n (pc := 1498) (tb_at tkL_law_27 6 rfl) rfl rfl ?_
  refine r_iconst (pc := 1499) (tb_at tkL_law_27 7 rfl) ⟨by decide, by decide⟩ ?_
  refine r_iadd (pc := 1500) (tb_at tkL_law_27 8 rfl) ?_
  refine r_iald_scr_w (pc := 1501) (tb_at tkL_law_27 9 rfl) hGN h.1.1 h.1.2 ?_
  replace h := h.2
  refine r_invV (mc' := 0) (ms' := 0) [.inl ((G.2.2.2.2.2 (v3 + 1).toNat).toInt), .inl ((G.2.2.2.2.2 (v3 + 2).toNat).toInt)] (S := []) (pc := 1502) (tb_at tkL_law_27 10 rfl) rfl ly_0 rfl rfl clL_174 (Nat.le_of_ble_eq_true rfl) (Nat.le_refl _) (Nat.le_refl _) ?_
  refine Cal.mono h ?_
  rintro _ _ M1 ⟨x2, rfl, rfl, h⟩
  show Ok G miL_law (d + 1) 97 11937 (QI K) 1505 [some (.inr (.inr (some 1001))), some (.inr (.inr (some 0))), some (.inr (.inr (some 66))), some (.inl v3)] [.inr (.inl x2)] lay0 M1 97 11937
  refine r_aload_n (pc := 1505) (tb_at tkL_law_27 11 rfl) rfl rfl ?_
  refine r_aload_n (pc := 1506) (tb_at tkL_law_27 12 rfl) rfl rfl ?_
  refine r_iload_n (pc := 1507) (tb_at tkL_law_27 13 rfl) rfl rfl ?_
  refine r_iconst (pc := 1508) (tb_at tkL_law_27 14 rfl) ⟨by decide, by decide⟩ ?_
  refine r_iadd (pc := 1509) (tb_at tkL_law_27 15 rfl) ?_
  refine r_iald_scr_w (pc := 1510) (tb_at tkL_law_27 16 rfl) hGN h.1.1 h.1.2 ?_
  replace h := h.2
  refine r_aload_n (pc := 1511) (tb_at tkL_law_27 17 rfl) rfl rfl ?_
  refine r_iload_n (pc := 1512) (tb_at tkL_law_27 18 rfl) rfl rfl ?_
  refine r_iconst (pc := 1513) (tb_at tkL_law_27 19 rfl) ⟨by decide, by decide⟩ ?_
  refine r_iadd (pc := 1514) (tb_at tkL_law_27 20 rfl) ?_
  refine r_iald_scr_w (pc := 1515) (tb_at tkL_law_27 21 rfl) hGN h.1.1 h.1.2 ?_
  replace h := h.2
  refine r_invV (mc' := 0) (ms' := 0) [.inl ((G.2.2.2.2.2 (v3 + 1).toNat).toInt), .inl ((G.2.2.2.2.2 (v3 + 2).toNat).toInt)] (S := [.inr (.inl x2)]) (pc := 1516) (tb_at tkL_law_27 22 rfl) rfl ly_66 rfl rfl clL_177 (Nat.le_of_ble_eq_true rfl) (Nat.le_refl _) (Nat.le_refl _) ?_
  refine Cal.mono h ?_
  rintro _ _ M3 ⟨x4, rfl, rfl, h⟩
  show Ok G miL_law (d + 1) 97 11937 (QI K) 1519 [some (.inr (.inr (some 1001))), some (.inr (.inr (some 0))), some (.inr (.inr (some 66))), some (.inl v3)] [.inr (.inl x4), .inr (.inl x2)] lay0 M3 97 11937
  refine r_lcmp (pc := 1519) (tb_at tkL_law_27 23 rfl) ?_
  refine q_lif_eq (tgt := 1588) (pc := 1520) (tb_at tkL_law_27 24 rfl) (by decide) (fun c => ?_) (fun c => ?_)
  · replace h := h.1 c
    refine r_iinc (L' := [some (.inr (.inr (some 1001))), some (.inr (.inr (some 0))), some (.inr (.inr (some 66))), some (.inl (w32 (v3 + 7)))]) (pc := 1588) (tb_at tkL_law_29 4 rfl) rfl (by decide) rfl ?_
    refine r_goto (tgt := 18) (pc := 1591) (tb_at tkL_law_29 5 rfl) (by decide) ?_
    exact h
  · replace h := h.2 c
    refine r_iconst (pc := 1523) (tb_at tkL_law_27 25 rfl) ⟨by decide, by decide⟩ ?_
    exact r_zret (pc := 1524) (tb_at tkL_law_27 26 rfl) rfl (by decide) (Nat.le_refl _) (Nat.le_refl _) ⟨_, rfl, rfl, h⟩
set_option maxRecDepth 100000 in
set_option maxHeartbeats 4000000 in
theorem gL_law_1525 {G : GE} {d : Nat} {K : Int → Mem → Prop} {M : Mem} {v3 : Int} (hGL : G.2.2.2.2.1 < 2147483648) (hGN : G.2.2.2.2.1 ≤ 2147483647) (h : (0 ≤ v3 + 1 ∧ v3 + 1 < (G.2.2.2.2.1 : Int)) ∧ (0 ≤ v3 + 2 ∧ v3 + 2 < (G.2.2.2.2.1 : Int)) ∧ (0 ≤ v3 + 3 ∧ v3 + 3 < (G.2.2.2.2.1 : Int)) ∧ (0 ≤ v3 + 4 ∧ v3 + 4 < (G.2.2.2.2.1 : Int)) ∧ (0 ≤ v3 + 5 ∧ v3 + 5 < (G.2.2.2.2.1 : Int)) ∧ CalI G miX10_copy d [.inr (.inr (some 0)), .inl ((G.2.2.2.2.2 (v3 + 1).toNat).toInt), .inl ((G.2.2.2.2.2 (v3 + 2).toNat).toInt), .inl ((G.2.2.2.2.2 (v3 + 3).toNat).toInt), .inl ((G.2.2.2.2.2 (v3 + 4).toNat).toInt), .inl ((G.2.2.2.2.2 (v3 + 5).toNat).toInt)] M (fun x2 M1 => (0 ≤ v3 + 1 ∧ v3 + 1 < (G.2.2.2.2.1 : Int)) ∧ (0 ≤ v3 + 2 ∧ v3 + 2 < (G.2.2.2.2.1 : Int)) ∧ (0 ≤ v3 + 3 ∧ v3 + 3 < (G.2.2.2.2.1 : Int)) ∧ (0 ≤ v3 + 4 ∧ v3 + 4 < (G.2.2.2.2.1 : Int)) ∧ (0 ≤ v3 + 5 ∧ v3 + 5 < (G.2.2.2.2.1 : Int)) ∧ CalI G miX11_copy d [.inr (.inr (some 66)), .inl ((G.2.2.2.2.2 (v3 + 1).toNat).toInt), .inl ((G.2.2.2.2.2 (v3 + 2).toNat).toInt), .inl ((G.2.2.2.2.2 (v3 + 3).toNat).toInt), .inl ((G.2.2.2.2.2 (v3 + 4).toNat).toInt), .inl ((G.2.2.2.2.2 (v3 + 5).toNat).toInt)] M1 (fun x4 M3 => ((x2 = x4 → Ok G miL_law (d + 1) 97 11937 (QI K) 18 [some (.inr (.inr (some 1001))), some (.inr (.inr (some 0))), some (.inr (.inr (some 66))), some (.inl (w32 (v3 + 7)))] [] lay0 M3 97 11937) ∧ (¬ x2 = x4 → K 0 M3))))) : Ok G miL_law (d + 1) 97 11937 (QI K) 1525 [some (.inr (.inr (some 1001))), some (.inr (.inr (some 0))), some (.inr (.inr (some 66))), some (.inl v3)] [] lay0 M 97 11937 := by
  refine r_aload_n (pc := 1525) (tb_at tkL_law_27 27 rfl) rfl rfl ?_
  refine r_aload_n (pc := 1526) (tb_at tkL_law_27 28 rfl) rfl rfl ?_
  refine r_iload_n (pc := 1527) (tb_at tkL_law_27 29 rfl) rfl rfl ?_
  refine r_iconst (pc := 1528) (tb_at tkL_law_27 30 rfl) ⟨by decide, by decide⟩ ?_
  refine r_iadd (pc := 1529) (tb_at tkL_law_27 31 rfl) ?_
  refine r_iald_scr_w (pc := 1530) (tb_at tkL_law_27 32 rfl) hGN h.1.1 h.1.2 ?_
  replace h := h.2
  refine r_aload_n (pc := 1531) (tb_at tkL_law_27 33 rfl) rfl rfl ?_
  refine r_iload_n (pc := 1532) (tb_at tkL_law_27 34 rfl) rfl rfl ?_
  refine r_iconst (pc := 1533) (tb_at tkL_law_27 35 rfl) ⟨by decide, by decide⟩ ?_
  refine r_iadd (pc := 1534) (tb_at tkL_law_27 36 rfl) ?_
  refine r_iald_scr_w (pc := 1535) (tb_at tkL_law_27 37 rfl) hGN h.1.1 h.1.2 ?_
  replace h := h.2
  refine r_aload_n (pc := 1536) (tb_at tkL_law_27 38 rfl) rfl rfl ?_
  refine r_iload_n (pc := 1537) (tb_at tkL_law_27 39 rfl) rfl rfl ?_
  refine r_iconst (pc := 1538) (tb_at tkL_law_28 0 rfl) ⟨by decide, by decide⟩ ?_
  refine r_iadd (pc := 1539) (tb_at tkL_law_28 1 rfl) ?_
  refine r_iald_scr_w (pc := 1540) (tb_at tkL_law_28 2 rfl) hGN h.1.1 h.1.2 ?_
  replace h := h.2
  refine r_aload_n (pc := 1541) (tb_at tkL_law_28 3 rfl) rfl rfl ?_
  refine r_iload_n (pc := 1542) (tb_at tkL_law_28 4 rfl) rfl rfl ?_
  refine r_iconst (pc := 1543) (tb_at tkL_law_28 5 rfl) ⟨by decide, by decide⟩ ?_
  refine r_iadd (pc := 1544) (tb_at tkL_law_28 6 rfl) ?_
  refine r_iald_scr_w (pc := 1545) (tb_at tkL_law_28 7 rfl) hGN h.1.1 h.1.2 ?_
  replace h := h.2
  refine r_aload_n (pc := 1546) (tb_at tkL_law_28 8 rfl) rfl rfl ?_
  refine r_iload_n (pc := 1547) (tb_at tkL_law_28 9 rfl) rfl rfl ?_
  refine r_iconst (pc := 1548) (tb_at tkL_law_28 10 rfl) ⟨by decide, by decide⟩ ?_
  refine r_iadd (pc := 1549) (tb_at tkL_law_28 11 rfl) ?_
  refine r_iald_scr_w (pc := 1550) (tb_at tkL_law_28 12 rfl) hGN h.1.1 h.1.2 ?_
  replace h := h.2
  refine r_invV (mc' := 0) (ms' := 0) [.inl ((G.2.2.2.2.2 (v3 + 1).toNat).toInt), .inl ((G.2.2.2.2.2 (v3 + 2).toNat).toInt), .inl ((G.2.2.2.2.2 (v3 + 3).toNat).toInt), .inl ((G.2.2.2.2.2 (v3 + 4).toNat).toInt), .inl ((G.2.2.2.2.2 (v3 + 5).toNat).toInt)] (S := []) (pc := 1551) (tb_at tkL_law_28 13 rfl) rfl ly_0 rfl rfl clL_178 (Nat.le_of_ble_eq_true rfl) (Nat.le_refl _) (Nat.le_refl _) ?_
  refine Cal.mono h ?_
  rintro _ _ M1 ⟨x2, rfl, rfl, h⟩
  show Ok G miL_law (d + 1) 97 11937 (QI K) 1554 [some (.inr (.inr (some 1001))), some (.inr (.inr (some 0))), some (.inr (.inr (some 66))), some (.inl v3)] [.inl x2] lay0 M1 97 11937
  refine r_aload_n (pc := 1554) (tb_at tkL_law_28 14 rfl) rfl rfl ?_
  refine r_aload_n (pc := 1555) (tb_at tkL_law_28 15 rfl) rfl rfl ?_
  refine r_iload_n (pc := 1556) (tb_at tkL_law_28 16 rfl) rfl rfl ?_
  refine r_iconst (pc := 1557) (tb_at tkL_law_28 17 rfl) ⟨by decide, by decide⟩ ?_
  refine r_iadd (pc := 1558) (tb_at tkL_law_28 18 rfl) ?_
  refine r_iald_scr_w (pc := 1559) (tb_at tkL_law_28 19 rfl) hGN h.1.1 h.1.2 ?_
  replace h := h.2
  refine r_aload_n (pc := 1560) (tb_at tkL_law_28 20 rfl) rfl rfl ?_
  refine r_iload_n (pc := 1561) (tb_at tkL_law_28 21 rfl) rfl rfl ?_
  refine r_iconst (pc := 1562) (tb_at tkL_law_28 22 rfl) ⟨by decide, by decide⟩ ?_
  refine r_iadd (pc := 1563) (tb_at tkL_law_28 23 rfl) ?_
  refine r_iald_scr_w (pc := 1564) (tb_at tkL_law_28 24 rfl) hGN h.1.1 h.1.2 ?_
  replace h := h.2
  refine r_aload_n (pc := 1565) (tb_at tkL_law_28 25 rfl) rfl rfl ?_
  refine r_iload_n (pc := 1566) (tb_at tkL_law_28 26 rfl) rfl rfl ?_
  refine r_iconst (pc := 1567) (tb_at tkL_law_28 27 rfl) ⟨by decide, by decide⟩ ?_
  refine r_iadd (pc := 1568) (tb_at tkL_law_28 28 rfl) ?_
  refine r_iald_scr_w (pc := 1569) (tb_at tkL_law_28 29 rfl) hGN h.1.1 h.1.2 ?_
  replace h := h.2
  refine r_aload_n (pc := 1570) (tb_at tkL_law_28 30 rfl) rfl rfl ?_
  refine r_iload_n (pc := 1571) (tb_at tkL_law_28 31 rfl) rfl rfl ?_
  refine r_iconst (pc := 1572) (tb_at tkL_law_28 32 rfl) ⟨by decide, by decide⟩ ?_
  refine r_iadd (pc := 1573) (tb_at tkL_law_28 33 rfl) ?_
  refine r_iald_scr_w (pc := 1574) (tb_at tkL_law_28 34 rfl) hGN h.1.1 h.1.2 ?_
  replace h := h.2
  refine r_aload_n (pc := 1575) (tb_at tkL_law_28 35 rfl) rfl rfl ?_
  refine r_iload_n (pc := 1576) (tb_at tkL_law_28 36 rfl) rfl rfl ?_
  refine r_iconst (pc := 1577) (tb_at tkL_law_28 37 rfl) ⟨by decide, by decide⟩ ?_
  refine r_iadd (pc := 1578) (tb_at tkL_law_28 38 rfl) ?_
  refine r_iald_scr_w (pc := 1579) (tb_at tkL_law_28 39 rfl) hGN h.1.1 h.1.2 ?_
  replace h := h.2
  refine r_invV (mc' := 0) (ms' := 0) [.inl ((G.2.2.2.2.2 (v3 + 1).toNat).toInt), .inl ((G.2.2.2.2.2 (v3 + 2).toNat).toInt), .inl ((G.2.2.2.2.2 (v3 + 3).toNat).toInt), .inl ((G.2.2.2.2.2 (v3 + 4).toNat).toInt), .inl ((G.2.2.2.2.2 (v3 + 5).toNat).toInt)] (S := [.inl x2]) (pc := 1580) (tb_at tkL_law_29 0 rfl) rfl ly_66 rfl rfl clL_181 (Nat.le_of_ble_eq_true rfl) (Nat.le_refl _) (Nat.le_refl _) ?_
  refine Cal.mono h ?_
  rintro _ _ M3 ⟨x4, rfl, rfl, h⟩
  show Ok G miL_law (d + 1) 97 11937 (QI K) 1583 [some (.inr (.inr (some 1001))), some (.inr (.inr (some 0))), some (.inr (.inr (some 66))), some (.inl v3)] [.inl x4, .inl x2] lay0 M3 97 11937
  refine q_icmp_eq (tgt := 1588) (pc := 1583) (tb_at tkL_law_29 1 rfl) (by decide) (fun c => ?_) (fun c => ?_)
  · replace h := h.1 c
    refine r_iinc (L' := [some (.inr (.inr (some 1001))), some (.inr (.inr (some 0))), some (.inr (.inr (some 66))), some (.inl (w32 (v3 + 7)))]) (pc := 1588) (tb_at tkL_law_29 4 rfl) rfl (by decide) rfl ?_
    refine r_goto (tgt := 18) (pc := 1591) (tb_at tkL_law_29 5 rfl) (by decide) ?_
    exact h
  · replace h := h.2 c
    refine r_iconst (pc := 1586) (tb_at tkL_law_29 2 rfl) ⟨by decide, by decide⟩ ?_
    exact r_zret (pc := 1587) (tb_at tkL_law_29 3 rfl) rfl (by decide) (Nat.le_refl _) (Nat.le_refl _) ⟨_, rfl, rfl, h⟩
