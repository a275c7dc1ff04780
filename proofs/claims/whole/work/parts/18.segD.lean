-- seg lemmas (by wip/gen/mk_seg.py 18.segD)
set_option maxRecDepth 100000 in
set_option maxHeartbeats 4000000 in
theorem gX10_fly_0 {G : GE} {d : Nat} {K : Int → Mem → Prop} {M : Mem} {v1 v2 v3 v4 : Int}  (h : CalI G miX10_isAirport d [.inl v1] M (fun x2 M1 => ((x2 = 0 → K (-2) M1) ∧ (¬ x2 = 0 → CalI G miX10_isAirport d [.inl v2] M1 (fun x4 M3 => ((x4 = 0 → K (-2) M3) ∧ (¬ x4 = 0 → ((v1 = v2 → K (-2) M3) ∧ (¬ v1 = v2 → CalI G miX10_areTimes d [.inl v3, .inl v4] M3 (fun x6 M5 => ((¬ x6 = 0 → (((M5 1 8) < 7 → CalI G miX5_addFlight d [.inr (.inr (some 1)), .inl v1, .inl v2, .inl v3, .inl v4] M5 (fun x8 M7 => K x8 M7)) ∧ (7 ≤ (M5 1 8) → K (-4) M5))) ∧ (x6 = 0 → K (-2) M5)))))))))))) : OkI G miX10_fly (d + 1) K 0 [some (.inr (.inr (some 0))), some (.inl v1), some (.inl v2), some (.inl v3), some (.inl v4)] [] M := by
  refine r_iload_n (pc := 0) (tb_at tkX10_fly 0 rfl) rfl rfl ?_
  refine r_invS (mc' := 0) (ms' := 0) [.inl v1] (S := []) (pc := 1) (tb_at tkX10_fly 1 rfl) rfl clX10_97 (Nat.le_of_ble_eq_true rfl) (Nat.le_refl _) (Nat.le_refl _) ?_
  refine Cal.mono h ?_
  rintro _ _ M1 ⟨x2, rfl, rfl, h⟩
  show OkI G miX10_fly (d + 1) K 4 [some (.inr (.inr (some 0))), some (.inl v1), some (.inl v2), some (.inl v3), some (.inl v4)] [.inl x2] M1
  refine q_if_eq (tgt := 28) (pc := 4) (tb_at tkX10_fly 2 rfl) (by decide) (fun c => ?_) (fun c => ?_)
  · replace h := h.1 c
    refine r_bipush (pc := 28) (tb_at tkX10_fly 13 rfl) ⟨by decide, by decide, by decide⟩ ?_
    exact r_iret (pc := 30) (tb_at tkX10_fly 14 rfl) rfl (Nat.le_refl _) (Nat.le_refl _) ⟨_, rfl, rfl, h⟩
  · replace h := h.2 c
    refine r_iload_n (pc := 7) (tb_at tkX10_fly 3 rfl) rfl rfl ?_
    refine r_invS (mc' := 0) (ms' := 0) [.inl v2] (S := []) (pc := 8) (tb_at tkX10_fly 4 rfl) rfl clX10_97 (Nat.le_of_ble_eq_true rfl) (Nat.le_refl _) (Nat.le_refl _) ?_
    refine Cal.mono h ?_
    rintro _ _ M3 ⟨x4, rfl, rfl, h⟩
    show OkI G miX10_fly (d + 1) K 11 [some (.inr (.inr (some 0))), some (.inl v1), some (.inl v2), some (.inl v3), some (.inl v4)] [.inl x4] M3
    refine q_if_eq (tgt := 28) (pc := 11) (tb_at tkX10_fly 5 rfl) (by decide) (fun c => ?_) (fun c => ?_)
    · replace h := h.1 c
      refine r_bipush (pc := 28) (tb_at tkX10_fly 13 rfl) ⟨by decide, by decide, by decide⟩ ?_
      exact r_iret (pc := 30) (tb_at tkX10_fly 14 rfl) rfl (Nat.le_refl _) (Nat.le_refl _) ⟨_, rfl, rfl, h⟩
    · replace h := h.2 c
      refine r_iload_n (pc := 14) (tb_at tkX10_fly 6 rfl) rfl rfl ?_
      refine r_iload_n (pc := 15) (tb_at tkX10_fly 7 rfl) rfl rfl ?_
      refine q_icmp_eq (tgt := 28) (pc := 16) (tb_at tkX10_fly 8 rfl) (by decide) (fun c => ?_) (fun c => ?_)
      · replace h := h.1 c
        refine r_bipush (pc := 28) (tb_at tkX10_fly 13 rfl) ⟨by decide, by decide, by decide⟩ ?_
        exact r_iret (pc := 30) (tb_at tkX10_fly 14 rfl) rfl (Nat.le_refl _) (Nat.le_refl _) ⟨_, rfl, rfl, h⟩
      · replace h := h.2 c
        refine r_iload_n (pc := 19) (tb_at tkX10_fly 9 rfl) rfl rfl ?_
        refine r_iload (pc := 20) (tb_at tkX10_fly 10 rfl) rfl ?_
        refine r_invS (mc' := 0) (ms' := 0) [.inl v3, .inl v4] (S := []) (pc := 22) (tb_at tkX10_fly 11 rfl) rfl clX10_101 (Nat.le_of_ble_eq_true rfl) (Nat.le_refl _) (Nat.le_refl _) ?_
        refine Cal.mono h ?_
        rintro _ _ M5 ⟨x6, rfl, rfl, h⟩
        show OkI G miX10_fly (d + 1) K 25 [some (.inr (.inr (some 0))), some (.inl v1), some (.inl v2), some (.inl v3), some (.inl v4)] [.inl x6] M5
        refine q_if_ne (tgt := 31) (pc := 25) (tb_at tkX10_fly 12 rfl) (by decide) (fun c => ?_) (fun c => ?_)
        · replace h := h.1 c
          refine r_aload_n (pc := 31) (tb_at tkX10_fly 15 rfl) rfl rfl ?_
          refine r_get 9 0 (pc := 32) (tb_at tkX10_fly 16 rfl) ly_0 flX10_14 rfl ?_
          refine r_get 5 8 (pc := 35) (tb_at tkX10_fly 17 rfl) ly_1 flX10_105 rfl ?_
          refine r_bipush (pc := 38) (tb_at tkX10_fly 18 rfl) ⟨by decide, by decide, by decide⟩ ?_
          refine q_icmp_lt (tgt := 46) (pc := 40) (tb_at tkX10_fly 19 rfl) (by decide) (fun c => ?_) (fun c => ?_)
          · replace h := h.1 c
            refine r_aload_n (pc := 46) (tb_at tkX10_fly 22 rfl) rfl rfl ?_
            refine r_get 9 0 (pc := 47) (tb_at tkX10_fly 23 rfl) ly_0 flX10_14 rfl ?_
            refine r_iload_n (pc := 50) (tb_at tkX10_fly 24 rfl) rfl rfl ?_
            refine r_iload_n (pc := 51) (tb_at tkX10_fly 25 rfl) rfl rfl ?_
            refine r_iload_n (pc := 52) (tb_at tkX10_fly 26 rfl) rfl rfl ?_
            refine r_iload (pc := 53) (tb_at tkX10_fly 27 rfl) rfl ?_
            refine r_invV (mc' := 0) (ms' := 0) [.inl v1, .inl v2, .inl v3, .inl v4] (S := []) (pc := 55) (tb_at tkX10_fly 28 rfl) rfl ly_1 rfl rfl clX10_108 (Nat.le_of_ble_eq_true rfl) (Nat.le_refl _) (Nat.le_refl _) ?_
            refine Cal.mono h ?_
            rintro _ _ M7 ⟨x8, rfl, rfl, h⟩
            show OkI G miX10_fly (d + 1) K 58 [some (.inr (.inr (some 0))), some (.inl v1), some (.inl v2), some (.inl v3), some (.inl v4)] [.inl x8] M7
            exact r_iret (pc := 58) (tb_at tkX10_fly 29 rfl) rfl (Nat.le_refl _) (Nat.le_refl _) ⟨_, rfl, rfl, h⟩
          · replace h := h.2 c
            refine r_bipush (pc := 43) (tb_at tkX10_fly 20 rfl) ⟨by decide, by decide, by decide⟩ ?_
            exact r_iret (pc := 45) (tb_at tkX10_fly 21 rfl) rfl (Nat.le_refl _) (Nat.le_refl _) ⟨_, rfl, rfl, h⟩
        · replace h := h.2 c
          refine r_bipush (pc := 28) (tb_at tkX10_fly 13 rfl) ⟨by decide, by decide, by decide⟩ ?_
          exact r_iret (pc := 30) (tb_at tkX10_fly 14 rfl) rfl (Nat.le_refl _) (Nat.le_refl _) ⟨_, rfl, rfl, h⟩
set_option maxRecDepth 100000 in
set_option maxHeartbeats 4000000 in
theorem gX10_drop_0 {G : GE} {d : Nat} {K : Int → Mem → Prop} {M : Mem}  (h : ((¬ (M 1 8) = 0 → CalI G miX5_dropLatest d [.inr (.inr (some 1))] M (fun x2 M1 => K x2 M1)) ∧ ((M 1 8) = 0 → K (-3) M))) : OkI G miX10_drop (d + 1) K 0 [some (.inr (.inr (some 0)))] [] M := by
  refine r_aload_n (pc := 0) (tb_at tkX10_drop 0 rfl) rfl rfl ?_
  refine r_get 9 0 (pc := 1) (tb_at tkX10_drop 1 rfl) ly_0 flX10_14 rfl ?_
  refine r_get 5 8 (pc := 4) (tb_at tkX10_drop 2 rfl) ly_1 flX10_105 rfl ?_
  refine q_if_ne (tgt := 13) (pc := 7) (tb_at tkX10_drop 3 rfl) (by decide) (fun c => ?_) (fun c => ?_)
  · replace h := h.1 c
    refine r_aload_n (pc := 13) (tb_at tkX10_drop 6 rfl) rfl rfl ?_
    refine r_get 9 0 (pc := 14) (tb_at tkX10_drop 7 rfl) ly_0 flX10_14 rfl ?_
    refine r_invV (mc' := 0) (ms' := 0) [] (S := []) (pc := 17) (tb_at tkX10_drop 8 rfl) rfl ly_1 rfl rfl clX10_112 (Nat.le_of_ble_eq_true rfl) (Nat.le_refl _) (Nat.le_refl _) ?_
    refine Cal.mono h ?_
    rintro _ _ M1 ⟨x2, rfl, rfl, h⟩
    show OkI G miX10_drop (d + 1) K 20 [some (.inr (.inr (some 0)))] [.inl x2] M1
    exact r_iret (pc := 20) (tb_at tkX10_drop 9 rfl) rfl (Nat.le_refl _) (Nat.le_refl _) ⟨_, rfl, rfl, h⟩
  · replace h := h.2 c
    refine r_bipush (pc := 10) (tb_at tkX10_drop 4 rfl) ⟨by decide, by decide, by decide⟩ ?_
    exact r_iret (pc := 12) (tb_at tkX10_drop 5 rfl) rfl (Nat.le_refl _) (Nat.le_refl _) ⟨_, rfl, rfl, h⟩
set_option maxRecDepth 100000 in
set_option maxHeartbeats 4000000 in
theorem gX10_of_0 {G : GE} {d : Nat} {K : Int → Mem → Prop} {M : Mem} {v1 v2 : Int}  (h : CalI G miX5_hasFlight d [.inr (.inr (some 1)), .inl v1] M (fun x2 M1 => ((¬ x2 = 0 → CalV G miX10_refresh d [.inr (.inr (some 0))] M1 (fun M3 => ((v2 = 0 → (0 ≤ v1 ∧ v1 < 7) ∧ K (M3 2 (v1).toNat) M3) ∧ (v2 = 1 → (0 ≤ v1 ∧ v1 < 7) ∧ K (M3 3 (v1).toNat) M3) ∧ (v2 = 2 → (0 ≤ v1 ∧ v1 < 7) ∧ K (M3 4 (v1).toNat) M3) ∧ (v2 = 3 → (0 ≤ v1 ∧ v1 < 7) ∧ K (M3 5 (v1).toNat) M3) ∧ (v2 = 4 → CalI G miX4_followers d [.inr (.inr (some 19)), .inl v1, .inl 1] M3 (fun x5 M4 => K x5 M4)) ∧ (v2 = 5 → CalI G miX4_followers d [.inr (.inr (some 19)), .inl v1, .inl 2] M3 (fun x7 M6 => K x7 M6)) ∧ (v2 = 6 → CalI G miX4_tightFollowers d [.inr (.inr (some 19)), .inl v1] M3 (fun x9 M8 => K x9 M8)) ∧ (v2 < 0 ∨ 6 < v2 → K (-2) M3)))) ∧ (x2 = 0 → K (-2) M1)))) : OkI G miX10_of (d + 1) K 0 [some (.inr (.inr (some 0))), some (.inl v1), some (.inl v2)] [] M := by
  refine r_aload_n (pc := 0) (tb_at tkX10_of 0 rfl) rfl rfl ?_
  refine r_get 9 0 (pc := 1) (tb_at tkX10_of 1 rfl) ly_0 flX10_14 rfl ?_
  refine r_iload_n (pc := 4) (tb_at tkX10_of 2 rfl) rfl rfl ?_
  refine r_invV (mc' := 0) (ms' := 0) [.inl v1] (S := []) (pc := 5) (tb_at tkX10_of 3 rfl) rfl ly_1 rfl rfl clX10_116 (Nat.le_of_ble_eq_true rfl) (Nat.le_refl _) (Nat.le_refl _) ?_
  refine Cal.mono h ?_
  rintro _ _ M1 ⟨x2, rfl, rfl, h⟩
  show OkI G miX10_of (d + 1) K 8 [some (.inr (.inr (some 0))), some (.inl v1), some (.inl v2)] [.inl x2] M1
  refine q_if_ne (tgt := 14) (pc := 8) (tb_at tkX10_of 4 rfl) (by decide) (fun c => ?_) (fun c => ?_)
  · replace h := h.1 c
    refine r_aload_n (pc := 14) (tb_at tkX10_of 7 rfl) rfl rfl ?_
    refine r_invV (mc' := 0) (ms' := 0) [] (S := []) (pc := 15) (tb_at tkX10_of 8 rfl) rfl ly_0 rfl rfl clX10_119 (Nat.le_of_ble_eq_true rfl) (Nat.le_refl _) (Nat.le_refl _) ?_
    refine Cal.mono h ?_
    rintro _ _ M3 ⟨rfl, rfl, h⟩
    show OkI G miX10_of (d + 1) K 18 [some (.inr (.inr (some 0))), some (.inl v1), some (.inl v2)] [] M3
    refine r_iload_n (pc := 18) (tb_at tkX10_of 9 rfl) rfl rfl ?_
    by_cases c0 : v2 < 0 ∨ 6 < v2
    · refine r_tblOut (tgt := 129) (pc := 19) (tb_at tkX10_of 10 rfl) c0 (by decide) ?_
      replace h := h.2.2.2.2.2.2.2 c0
      refine r_bipush (pc := 129) (tb_at tkX10_of 52 rfl) ⟨by decide, by decide, by decide⟩ ?_
      exact r_iret (pc := 131) (tb_at tkX10_of 53 rfl) rfl (Nat.le_refl _) (Nat.le_refl _) ⟨_, rfl, rfl, h⟩
    · have cc : v2 = 0 ∨ v2 = 1 ∨ v2 = 2 ∨ v2 = 3 ∨ v2 = 4 ∨ v2 = 5 ∨ v2 = 6 := by omega
      rcases cc with c | c | c | c | c | c | c
      · refine r_tblIn (off := 41) (tgt := 60) (pc := 19) (tb_at tkX10_of 10 rfl) (by omega) (by omega) (by rw [c]; rfl) (by decide) ?_
        replace h := h.1 c
        refine r_aload_n (pc := 60) (tb_at tkX10_of 11 rfl) rfl rfl ?_
        refine r_get 9 0 (pc := 61) (tb_at tkX10_of 12 rfl) ly_0 flX10_14 rfl ?_
        refine r_get 5 0 (pc := 64) (tb_at tkX10_of 13 rfl) ly_1 flX10_122 rfl ?_
        refine r_iload_n (pc := 67) (tb_at tkX10_of 14 rfl) rfl rfl ?_
        refine r_iald (pc := 68) (tb_at tkX10_of 15 rfl) ly_2 h.1.1 h.1.2 ?_
        replace h := h.2
        exact r_iret (pc := 69) (tb_at tkX10_of 16 rfl) rfl (Nat.le_refl _) (Nat.le_refl _) ⟨_, rfl, rfl, h⟩
      · refine r_tblIn (off := 51) (tgt := 70) (pc := 19) (tb_at tkX10_of 10 rfl) (by omega) (by omega) (by rw [c]; rfl) (by decide) ?_
        replace h := h.2.1 c
        refine r_aload_n (pc := 70) (tb_at tkX10_of 17 rfl) rfl rfl ?_
        refine r_get 9 0 (pc := 71) (tb_at tkX10_of 18 rfl) ly_0 flX10_14 rfl ?_
        refine r_get 5 1 (pc := 74) (tb_at tkX10_of 19 rfl) ly_1 flX10_126 rfl ?_
        refine r_iload_n (pc := 77) (tb_at tkX10_of 20 rfl) rfl rfl ?_
        refine r_iald (pc := 78) (tb_at tkX10_of 21 rfl) ly_3 h.1.1 h.1.2 ?_
        replace h := h.2
        exact r_iret (pc := 79) (tb_at tkX10_of 22 rfl) rfl (Nat.le_refl _) (Nat.le_refl _) ⟨_, rfl, rfl, h⟩
      · refine r_tblIn (off := 61) (tgt := 80) (pc := 19) (tb_at tkX10_of 10 rfl) (by omega) (by omega) (by rw [c]; rfl) (by decide) ?_
        replace h := h.2.2.1 c
        refine r_aload_n (pc := 80) (tb_at tkX10_of 23 rfl) rfl rfl ?_
        refine r_get 9 0 (pc := 81) (tb_at tkX10_of 24 rfl) ly_0 flX10_14 rfl ?_
        refine r_get 5 2 (pc := 84) (tb_at tkX10_of 25 rfl) ly_1 flX10_129 rfl ?_
        refine r_iload_n (pc := 87) (tb_at tkX10_of 26 rfl) rfl rfl ?_
        refine r_iald (pc := 88) (tb_at tkX10_of 27 rfl) ly_4 h.1.1 h.1.2 ?_
        replace h := h.2
        exact r_iret (pc := 89) (tb_at tkX10_of 28 rfl) rfl (Nat.le_refl _) (Nat.le_refl _) ⟨_, rfl, rfl, h⟩
      · refine r_tblIn (off := 71) (tgt := 90) (pc := 19) (tb_at tkX10_of 10 rfl) (by omega) (by omega) (by rw [c]; rfl) (by decide) ?_
        replace h := h.2.2.2.1 c
        refine r_aload_n (pc := 90) (tb_at tkX10_of 29 rfl) rfl rfl ?_
        refine r_get 9 0 (pc := 91) (tb_at tkX10_of 30 rfl) ly_0 flX10_14 rfl ?_
        refine r_get 5 3 (pc := 94) (tb_at tkX10_of 31 rfl) ly_1 flX10_132 rfl ?_
        refine r_iload_n (pc := 97) (tb_at tkX10_of 32 rfl) rfl rfl ?_
        refine r_iald (pc := 98) (tb_at tkX10_of 33 rfl) ly_5 h.1.1 h.1.2 ?_
        replace h := h.2
        exact r_iret (pc := 99) (tb_at tkX10_of 34 rfl) rfl (Nat.le_refl _) (Nat.le_refl _) ⟨_, rfl, rfl, h⟩
      · refine r_tblIn (off := 81) (tgt := 100) (pc := 19) (tb_at tkX10_of 10 rfl) (by omega) (by omega) (by rw [c]; rfl) (by decide) ?_
        replace h := h.2.2.2.2.1 c
        refine r_aload_n (pc := 100) (tb_at tkX10_of 35 rfl) rfl rfl ?_
        refine r_get 9 2 (pc := 101) (tb_at tkX10_of 36 rfl) ly_0 flX10_26 rfl ?_
        refine r_iload_n (pc := 104) (tb_at tkX10_of 37 rfl) rfl rfl ?_
        refine r_iconst (pc := 105) (tb_at tkX10_of 38 rfl) ⟨by decide, by decide⟩ ?_
        refine r_invV (mc' := 0) (ms' := 0) [.inl v1, .inl 1] (S := []) (pc := 106) (tb_at tkX10_of 39 rfl) rfl ly_19 rfl rfl clX10_135 (Nat.le_of_ble_eq_true rfl) (Nat.le_refl _) (Nat.le_refl _) ?_
        refine Cal.mono h ?_
        rintro _ _ M4 ⟨x5, rfl, rfl, h⟩
        show OkI G miX10_of (d + 1) K 109 [some (.inr (.inr (some 0))), some (.inl v1), some (.inl v2)] [.inl x5] M4
        exact r_iret (pc := 109) (tb_at tkX10_of 40 rfl) rfl (Nat.le_refl _) (Nat.le_refl _) ⟨_, rfl, rfl, h⟩
      · refine r_tblIn (off := 91) (tgt := 110) (pc := 19) (tb_at tkX10_of 10 rfl) (by omega) (by omega) (by rw [c]; rfl) (by decide) ?_
        replace h := h.2.2.2.2.2.1 c
        refine r_aload_n (pc := 110) (tb_at tkX10_of 41 rfl) rfl rfl ?_
        refine r_get 9 2 (pc := 111) (tb_at tkX10_of 42 rfl) ly_0 flX10_26 rfl ?_
        refine r_iload_n (pc := 114) (tb_at tkX10_of 43 rfl) rfl rfl ?_
        refine r_iconst (pc := 115) (tb_at tkX10_of 44 rfl) ⟨by decide, by decide⟩ ?_
        refine r_invV (mc' := 0) (ms' := 0) [.inl v1, .inl 2] (S := []) (pc := 116) (tb_at tkX10_of 45 rfl) rfl ly_19 rfl rfl clX10_135 (Nat.le_of_ble_eq_true rfl) (Nat.le_refl _) (Nat.le_refl _) ?_
        refine Cal.mono h ?_
        rintro _ _ M6 ⟨x7, rfl, rfl, h⟩
        show OkI G miX10_of (d + 1) K 119 [some (.inr (.inr (some 0))), some (.inl v1), some (.inl v2)] [.inl x7] M6
        exact r_iret (pc := 119) (tb_at tkX10_of 46 rfl) rfl (Nat.le_refl _) (Nat.le_refl _) ⟨_, rfl, rfl, h⟩
      · refine r_tblIn (off := 101) (tgt := 120) (pc := 19) (tb_at tkX10_of 10 rfl) (by omega) (by omega) (by rw [c]; rfl) (by decide) ?_
        replace h := h.2.2.2.2.2.2.1 c
        refine r_aload_n (pc := 120) (tb_at tkX10_of 47 rfl) rfl rfl ?_
        refine r_get 9 2 (pc := 121) (tb_at tkX10_of 48 rfl) ly_0 flX10_26 rfl ?_
        refine r_iload_n (pc := 124) (tb_at tkX10_of 49 rfl) rfl rfl ?_
        refine r_invV (mc' := 0) (ms' := 0) [.inl v1] (S := []) (pc := 125) (tb_at tkX10_of 50 rfl) rfl ly_19 rfl rfl clX10_139 (Nat.le_of_ble_eq_true rfl) (Nat.le_refl _) (Nat.le_refl _) ?_
        refine Cal.mono h ?_
        rintro _ _ M8 ⟨x9, rfl, rfl, h⟩
        show OkI G miX10_of (d + 1) K 128 [some (.inr (.inr (some 0))), some (.inl v1), some (.inl v2)] [.inl x9] M8
        exact r_iret (pc := 128) (tb_at tkX10_of 51 rfl) rfl (Nat.le_refl _) (Nat.le_refl _) ⟨_, rfl, rfl, h⟩
  · replace h := h.2 c
    refine r_bipush (pc := 11) (tb_at tkX10_of 5 rfl) ⟨by decide, by decide, by decide⟩ ?_
    exact r_iret (pc := 13) (tb_at tkX10_of 6 rfl) rfl (Nat.le_refl _) (Nat.le_refl _) ⟨_, rfl, rfl, h⟩
set_option maxRecDepth 100000 in
set_option maxHeartbeats 4000000 in
theorem gX10_shift_0 {G : GE} {d : Nat} {K : Int → Mem → Prop} {M : Mem} {v1 v2 v3 : Int}  (h : CalI G miX5_hasFlight d [.inr (.inr (some 1)), .inl v1] M (fun x2 M1 => ((x2 = 0 → K (-2) M1) ∧ (¬ x2 = 0 → CalI G miX10_areTimes d [.inl v2, .inl v3] M1 (fun x4 M3 => ((¬ x4 = 0 → (0 ≤ v1 ∧ v1 < 7) ∧ CalV G miX5_setTimes d [.inr (.inr (some 1)), .inl v1, .inl v2, .inl v3] M3 (fun M5 => K (M3 4 (v1).toNat) M5)) ∧ (x4 = 0 → K (-2) M3))))))) : OkI G miX10_shift (d + 1) K 0 [some (.inr (.inr (some 0))), some (.inl v1), some (.inl v2), some (.inl v3), none] [] M := by
  refine r_aload_n (pc := 0) (tb_at tkX10_shift 0 rfl) rfl rfl ?_
  refine r_get 9 0 (pc := 1) (tb_at tkX10_shift 1 rfl) ly_0 flX10_14 rfl ?_
  refine r_iload_n (pc := 4) (tb_at tkX10_shift 2 rfl) rfl rfl ?_
  refine r_invV (mc' := 0) (ms' := 0) [.inl v1] (S := []) (pc := 5) (tb_at tkX10_shift 3 rfl) rfl ly_1 rfl rfl clX10_116 (Nat.le_of_ble_eq_true rfl) (Nat.le_refl _) (Nat.le_refl _) ?_
  refine Cal.mono h ?_
  rintro _ _ M1 ⟨x2, rfl, rfl, h⟩
  show OkI G miX10_shift (d + 1) K 8 [some (.inr (.inr (some 0))), some (.inl v1), some (.inl v2), some (.inl v3), none] [.inl x2] M1
  refine q_if_eq (tgt := 19) (pc := 8) (tb_at tkX10_shift 4 rfl) (by decide) (fun c => ?_) (fun c => ?_)
  · replace h := h.1 c
    refine r_bipush (pc := 19) (tb_at tkX10_shift 9 rfl) ⟨by decide, by decide, by decide⟩ ?_
    exact r_iret (pc := 21) (tb_at tkX10_shift 10 rfl) rfl (Nat.le_refl _) (Nat.le_refl _) ⟨_, rfl, rfl, h⟩
  · replace h := h.2 c
    refine r_iload_n (pc := 11) (tb_at tkX10_shift 5 rfl) rfl rfl ?_
    refine r_iload_n (pc := 12) (tb_at tkX10_shift 6 rfl) rfl rfl ?_
    refine r_invS (mc' := 0) (ms' := 0) [.inl v2, .inl v3] (S := []) (pc := 13) (tb_at tkX10_shift 7 rfl) rfl clX10_101 (Nat.le_of_ble_eq_true rfl) (Nat.le_refl _) (Nat.le_refl _) ?_
    refine Cal.mono h ?_
    rintro _ _ M3 ⟨x4, rfl, rfl, h⟩
    show OkI G miX10_shift (d + 1) K 16 [some (.inr (.inr (some 0))), some (.inl v1), some (.inl v2), some (.inl v3), none] [.inl x4] M3
    refine q_if_ne (tgt := 22) (pc := 16) (tb_at tkX10_shift 8 rfl) (by decide) (fun c => ?_) (fun c => ?_)
    · replace h := h.1 c
      refine r_aload_n (pc := 22) (tb_at tkX10_shift 11 rfl) rfl rfl ?_
      refine r_get 9 0 (pc := 23) (tb_at tkX10_shift 12 rfl) ly_0 flX10_14 rfl ?_
      refine r_get 5 2 (pc := 26) (tb_at tkX10_shift 13 rfl) ly_1 flX10_129 rfl ?_
      refine r_iload_n (pc := 29) (tb_at tkX10_shift 14 rfl) rfl rfl ?_
      refine r_iald (pc := 30) (tb_at tkX10_shift 15 rfl) ly_4 h.1.1 h.1.2 ?_
      replace h := h.2
      refine r_istore (L' := [some (.inr (.inr (some 0))), some (.inl v1), some (.inl v2), some (.inl v3), some (.inl (M3 4 (v1).toNat))]) (pc := 31) (tb_at tkX10_shift 16 rfl) (by decide) rfl ?_
      refine r_aload_n (pc := 33) (tb_at tkX10_shift 17 rfl) rfl rfl ?_
      refine r_get 9 0 (pc := 34) (tb_at tkX10_shift 18 rfl) ly_0 flX10_14 rfl ?_
      refine r_iload_n (pc := 37) (tb_at tkX10_shift 19 rfl) rfl rfl ?_
      refine r_iload_n (pc := 38) (tb_at tkX10_shift 20 rfl) rfl rfl ?_
      refine r_iload_n (pc := 39) (tb_at tkX10_shift 21 rfl) rfl rfl ?_
      refine r_invV (mc' := 0) (ms' := 0) [.inl v1, .inl v2, .inl v3] (S := []) (pc := 40) (tb_at tkX10_shift 22 rfl) rfl ly_1 rfl rfl clX10_143 (Nat.le_of_ble_eq_true rfl) (Nat.le_refl _) (Nat.le_refl _) ?_
      refine Cal.mono h ?_
      rintro _ _ M5 ⟨rfl, rfl, h⟩
      show OkI G miX10_shift (d + 1) K 43 [some (.inr (.inr (some 0))), some (.inl v1), some (.inl v2), some (.inl v3), some (.inl (M3 4 (v1).toNat))] [] M5
      refine r_iload (pc := 43) (tb_at tkX10_shift 23 rfl) rfl ?_
      exact r_iret (pc := 45) (tb_at tkX10_shift 24 rfl) rfl (Nat.le_refl _) (Nat.le_refl _) ⟨_, rfl, rfl, h⟩
    · replace h := h.2 c
      refine r_bipush (pc := 19) (tb_at tkX10_shift 9 rfl) ⟨by decide, by decide, by decide⟩ ?_
      exact r_iret (pc := 21) (tb_at tkX10_shift 10 rfl) rfl (Nat.le_refl _) (Nat.le_refl _) ⟨_, rfl, rfl, h⟩
set_option maxRecDepth 100000 in
set_option maxHeartbeats 4000000 in
theorem gX10_kind_0 {G : GE} {d : Nat} {K : Int → Mem → Prop} {M : Mem} {v1 v2 v3 : Int}  (h : CalI G miX10_isAirport d [.inl v1] M (fun x2 M1 => ((x2 = 0 → K (-2) M1) ∧ (¬ x2 = 0 → CalI G miX10_isBelow d [.inl v2, .inl 6] M1 (fun x4 M3 => ((x4 = 0 → K (-2) M3) ∧ (¬ x4 = 0 → CalI G miX10_isBelow d [.inl v3, .inl 10] M3 (fun x6 M5 => ((¬ x6 = 0 → (0 ≤ v1 ∧ v1 < 4) ∧ (0 ≤ v1 ∧ v1 < 4) ∧ CalV G miX5_setKind d [.inr (.inr (some 1)), .inl v1, .inl v2, .inl v3] M5 (fun M7 => K (w32 ((10 * (M5 6 (v1).toNat)) + (M5 7 (v1).toNat))) M7)) ∧ (x6 = 0 → K (-2) M5)))))))))) : OkI G miX10_kind (d + 1) K 0 [some (.inr (.inr (some 0))), some (.inl v1), some (.inl v2), some (.inl v3), none] [] M := by
  refine r_iload_n (pc := 0) (tb_at tkX10_kind 0 rfl) rfl rfl ?_
  refine r_invS (mc' := 0) (ms' := 0) [.inl v1] (S := []) (pc := 1) (tb_at tkX10_kind 1 rfl) rfl clX10_97 (Nat.le_of_ble_eq_true rfl) (Nat.le_refl _) (Nat.le_refl _) ?_
  refine Cal.mono h ?_
  rintro _ _ M1 ⟨x2, rfl, rfl, h⟩
  show OkI G miX10_kind (d + 1) K 4 [some (.inr (.inr (some 0))), some (.inl v1), some (.inl v2), some (.inl v3), none] [.inl x2] M1
  refine q_if_eq (tgt := 25) (pc := 4) (tb_at tkX10_kind 2 rfl) (by decide) (fun c => ?_) (fun c => ?_)
  · replace h := h.1 c
    refine r_bipush (pc := 25) (tb_at tkX10_kind 11 rfl) ⟨by decide, by decide, by decide⟩ ?_
    exact r_iret (pc := 27) (tb_at tkX10_kind 12 rfl) rfl (Nat.le_refl _) (Nat.le_refl _) ⟨_, rfl, rfl, h⟩
  · replace h := h.2 c
    refine r_iload_n (pc := 7) (tb_at tkX10_kind 3 rfl) rfl rfl ?_
    refine r_bipush (pc := 8) (tb_at tkX10_kind 4 rfl) ⟨by decide, by decide, by decide⟩ ?_
    refine r_invS (mc' := 0) (ms' := 0) [.inl v2, .inl 6] (S := []) (pc := 10) (tb_at tkX10_kind 5 rfl) rfl clX10_147 (Nat.le_of_ble_eq_true rfl) (Nat.le_refl _) (Nat.le_refl _) ?_
    refine Cal.mono h ?_
    rintro _ _ M3 ⟨x4, rfl, rfl, h⟩
    show OkI G miX10_kind (d + 1) K 13 [some (.inr (.inr (some 0))), some (.inl v1), some (.inl v2), some (.inl v3), none] [.inl x4] M3
    refine q_if_eq (tgt := 25) (pc := 13) (tb_at tkX10_kind 6 rfl) (by decide) (fun c => ?_) (fun c => ?_)
    · replace h := h.1 c
      refine r_bipush (pc := 25) (tb_at tkX10_kind 11 rfl) ⟨by decide, by decide, by decide⟩ ?_
      exact r_iret (pc := 27) (tb_at tkX10_kind 12 rfl) rfl (Nat.le_refl _) (Nat.le_refl _) ⟨_, rfl, rfl, h⟩
    · replace h := h.2 c
      refine r_iload_n (pc := 16) (tb_at tkX10_kind 7 rfl) rfl rfl ?_
      refine r_bipush (pc := 17) (tb_at tkX10_kind 8 rfl) ⟨by decide, by decide, by decide⟩ ?_
      refine r_invS (mc' := 0) (ms' := 0) [.inl v3, .inl 10] (S := []) (pc := 19) (tb_at tkX10_kind 9 rfl) rfl clX10_147 (Nat.le_of_ble_eq_true rfl) (Nat.le_refl _) (Nat.le_refl _) ?_
      refine Cal.mono h ?_
      rintro _ _ M5 ⟨x6, rfl, rfl, h⟩
      show OkI G miX10_kind (d + 1) K 22 [some (.inr (.inr (some 0))), some (.inl v1), some (.inl v2), some (.inl v3), none] [.inl x6] M5
      refine q_if_ne (tgt := 28) (pc := 22) (tb_at tkX10_kind 10 rfl) (by decide) (fun c => ?_) (fun c => ?_)
      · replace h := h.1 c
        refine r_bipush (pc := 28) (tb_at tkX10_kind 13 rfl) ⟨by decide, by decide, by decide⟩ ?_
        refine r_aload_n (pc := 30) (tb_at tkX10_kind 14 rfl) rfl rfl ?_
        refine r_get 9 0 (pc := 31) (tb_at tkX10_kind 15 rfl) ly_0 flX10_14 rfl ?_
        refine r_get 5 4 (pc := 34) (tb_at tkX10_kind 16 rfl) ly_1 flX10_150 rfl ?_
        refine r_iload_n (pc := 37) (tb_at tkX10_kind 17 rfl) rfl rfl ?_
        refine r_iald (pc := 38) (tb_at tkX10_kind 18 rfl) ly_6 h.1.1 h.1.2 ?_
        replace h := h.2
        refine r_imul (pc := 39) (tb_at tkX10_kind 19 rfl) ?_
        refine r_aload_n (pc := 40) (tb_at tkX10_kind 20 rfl) rfl rfl ?_
        refine r_get 9 0 (pc := 41) (tb_at tkX10_kind 21 rfl) ly_0 flX10_14 rfl ?_
        refine r_get 5 5 (pc := 44) (tb_at tkX10_kind 22 rfl) ly_1 flX10_153 rfl ?_
        refine r_iload_n (pc := 47) (tb_at tkX10_kind 23 rfl) rfl rfl ?_
        refine r_iald (pc := 48) (tb_at tkX10_kind 24 rfl) ly_7 h.1.1 h.1.2 ?_
        replace h := h.2
        refine r_iadd_l (pc := 49) (tb_at tkX10_kind 25 rfl) ?_
        refine r_istore (L' := [some (.inr (.inr (some 0))), some (.inl v1), some (.inl v2), some (.inl v3), some (.inl (w32 ((10 * (M5 6 (v1).toNat)) + (M5 7 (v1).toNat))))]) (pc := 50) (tb_at tkX10_kind 26 rfl) (by decide) rfl ?_
        refine r_aload_n (pc := 52) (tb_at tkX10_kind 27 rfl) rfl rfl ?_
        refine r_get 9 0 (pc := 53) (tb_at tkX10_kind 28 rfl) ly_0 flX10_14 rfl ?_
        refine r_iload_n (pc := 56) (tb_at tkX10_kind 29 rfl) rfl rfl ?_
        refine r_iload_n (pc := 57) (tb_at tkX10_kind 30 rfl) rfl rfl ?_
        refine r_iload_n (pc := 58) (tb_at tkX10_kind 31 rfl) rfl rfl ?_
        refine r_invV (mc' := 0) (ms' := 0) [.inl v1, .inl v2, .inl v3] (S := []) (pc := 59) (tb_at tkX10_kind 32 rfl) rfl ly_1 rfl rfl clX10_156 (Nat.le_of_ble_eq_true rfl) (Nat.le_refl _) (Nat.le_refl _) ?_
        refine Cal.mono h ?_
        rintro _ _ M7 ⟨rfl, rfl, h⟩
        show OkI G miX10_kind (d + 1) K 62 [some (.inr (.inr (some 0))), some (.inl v1), some (.inl v2), some (.inl v3), some (.inl (w32 ((10 * (M5 6 (v1).toNat)) + (M5 7 (v1).toNat))))] [] M7
        refine r_iload (pc := 62) (tb_at tkX10_kind 33 rfl) rfl ?_
        exact r_iret (pc := 64) (tb_at tkX10_kind 34 rfl) rfl (Nat.le_refl _) (Nat.le_refl _) ⟨_, rfl, rfl, h⟩
      · replace h := h.2 c
        refine r_bipush (pc := 25) (tb_at tkX10_kind 11 rfl) ⟨by decide, by decide, by decide⟩ ?_
        exact r_iret (pc := 27) (tb_at tkX10_kind 12 rfl) rfl (Nat.le_refl _) (Nat.le_refl _) ⟨_, rfl, rfl, h⟩
set_option maxRecDepth 100000 in
set_option maxHeartbeats 4000000 in
theorem gX10_told_0 {G : GE} {d : Nat} {K : Int → Mem → Prop} {M : Mem} {v1 v2 : Int}  (h : CalI G miX10_isAirport d [.inl v1] M (fun x2 M1 => ((¬ x2 = 0 → ((v2 = 0 → (0 ≤ v1 ∧ v1 < 4) ∧ K (M1 6 (v1).toNat) M1) ∧ (v2 = 1 → (0 ≤ v1 ∧ v1 < 4) ∧ K (M1 7 (v1).toNat) M1) ∧ (v2 = 2 → CalI G miX5_sitAt d [.inr (.inr (some 1)), .inl v1] M1 (fun x4 M3 => K x4 M3)) ∧ (v2 = 3 → CalI G miX5_restAt d [.inr (.inr (some 1)), .inl v1] M1 (fun x6 M5 => K x6 M5)) ∧ (v2 = 4 → CalI G miX5_legsOf d [.inr (.inr (some 1)), .inl v1] M1 (fun x8 M7 => K x8 M7)) ∧ (v2 = 5 → CalI G miX5_spanOf d [.inr (.inr (some 1)), .inl v1] M1 (fun x10 M9 => K x10 M9)) ∧ (v2 = 6 → CalI G miX5_dutiesOf d [.inr (.inr (some 1)), .inl v1] M1 (fun x12 M11 => K x12 M11)) ∧ (v2 < 0 ∨ 6 < v2 → K (-2) M1))) ∧ (x2 = 0 → K (-2) M1)))) : OkI G miX10_told (d + 1) K 0 [some (.inr (.inr (some 0))), some (.inl v1), some (.inl v2)] [] M := by
  refine r_iload_n (pc := 0) (tb_at tkX10_told 0 rfl) rfl rfl ?_
  refine r_invS (mc' := 0) (ms' := 0) [.inl v1] (S := []) (pc := 1) (tb_at tkX10_told 1 rfl) rfl clX10_97 (Nat.le_of_ble_eq_true rfl) (Nat.le_refl _) (Nat.le_refl _) ?_
  refine Cal.mono h ?_
  rintro _ _ M1 ⟨x2, rfl, rfl, h⟩
  show OkI G miX10_told (d + 1) K 4 [some (.inr (.inr (some 0))), some (.inl v1), some (.inl v2)] [.inl x2] M1
  refine q_if_ne (tgt := 10) (pc := 4) (tb_at tkX10_told 2 rfl) (by decide) (fun c => ?_) (fun c => ?_)
  · replace h := h.1 c
    refine r_iload_n (pc := 10) (tb_at tkX10_told 5 rfl) rfl rfl ?_
    by_cases c0 : v2 < 0 ∨ 6 < v2
    · refine r_tblOut (tgt := 117) (pc := 11) (tb_at tkX10_told 6 rfl) c0 (by decide) ?_
      replace h := h.2.2.2.2.2.2.2 c0
      refine r_bipush (pc := 117) (tb_at tkX10_told 44 rfl) ⟨by decide, by decide, by decide⟩ ?_
      exact r_iret (pc := 119) (tb_at tkX10_told 45 rfl) rfl (Nat.le_refl _) (Nat.le_refl _) ⟨_, rfl, rfl, h⟩
    · have cc : v2 = 0 ∨ v2 = 1 ∨ v2 = 2 ∨ v2 = 3 ∨ v2 = 4 ∨ v2 = 5 ∨ v2 = 6 := by omega
      rcases cc with c | c | c | c | c | c | c
      · refine r_tblIn (off := 41) (tgt := 52) (pc := 11) (tb_at tkX10_told 6 rfl) (by omega) (by omega) (by rw [c]; rfl) (by decide) ?_
        replace h := h.1 c
        refine r_aload_n (pc := 52) (tb_at tkX10_told 7 rfl) rfl rfl ?_
        refine r_get 9 0 (pc := 53) (tb_at tkX10_told 8 rfl) ly_0 flX10_14 rfl ?_
        refine r_get 5 4 (pc := 56) (tb_at tkX10_told 9 rfl) ly_1 flX10_150 rfl ?_
        refine r_iload_n (pc := 59) (tb_at tkX10_told 10 rfl) rfl rfl ?_
        refine r_iald (pc := 60) (tb_at tkX10_told 11 rfl) ly_6 h.1.1 h.1.2 ?_
        replace h := h.2
        exact r_iret (pc := 61) (tb_at tkX10_told 12 rfl) rfl (Nat.le_refl _) (Nat.le_refl _) ⟨_, rfl, rfl, h⟩
      · refine r_tblIn (off := 51) (tgt := 62) (pc := 11) (tb_at tkX10_told 6 rfl) (by omega) (by omega) (by rw [c]; rfl) (by decide) ?_
        replace h := h.2.1 c
        refine r_aload_n (pc := 62) (tb_at tkX10_told 13 rfl) rfl rfl ?_
        refine r_get 9 0 (pc := 63) (tb_at tkX10_told 14 rfl) ly_0 flX10_14 rfl ?_
        refine r_get 5 5 (pc := 66) (tb_at tkX10_told 15 rfl) ly_1 flX10_153 rfl ?_
        refine r_iload_n (pc := 69) (tb_at tkX10_told 16 rfl) rfl rfl ?_
        refine r_iald (pc := 70) (tb_at tkX10_told 17 rfl) ly_7 h.1.1 h.1.2 ?_
        replace h := h.2
        exact r_iret (pc := 71) (tb_at tkX10_told 18 rfl) rfl (Nat.le_refl _) (Nat.le_refl _) ⟨_, rfl, rfl, h⟩
      · refine r_tblIn (off := 61) (tgt := 72) (pc := 11) (tb_at tkX10_told 6 rfl) (by omega) (by omega) (by rw [c]; rfl) (by decide) ?_
        replace h := h.2.2.1 c
        refine r_aload_n (pc := 72) (tb_at tkX10_told 19 rfl) rfl rfl ?_
        refine r_get 9 0 (pc := 73) (tb_at tkX10_told 20 rfl) ly_0 flX10_14 rfl ?_
        refine r_iload_n (pc := 76) (tb_at tkX10_told 21 rfl) rfl rfl ?_
        refine r_invV (mc' := 0) (ms' := 0) [.inl v1] (S := []) (pc := 77) (tb_at tkX10_told 22 rfl) rfl ly_1 rfl rfl clX10_159 (Nat.le_of_ble_eq_true rfl) (Nat.le_refl _) (Nat.le_refl _) ?_
        refine Cal.mono h ?_
        rintro _ _ M3 ⟨x4, rfl, rfl, h⟩
        show OkI G miX10_told (d + 1) K 80 [some (.inr (.inr (some 0))), some (.inl v1), some (.inl v2)] [.inl x4] M3
        exact r_iret (pc := 80) (tb_at tkX10_told 23 rfl) rfl (Nat.le_refl _) (Nat.le_refl _) ⟨_, rfl, rfl, h⟩
      · refine r_tblIn (off := 70) (tgt := 81) (pc := 11) (tb_at tkX10_told 6 rfl) (by omega) (by omega) (by rw [c]; rfl) (by decide) ?_
        replace h := h.2.2.2.1 c
        refine r_aload_n (pc := 81) (tb_at tkX10_told 24 rfl) rfl rfl ?_
        refine r_get 9 0 (pc := 82) (tb_at tkX10_told 25 rfl) ly_0 flX10_14 rfl ?_
        refine r_iload_n (pc := 85) (tb_at tkX10_told 26 rfl) rfl rfl ?_
        refine r_invV (mc' := 0) (ms' := 0) [.inl v1] (S := []) (pc := 86) (tb_at tkX10_told 27 rfl) rfl ly_1 rfl rfl clX10_162 (Nat.le_of_ble_eq_true rfl) (Nat.le_refl _) (Nat.le_refl _) ?_
        refine Cal.mono h ?_
        rintro _ _ M5 ⟨x6, rfl, rfl, h⟩
        show OkI G miX10_told (d + 1) K 89 [some (.inr (.inr (some 0))), some (.inl v1), some (.inl v2)] [.inl x6] M5
        exact r_iret (pc := 89) (tb_at tkX10_told 28 rfl) rfl (Nat.le_refl _) (Nat.le_refl _) ⟨_, rfl, rfl, h⟩
      · refine r_tblIn (off := 79) (tgt := 90) (pc := 11) (tb_at tkX10_told 6 rfl) (by omega) (by omega) (by rw [c]; rfl) (by decide) ?_
        replace h := h.2.2.2.2.1 c
        refine r_aload_n (pc := 90) (tb_at tkX10_told 29 rfl) rfl rfl ?_
        refine r_get 9 0 (pc := 91) (tb_at tkX10_told 30 rfl) ly_0 flX10_14 rfl ?_
        refine r_iload_n (pc := 94) (tb_at tkX10_told 31 rfl) rfl rfl ?_
        refine r_invV (mc' := 0) (ms' := 0) [.inl v1] (S := []) (pc := 95) (tb_at tkX10_told 32 rfl) rfl ly_1 rfl rfl clX10_165 (Nat.le_of_ble_eq_true rfl) (Nat.le_refl _) (Nat.le_refl _) ?_
        refine Cal.mono h ?_
        rintro _ _ M7 ⟨x8, rfl, rfl, h⟩
        show OkI G miX10_told (d + 1) K 98 [some (.inr (.inr (some 0))), some (.inl v1), some (.inl v2)] [.inl x8] M7
        exact r_iret (pc := 98) (tb_at tkX10_told 33 rfl) rfl (Nat.le_refl _) (Nat.le_refl _) ⟨_, rfl, rfl, h⟩
      · refine r_tblIn (off := 88) (tgt := 99) (pc := 11) (tb_at tkX10_told 6 rfl) (by omega) (by omega) (by rw [c]; rfl) (by decide) ?_
        replace h := h.2.2.2.2.2.1 c
        refine r_aload_n (pc := 99) (tb_at tkX10_told 34 rfl) rfl rfl ?_
        refine r_get 9 0 (pc := 100) (tb_at tkX10_told 35 rfl) ly_0 flX10_14 rfl ?_
        refine r_iload_n (pc := 103) (tb_at tkX10_told 36 rfl) rfl rfl ?_
        refine r_invV (mc' := 0) (ms' := 0) [.inl v1] (S := []) (pc := 104) (tb_at tkX10_told 37 rfl) rfl ly_1 rfl rfl clX10_168 (Nat.le_of_ble_eq_true rfl) (Nat.le_refl _) (Nat.le_refl _) ?_
        refine Cal.mono h ?_
        rintro _ _ M9 ⟨x10, rfl, rfl, h⟩
        show OkI G miX10_told (d + 1) K 107 [some (.inr (.inr (some 0))), some (.inl v1), some (.inl v2)] [.inl x10] M9
        exact r_iret (pc := 107) (tb_at tkX10_told 38 rfl) rfl (Nat.le_refl _) (Nat.le_refl _) ⟨_, rfl, rfl, h⟩
      · refine r_tblIn (off := 97) (tgt := 108) (pc := 11) (tb_at tkX10_told 6 rfl) (by omega) (by omega) (by rw [c]; rfl) (by decide) ?_
        replace h := h.2.2.2.2.2.2.1 c
        refine r_aload_n (pc := 108) (tb_at tkX10_told 39 rfl) rfl rfl ?_
        refine r_get 9 0 (pc := 109) (tb_at tkX10_told 40 rfl) ly_0 flX10_14 rfl ?_
        refine r_iload_n (pc := 112) (tb_at tkX10_told 41 rfl) rfl rfl ?_
        refine r_invV (mc' := 0) (ms' := 0) [.inl v1] (S := []) (pc := 113) (tb_at tkX10_told 42 rfl) rfl ly_1 rfl rfl clX10_171 (Nat.le_of_ble_eq_true rfl) (Nat.le_refl _) (Nat.le_refl _) ?_
        refine Cal.mono h ?_
        rintro _ _ M11 ⟨x12, rfl, rfl, h⟩
        show OkI G miX10_told (d + 1) K 116 [some (.inr (.inr (some 0))), some (.inl v1), some (.inl v2)] [.inl x12] M11
        exact r_iret (pc := 116) (tb_at tkX10_told 43 rfl) rfl (Nat.le_refl _) (Nat.le_refl _) ⟨_, rfl, rfl, h⟩
  · replace h := h.2 c
    refine r_bipush (pc := 7) (tb_at tkX10_told 3 rfl) ⟨by decide, by decide, by decide⟩ ?_
    exact r_iret (pc := 9) (tb_at tkX10_told 4 rfl) rfl (Nat.le_refl _) (Nat.le_refl _) ⟨_, rfl, rfl, h⟩
set_option maxRecDepth 100000 in
set_option maxHeartbeats 4000000 in
theorem gX10_taken_0 {G : GE} {d : Nat} {K : Int → Mem → Prop} {M : Mem} {v1 v2 : Int}  (h : CalI G miX10_isAirport d [.inl v1] M (fun x2 M1 => ((x2 = 0 → K (-2) M1) ∧ (¬ x2 = 0 → CalI G miX10_isBelow d [.inl v2, .inl 6] M1 (fun x4 M3 => ((¬ x4 = 0 → (0 ≤ v1 ∧ v1 < 4) ∧ CalI G miX6_isUnder d [.inl (M3 6 (v1).toNat), .inl v2] M3 (fun x6 M5 => ((x6 = 0 → K (-13) M5) ∧ (¬ x6 = 0 → CalI G miX5_spanOf d [.inr (.inr (some 1)), .inl v1] M5 (fun x8 M7 => K x8 M7))))) ∧ (x4 = 0 → K (-2) M3))))))) : OkI G miX10_taken (d + 1) K 0 [some (.inr (.inr (some 0))), some (.inl v1), some (.inl v2)] [] M := by
  refine r_iload_n (pc := 0) (tb_at tkX10_taken 0 rfl) rfl rfl ?_
  refine r_invS (mc' := 0) (ms' := 0) [.inl v1] (S := []) (pc := 1) (tb_at tkX10_taken 1 rfl) rfl clX10_97 (Nat.le_of_ble_eq_true rfl) (Nat.le_refl _) (Nat.le_refl _) ?_
  refine Cal.mono h ?_
  rintro _ _ M1 ⟨x2, rfl, rfl, h⟩
  show OkI G miX10_taken (d + 1) K 4 [some (.inr (.inr (some 0))), some (.inl v1), some (.inl v2)] [.inl x2] M1
  refine q_if_eq (tgt := 16) (pc := 4) (tb_at tkX10_taken 2 rfl) (by decide) (fun c => ?_) (fun c => ?_)
  · replace h := h.1 c
    refine r_bipush (pc := 16) (tb_at tkX10_taken 7 rfl) ⟨by decide, by decide, by decide⟩ ?_
    exact r_iret (pc := 18) (tb_at tkX10_taken 8 rfl) rfl (Nat.le_refl _) (Nat.le_refl _) ⟨_, rfl, rfl, h⟩
  · replace h := h.2 c
    refine r_iload_n (pc := 7) (tb_at tkX10_taken 3 rfl) rfl rfl ?_
    refine r_bipush (pc := 8) (tb_at tkX10_taken 4 rfl) ⟨by decide, by decide, by decide⟩ ?_
    refine r_invS (mc' := 0) (ms' := 0) [.inl v2, .inl 6] (S := []) (pc := 10) (tb_at tkX10_taken 5 rfl) rfl clX10_147 (Nat.le_of_ble_eq_true rfl) (Nat.le_refl _) (Nat.le_refl _) ?_
    refine Cal.mono h ?_
    rintro _ _ M3 ⟨x4, rfl, rfl, h⟩
    show OkI G miX10_taken (d + 1) K 13 [some (.inr (.inr (some 0))), some (.inl v1), some (.inl v2)] [.inl x4] M3
    refine q_if_ne (tgt := 19) (pc := 13) (tb_at tkX10_taken 6 rfl) (by decide) (fun c => ?_) (fun c => ?_)
    · replace h := h.1 c
      refine r_aload_n (pc := 19) (tb_at tkX10_taken 9 rfl) rfl rfl ?_
      refine r_get 9 0 (pc := 20) (tb_at tkX10_taken 10 rfl) ly_0 flX10_14 rfl ?_
      refine r_get 5 4 (pc := 23) (tb_at tkX10_taken 11 rfl) ly_1 flX10_150 rfl ?_
      refine r_iload_n (pc := 26) (tb_at tkX10_taken 12 rfl) rfl rfl ?_
      refine r_iald (pc := 27) (tb_at tkX10_taken 13 rfl) ly_6 h.1.1 h.1.2 ?_
      replace h := h.2
      refine r_iload_n (pc := 28) (tb_at tkX10_taken 14 rfl) rfl rfl ?_
      refine r_invS (mc' := 0) (ms' := 0) [.inl (M3 6 (v1).toNat), .inl v2] (S := []) (pc := 29) (tb_at tkX10_taken 15 rfl) rfl clX10_174 (Nat.le_of_ble_eq_true rfl) (Nat.le_refl _) (Nat.le_refl _) ?_
      refine Cal.mono h ?_
      rintro _ _ M5 ⟨x6, rfl, rfl, h⟩
      show OkI G miX10_taken (d + 1) K 32 [some (.inr (.inr (some 0))), some (.inl v1), some (.inl v2)] [.inl x6] M5
      refine q_if_eq (tgt := 46) (pc := 32) (tb_at tkX10_taken 16 rfl) (by decide) (fun c => ?_) (fun c => ?_)
      · replace h := h.1 c
        refine r_bipush (pc := 46) (tb_at tkX10_taken 22 rfl) ⟨by decide, by decide, by decide⟩ ?_
        exact r_iret (pc := 48) (tb_at tkX10_taken 23 rfl) rfl (Nat.le_refl _) (Nat.le_refl _) ⟨_, rfl, rfl, h⟩
      · replace h := h.2 c
        refine r_aload_n (pc := 35) (tb_at tkX10_taken 17 rfl) rfl rfl ?_
        refine r_get 9 0 (pc := 36) (tb_at tkX10_taken 18 rfl) ly_0 flX10_14 rfl ?_
        refine r_iload_n (pc := 39) (tb_at tkX10_taken 19 rfl) rfl rfl ?_
        refine r_invV (mc' := 0) (ms' := 0) [.inl v1] (S := []) (pc := 40) (tb_at tkX10_taken 20 rfl) rfl ly_1 rfl rfl clX10_168 (Nat.le_of_ble_eq_true rfl) (Nat.le_refl _) (Nat.le_refl _) ?_
        refine Cal.mono h ?_
        rintro _ _ M7 ⟨x8, rfl, rfl, h⟩
        show OkI G miX10_taken (d + 1) K 43 [some (.inr (.inr (some 0))), some (.inl v1), some (.inl v2)] [.inl x8] M7
        refine r_goto (tgt := 48) (pc := 43) (tb_at tkX10_taken 21 rfl) (by decide) ?_
        exact r_iret (pc := 48) (tb_at tkX10_taken 23 rfl) rfl (Nat.le_refl _) (Nat.le_refl _) ⟨_, rfl, rfl, h⟩
    · replace h := h.2 c
      refine r_bipush (pc := 16) (tb_at tkX10_taken 7 rfl) ⟨by decide, by decide, by decide⟩ ?_
      exact r_iret (pc := 18) (tb_at tkX10_taken 8 rfl) rfl (Nat.le_refl _) (Nat.le_refl _) ⟨_, rfl, rfl, h⟩
set_option maxRecDepth 100000 in
set_option maxHeartbeats 4000000 in
theorem gX10_base_0 {G : GE} {d : Nat} {K : Int → Mem → Prop} {M : Mem} {v1 : Int}  (h : CalI G miX10_isBelow d [.inl v1, .inl 16] M (fun x2 M1 => ((¬ x2 = 0 → CalV G miX5_setBases d [.inr (.inr (some 1)), .inl v1] M1 (fun M3 => K (M1 1 9) M3)) ∧ (x2 = 0 → K (-2) M1)))) : OkI G miX10_base (d + 1) K 0 [some (.inr (.inr (some 0))), some (.inl v1), none] [] M := by
  refine r_iload_n (pc := 0) (tb_at tkX10_base 0 rfl) rfl rfl ?_
  refine r_bipush (pc := 1) (tb_at tkX10_base 1 rfl) ⟨by decide, by decide, by decide⟩ ?_
  refine r_invS (mc' := 0) (ms' := 0) [.inl v1, .inl 16] (S := []) (pc := 3) (tb_at tkX10_base 2 rfl) rfl clX10_147 (Nat.le_of_ble_eq_true rfl) (Nat.le_refl _) (Nat.le_refl _) ?_
  refine Cal.mono h ?_
  rintro _ _ M1 ⟨x2, rfl, rfl, h⟩
  show OkI G miX10_base (d + 1) K 6 [some (.inr (.inr (some 0))), some (.inl v1), none] [.inl x2] M1
  refine q_if_ne (tgt := 12) (pc := 6) (tb_at tkX10_base 3 rfl) (by decide) (fun c => ?_) (fun c => ?_)
  · replace h := h.1 c
    refine r_aload_n (pc := 12) (tb_at tkX10_base 6 rfl) rfl rfl ?_
    refine r_get 9 0 (pc := 13) (tb_at tkX10_base 7 rfl) ly_0 flX10_14 rfl ?_
    refine r_get 5 9 (pc := 16) (tb_at tkX10_base 8 rfl) ly_1 flX10_179 rfl ?_
    refine r_istore_n (L' := [some (.inr (.inr (some 0))), some (.inl v1), some (.inl (M1 1 9))]) (pc := 19) (tb_at tkX10_base 9 rfl) rfl (by decide) rfl ?_
    refine r_aload_n (pc := 20) (tb_at tkX10_base 10 rfl) rfl rfl ?_
    refine r_get 9 0 (pc := 21) (tb_at tkX10_base 11 rfl) ly_0 flX10_14 rfl ?_
    refine r_iload_n (pc := 24) (tb_at tkX10_base 12 rfl) rfl rfl ?_
    refine r_invV (mc' := 0) (ms' := 0) [.inl v1] (S := []) (pc := 25) (tb_at tkX10_base 13 rfl) rfl ly_1 rfl rfl clX10_182 (Nat.le_of_ble_eq_true rfl) (Nat.le_refl _) (Nat.le_refl _) ?_
    refine Cal.mono h ?_
    rintro _ _ M3 ⟨rfl, rfl, h⟩
    show OkI G miX10_base (d + 1) K 28 [some (.inr (.inr (some 0))), some (.inl v1), some (.inl (M1 1 9))] [] M3
    refine r_iload_n (pc := 28) (tb_at tkX10_base 14 rfl) rfl rfl ?_
    exact r_iret (pc := 29) (tb_at tkX10_base 15 rfl) rfl (Nat.le_refl _) (Nat.le_refl _) ⟨_, rfl, rfl, h⟩
  · replace h := h.2 c
    refine r_bipush (pc := 9) (tb_at tkX10_base 4 rfl) ⟨by decide, by decide, by decide⟩ ?_
    exact r_iret (pc := 11) (tb_at tkX10_base 5 rfl) rfl (Nat.le_refl _) (Nat.le_refl _) ⟨_, rfl, rfl, h⟩
set_option maxRecDepth 100000 in
set_option maxHeartbeats 4000000 in
theorem gX10_fee_0 {G : GE} {d : Nat} {K : Int → Mem → Prop} {M : Mem} {v1 v2 : Int}  (h : CalI G miX10_isBelow d [.inl v1, .inl 5] M (fun x2 M1 => ((x2 = 0 → K (-2) M1) ∧ (¬ x2 = 0 → ((v2 < 0 → K (-2) M1) ∧ (0 ≤ v2 → (0 ≤ v1 ∧ v1 < 5) ∧ ((v2 ≤ (feeT (v1).toNat) → (0 ≤ v1 ∧ v1 < 5) ∧ CalV G miX5_setFee d [.inr (.inr (some 1)), .inl v1, .inl v2] M1 (fun M3 => K (M1 8 (v1).toNat) M3)) ∧ ((feeT (v1).toNat) < v2 → K (-2) M1)))))))) : OkI G miX10_fee (d + 1) K 0 [some (.inr (.inr (some 0))), some (.inl v1), some (.inl v2), none] [] M := by
  refine r_iload_n (pc := 0) (tb_at tkX10_fee 0 rfl) rfl rfl ?_
  refine r_iconst (pc := 1) (tb_at tkX10_fee 1 rfl) ⟨by decide, by decide⟩ ?_
  refine r_invS (mc' := 0) (ms' := 0) [.inl v1, .inl 5] (S := []) (pc := 2) (tb_at tkX10_fee 2 rfl) rfl clX10_147 (Nat.le_of_ble_eq_true rfl) (Nat.le_refl _) (Nat.le_refl _) ?_
  refine Cal.mono h ?_
  rintro _ _ M1 ⟨x2, rfl, rfl, h⟩
  show OkI G miX10_fee (d + 1) K 5 [some (.inr (.inr (some 0))), some (.inl v1), some (.inl v2), none] [.inl x2] M1
  refine q_if_eq (tgt := 21) (pc := 5) (tb_at tkX10_fee 3 rfl) (by decide) (fun c => ?_) (fun c => ?_)
  · replace h := h.1 c
    refine r_bipush (pc := 21) (tb_at tkX10_fee 11 rfl) ⟨by decide, by decide, by decide⟩ ?_
    exact r_iret (pc := 23) (tb_at tkX10_fee 12 rfl) rfl (Nat.le_refl _) (Nat.le_refl _) ⟨_, rfl, rfl, h⟩
  · replace h := h.2 c
    refine r_iload_n (pc := 8) (tb_at tkX10_fee 4 rfl) rfl rfl ?_
    refine q_if_lt (tgt := 21) (pc := 9) (tb_at tkX10_fee 5 rfl) (by decide) (fun c => ?_) (fun c => ?_)
    · replace h := h.1 c
      refine r_bipush (pc := 21) (tb_at tkX10_fee 11 rfl) ⟨by decide, by decide, by decide⟩ ?_
      exact r_iret (pc := 23) (tb_at tkX10_fee 12 rfl) rfl (Nat.le_refl _) (Nat.le_refl _) ⟨_, rfl, rfl, h⟩
    · replace h := h.2 c
      refine r_iload_n (pc := 12) (tb_at tkX10_fee 6 rfl) rfl rfl ?_
      refine r_gets (pc := 13) (tb_at tkX10_fee 7 rfl) kfee ?_
      refine r_iload_n (pc := 16) (tb_at tkX10_fee 8 rfl) rfl rfl ?_
      refine r_iald_fee (pc := 17) (tb_at tkX10_fee 9 rfl) h.1.1 h.1.2 ?_
      replace h := h.2
      refine q_icmp_le (tgt := 24) (pc := 18) (tb_at tkX10_fee 10 rfl) (by decide) (fun c => ?_) (fun c => ?_)
      · replace h := h.1 c
        refine r_aload_n (pc := 24) (tb_at tkX10_fee 13 rfl) rfl rfl ?_
        refine r_get 9 0 (pc := 25) (tb_at tkX10_fee 14 rfl) ly_0 flX10_14 rfl ?_
        refine r_get 5 6 (pc := 28) (tb_at tkX10_fee 15 rfl) ly_1 flX10_189 rfl ?_
        refine r_iload_n (pc := 31) (tb_at tkX10_fee 16 rfl) rfl rfl ?_
        refine r_iald (pc := 32) (tb_at tkX10_fee 17 rfl) ly_8 h.1.1 h.1.2 ?_
        replace h := h.2
        refine r_istore_n (L' := [some (.inr (.inr (some 0))), some (.inl v1), some (.inl v2), some (.inl (M1 8 (v1).toNat))]) (pc := 33) (tb_at tkX10_fee 18 rfl) rfl (by decide) rfl ?_
        refine r_aload_n (pc := 34) (tb_at tkX10_fee 19 rfl) rfl rfl ?_
        refine r_get 9 0 (pc := 35) (tb_at tkX10_fee 20 rfl) ly_0 flX10_14 rfl ?_
        refine r_iload_n (pc := 38) (tb_at tkX10_fee 21 rfl) rfl rfl ?_
        refine r_iload_n (pc := 39) (tb_at tkX10_fee 22 rfl) rfl rfl ?_
        refine r_invV (mc' := 0) (ms' := 0) [.inl v1, .inl v2] (S := []) (pc := 40) (tb_at tkX10_fee 23 rfl) rfl ly_1 rfl rfl clX10_192 (Nat.le_of_ble_eq_true rfl) (Nat.le_refl _) (Nat.le_refl _) ?_
        refine Cal.mono h ?_
        rintro _ _ M3 ⟨rfl, rfl, h⟩
        show OkI G miX10_fee (d + 1) K 43 [some (.inr (.inr (some 0))), some (.inl v1), some (.inl v2), some (.inl (M1 8 (v1).toNat))] [] M3
        refine r_iload_n (pc := 43) (tb_at tkX10_fee 24 rfl) rfl rfl ?_
        exact r_iret (pc := 44) (tb_at tkX10_fee 25 rfl) rfl (Nat.le_refl _) (Nat.le_refl _) ⟨_, rfl, rfl, h⟩
      · replace h := h.2 c
        refine r_bipush (pc := 21) (tb_at tkX10_fee 11 rfl) ⟨by decide, by decide, by decide⟩ ?_
        exact r_iret (pc := 23) (tb_at tkX10_fee 12 rfl) rfl (Nat.le_refl _) (Nat.le_refl _) ⟨_, rfl, rfl, h⟩
set_option maxRecDepth 100000 in
set_option maxHeartbeats 4000000 in
theorem gX10_mark_0 {G : GE} {d : Nat} {K : Int → Mem → Prop} {M : Mem} {v1 v2 v3 : Int}  (h : CalI G miX5_areTwo d [.inr (.inr (some 1)), .inl v1, .inl v2] M (fun x2 M1 => ((x2 = 0 → K (-2) M1) ∧ (¬ x2 = 0 → ((v3 < 0 → K (-2) M1) ∧ (0 ≤ v3 → ((v3 ≤ 2 → (0 ≤ (v1 * 7) + v2 ∧ (v1 * 7) + v2 < 49) ∧ CalV G miX5_setMark d [.inr (.inr (some 1)), .inl v1, .inl v2, .inl v3] M1 (fun M3 => K (M1 9 ((v1 * 7) + v2).toNat) M3)) ∧ (2 < v3 → K (-2) M1)))))))) : OkI G miX10_mark (d + 1) K 0 [some (.inr (.inr (some 0))), some (.inl v1), some (.inl v2), some (.inl v3), none] [] M := by
  refine r_aload_n (pc := 0) (tb_at tkX10_mark 0 rfl) rfl rfl ?_
  refine r_get 9 0 (pc := 1) (tb_at tkX10_mark 1 rfl) ly_0 flX10_14 rfl ?_
  refine r_iload_n (pc := 4) (tb_at tkX10_mark 2 rfl) rfl rfl ?_
  refine r_iload_n (pc := 5) (tb_at tkX10_mark 3 rfl) rfl rfl ?_
  refine r_invV (mc' := 0) (ms' := 0) [.inl v1, .inl v2] (S := []) (pc := 6) (tb_at tkX10_mark 4 rfl) rfl ly_1 rfl rfl clX10_196 (Nat.le_of_ble_eq_true rfl) (Nat.le_refl _) (Nat.le_refl _) ?_
  refine Cal.mono h ?_
  rintro _ _ M1 ⟨x2, rfl, rfl, h⟩
  show OkI G miX10_mark (d + 1) K 9 [some (.inr (.inr (some 0))), some (.inl v1), some (.inl v2), some (.inl v3), none] [.inl x2] M1
  refine q_if_eq (tgt := 21) (pc := 9) (tb_at tkX10_mark 5 rfl) (by decide) (fun c => ?_) (fun c => ?_)
  · replace h := h.1 c
    refine r_bipush (pc := 21) (tb_at tkX10_mark 11 rfl) ⟨by decide, by decide, by decide⟩ ?_
    exact r_iret (pc := 23) (tb_at tkX10_mark 12 rfl) rfl (Nat.le_refl _) (Nat.le_refl _) ⟨_, rfl, rfl, h⟩
  · replace h := h.2 c
    refine r_iload_n (pc := 12) (tb_at tkX10_mark 6 rfl) rfl rfl ?_
    refine q_if_lt (tgt := 21) (pc := 13) (tb_at tkX10_mark 7 rfl) (by decide) (fun c => ?_) (fun c => ?_)
    · replace h := h.1 c
      refine r_bipush (pc := 21) (tb_at tkX10_mark 11 rfl) ⟨by decide, by decide, by decide⟩ ?_
      exact r_iret (pc := 23) (tb_at tkX10_mark 12 rfl) rfl (Nat.le_refl _) (Nat.le_refl _) ⟨_, rfl, rfl, h⟩
    · replace h := h.2 c
      refine r_iload_n (pc := 16) (tb_at tkX10_mark 8 rfl) rfl rfl ?_
      refine r_iconst (pc := 17) (tb_at tkX10_mark 9 rfl) ⟨by decide, by decide⟩ ?_
      refine q_icmp_le (tgt := 24) (pc := 18) (tb_at tkX10_mark 10 rfl) (by decide) (fun c => ?_) (fun c => ?_)
      · replace h := h.1 c
        refine r_aload_n (pc := 24) (tb_at tkX10_mark 13 rfl) rfl rfl ?_
        refine r_get 9 0 (pc := 25) (tb_at tkX10_mark 14 rfl) ly_0 flX10_14 rfl ?_
        refine r_get 5 7 (pc := 28) (tb_at tkX10_mark 15 rfl) ly_1 flX10_199 rfl ?_
        refine r_iload_n (pc := 31) (tb_at tkX10_mark 16 rfl) rfl rfl ?_
        refine r_bipush (pc := 32) (tb_at tkX10_mark 17 rfl) ⟨by decide, by decide, by decide⟩ ?_
        refine r_imul (pc := 34) (tb_at tkX10_mark 18 rfl) ?_
        refine r_iload_n (pc := 35) (tb_at tkX10_mark 19 rfl) rfl rfl ?_
        refine r_iadd_l (pc := 36) (tb_at tkX10_mark 20 rfl) ?_
        refine r_iald_w (pc := 37) (tb_at tkX10_mark 21 rfl) ly_9 (by decide) h.1.1 h.1.2 ?_
        replace h := h.2
        refine r_istore (L' := [some (.inr (.inr (some 0))), some (.inl v1), some (.inl v2), some (.inl v3), some (.inl (M1 9 ((v1 * 7) + v2).toNat))]) (pc := 38) (tb_at tkX10_mark 22 rfl) (by decide) rfl ?_
        refine r_aload_n (pc := 40) (tb_at tkX10_mark 23 rfl) rfl rfl ?_
        refine r_get 9 0 (pc := 41) (tb_at tkX10_mark 24 rfl) ly_0 flX10_14 rfl ?_
        refine r_iload_n (pc := 44) (tb_at tkX10_mark 25 rfl) rfl rfl ?_
        refine r_iload_n (pc := 45) (tb_at tkX10_mark 26 rfl) rfl rfl ?_
        refine r_iload_n (pc := 46) (tb_at tkX10_mark 27 rfl) rfl rfl ?_
        refine r_invV (mc' := 0) (ms' := 0) [.inl v1, .inl v2, .inl v3] (S := []) (pc := 47) (tb_at tkX10_mark 28 rfl) rfl ly_1 rfl rfl clX10_202 (Nat.le_of_ble_eq_true rfl) (Nat.le_refl _) (Nat.le_refl _) ?_
        refine Cal.mono h ?_
        rintro _ _ M3 ⟨rfl, rfl, h⟩
        show OkI G miX10_mark (d + 1) K 50 [some (.inr (.inr (some 0))), some (.inl v1), some (.inl v2), some (.inl v3), some (.inl (M1 9 ((v1 * 7) + v2).toNat))] [] M3
        refine r_iload (pc := 50) (tb_at tkX10_mark 29 rfl) rfl ?_
        exact r_iret (pc := 52) (tb_at tkX10_mark 30 rfl) rfl (Nat.le_refl _) (Nat.le_refl _) ⟨_, rfl, rfl, h⟩
      · replace h := h.2 c
        refine r_bipush (pc := 21) (tb_at tkX10_mark 11 rfl) ⟨by decide, by decide, by decide⟩ ?_
        exact r_iret (pc := 23) (tb_at tkX10_mark 12 rfl) rfl (Nat.le_refl _) (Nat.le_refl _) ⟨_, rfl, rfl, h⟩
set_option maxRecDepth 100000 in
set_option maxHeartbeats 4000000 in
theorem gX10_follows_0 {G : GE} {d : Nat} {K : Int → Mem → Prop} {M : Mem} {v1 v2 : Int}  (h : CalI G miX5_areTwo d [.inr (.inr (some 1)), .inl v1, .inl v2] M (fun x2 M1 => ((¬ x2 = 0 → CalV G miX10_refresh d [.inr (.inr (some 0))] M1 (fun M3 => (0 ≤ (v1 * 7) + v2 ∧ (v1 * 7) + v2 < 49) ∧ K (M3 21 ((v1 * 7) + v2).toNat) M3)) ∧ (x2 = 0 → K (-2) M1)))) : OkI G miX10_follows (d + 1) K 0 [some (.inr (.inr (some 0))), some (.inl v1), some (.inl v2)] [] M := by
  refine r_aload_n (pc := 0) (tb_at tkX10_follows 0 rfl) rfl rfl ?_
  refine r_get 9 0 (pc := 1) (tb_at tkX10_follows 1 rfl) ly_0 flX10_14 rfl ?_
  refine r_iload_n (pc := 4) (tb_at tkX10_follows 2 rfl) rfl rfl ?_
  refine r_iload_n (pc := 5) (tb_at tkX10_follows 3 rfl) rfl rfl ?_
  refine r_invV (mc' := 0) (ms' := 0) [.inl v1, .inl v2] (S := []) (pc := 6) (tb_at tkX10_follows 4 rfl) rfl ly_1 rfl rfl clX10_196 (Nat.le_of_ble_eq_true rfl) (Nat.le_refl _) (Nat.le_refl _) ?_
  refine Cal.mono h ?_
  rintro _ _ M1 ⟨x2, rfl, rfl, h⟩
  show OkI G miX10_follows (d + 1) K 9 [some (.inr (.inr (some 0))), some (.inl v1), some (.inl v2)] [.inl x2] M1
  refine q_if_ne (tgt := 15) (pc := 9) (tb_at tkX10_follows 5 rfl) (by decide) (fun c => ?_) (fun c => ?_)
  · replace h := h.1 c
    refine r_aload_n (pc := 15) (tb_at tkX10_follows 8 rfl) rfl rfl ?_
    refine r_invV (mc' := 0) (ms' := 0) [] (S := []) (pc := 16) (tb_at tkX10_follows 9 rfl) rfl ly_0 rfl rfl clX10_119 (Nat.le_of_ble_eq_true rfl) (Nat.le_refl _) (Nat.le_refl _) ?_
    refine Cal.mono h ?_
    rintro _ _ M3 ⟨rfl, rfl, h⟩
    show OkI G miX10_follows (d + 1) K 19 [some (.inr (.inr (some 0))), some (.inl v1), some (.inl v2)] [] M3
    refine r_aload_n (pc := 19) (tb_at tkX10_follows 10 rfl) rfl rfl ?_
    refine r_get 9 2 (pc := 20) (tb_at tkX10_follows 11 rfl) ly_0 flX10_26 rfl ?_
    refine r_get 4 2 (pc := 23) (tb_at tkX10_follows 12 rfl) ly_19 flX10_205 rfl ?_
    refine r_iload_n (pc := 26) (tb_at tkX10_follows 13 rfl) rfl rfl ?_
    refine r_bipush (pc := 27) (tb_at tkX10_follows 14 rfl) ⟨by decide, by decide, by decide⟩ ?_
    refine r_imul (pc := 29) (tb_at tkX10_follows 15 rfl) ?_
    refine r_iload_n (pc := 30) (tb_at tkX10_follows 16 rfl) rfl rfl ?_
    refine r_iadd_l (pc := 31) (tb_at tkX10_follows 17 rfl) ?_
    refine r_iald_w (pc := 32) (tb_at tkX10_follows 18 rfl) ly_21 (by decide) h.1.1 h.1.2 ?_
    replace h := h.2
    exact r_iret (pc := 33) (tb_at tkX10_follows 19 rfl) rfl (Nat.le_refl _) (Nat.le_refl _) ⟨_, rfl, rfl, h⟩
  · replace h := h.2 c
    refine r_bipush (pc := 12) (tb_at tkX10_follows 6 rfl) ⟨by decide, by decide, by decide⟩ ?_
    exact r_iret (pc := 14) (tb_at tkX10_follows 7 rfl) rfl (Nat.le_refl _) (Nat.le_refl _) ⟨_, rfl, rfl, h⟩
set_option maxRecDepth 100000 in
set_option maxHeartbeats 4000000 in
theorem gX10_pairing_0 {G : GE} {d : Nat} {K : Int → Mem → Prop} {M : Mem} {v1 v2 : Int}  (h : CalI G miX5_isSet d [.inr (.inr (some 1)), .inl v1] M (fun x2 M1 => ((x2 = 0 → K (-2) M1) ∧ (¬ x2 = 0 → ((v2 < 0 → K (-2) M1) ∧ (0 ≤ v2 → ((v2 ≤ 3 → CalV G miX10_refresh d [.inr (.inr (some 0))] M1 (fun M3 => (0 ≤ v1 ∧ v1 < 128) ∧ ((¬ (M3 29 (v1).toNat) = 0 → ((v2 = 0 → (0 ≤ v1 ∧ v1 < 128) ∧ K (M3 24 (v1).toNat) M3) ∧ (v2 = 1 → (0 ≤ v1 ∧ v1 < 128) ∧ K (M3 25 (v1).toNat) M3) ∧ (v2 = 2 → (0 ≤ v1 ∧ v1 < 128) ∧ K (M3 26 (v1).toNat) M3) ∧ (v2 < 0 ∨ 2 < v2 → (0 ≤ v1 ∧ v1 < 128) ∧ K (M3 27 (v1).toNat) M3))) ∧ ((M3 29 (v1).toNat) = 0 → K (-1) M3)))) ∧ (3 < v2 → K (-2) M1)))))))) : OkI G miX10_pairing (d + 1) K 0 [some (.inr (.inr (some 0))), some (.inl v1), some (.inl v2)] [] M := by
  refine r_aload_n (pc := 0) (tb_at tkX10_pairing 0 rfl) rfl rfl ?_
  refine r_get 9 0 (pc := 1) (tb_at tkX10_pairing 1 rfl) ly_0 flX10_14 rfl ?_
  refine r_iload_n (pc := 4) (tb_at tkX10_pairing 2 rfl) rfl rfl ?_
  refine r_invV (mc' := 0) (ms' := 0) [.inl v1] (S := []) (pc := 5) (tb_at tkX10_pairing 3 rfl) rfl ly_1 rfl rfl clX10_208 (Nat.le_of_ble_eq_true rfl) (Nat.le_refl _) (Nat.le_refl _) ?_
  refine Cal.mono h ?_
  rintro _ _ M1 ⟨x2, rfl, rfl, h⟩
  show OkI G miX10_pairing (d + 1) K 8 [some (.inr (.inr (some 0))), some (.inl v1), some (.inl v2)] [.inl x2] M1
  refine q_if_eq (tgt := 20) (pc := 8) (tb_at tkX10_pairing 4 rfl) (by decide) (fun c => ?_) (fun c => ?_)
  · replace h := h.1 c
    refine r_bipush (pc := 20) (tb_at tkX10_pairing 10 rfl) ⟨by decide, by decide, by decide⟩ ?_
    exact r_iret (pc := 22) (tb_at tkX10_pairing 11 rfl) rfl (Nat.le_refl _) (Nat.le_refl _) ⟨_, rfl, rfl, h⟩
  · replace h := h.2 c
    refine r_iload_n (pc := 11) (tb_at tkX10_pairing 5 rfl) rfl rfl ?_
    refine q_if_lt (tgt := 20) (pc := 12) (tb_at tkX10_pairing 6 rfl) (by decide) (fun c => ?_) (fun c => ?_)
    · replace h := h.1 c
      refine r_bipush (pc := 20) (tb_at tkX10_pairing 10 rfl) ⟨by decide, by decide, by decide⟩ ?_
      exact r_iret (pc := 22) (tb_at tkX10_pairing 11 rfl) rfl (Nat.le_refl _) (Nat.le_refl _) ⟨_, rfl, rfl, h⟩
    · replace h := h.2 c
      refine r_iload_n (pc := 15) (tb_at tkX10_pairing 7 rfl) rfl rfl ?_
      refine r_iconst (pc := 16) (tb_at tkX10_pairing 8 rfl) ⟨by decide, by decide⟩ ?_
      refine q_icmp_le (tgt := 23) (pc := 17) (tb_at tkX10_pairing 9 rfl) (by decide) (fun c => ?_) (fun c => ?_)
      · replace h := h.1 c
        refine r_aload_n (pc := 23) (tb_at tkX10_pairing 12 rfl) rfl rfl ?_
        refine r_invV (mc' := 0) (ms' := 0) [] (S := []) (pc := 24) (tb_at tkX10_pairing 13 rfl) rfl ly_0 rfl rfl clX10_119 (Nat.le_of_ble_eq_true rfl) (Nat.le_refl _) (Nat.le_refl _) ?_
        refine Cal.mono h ?_
        rintro _ _ M3 ⟨rfl, rfl, h⟩
        show OkI G miX10_pairing (d + 1) K 27 [some (.inr (.inr (some 0))), some (.inl v1), some (.inl v2)] [] M3
        refine r_aload_n (pc := 27) (tb_at tkX10_pairing 14 rfl) rfl rfl ?_
        refine r_get 9 3 (pc := 28) (tb_at tkX10_pairing 15 rfl) ly_0 flX10_35 rfl ?_
        refine r_get 1 2 (pc := 31) (tb_at tkX10_pairing 16 rfl) ly_28 flX10_211 rfl ?_
        refine r_iload_n (pc := 34) (tb_at tkX10_pairing 17 rfl) rfl rfl ?_
        refine r_zald (pc := 35) (tb_at tkX10_pairing 18 rfl) ly_29 h.1.1 h.1.2 ?_
        replace h := h.2
        refine q_if_ne (tgt := 41) (pc := 36) (tb_at tkX10_pairing 19 rfl) (by decide) (fun c => ?_) (fun c => ?_)
        · replace h := h.1 c
          refine r_iload_n (pc := 41) (tb_at tkX10_pairing 22 rfl) rfl rfl ?_
          by_cases c0 : v2 < 0 ∨ 2 < v2
          · refine r_tblOut (tgt := 98) (pc := 42) (tb_at tkX10_pairing 23 rfl) c0 (by decide) ?_
            replace h := h.2.2.2 c0
            refine r_aload_n (pc := 98) (tb_at tkX10_pairing 42 rfl) rfl rfl ?_
            refine r_get 9 2 (pc := 99) (tb_at tkX10_pairing 43 rfl) ly_0 flX10_26 rfl ?_
            refine r_get 4 8 (pc := 102) (tb_at tkX10_pairing 44 rfl) ly_19 flX10_224 rfl ?_
            refine r_iload_n (pc := 105) (tb_at tkX10_pairing 45 rfl) rfl rfl ?_
            refine r_iald (pc := 106) (tb_at tkX10_pairing 46 rfl) ly_27 h.1.1 h.1.2 ?_
            replace h := h.2
            exact r_iret (pc := 107) (tb_at tkX10_pairing 47 rfl) rfl (Nat.le_refl _) (Nat.le_refl _) ⟨_, rfl, rfl, h⟩
          · have cc : v2 = 0 ∨ v2 = 1 ∨ v2 = 2 := by omega
            rcases cc with c | c | c
            · refine r_tblIn (off := 26) (tgt := 68) (pc := 42) (tb_at tkX10_pairing 23 rfl) (by omega) (by omega) (by rw [c]; rfl) (by decide) ?_
              replace h := h.1 c
              refine r_aload_n (pc := 68) (tb_at tkX10_pairing 24 rfl) rfl rfl ?_
              refine r_get 9 2 (pc := 69) (tb_at tkX10_pairing 25 rfl) ly_0 flX10_26 rfl ?_
              refine r_get 4 5 (pc := 72) (tb_at tkX10_pairing 26 rfl) ly_19 flX10_215 rfl ?_
              refine r_iload_n (pc := 75) (tb_at tkX10_pairing 27 rfl) rfl rfl ?_
              refine r_iald (pc := 76) (tb_at tkX10_pairing 28 rfl) ly_24 h.1.1 h.1.2 ?_
              replace h := h.2
              exact r_iret (pc := 77) (tb_at tkX10_pairing 29 rfl) rfl (Nat.le_refl _) (Nat.le_refl _) ⟨_, rfl, rfl, h⟩
            · refine r_tblIn (off := 36) (tgt := 78) (pc := 42) (tb_at tkX10_pairing 23 rfl) (by omega) (by omega) (by rw [c]; rfl) (by decide) ?_
              replace h := h.2.1 c
              refine r_aload_n (pc := 78) (tb_at tkX10_pairing 30 rfl) rfl rfl ?_
              refine r_get 9 2 (pc := 79) (tb_at tkX10_pairing 31 rfl) ly_0 flX10_26 rfl ?_
              refine r_get 4 6 (pc := 82) (tb_at tkX10_pairing 32 rfl) ly_19 flX10_218 rfl ?_
              refine r_iload_n (pc := 85) (tb_at tkX10_pairing 33 rfl) rfl rfl ?_
              refine r_iald (pc := 86) (tb_at tkX10_pairing 34 rfl) ly_25 h.1.1 h.1.2 ?_
              replace h := h.2
              exact r_iret (pc := 87) (tb_at tkX10_pairing 35 rfl) rfl (Nat.le_refl _) (Nat.le_refl _) ⟨_, rfl, rfl, h⟩
            · refine r_tblIn (off := 46) (tgt := 88) (pc := 42) (tb_at tkX10_pairing 23 rfl) (by omega) (by omega) (by rw [c]; rfl) (by decide) ?_
              replace h := h.2.2.1 c
              refine r_aload_n (pc := 88) (tb_at tkX10_pairing 36 rfl) rfl rfl ?_
              refine r_get 9 2 (pc := 89) (tb_at tkX10_pairing 37 rfl) ly_0 flX10_26 rfl ?_
              refine r_get 4 7 (pc := 92) (tb_at tkX10_pairing 38 rfl) ly_19 flX10_221 rfl ?_
              refine r_iload_n (pc := 95) (tb_at tkX10_pairing 39 rfl) rfl rfl ?_
              refine r_iald (pc := 96) (tb_at tkX10_pairing 40 rfl) ly_26 h.1.1 h.1.2 ?_
              replace h := h.2
              exact r_iret (pc := 97) (tb_at tkX10_pairing 41 rfl) rfl (Nat.le_refl _) (Nat.le_refl _) ⟨_, rfl, rfl, h⟩
        · replace h := h.2 c
          refine r_iconst (pc := 39) (tb_at tkX10_pairing 20 rfl) ⟨by decide, by decide⟩ ?_
          exact r_iret (pc := 40) (tb_at tkX10_pairing 21 rfl) rfl (Nat.le_refl _) (Nat.le_refl _) ⟨_, rfl, rfl, h⟩
      · replace h := h.2 c
        refine r_bipush (pc := 20) (tb_at tkX10_pairing 10 rfl) ⟨by decide, by decide, by decide⟩ ?_
        exact r_iret (pc := 22) (tb_at tkX10_pairing 11 rfl) rfl (Nat.le_refl _) (Nat.le_refl _) ⟨_, rfl, rfl, h⟩
set_option maxRecDepth 100000 in
set_option maxHeartbeats 4000000 in
theorem gX10_pairings_0 {G : GE} {d : Nat} {K : Int → Mem → Prop} {M : Mem} {v1 : Int}  (h : CalV G miX10_refresh d [.inr (.inr (some 0))] M (fun M1 => ((¬ v1 = (-1) → CalI G miX1_pairingAt d [.inr (.inr (some 28)), .inl v1] M1 (fun x3 M2 => ((¬ x3 = (-1) → K x3 M2) ∧ (x3 = (-1) → K (-12) M2)))) ∧ (v1 = (-1) → CalI G miX1_pairingCount d [.inr (.inr (some 28))] M1 (fun x5 M4 => K x5 M4))))) : OkI G miX10_pairings (d + 1) K 0 [some (.inr (.inr (some 0))), some (.inl v1), none] [] M := by
  refine r_aload_n (pc := 0) (tb_at tkX10_pairings 0 rfl) rfl rfl ?_
  refine r_invV (mc' := 0) (ms' := 0) [] (S := []) (pc := 1) (tb_at tkX10_pairings 1 rfl) rfl ly_0 rfl rfl clX10_119 (Nat.le_of_ble_eq_true rfl) (Nat.le_refl _) (Nat.le_refl _) ?_
  refine Cal.mono h ?_
  rintro _ _ M1 ⟨rfl, rfl, h⟩
  show OkI G miX10_pairings (d + 1) K 4 [some (.inr (.inr (some 0))), some (.inl v1), none] [] M1
  refine r_iload_n (pc := 4) (tb_at tkX10_pairings 2 rfl) rfl rfl ?_
  refine r_iconst (pc := 5) (tb_at tkX10_pairings 3 rfl) ⟨by decide, by decide⟩ ?_
  refine q_icmp_ne (tgt := 17) (pc := 6) (tb_at tkX10_pairings 4 rfl) (by decide) (fun c => ?_) (fun c => ?_)
  · replace h := h.1 c
    refine r_aload_n (pc := 17) (tb_at tkX10_pairings 9 rfl) rfl rfl ?_
    refine r_get 9 3 (pc := 18) (tb_at tkX10_pairings 10 rfl) ly_0 flX10_35 rfl ?_
    refine r_iload_n (pc := 21) (tb_at tkX10_pairings 11 rfl) rfl rfl ?_
    refine r_invV (mc' := 0) (ms' := 0) [.inl v1] (S := []) (pc := 22) (tb_at tkX10_pairings 12 rfl) rfl ly_28 rfl rfl clX10_230 (Nat.le_of_ble_eq_true rfl) (Nat.le_refl _) (Nat.le_refl _) ?_
    refine Cal.mono h ?_
    rintro _ _ M2 ⟨x3, rfl, rfl, h⟩
    show OkI G miX10_pairings (d + 1) K 25 [some (.inr (.inr (some 0))), some (.inl v1), none] [.inl x3] M2
    refine r_istore_n (L' := [some (.inr (.inr (some 0))), some (.inl v1), some (.inl x3)]) (pc := 25) (tb_at tkX10_pairings 13 rfl) rfl (by decide) rfl ?_
    refine r_iload_n (pc := 26) (tb_at tkX10_pairings 14 rfl) rfl rfl ?_
    refine r_iconst (pc := 27) (tb_at tkX10_pairings 15 rfl) ⟨by decide, by decide⟩ ?_
    refine q_icmp_ne (tgt := 36) (pc := 28) (tb_at tkX10_pairings 16 rfl) (by decide) (fun c => ?_) (fun c => ?_)
    · replace h := h.1 c
      refine r_iload_n (pc := 36) (tb_at tkX10_pairings 19 rfl) rfl rfl ?_
      exact r_iret (pc := 37) (tb_at tkX10_pairings 20 rfl) rfl (Nat.le_refl _) (Nat.le_refl _) ⟨_, rfl, rfl, h⟩
    · replace h := h.2 c
      refine r_bipush (pc := 31) (tb_at tkX10_pairings 17 rfl) ⟨by decide, by decide, by decide⟩ ?_
      refine r_goto (tgt := 37) (pc := 33) (tb_at tkX10_pairings 18 rfl) (by decide) ?_
      exact r_iret (pc := 37) (tb_at tkX10_pairings 20 rfl) rfl (Nat.le_refl _) (Nat.le_refl _) ⟨_, rfl, rfl, h⟩
  · replace h := h.2 c
    refine r_aload_n (pc := 9) (tb_at tkX10_pairings 5 rfl) rfl rfl ?_
    refine r_get 9 3 (pc := 10) (tb_at tkX10_pairings 6 rfl) ly_0 flX10_35 rfl ?_
    refine r_invV (mc' := 0) (ms' := 0) [] (S := []) (pc := 13) (tb_at tkX10_pairings 7 rfl) rfl ly_28 rfl rfl clX10_227 (Nat.le_of_ble_eq_true rfl) (Nat.le_refl _) (Nat.le_refl _) ?_
    refine Cal.mono h ?_
    rintro _ _ M4 ⟨x5, rfl, rfl, h⟩
    show OkI G miX10_pairings (d + 1) K 16 [some (.inr (.inr (some 0))), some (.inl v1), none] [.inl x5] M4
    exact r_iret (pc := 16) (tb_at tkX10_pairings 8 rfl) rfl (Nat.le_refl _) (Nat.le_refl _) ⟨_, rfl, rfl, h⟩
set_option maxRecDepth 100000 in
set_option maxHeartbeats 4000000 in
theorem gX10_had_0 {G : GE} {d : Nat} {K : Int → Mem → Prop} {M : Mem} {v1 v2 : Int}  (h : CalI G miX5_isSet d [.inr (.inr (some 1)), .inl v1] M (fun x2 M1 => ((x2 = 0 → K (-2) M1) ∧ (¬ x2 = 0 → CalI G miX10_isHalf d [.inl v2] M1 (fun x4 M3 => ((¬ x4 = 0 → CalV G miX10_refresh d [.inr (.inr (some 0))] M3 (fun M5 => ((¬ v2 = 0 → (0 ≤ v1 ∧ v1 < 128) ∧ K (M5 31 (v1).toNat) M5) ∧ (v2 = 0 → (0 ≤ v1 ∧ v1 < 128) ∧ K (M5 30 (v1).toNat) M5)))) ∧ (x4 = 0 → K (-2) M3))))))) : OkI G miX10_had (d + 1) K 0 [some (.inr (.inr (some 0))), some (.inl v1), some (.inl v2)] [] M := by
  refine r_aload_n (pc := 0) (tb_at tkX10_had 0 rfl) rfl rfl ?_
  refine r_get 9 0 (pc := 1) (tb_at tkX10_had 1 rfl) ly_0 flX10_14 rfl ?_
  refine r_iload_n (pc := 4) (tb_at tkX10_had 2 rfl) rfl rfl ?_
  refine r_invV (mc' := 0) (ms' := 0) [.inl v1] (S := []) (pc := 5) (tb_at tkX10_had 3 rfl) rfl ly_1 rfl rfl clX10_208 (Nat.le_of_ble_eq_true rfl) (Nat.le_refl _) (Nat.le_refl _) ?_
  refine Cal.mono h ?_
  rintro _ _ M1 ⟨x2, rfl, rfl, h⟩
  show OkI G miX10_had (d + 1) K 8 [some (.inr (.inr (some 0))), some (.inl v1), some (.inl v2)] [.inl x2] M1
  refine q_if_eq (tgt := 18) (pc := 8) (tb_at tkX10_had 4 rfl) (by decide) (fun c => ?_) (fun c => ?_)
  · replace h := h.1 c
    refine r_bipush (pc := 18) (tb_at tkX10_had 8 rfl) ⟨by decide, by decide, by decide⟩ ?_
    exact r_iret (pc := 20) (tb_at tkX10_had 9 rfl) rfl (Nat.le_refl _) (Nat.le_refl _) ⟨_, rfl, rfl, h⟩
  · replace h := h.2 c
    refine r_iload_n (pc := 11) (tb_at tkX10_had 5 rfl) rfl rfl ?_
    refine r_invS (mc' := 0) (ms' := 0) [.inl v2] (S := []) (pc := 12) (tb_at tkX10_had 6 rfl) rfl clX10_233 (Nat.le_of_ble_eq_true rfl) (Nat.le_refl _) (Nat.le_refl _) ?_
    refine Cal.mono h ?_
    rintro _ _ M3 ⟨x4, rfl, rfl, h⟩
    show OkI G miX10_had (d + 1) K 15 [some (.inr (.inr (some 0))), some (.inl v1), some (.inl v2)] [.inl x4] M3
    refine q_if_ne (tgt := 21) (pc := 15) (tb_at tkX10_had 7 rfl) (by decide) (fun c => ?_) (fun c => ?_)
    · replace h := h.1 c
      refine r_aload_n (pc := 21) (tb_at tkX10_had 10 rfl) rfl rfl ?_
      refine r_invV (mc' := 0) (ms' := 0) [] (S := []) (pc := 22) (tb_at tkX10_had 11 rfl) rfl ly_0 rfl rfl clX10_119 (Nat.le_of_ble_eq_true rfl) (Nat.le_refl _) (Nat.le_refl _) ?_
      refine Cal.mono h ?_
      rintro _ _ M5 ⟨rfl, rfl, h⟩
      show OkI G miX10_had (d + 1) K 25 [some (.inr (.inr (some 0))), some (.inl v1), some (.inl v2)] [] M5
      refine r_iload_n (pc := 25) (tb_at tkX10_had 12 rfl) rfl rfl ?_
      refine q_if_ne (tgt := 41) (pc := 26) (tb_at tkX10_had 13 rfl) (by decide) (fun c => ?_) (fun c => ?_)
      · replace h := h.1 c
        refine r_aload_n (pc := 41) (tb_at tkX10_had 20 rfl) rfl rfl ?_
        refine r_get 9 3 (pc := 42) (tb_at tkX10_had 21 rfl) ly_0 flX10_35 rfl ?_
        refine r_get 1 4 (pc := 45) (tb_at tkX10_had 22 rfl) ly_28 flX10_237 rfl ?_
        refine r_iload_n (pc := 48) (tb_at tkX10_had 23 rfl) rfl rfl ?_
        refine r_iald (pc := 49) (tb_at tkX10_had 24 rfl) ly_31 h.1.1 h.1.2 ?_
        replace h := h.2
        exact r_iret (pc := 50) (tb_at tkX10_had 25 rfl) rfl (Nat.le_refl _) (Nat.le_refl _) ⟨_, rfl, rfl, h⟩
      · replace h := h.2 c
        refine r_aload_n (pc := 29) (tb_at tkX10_had 14 rfl) rfl rfl ?_
        refine r_get 9 3 (pc := 30) (tb_at tkX10_had 15 rfl) ly_0 flX10_35 rfl ?_
        refine r_get 1 3 (pc := 33) (tb_at tkX10_had 16 rfl) ly_28 flX10_236 rfl ?_
        refine r_iload_n (pc := 36) (tb_at tkX10_had 17 rfl) rfl rfl ?_
        refine r_iald (pc := 37) (tb_at tkX10_had 18 rfl) ly_30 h.1.1 h.1.2 ?_
        replace h := h.2
        refine r_goto (tgt := 50) (pc := 38) (tb_at tkX10_had 19 rfl) (by decide) ?_
        exact r_iret (pc := 50) (tb_at tkX10_had 25 rfl) rfl (Nat.le_refl _) (Nat.le_refl _) ⟨_, rfl, rfl, h⟩
    · replace h := h.2 c
      refine r_bipush (pc := 18) (tb_at tkX10_had 8 rfl) ⟨by decide, by decide, by decide⟩ ?_
      exact r_iret (pc := 20) (tb_at tkX10_had 9 rfl) rfl (Nat.le_refl _) (Nat.le_refl _) ⟨_, rfl, rfl, h⟩
set_option maxRecDepth 100000 in
set_option maxHeartbeats 4000000 in
theorem gX10_best_0 {G : GE} {d : Nat} {K : Int → Mem → Prop} {M : Mem} {v1 : Int}  (h : ((v1 < 0 → K (-2) M) ∧ (0 ≤ v1 → ((v1 ≤ 2 → CalV G miX10_refresh d [.inr (.inr (some 0))] M (fun M1 => CalI G miX1_hasCover d [.inr (.inr (some 28))] M1 (fun x3 M2 => ((¬ x3 = 0 → ((v1 = 0 → CalI G miX1_leastTotal d [.inr (.inr (some 28))] M2 (fun x5 M4 => K x5 M4)) ∧ (v1 = 1 → CalI G miX1_bestSets d [.inr (.inr (some 28))] M2 (fun x7 M6 => K x7 M6)) ∧ (¬ v1 = 0 → ¬ v1 = 1 → CalI G miX1_bestAlong d [.inr (.inr (some 28))] M2 (fun x9 M8 => K x9 M8)))) ∧ (x3 = 0 → K (-1) M2))))) ∧ (2 < v1 → K (-2) M))))) : OkI G miX10_best (d + 1) K 0 [some (.inr (.inr (some 0))), some (.inl v1)] [] M := by
  refine r_iload_n (pc := 0) (tb_at tkX10_best 0 rfl) rfl rfl ?_
  refine q_if_lt (tgt := 9) (pc := 1) (tb_at tkX10_best 1 rfl) (by decide) (fun c => ?_) (fun c => ?_)
  · replace h := h.1 c
    refine r_bipush (pc := 9) (tb_at tkX10_best 5 rfl) ⟨by decide, by decide, by decide⟩ ?_
    exact r_iret (pc := 11) (tb_at tkX10_best 6 rfl) rfl (Nat.le_refl _) (Nat.le_refl _) ⟨_, rfl, rfl, h⟩
  · replace h := h.2 c
    refine r_iload_n (pc := 4) (tb_at tkX10_best 2 rfl) rfl rfl ?_
    refine r_iconst (pc := 5) (tb_at tkX10_best 3 rfl) ⟨by decide, by decide⟩ ?_
    refine q_icmp_le (tgt := 12) (pc := 6) (tb_at tkX10_best 4 rfl) (by decide) (fun c => ?_) (fun c => ?_)
    · replace h := h.1 c
      refine r_aload_n (pc := 12) (tb_at tkX10_best 7 rfl) rfl rfl ?_
      refine r_invV (mc' := 0) (ms' := 0) [] (S := []) (pc := 13) (tb_at tkX10_best 8 rfl) rfl ly_0 rfl rfl clX10_119 (Nat.le_of_ble_eq_true rfl) (Nat.le_refl _) (Nat.le_refl _) ?_
      refine Cal.mono h ?_
      rintro _ _ M1 ⟨rfl, rfl, h⟩
      show OkI G miX10_best (d + 1) K 16 [some (.inr (.inr (some 0))), some (.inl v1)] [] M1
      refine r_aload_n (pc := 16) (tb_at tkX10_best 9 rfl) rfl rfl ?_
      refine r_get 9 3 (pc := 17) (tb_at tkX10_best 10 rfl) ly_0 flX10_35 rfl ?_
      refine r_invV (mc' := 0) (ms' := 0) [] (S := []) (pc := 20) (tb_at tkX10_best 11 rfl) rfl ly_28 rfl rfl clX10_240 (Nat.le_of_ble_eq_true rfl) (Nat.le_refl _) (Nat.le_refl _) ?_
      refine Cal.mono h ?_
      rintro _ _ M2 ⟨x3, rfl, rfl, h⟩
      show OkI G miX10_best (d + 1) K 23 [some (.inr (.inr (some 0))), some (.inl v1)] [.inl x3] M2
      refine q_if_ne (tgt := 28) (pc := 23) (tb_at tkX10_best 12 rfl) (by decide) (fun c => ?_) (fun c => ?_)
      · replace h := h.1 c
        refine r_iload_n (pc := 28) (tb_at tkX10_best 15 rfl) rfl rfl ?_
        by_cases c0 : v1 = 0
        · refine r_lookup (off := 27) (tgt := 56) (pc := 29) (tb_at tkX10_best 16 rfl) (by decide) (by rw [c0]; rfl) (by decide) ?_
          replace h := h.1 c0
          refine r_aload_n (pc := 56) (tb_at tkX10_best 17 rfl) rfl rfl ?_
          refine r_get 9 3 (pc := 57) (tb_at tkX10_best 18 rfl) ly_0 flX10_35 rfl ?_
          refine r_invV (mc' := 0) (ms' := 0) [] (S := []) (pc := 60) (tb_at tkX10_best 19 rfl) rfl ly_28 rfl rfl clX10_244 (Nat.le_of_ble_eq_true rfl) (Nat.le_refl _) (Nat.le_refl _) ?_
          refine Cal.mono h ?_
          rintro _ _ M4 ⟨x5, rfl, rfl, h⟩
          show OkI G miX10_best (d + 1) K 63 [some (.inr (.inr (some 0))), some (.inl v1)] [.inl x5] M4
          exact r_iret (pc := 63) (tb_at tkX10_best 20 rfl) rfl (Nat.le_refl _) (Nat.le_refl _) ⟨_, rfl, rfl, h⟩
        by_cases c1 : v1 = 1
        · refine r_lookup (off := 35) (tgt := 64) (pc := 29) (tb_at tkX10_best 16 rfl) (by decide) (by rw [c1]; rfl) (by decide) ?_
          replace h := h.2.1 c1
          refine r_aload_n (pc := 64) (tb_at tkX10_best 21 rfl) rfl rfl ?_
          refine r_get 9 3 (pc := 65) (tb_at tkX10_best 22 rfl) ly_0 flX10_35 rfl ?_
          refine r_invV (mc' := 0) (ms' := 0) [] (S := []) (pc := 68) (tb_at tkX10_best 23 rfl) rfl ly_28 rfl rfl clX10_247 (Nat.le_of_ble_eq_true rfl) (Nat.le_refl _) (Nat.le_refl _) ?_
          refine Cal.mono h ?_
          rintro _ _ M6 ⟨x7, rfl, rfl, h⟩
          show OkI G miX10_best (d + 1) K 71 [some (.inr (.inr (some 0))), some (.inl v1)] [.inl x7] M6
          exact r_iret (pc := 71) (tb_at tkX10_best 24 rfl) rfl (Nat.le_refl _) (Nat.le_refl _) ⟨_, rfl, rfl, h⟩
        refine r_lookup (off := 43) (tgt := 72) (pc := 29) (tb_at tkX10_best 16 rfl) (by decide) (by simp [Op.lookupswitch.offset, c0, Ne.symm c0, c1, Ne.symm c1]) (by decide) ?_
        replace h := h.2.2 c0 c1
        refine r_aload_n (pc := 72) (tb_at tkX10_best 25 rfl) rfl rfl ?_
        refine r_get 9 3 (pc := 73) (tb_at tkX10_best 26 rfl) ly_0 flX10_35 rfl ?_
        refine r_invV (mc' := 0) (ms' := 0) [] (S := []) (pc := 76) (tb_at tkX10_best 27 rfl) rfl ly_28 rfl rfl clX10_250 (Nat.le_of_ble_eq_true rfl) (Nat.le_refl _) (Nat.le_refl _) ?_
        refine Cal.mono h ?_
        rintro _ _ M8 ⟨x9, rfl, rfl, h⟩
        show OkI G miX10_best (d + 1) K 79 [some (.inr (.inr (some 0))), some (.inl v1)] [.inl x9] M8
        exact r_iret (pc := 79) (tb_at tkX10_best 28 rfl) rfl (Nat.le_refl _) (Nat.le_refl _) ⟨_, rfl, rfl, h⟩
      · replace h := h.2 c
        refine r_iconst (pc := 26) (tb_at tkX10_best 13 rfl) ⟨by decide, by decide⟩ ?_
        exact r_iret (pc := 27) (tb_at tkX10_best 14 rfl) rfl (Nat.le_refl _) (Nat.le_refl _) ⟨_, rfl, rfl, h⟩
    · replace h := h.2 c
      refine r_bipush (pc := 9) (tb_at tkX10_best 5 rfl) ⟨by decide, by decide, by decide⟩ ?_
      exact r_iret (pc := 11) (tb_at tkX10_best 6 rfl) rfl (Nat.le_refl _) (Nat.le_refl _) ⟨_, rfl, rfl, h⟩
set_option maxRecDepth 100000 in
set_option maxHeartbeats 4000000 in
theorem gX10_bestOf_0 {G : GE} {d : Nat} {K : Int → Mem → Prop} {M : Mem} {v1 v2 : Int}  (h : CalI G miX5_hasFlight d [.inr (.inr (some 1)), .inl v1] M (fun x2 M1 => ((x2 = 0 → K (-2) M1) ∧ (¬ x2 = 0 → CalI G miX10_isHalf d [.inl v2] M1 (fun x4 M3 => ((¬ x4 = 0 → CalV G miX10_refresh d [.inr (.inr (some 0))] M3 (fun M5 => CalI G miX1_bestSetWith d [.inr (.inr (some 28)), .inl v1] M5 (fun x7 M6 => ((¬ x7 = (-1) → ((¬ v2 = 0 → (0 ≤ x7 ∧ x7 < 128) ∧ K (M6 31 (x7).toNat) M6) ∧ (v2 = 0 → K x7 M6))) ∧ (x7 = (-1) → K (-1) M6))))) ∧ (x4 = 0 → K (-2) M3))))))) : OkI G miX10_bestOf (d + 1) K 0 [some (.inr (.inr (some 0))), some (.inl v1), some (.inl v2), none] [] M := by
  refine r_aload_n (pc := 0) (tb_at tkX10_bestOf 0 rfl) rfl rfl ?_
  refine r_get 9 0 (pc := 1) (tb_at tkX10_bestOf 1 rfl) ly_0 flX10_14 rfl ?_
  refine r_iload_n (pc := 4) (tb_at tkX10_bestOf 2 rfl) rfl rfl ?_
  refine r_invV (mc' := 0) (ms' := 0) [.inl v1] (S := []) (pc := 5) (tb_at tkX10_bestOf 3 rfl) rfl ly_1 rfl rfl clX10_116 (Nat.le_of_ble_eq_true rfl) (Nat.le_refl _) (Nat.le_refl _) ?_
  refine Cal.mono h ?_
  rintro _ _ M1 ⟨x2, rfl, rfl, h⟩
  show OkI G miX10_bestOf (d + 1) K 8 [some (.inr (.inr (some 0))), some (.inl v1), some (.inl v2), none] [.inl x2] M1
  refine q_if_eq (tgt := 18) (pc := 8) (tb_at tkX10_bestOf 4 rfl) (by decide) (fun c => ?_) (fun c => ?_)
  · replace h := h.1 c
    refine r_bipush (pc := 18) (tb_at tkX10_bestOf 8 rfl) ⟨by decide, by decide, by decide⟩ ?_
    exact r_iret (pc := 20) (tb_at tkX10_bestOf 9 rfl) rfl (Nat.le_refl _) (Nat.le_refl _) ⟨_, rfl, rfl, h⟩
  · replace h := h.2 c
    refine r_iload_n (pc := 11) (tb_at tkX10_bestOf 5 rfl) rfl rfl ?_
    refine r_invS (mc' := 0) (ms' := 0) [.inl v2] (S := []) (pc := 12) (tb_at tkX10_bestOf 6 rfl) rfl clX10_233 (Nat.le_of_ble_eq_true rfl) (Nat.le_refl _) (Nat.le_refl _) ?_
    refine Cal.mono h ?_
    rintro _ _ M3 ⟨x4, rfl, rfl, h⟩
    show OkI G miX10_bestOf (d + 1) K 15 [some (.inr (.inr (some 0))), some (.inl v1), some (.inl v2), none] [.inl x4] M3
    refine q_if_ne (tgt := 21) (pc := 15) (tb_at tkX10_bestOf 7 rfl) (by decide) (fun c => ?_) (fun c => ?_)
    · replace h := h.1 c
      refine r_aload_n (pc := 21) (tb_at tkX10_bestOf 10 rfl) rfl rfl ?_
      refine r_invV (mc' := 0) (ms' := 0) [] (S := []) (pc := 22) (tb_at tkX10_bestOf 11 rfl) rfl ly_0 rfl rfl clX10_119 (Nat.le_of_ble_eq_true rfl) (Nat.le_refl _) (Nat.le_refl _) ?_
      refine Cal.mono h ?_
      rintro _ _ M5 ⟨rfl, rfl, h⟩
      show OkI G miX10_bestOf (d + 1) K 25 [some (.inr (.inr (some 0))), some (.inl v1), some (.inl v2), none] [] M5
      refine r_aload_n (pc := 25) (tb_at tkX10_bestOf 12 rfl) rfl rfl ?_
      refine r_get 9 3 (pc := 26) (tb_at tkX10_bestOf 13 rfl) ly_0 flX10_35 rfl ?_
      refine r_iload_n (pc := 29) (tb_at tkX10_bestOf 14 rfl) rfl rfl ?_
      refine r_invV (mc' := 0) (ms' := 0) [.inl v1] (S := []) (pc := 30) (tb_at tkX10_bestOf 15 rfl) rfl ly_28 rfl rfl clX10_253 (Nat.le_of_ble_eq_true rfl) (Nat.le_refl _) (Nat.le_refl _) ?_
      refine Cal.mono h ?_
      rintro _ _ M6 ⟨x7, rfl, rfl, h⟩
      show OkI G miX10_bestOf (d + 1) K 33 [some (.inr (.inr (some 0))), some (.inl v1), some (.inl v2), none] [.inl x7] M6
      refine r_istore_n (L' := [some (.inr (.inr (some 0))), some (.inl v1), some (.inl v2), some (.inl x7)]) (pc := 33) (tb_at tkX10_bestOf 16 rfl) rfl (by decide) rfl ?_
      refine r_iload_n (pc := 34) (tb_at tkX10_bestOf 17 rfl) rfl rfl ?_
      refine r_iconst (pc := 35) (tb_at tkX10_bestOf 18 rfl) ⟨by decide, by decide⟩ ?_
      refine q_icmp_ne (tgt := 41) (pc := 36) (tb_at tkX10_bestOf 19 rfl) (by decide) (fun c => ?_) (fun c => ?_)
      · replace h := h.1 c
        refine r_iload_n (pc := 41) (tb_at tkX10_bestOf 22 rfl) rfl rfl ?_
        refine q_if_ne (tgt := 49) (pc := 42) (tb_at tkX10_bestOf 23 rfl) (by decide) (fun c => ?_) (fun c => ?_)
        · replace h := h.1 c
          refine r_aload_n (pc := 49) (tb_at tkX10_bestOf 26 rfl) rfl rfl ?_
          refine r_get 9 3 (pc := 50) (tb_at tkX10_bestOf 27 rfl) ly_0 flX10_35 rfl ?_
          refine r_get 1 4 (pc := 53) (tb_at tkX10_bestOf 28 rfl) ly_28 flX10_237 rfl ?_
          refine r_iload_n (pc := 56) (tb_at tkX10_bestOf 29 rfl) rfl rfl ?_
          refine r_iald (pc := 57) (tb_at tkX10_bestOf 30 rfl) ly_31 h.1.1 h.1.2 ?_
          replace h := h.2
          exact r_iret (pc := 58) (tb_at tkX10_bestOf 31 rfl) rfl (Nat.le_refl _) (Nat.le_refl _) ⟨_, rfl, rfl, h⟩
        · replace h := h.2 c
          refine r_iload_n (pc := 45) (tb_at tkX10_bestOf 24 rfl) rfl rfl ?_
          refine r_goto (tgt := 58) (pc := 46) (tb_at tkX10_bestOf 25 rfl) (by decide) ?_
          exact r_iret (pc := 58) (tb_at tkX10_bestOf 31 rfl) rfl (Nat.le_refl _) (Nat.le_refl _) ⟨_, rfl, rfl, h⟩
      · replace h := h.2 c
        refine r_iconst (pc := 39) (tb_at tkX10_bestOf 20 rfl) ⟨by decide, by decide⟩ ?_
        exact r_iret (pc := 40) (tb_at tkX10_bestOf 21 rfl) rfl (Nat.le_refl _) (Nat.le_refl _) ⟨_, rfl, rfl, h⟩
    · replace h := h.2 c
      refine r_bipush (pc := 18) (tb_at tkX10_bestOf 8 rfl) ⟨by decide, by decide, by decide⟩ ?_
      exact r_iret (pc := 20) (tb_at tkX10_bestOf 9 rfl) rfl (Nat.le_refl _) (Nat.le_refl _) ⟨_, rfl, rfl, h⟩
set_option maxRecDepth 100000 in
set_option maxHeartbeats 4000000 in
theorem gX10_bound_0 {G : GE} {d : Nat} {K : Int → Mem → Prop} {M : Mem} {v1 : Int}  (h : CalI G miX10_isHalf d [.inl v1] M (fun x2 M1 => ((x2 = 0 → K (-9223372036854775808) M1) ∧ (¬ x2 = 0 → CalI G miX10_isPriced d [.inr (.inr (some 0))] M1 (fun x4 M3 => ((¬ x4 = 0 → CalL G miX8_lowest d [.inr (.inr (some 34)), .inl 0, .inl v1] M3 (fun x6 M5 => K x6 M5)) ∧ (x4 = 0 → K (-9223372036854775808) M3))))))) : OkL G miX10_bound (d + 1) K 0 [some (.inr (.inr (some 0))), some (.inl v1)] [] M := by
  refine r_iload_n (pc := 0) (tb_at tkX10_bound 0 rfl) rfl rfl ?_
  refine r_invS (mc' := 0) (ms' := 0) [.inl v1] (S := []) (pc := 1) (tb_at tkX10_bound 1 rfl) rfl clX10_233 (Nat.le_of_ble_eq_true rfl) (Nat.le_refl _) (Nat.le_refl _) ?_
  refine Cal.mono h ?_
  rintro _ _ M1 ⟨x2, rfl, rfl, h⟩
  show OkL G miX10_bound (d + 1) K 4 [some (.inr (.inr (some 0))), some (.inl v1)] [.inl x2] M1
  refine q_if_eq (tgt := 14) (pc := 4) (tb_at tkX10_bound 2 rfl) (by decide) (fun c => ?_) (fun c => ?_)
  · replace h := h.1 c
    refine r_ldc2 (n := -9223372036854775808) (pc := 14) (tb_at tkX10_bound 6 rfl) kcX10_259 ⟨by decide, by decide⟩ ?_
    exact r_lret (pc := 17) (tb_at tkX10_bound 7 rfl) rfl (Nat.le_refl _) (Nat.le_refl _) ⟨_, rfl, rfl, h⟩
  · replace h := h.2 c
    refine r_aload_n (pc := 7) (tb_at tkX10_bound 3 rfl) rfl rfl ?_
    refine r_invV (mc' := 0) (ms' := 0) [] (S := []) (pc := 8) (tb_at tkX10_bound 4 rfl) rfl ly_0 rfl rfl clX10_256 (Nat.le_of_ble_eq_true rfl) (Nat.le_refl _) (Nat.le_refl _) ?_
    refine Cal.mono h ?_
    rintro _ _ M3 ⟨x4, rfl, rfl, h⟩
    show OkL G miX10_bound (d + 1) K 11 [some (.inr (.inr (some 0))), some (.inl v1)] [.inl x4] M3
    refine q_if_ne (tgt := 18) (pc := 11) (tb_at tkX10_bound 5 rfl) (by decide) (fun c => ?_) (fun c => ?_)
    · replace h := h.1 c
      refine r_aload_n (pc := 18) (tb_at tkX10_bound 8 rfl) rfl rfl ?_
      refine r_get 9 4 (pc := 19) (tb_at tkX10_bound 9 rfl) ly_0 flX10_42 rfl ?_
      refine r_iconst (pc := 22) (tb_at tkX10_bound 10 rfl) ⟨by decide, by decide⟩ ?_
      refine r_iload_n (pc := 23) (tb_at tkX10_bound 11 rfl) rfl rfl ?_
      refine r_invV (mc' := 0) (ms' := 0) [.inl 0, .inl v1] (S := []) (pc := 24) (tb_at tkX10_bound 12 rfl) rfl ly_34 rfl rfl clX10_261 (Nat.le_of_ble_eq_true rfl) (Nat.le_refl _) (Nat.le_refl _) ?_
      refine Cal.mono h ?_
      rintro _ _ M5 ⟨x6, rfl, rfl, h⟩
      show OkL G miX10_bound (d + 1) K 27 [some (.inr (.inr (some 0))), some (.inl v1)] [.inr (.inl x6)] M5
      exact r_lret (pc := 27) (tb_at tkX10_bound 13 rfl) rfl (Nat.le_refl _) (Nat.le_refl _) ⟨_, rfl, rfl, h⟩
    · replace h := h.2 c
      refine r_ldc2 (n := -9223372036854775808) (pc := 14) (tb_at tkX10_bound 6 rfl) kcX10_259 ⟨by decide, by decide⟩ ?_
      exact r_lret (pc := 17) (tb_at tkX10_bound 7 rfl) rfl (Nat.le_refl _) (Nat.le_refl _) ⟨_, rfl, rfl, h⟩
set_option maxRecDepth 100000 in
set_option maxHeartbeats 4000000 in
theorem gX10_price_0 {G : GE} {d : Nat} {K : Int → Mem → Prop} {M : Mem} {v1 v2 : Int}  (h : CalI G miX5_hasFlight d [.inr (.inr (some 1)), .inl v1] M (fun x2 M1 => ((x2 = 0 → K (-9223372036854775808) M1) ∧ (¬ x2 = 0 → CalI G miX10_isHalf d [.inl v2] M1 (fun x4 M3 => ((x4 = 0 → K (-9223372036854775808) M3) ∧ (¬ x4 = 0 → CalI G miX10_isPriced d [.inr (.inr (some 0))] M3 (fun x6 M5 => ((¬ x6 = 0 → CalL G miX8_lowest d [.inr (.inr (some 34)), .inl (w32 (1 + v1)), .inl v2] M5 (fun x8 M7 => K x8 M7)) ∧ (x6 = 0 → K (-9223372036854775808) M5)))))))))) : OkL G miX10_price (d + 1) K 0 [some (.inr (.inr (some 0))), some (.inl v1), some (.inl v2)] [] M := by
  refine r_aload_n (pc := 0) (tb_at tkX10_price 0 rfl) rfl rfl ?_
  refine r_get 9 0 (pc := 1) (tb_at tkX10_price 1 rfl) ly_0 flX10_14 rfl ?_
  refine r_iload_n (pc := 4) (tb_at tkX10_price 2 rfl) rfl rfl ?_
  refine r_invV (mc' := 0) (ms' := 0) [.inl v1] (S := []) (pc := 5) (tb_at tkX10_price 3 rfl) rfl ly_1 rfl rfl clX10_116 (Nat.le_of_ble_eq_true rfl) (Nat.le_refl _) (Nat.le_refl _) ?_
  refine Cal.mono h ?_
  rintro _ _ M1 ⟨x2, rfl, rfl, h⟩
  show OkL G miX10_price (d + 1) K 8 [some (.inr (.inr (some 0))), some (.inl v1), some (.inl v2)] [.inl x2] M1
  refine q_if_eq (tgt := 25) (pc := 8) (tb_at tkX10_price 4 rfl) (by decide) (fun c => ?_) (fun c => ?_)
  · replace h := h.1 c
    refine r_ldc2 (n := -9223372036854775808) (pc := 25) (tb_at tkX10_price 11 rfl) kcX10_259 ⟨by decide, by decide⟩ ?_
    exact r_lret (pc := 28) (tb_at tkX10_price 12 rfl) rfl (Nat.le_refl _) (Nat.le_refl _) ⟨_, rfl, rfl, h⟩
  · replace h := h.2 c
    refine r_iload_n (pc := 11) (tb_at tkX10_price 5 rfl) rfl rfl ?_
    refine r_invS (mc' := 0) (ms' := 0) [.inl v2] (S := []) (pc := 12) (tb_at tkX10_price 6 rfl) rfl clX10_233 (Nat.le_of_ble_eq_true rfl) (Nat.le_refl _) (Nat.le_refl _) ?_
    refine Cal.mono h ?_
    rintro _ _ M3 ⟨x4, rfl, rfl, h⟩
    show OkL G miX10_price (d + 1) K 15 [some (.inr (.inr (some 0))), some (.inl v1), some (.inl v2)] [.inl x4] M3
    refine q_if_eq (tgt := 25) (pc := 15) (tb_at tkX10_price 7 rfl) (by decide) (fun c => ?_) (fun c => ?_)
    · replace h := h.1 c
      refine r_ldc2 (n := -9223372036854775808) (pc := 25) (tb_at tkX10_price 11 rfl) kcX10_259 ⟨by decide, by decide⟩ ?_
      exact r_lret (pc := 28) (tb_at tkX10_price 12 rfl) rfl (Nat.le_refl _) (Nat.le_refl _) ⟨_, rfl, rfl, h⟩
    · replace h := h.2 c
      refine r_aload_n (pc := 18) (tb_at tkX10_price 8 rfl) rfl rfl ?_
      refine r_invV (mc' := 0) (ms' := 0) [] (S := []) (pc := 19) (tb_at tkX10_price 9 rfl) rfl ly_0 rfl rfl clX10_256 (Nat.le_of_ble_eq_true rfl) (Nat.le_refl _) (Nat.le_refl _) ?_
      refine Cal.mono h ?_
      rintro _ _ M5 ⟨x6, rfl, rfl, h⟩
      show OkL G miX10_price (d + 1) K 22 [some (.inr (.inr (some 0))), some (.inl v1), some (.inl v2)] [.inl x6] M5
      refine q_if_ne (tgt := 29) (pc := 22) (tb_at tkX10_price 10 rfl) (by decide) (fun c => ?_) (fun c => ?_)
      · replace h := h.1 c
        refine r_aload_n (pc := 29) (tb_at tkX10_price 13 rfl) rfl rfl ?_
        refine r_get 9 4 (pc := 30) (tb_at tkX10_price 14 rfl) ly_0 flX10_42 rfl ?_
        refine r_iconst (pc := 33) (tb_at tkX10_price 15 rfl) ⟨by decide, by decide⟩ ?_
        refine r_iload_n (pc := 34) (tb_at tkX10_price 16 rfl) rfl rfl ?_
        refine r_iadd (pc := 35) (tb_at tkX10_price 17 rfl) ?_
        refine r_iload_n (pc := 36) (tb_at tkX10_price 18 rfl) rfl rfl ?_
        refine r_invV (mc' := 0) (ms' := 0) [.inl (w32 (1 + v1)), .inl v2] (S := []) (pc := 37) (tb_at tkX10_price 19 rfl) rfl ly_34 rfl rfl clX10_261 (Nat.le_of_ble_eq_true rfl) (Nat.le_refl _) (Nat.le_refl _) ?_
        refine Cal.mono h ?_
        rintro _ _ M7 ⟨x8, rfl, rfl, h⟩
        show OkL G miX10_price (d + 1) K 40 [some (.inr (.inr (some 0))), some (.inl v1), some (.inl v2)] [.inr (.inl x8)] M7
        exact r_lret (pc := 40) (tb_at tkX10_price 20 rfl) rfl (Nat.le_refl _) (Nat.le_refl _) ⟨_, rfl, rfl, h⟩
      · replace h := h.2 c
        refine r_ldc2 (n := -9223372036854775808) (pc := 25) (tb_at tkX10_price 11 rfl) kcX10_259 ⟨by decide, by decide⟩ ?_
        exact r_lret (pc := 28) (tb_at tkX10_price 12 rfl) rfl (Nat.le_refl _) (Nat.le_refl _) ⟨_, rfl, rfl, h⟩
set_option maxRecDepth 100000 in
set_option maxHeartbeats 4000000 in
theorem gX10_branch_0 {G : GE} {d : Nat} {K : Int → Mem → Prop} {M : Mem} {v1 v2 v3 v4 : Int}  (h : CalI G miX5_areTwo d [.inr (.inr (some 1)), .inl v1, .inl v2] M (fun x2 M1 => ((x2 = 0 → K (-9223372036854775808) M1) ∧ (¬ x2 = 0 → ((v3 < 1 → K (-9223372036854775808) M1) ∧ (1 ≤ v3 → ((2 < v3 → K (-9223372036854775808) M1) ∧ (v3 ≤ 2 → CalI G miX10_isHalf d [.inl v4] M1 (fun x4 M3 => ((¬ x4 = 0 → CalV G miX10_refresh d [.inr (.inr (some 0))] M3 (fun M5 => CalI G miX0_hasBoundWith d [.inr (.inr (some 38)), .inl v1, .inl v2, .inl v3] (mup M5 0 14 (-1)) (fun x7 M6 => ((x7 = 0 → K (-9223372036854775808) M6) ∧ (¬ x7 = 0 → CalL G miX8_lowest d [.inr (.inr (some 34)), .inl 0, .inl v4] M6 (fun x9 M8 => K x9 M8)))))) ∧ (x4 = 0 → K (-9223372036854775808) M3))))))))))) : OkL G miX10_branch (d + 1) K 0 [some (.inr (.inr (some 0))), some (.inl v1), some (.inl v2), some (.inl v3), some (.inl v4)] [] M := by
  refine r_aload_n (pc := 0) (tb_at tkX10_branch 0 rfl) rfl rfl ?_
  refine r_get 9 0 (pc := 1) (tb_at tkX10_branch 1 rfl) ly_0 flX10_14 rfl ?_
  refine r_iload_n (pc := 4) (tb_at tkX10_branch 2 rfl) rfl rfl ?_
  refine r_iload_n (pc := 5) (tb_at tkX10_branch 3 rfl) rfl rfl ?_
  refine r_invV (mc' := 0) (ms' := 0) [.inl v1, .inl v2] (S := []) (pc := 6) (tb_at tkX10_branch 4 rfl) rfl ly_1 rfl rfl clX10_196 (Nat.le_of_ble_eq_true rfl) (Nat.le_refl _) (Nat.le_refl _) ?_
  refine Cal.mono h ?_
  rintro _ _ M1 ⟨x2, rfl, rfl, h⟩
  show OkL G miX10_branch (d + 1) K 9 [some (.inr (.inr (some 0))), some (.inl v1), some (.inl v2), some (.inl v3), some (.inl v4)] [.inl x2] M1
  refine q_if_eq (tgt := 30) (pc := 9) (tb_at tkX10_branch 5 rfl) (by decide) (fun c => ?_) (fun c => ?_)
  · replace h := h.1 c
    refine r_ldc2 (n := -9223372036854775808) (pc := 30) (tb_at tkX10_branch 15 rfl) kcX10_259 ⟨by decide, by decide⟩ ?_
    exact r_lret (pc := 33) (tb_at tkX10_branch 16 rfl) rfl (Nat.le_refl _) (Nat.le_refl _) ⟨_, rfl, rfl, h⟩
  · replace h := h.2 c
    refine r_iload_n (pc := 12) (tb_at tkX10_branch 6 rfl) rfl rfl ?_
    refine r_iconst (pc := 13) (tb_at tkX10_branch 7 rfl) ⟨by decide, by decide⟩ ?_
    refine q_icmp_lt (tgt := 30) (pc := 14) (tb_at tkX10_branch 8 rfl) (by decide) (fun c => ?_) (fun c => ?_)
    · replace h := h.1 c
      refine r_ldc2 (n := -9223372036854775808) (pc := 30) (tb_at tkX10_branch 15 rfl) kcX10_259 ⟨by decide, by decide⟩ ?_
      exact r_lret (pc := 33) (tb_at tkX10_branch 16 rfl) rfl (Nat.le_refl _) (Nat.le_refl _) ⟨_, rfl, rfl, h⟩
    · replace h := h.2 c
      refine r_iload_n (pc := 17) (tb_at tkX10_branch 9 rfl) rfl rfl ?_
      refine r_iconst (pc := 18) (tb_at tkX10_branch 10 rfl) ⟨by decide, by decide⟩ ?_
      refine q_icmp_gt (tgt := 30) (pc := 19) (tb_at tkX10_branch 11 rfl) (by decide) (fun c => ?_) (fun c => ?_)
      · replace h := h.1 c
        refine r_ldc2 (n := -9223372036854775808) (pc := 30) (tb_at tkX10_branch 15 rfl) kcX10_259 ⟨by decide, by decide⟩ ?_
        exact r_lret (pc := 33) (tb_at tkX10_branch 16 rfl) rfl (Nat.le_refl _) (Nat.le_refl _) ⟨_, rfl, rfl, h⟩
      · replace h := h.2 c
        refine r_iload (pc := 22) (tb_at tkX10_branch 12 rfl) rfl ?_
        refine r_invS (mc' := 0) (ms' := 0) [.inl v4] (S := []) (pc := 24) (tb_at tkX10_branch 13 rfl) rfl clX10_233 (Nat.le_of_ble_eq_true rfl) (Nat.le_refl _) (Nat.le_refl _) ?_
        refine Cal.mono h ?_
        rintro _ _ M3 ⟨x4, rfl, rfl, h⟩
        show OkL G miX10_branch (d + 1) K 27 [some (.inr (.inr (some 0))), some (.inl v1), some (.inl v2), some (.inl v3), some (.inl v4)] [.inl x4] M3
        refine q_if_ne (tgt := 34) (pc := 27) (tb_at tkX10_branch 14 rfl) (by decide) (fun c => ?_) (fun c => ?_)
        · replace h := h.1 c
          refine r_aload_n (pc := 34) (tb_at tkX10_branch 17 rfl) rfl rfl ?_
          refine r_invV (mc' := 0) (ms' := 0) [] (S := []) (pc := 35) (tb_at tkX10_branch 18 rfl) rfl ly_0 rfl rfl clX10_119 (Nat.le_of_ble_eq_true rfl) (Nat.le_refl _) (Nat.le_refl _) ?_
          refine Cal.mono h ?_
          rintro _ _ M5 ⟨rfl, rfl, h⟩
          show OkL G miX10_branch (d + 1) K 38 [some (.inr (.inr (some 0))), some (.inl v1), some (.inl v2), some (.inl v3), some (.inl v4)] [] M5
          refine r_aload_n (pc := 38) (tb_at tkX10_branch 19 rfl) rfl rfl ?_
          refine r_iconst (pc := 39) (tb_at tkX10_branch 20 rfl) ⟨by decide, by decide⟩ ?_
          refine r_put 9 14 (-1) (pc := 40) (tb_at tkX10_branch 21 rfl) ly_0 flX10_91 (fun r h => by cases h; rfl) (.inl rfl) rfl (fun h => by cases h) rfl ?_
          refine r_aload_n (pc := 43) (tb_at tkX10_branch 22 rfl) rfl rfl ?_
          refine r_get 9 5 (pc := 44) (tb_at tkX10_branch 23 rfl) ly_0 flX10_51 rfl ?_
          refine r_iload_n (pc := 47) (tb_at tkX10_branch 24 rfl) rfl rfl ?_
          refine r_iload_n (pc := 48) (tb_at tkX10_branch 25 rfl) rfl rfl ?_
          refine r_iload_n (pc := 49) (tb_at tkX10_branch 26 rfl) rfl rfl ?_
          refine r_invV (mc' := 0) (ms' := 0) [.inl v1, .inl v2, .inl v3] (S := []) (pc := 50) (tb_at tkX10_branch 27 rfl) rfl ly_38 rfl rfl clX10_265 (Nat.le_of_ble_eq_true rfl) (Nat.le_refl _) (Nat.le_refl _) ?_
          refine Cal.mono h ?_
          rintro _ _ M6 ⟨x7, rfl, rfl, h⟩
          show OkL G miX10_branch (d + 1) K 53 [some (.inr (.inr (some 0))), some (.inl v1), some (.inl v2), some (.inl v3), some (.inl v4)] [.inl x7] M6
          refine q_if_eq (tgt := 69) (pc := 53) (tb_at tkX10_branch 28 rfl) (by decide) (fun c => ?_) (fun c => ?_)
          · replace h := h.1 c
            refine r_ldc2 (n := -9223372036854775808) (pc := 69) (tb_at tkX10_branch 35 rfl) kcX10_259 ⟨by decide, by decide⟩ ?_
            exact r_lret (pc := 72) (tb_at tkX10_branch 36 rfl) rfl (Nat.le_refl _) (Nat.le_refl _) ⟨_, rfl, rfl, h⟩
          · replace h := h.2 c
            refine r_aload_n (pc := 56) (tb_at tkX10_branch 29 rfl) rfl rfl ?_
            refine r_get 9 4 (pc := 57) (tb_at tkX10_branch 30 rfl) ly_0 flX10_42 rfl ?_
            refine r_iconst (pc := 60) (tb_at tkX10_branch 31 rfl) ⟨by decide, by decide⟩ ?_
            refine r_iload (pc := 61) (tb_at tkX10_branch 32 rfl) rfl ?_
            refine r_invV (mc' := 0) (ms' := 0) [.inl 0, .inl v4] (S := []) (pc := 63) (tb_at tkX10_branch 33 rfl) rfl ly_34 rfl rfl clX10_261 (Nat.le_of_ble_eq_true rfl) (Nat.le_refl _) (Nat.le_refl _) ?_
            refine Cal.mono h ?_
            rintro _ _ M8 ⟨x9, rfl, rfl, h⟩
            show OkL G miX10_branch (d + 1) K 66 [some (.inr (.inr (some 0))), some (.inl v1), some (.inl v2), some (.inl v3), some (.inl v4)] [.inr (.inl x9)] M8
            refine r_goto (tgt := 72) (pc := 66) (tb_at tkX10_branch 34 rfl) (by decide) ?_
            exact r_lret (pc := 72) (tb_at tkX10_branch 36 rfl) rfl (Nat.le_refl _) (Nat.le_refl _) ⟨_, rfl, rfl, h⟩
        · replace h := h.2 c
          refine r_ldc2 (n := -9223372036854775808) (pc := 30) (tb_at tkX10_branch 15 rfl) kcX10_259 ⟨by decide, by decide⟩ ?_
          exact r_lret (pc := 33) (tb_at tkX10_branch 16 rfl) rfl (Nat.le_refl _) (Nat.le_refl _) ⟨_, rfl, rfl, h⟩
set_option maxRecDepth 100000 in
set_option maxHeartbeats 4000000 in
theorem gX10_tree_0 {G : GE} {d : Nat} {K : Int → Mem → Prop} {M : Mem} {v1 : Int}  (h : CalI G miX10_isHalf d [.inl v1] M (fun x2 M1 => ((¬ x2 = 0 → CalV G miX10_refresh d [.inr (.inr (some 0))] M1 (fun M3 => (((M3 0 15) = (M3 1 10) → OkI G miX10_tree (d + 1) K 51 [some (.inr (.inr (some 0))), some (.inl v1)] [] M3) ∧ (¬ (M3 0 15) = (M3 1 10) → CalV G miX0_grow d [.inr (.inr (some 38))] (mup M3 0 14 (-1)) (fun M4 => OkI G miX10_tree (d + 1) K 51 [some (.inr (.inr (some 0))), some (.inl v1)] [] (mup M4 0 15 (M4 1 10))))))) ∧ (x2 = 0 → K (-2) M1)))) : OkI G miX10_tree (d + 1) K 0 [some (.inr (.inr (some 0))), some (.inl v1)] [] M := by
  refine r_iload_n (pc := 0) (tb_at tkX10_tree 0 rfl) rfl rfl ?_
  refine r_invS (mc' := 0) (ms' := 0) [.inl v1] (S := []) (pc := 1) (tb_at tkX10_tree 1 rfl) rfl clX10_233 (Nat.le_of_ble_eq_true rfl) (Nat.le_refl _) (Nat.le_refl _) ?_
  refine Cal.mono h ?_
  rintro _ _ M1 ⟨x2, rfl, rfl, h⟩
  show OkI G miX10_tree (d + 1) K 4 [some (.inr (.inr (some 0))), some (.inl v1)] [.inl x2] M1
  refine q_if_ne (tgt := 10) (pc := 4) (tb_at tkX10_tree 2 rfl) (by decide) (fun c => ?_) (fun c => ?_)
  · replace h := h.1 c
    refine r_aload_n (pc := 10) (tb_at tkX10_tree 5 rfl) rfl rfl ?_
    refine r_invV (mc' := 0) (ms' := 0) [] (S := []) (pc := 11) (tb_at tkX10_tree 6 rfl) rfl ly_0 rfl rfl clX10_119 (Nat.le_of_ble_eq_true rfl) (Nat.le_refl _) (Nat.le_refl _) ?_
    refine Cal.mono h ?_
    rintro _ _ M3 ⟨rfl, rfl, h⟩
    show OkI G miX10_tree (d + 1) K 14 [some (.inr (.inr (some 0))), some (.inl v1)] [] M3
    refine r_aload_n (pc := 14) (tb_at tkX10_tree 7 rfl) rfl rfl ?_
    refine r_get 9 15 (pc := 15) (tb_at tkX10_tree 8 rfl) ly_0 flX10_94 rfl ?_
    refine r_aload_n (pc := 18) (tb_at tkX10_tree 9 rfl) rfl rfl ?_
    refine r_get 9 0 (pc := 19) (tb_at tkX10_tree 10 rfl) ly_0 flX10_14 rfl ?_
    refine r_get 5 10 (pc := 22) (tb_at tkX10_tree 11 rfl) ly_1 flX10_269 rfl ?_
    refine q_icmp_eq (tgt := 51) (pc := 25) (tb_at tkX10_tree 12 rfl) (by decide) (fun c => ?_) (fun c => ?_)
    · replace h := h.1 c
      exact h
    · replace h := h.2 c
      refine r_aload_n (pc := 28) (tb_at tkX10_tree 13 rfl) rfl rfl ?_
      refine r_iconst (pc := 29) (tb_at tkX10_tree 14 rfl) ⟨by decide, by decide⟩ ?_
      refine r_put 9 14 (-1) (pc := 30) (tb_at tkX10_tree 15 rfl) ly_0 flX10_91 (fun r h => by cases h; rfl) (.inl rfl) rfl (fun h => by cases h) rfl ?_
      refine r_aload_n (pc := 33) (tb_at tkX10_tree 16 rfl) rfl rfl ?_
      refine r_get 9 5 (pc := 34) (tb_at tkX10_tree 17 rfl) ly_0 flX10_51 rfl ?_
      refine r_invV (mc' := 0) (ms' := 0) [] (S := []) (pc := 37) (tb_at tkX10_tree 18 rfl) rfl ly_38 rfl rfl clX10_272 (Nat.le_of_ble_eq_true rfl) (Nat.le_refl _) (Nat.le_refl _) ?_
      refine Cal.mono h ?_
      rintro _ _ M4 ⟨rfl, rfl, h⟩
      show OkI G miX10_tree (d + 1) K 40 [some (.inr (.inr (some 0))), some (.inl v1)] [] M4
      refine r_aload_n (pc := 40) (tb_at tkX10_tree 19 rfl) rfl rfl ?_
      refine r_aload_n (pc := 41) (tb_at tkX10_tree 20 rfl) rfl rfl ?_
      refine r_get 9 0 (pc := 42) (tb_at tkX10_tree 21 rfl) ly_0 flX10_14 rfl ?_
      refine r_get 5 10 (pc := 45) (tb_at tkX10_tree 22 rfl) ly_1 flX10_269 rfl ?_
      refine r_put 9 15 (M4 1 10) (pc := 48) (tb_at tkX10_tree 23 rfl) ly_0 flX10_94 (fun r h => by cases h; rfl) (.inl rfl) rfl (fun h => by cases h) rfl ?_
      exact h
  · replace h := h.2 c
    refine r_bipush (pc := 7) (tb_at tkX10_tree 3 rfl) ⟨by decide, by decide, by decide⟩ ?_
    exact r_iret (pc := 9) (tb_at tkX10_tree 4 rfl) rfl (Nat.le_refl _) (Nat.le_refl _) ⟨_, rfl, rfl, h⟩
set_option maxRecDepth 100000 in
set_option maxHeartbeats 4000000 in
theorem gX10_tree_51 {G : GE} {d : Nat} {K : Int → Mem → Prop} {M : Mem} {v1 : Int}  (h : CalI G miX0_isDear d [.inr (.inr (some 38))] M (fun x2 M1 => ((x2 = 0 → ((¬ v1 = 0 → K (M1 38 5) M1) ∧ (v1 = 0 → K (M1 38 4) M1))) ∧ (¬ x2 = 0 → K (-5) M1)))) : OkI G miX10_tree (d + 1) K 51 [some (.inr (.inr (some 0))), some (.inl v1)] [] M := by
  refine r_aload_n (pc := 51) (tb_at tkX10_tree 24 rfl) rfl rfl ?_
  refine r_get 9 5 (pc := 52) (tb_at tkX10_tree 25 rfl) ly_0 flX10_51 rfl ?_
  refine r_invV (mc' := 0) (ms' := 0) [] (S := []) (pc := 55) (tb_at tkX10_tree 26 rfl) rfl ly_38 rfl rfl clX10_275 (Nat.le_of_ble_eq_true rfl) (Nat.le_refl _) (Nat.le_refl _) ?_
  refine Cal.mono h ?_
  rintro _ _ M1 ⟨x2, rfl, rfl, h⟩
  show OkI G miX10_tree (d + 1) K 58 [some (.inr (.inr (some 0))), some (.inl v1)] [.inl x2] M1
  refine q_if_eq (tgt := 64) (pc := 58) (tb_at tkX10_tree 27 rfl) (by decide) (fun c => ?_) (fun c => ?_)
  · replace h := h.1 c
    refine r_iload_n (pc := 64) (tb_at tkX10_tree 30 rfl) rfl rfl ?_
    refine q_if_ne (tgt := 78) (pc := 65) (tb_at tkX10_tree 31 rfl) (by decide) (fun c => ?_) (fun c => ?_)
    · replace h := h.1 c
      refine r_aload_n (pc := 78) (tb_at tkX10_tree 36 rfl) rfl rfl ?_
      refine r_get 9 5 (pc := 79) (tb_at tkX10_tree 37 rfl) ly_0 flX10_51 rfl ?_
      refine r_get 0 5 (pc := 82) (tb_at tkX10_tree 38 rfl) ly_38 flX10_281 rfl ?_
      exact r_iret (pc := 85) (tb_at tkX10_tree 39 rfl) rfl (Nat.le_refl _) (Nat.le_refl _) ⟨_, rfl, rfl, h⟩
    · replace h := h.2 c
      refine r_aload_n (pc := 68) (tb_at tkX10_tree 32 rfl) rfl rfl ?_
      refine r_get 9 5 (pc := 69) (tb_at tkX10_tree 33 rfl) ly_0 flX10_51 rfl ?_
      refine r_get 0 4 (pc := 72) (tb_at tkX10_tree 34 rfl) ly_38 flX10_278 rfl ?_
      refine r_goto (tgt := 85) (pc := 75) (tb_at tkX10_tree 35 rfl) (by decide) ?_
      exact r_iret (pc := 85) (tb_at tkX10_tree 39 rfl) rfl (Nat.le_refl _) (Nat.le_refl _) ⟨_, rfl, rfl, h⟩
  · replace h := h.2 c
    refine r_bipush (pc := 61) (tb_at tkX10_tree 28 rfl) ⟨by decide, by decide, by decide⟩ ?_
    exact r_iret (pc := 63) (tb_at tkX10_tree 29 rfl) rfl (Nat.le_refl _) (Nat.le_refl _) ⟨_, rfl, rfl, h⟩
set_option maxRecDepth 100000 in
set_option maxHeartbeats 4000000 in
theorem gX10_proves_0 {G : GE} {d : Nat} {K : Int → Mem → Prop} {M : Mem} {v1 v2 v3 : Int}  (h : CalI G miX7_isSheet d [.inr (.inr (some 61)), .inl v1] M (fun x2 M1 => ((x2 = 0 → K (-2) M1) ∧ (¬ x2 = 0 → ((v2 < 1 → K (-2) M1) ∧ (1 ≤ v2 → ((99 < v2 → K (-2) M1) ∧ (v2 ≤ 99 → CalI G miX10_isHalf d [.inl v3] M1 (fun x4 M3 => ((¬ x4 = 0 → CalI G miX10_takePrices d [.inr (.inr (some 0)), .inl v1, .inr (.inl 0)] M3 (fun x6 M5 => ((x6 = 0 → CalV G miX10_refresh d [.inr (.inr (some 0))] M5 (fun M7 => CalI G miX1_firstUnfair d [.inr (.inr (some 28)), .inr (.inr (some 65)), .inl v2] M7 (fun x9 M8 => ((¬ v3 = 0 → ((¬ x9 = (-1) → OkI G miX10_proves (d + 1) K 106 [none, none, none, none, none, none, none] [] M8) ∧ (x9 = (-1) → CalI G miX10_isPriced d [.inr (.inr (some 0))] M8 (fun x11 M10 => ((x11 = 0 → OkI G miX10_proves (d + 1) K 106 [none, none, none, none, none, none, none] [] M10) ∧ (¬ x11 = 0 → CalL G miX10_sumOfTold d [.inr (.inr (some 0))] M10 (fun x13 M12 => CalI G miX8_boundIs d [.inr (.inr (some 34)), .inr (.inl x13), .inr (.inl v2)] M12 (fun x15 M14 => (((x15 = 0) → K 0 M14) ∧ (¬ (x15 = 0) → K 1 M14)))))))))) ∧ (v3 = 0 → K x9 M8))))) ∧ (¬ x6 = 0 → K x6 M5)))) ∧ (x4 = 0 → K (-2) M3))))))))))) : OkI G miX10_proves (d + 1) K 0 [some (.inr (.inr (some 0))), some (.inl v1), some (.inl v2), some (.inl v3), none, none, none] [] M := by
  refine r_aload_n (pc := 0) (tb_at tkX10_proves 0 rfl) rfl rfl ?_
  refine r_get 9 9 (pc := 1) (tb_at tkX10_proves 1 rfl) ly_0 flX10_79 rfl ?_
  refine r_iload_n (pc := 4) (tb_at tkX10_proves 2 rfl) rfl rfl ?_
  refine r_invV (mc' := 0) (ms' := 0) [.inl v1] (S := []) (pc := 5) (tb_at tkX10_proves 3 rfl) rfl ly_61 rfl rfl clX10_284 (Nat.le_of_ble_eq_true rfl) (Nat.le_refl _) (Nat.le_refl _) ?_
  refine Cal.mono h ?_
  rintro _ _ M1 ⟨x2, rfl, rfl, h⟩
  show OkI G miX10_proves (d + 1) K 8 [some (.inr (.inr (some 0))), some (.inl v1), some (.inl v2), some (.inl v3), none, none, none] [.inl x2] M1
  refine q_if_eq (tgt := 29) (pc := 8) (tb_at tkX10_proves 4 rfl) (by decide) (fun c => ?_) (fun c => ?_)
  · replace h := h.1 c
    refine r_bipush (pc := 29) (tb_at tkX10_proves 14 rfl) ⟨by decide, by decide, by decide⟩ ?_
    exact r_iret (pc := 31) (tb_at tkX10_proves 15 rfl) rfl (Nat.le_refl _) (Nat.le_refl _) ⟨_, rfl, rfl, h⟩
  · replace h := h.2 c
    refine r_iload_n (pc := 11) (tb_at tkX10_proves 5 rfl) rfl rfl ?_
    refine r_iconst (pc := 12) (tb_at tkX10_proves 6 rfl) ⟨by decide, by decide⟩ ?_
    refine q_icmp_lt (tgt := 29) (pc := 13) (tb_at tkX10_proves 7 rfl) (by decide) (fun c => ?_) (fun c => ?_)
    · replace h := h.1 c
      refine r_bipush (pc := 29) (tb_at tkX10_proves 14 rfl) ⟨by decide, by decide, by decide⟩ ?_
      exact r_iret (pc := 31) (tb_at tkX10_proves 15 rfl) rfl (Nat.le_refl _) (Nat.le_refl _) ⟨_, rfl, rfl, h⟩
    · replace h := h.2 c
      refine r_iload_n (pc := 16) (tb_at tkX10_proves 8 rfl) rfl rfl ?_
      refine r_bipush (pc := 17) (tb_at tkX10_proves 9 rfl) ⟨by decide, by decide, by decide⟩ ?_
      refine q_icmp_gt (tgt := 29) (pc := 19) (tb_at tkX10_proves 10 rfl) (by decide) (fun c => ?_) (fun c => ?_)
      · replace h := h.1 c
        refine r_bipush (pc := 29) (tb_at tkX10_proves 14 rfl) ⟨by decide, by decide, by decide⟩ ?_
        exact r_iret (pc := 31) (tb_at tkX10_proves 15 rfl) rfl (Nat.le_refl _) (Nat.le_refl _) ⟨_, rfl, rfl, h⟩
      · replace h := h.2 c
        refine r_iload_n (pc := 22) (tb_at tkX10_proves 11 rfl) rfl rfl ?_
        refine r_invS (mc' := 0) (ms' := 0) [.inl v3] (S := []) (pc := 23) (tb_at tkX10_proves 12 rfl) rfl clX10_233 (Nat.le_of_ble_eq_true rfl) (Nat.le_refl _) (Nat.le_refl _) ?_
        refine Cal.mono h ?_
        rintro _ _ M3 ⟨x4, rfl, rfl, h⟩
        show OkI G miX10_proves (d + 1) K 26 [some (.inr (.inr (some 0))), some (.inl v1), some (.inl v2), some (.inl v3), none, none, none] [.inl x4] M3
        refine q_if_ne (tgt := 32) (pc := 26) (tb_at tkX10_proves 13 rfl) (by decide) (fun c => ?_) (fun c => ?_)
        · replace h := h.1 c
          refine r_aload_n (pc := 32) (tb_at tkX10_proves 16 rfl) rfl rfl ?_
          refine r_iload_n (pc := 33) (tb_at tkX10_proves 17 rfl) rfl rfl ?_
          refine r_lconst (v := 0) (pc := 34) (tb_at tkX10_proves 18 rfl) ⟨by decide, by decide, by decide⟩ ?_
          refine r_invV (mc' := 0) (ms' := 0) [.inl v1, .inr (.inl 0)] (S := []) (pc := 35) (tb_at tkX10_proves 19 rfl) rfl ly_0 rfl rfl clX10_287 (Nat.le_of_ble_eq_true rfl) (Nat.le_refl _) (Nat.le_refl _) ?_
          refine Cal.mono h ?_
          rintro _ _ M5 ⟨x6, rfl, rfl, h⟩
          show OkI G miX10_proves (d + 1) K 38 [some (.inr (.inr (some 0))), some (.inl v1), some (.inl v2), some (.inl v3), none, none, none] [.inl x6] M5
          refine r_istore (L' := [some (.inr (.inr (some 0))), some (.inl v1), some (.inl v2), some (.inl v3), some (.inl x6), none, none]) (pc := 38) (tb_at tkX10_proves 20 rfl) (by decide) rfl ?_
          refine r_iload (pc := 40) (tb_at tkX10_proves 21 rfl) rfl ?_
          refine q_if_eq (tgt := 48) (pc := 42) (tb_at tkX10_proves 22 rfl) (by decide) (fun c => ?_) (fun c => ?_)
          · replace h := h.1 c
            refine r_aload_n (pc := 48) (tb_at tkX10_proves 25 rfl) rfl rfl ?_
            refine r_invV (mc' := 0) (ms' := 0) [] (S := []) (pc := 49) (tb_at tkX10_proves 26 rfl) rfl ly_0 rfl rfl clX10_119 (Nat.le_of_ble_eq_true rfl) (Nat.le_refl _) (Nat.le_refl _) ?_
            refine Cal.mono h ?_
            rintro _ _ M7 ⟨rfl, rfl, h⟩
            show OkI G miX10_proves (d + 1) K 52 [some (.inr (.inr (some 0))), some (.inl v1), some (.inl v2), some (.inl v3), some (.inl x6), none, none] [] M7
            refine r_aload_n (pc := 52) (tb_at tkX10_proves 27 rfl) rfl rfl ?_
            refine r_get 9 3 (pc := 53) (tb_at tkX10_proves 28 rfl) ly_0 flX10_35 rfl ?_
            refine r_aload_n (pc := 56) (tb_at tkX10_proves 29 rfl) rfl rfl ?_
            refine r_get 9 10 (pc := 57) (tb_at tkX10_proves 30 rfl) ly_0 flX10_83 rfl ?_
            refine r_iload_n (pc := 60) (tb_at tkX10_proves 31 rfl) rfl rfl ?_
            refine r_invV (mc' := 0) (ms' := 0) [.inr (.inr (some 65)), .inl v2] (S := []) (pc := 61) (tb_at tkX10_proves 32 rfl) rfl ly_28 rfl rfl clX10_291 (Nat.le_of_ble_eq_true rfl) (Nat.le_refl _) (Nat.le_refl _) ?_
            refine Cal.mono h ?_
            rintro _ _ M8 ⟨x9, rfl, rfl, h⟩
            show OkI G miX10_proves (d + 1) K 64 [some (.inr (.inr (some 0))), some (.inl v1), some (.inl v2), some (.inl v3), some (.inl x6), none, none] [.inl x9] M8
            refine r_istore (L' := [some (.inr (.inr (some 0))), some (.inl v1), some (.inl v2), some (.inl v3), some (.inl x6), some (.inl x9), none]) (pc := 64) (tb_at tkX10_proves 33 rfl) (by decide) rfl ?_
            refine r_iload_n (pc := 66) (tb_at tkX10_proves 34 rfl) rfl rfl ?_
            refine q_if_ne (tgt := 73) (pc := 67) (tb_at tkX10_proves 35 rfl) (by decide) (fun c => ?_) (fun c => ?_)
            · replace h := h.1 c
              refine r_iload (pc := 73) (tb_at tkX10_proves 38 rfl) rfl ?_
              refine r_iconst (pc := 75) (tb_at tkX10_proves 39 rfl) ⟨by decide, by decide⟩ ?_
              refine q_icmp_ne (tgt := 106) (pc := 76) (tb_at tkX10_proves 40 rfl) (by decide) (fun c => ?_) (fun c => ?_)
              · replace h := h.1 c
                exact Ok.forget h trivial
              · replace h := h.2 c
                refine r_aload_n (pc := 79) (tb_at tkX10_proves 41 rfl) rfl rfl ?_
                refine r_invV (mc' := 0) (ms' := 0) [] (S := []) (pc := 80) (tb_at tkX10_proves 42 rfl) rfl ly_0 rfl rfl clX10_256 (Nat.le_of_ble_eq_true rfl) (Nat.le_refl _) (Nat.le_refl _) ?_
                refine Cal.mono h ?_
                rintro _ _ M10 ⟨x11, rfl, rfl, h⟩
                show OkI G miX10_proves (d + 1) K 83 [some (.inr (.inr (some 0))), some (.inl v1), some (.inl v2), some (.inl v3), some (.inl x6), some (.inl x9), none] [.inl x11] M10
                refine q_if_eq (tgt := 106) (pc := 83) (tb_at tkX10_proves 43 rfl) (by decide) (fun c => ?_) (fun c => ?_)
                · replace h := h.1 c
                  exact Ok.forget h trivial
                · replace h := h.2 c
                  refine r_aload_n (pc := 86) (tb_at tkX10_proves 44 rfl) rfl rfl ?_
                  refine r_get 9 4 (pc := 87) (tb_at tkX10_proves 45 rfl) ly_0 flX10_42 rfl ?_
                  refine r_aload_n (pc := 90) (tb_at tkX10_proves 46 rfl) rfl rfl ?_
                  refine r_invV (mc' := 0) (ms' := 0) [] (S := [.inr (.inr (some 34))]) (pc := 91) (tb_at tkX10_proves 47 rfl) rfl ly_0 rfl rfl clX10_295 (Nat.le_of_ble_eq_true rfl) (Nat.le_refl _) (Nat.le_refl _) ?_
                  refine Cal.mono h ?_
                  rintro _ _ M12 ⟨x13, rfl, rfl, h⟩
                  show OkI G miX10_proves (d + 1) K 94 [some (.inr (.inr (some 0))), some (.inl v1), some (.inl v2), some (.inl v3), some (.inl x6), some (.inl x9), none] [.inr (.inl x13), .inr (.inr (some 34))] M12
                  refine r_iload_n (pc := 94) (tb_at tkX10_proves 48 rfl) rfl rfl ?_
                  refine r_i2l (pc := 95) (tb_at tkX10_proves 49 rfl) ?_
                  refine r_invV (mc' := 0) (ms' := 0) [.inr (.inl x13), .inr (.inl v2)] (S := []) (pc := 96) (tb_at tkX10_proves 50 rfl) rfl ly_34 rfl rfl clX10_299 (Nat.le_of_ble_eq_true rfl) (Nat.le_refl _) (Nat.le_refl _) ?_
                  refine Cal.mono h ?_
                  rintro _ _ M14 ⟨x15, rfl, rfl, h⟩
                  show OkI G miX10_proves (d + 1) K 99 [some (.inr (.inr (some 0))), some (.inl v1), some (.inl v2), some (.inl v3), some (.inl x6), some (.inl x9), none] [.inl x15] M14
                  have hJ16 : ∀ t0 : Int, t0 = (if ¬ (x15 = 0) then (1 : Int) else 0) → OkI G miX10_proves (d + 1) K 107 [some (.inr (.inr (some 0))), some (.inl v1), some (.inl v2), some (.inl v3), some (.inl x6), some (.inl x9), none] [.inl t0] M14 := by
                    rintro _ rfl
                    refine r_istore (L' := [some (.inr (.inr (some 0))), some (.inl v1), some (.inl v2), some (.inl v3), some (.inl x6), some (.inl x9), some (.inl (if ¬ (x15 = 0) then (1 : Int) else 0))]) (pc := 107) (tb_at tkX10_proves 55 rfl) (by decide) rfl ?_
                    refine r_iload (pc := 109) (tb_at tkX10_proves 56 rfl) rfl ?_
                    refine q_nbif_eq (tgt := 118) (pc := 111) (tb_at tkX10_proves 57 rfl) (by decide) (fun c => ?_) (fun c => ?_)
                    · replace h := h.1 c
                      refine r_iconst (pc := 118) (tb_at tkX10_proves 60 rfl) ⟨by decide, by decide⟩ ?_
                      exact r_iret (pc := 119) (tb_at tkX10_proves 61 rfl) rfl (Nat.le_refl _) (Nat.le_refl _) ⟨_, rfl, rfl, h⟩
                    · replace h := h.2 c
                      refine r_iconst (pc := 114) (tb_at tkX10_proves 58 rfl) ⟨by decide, by decide⟩ ?_
                      refine r_goto (tgt := 119) (pc := 115) (tb_at tkX10_proves 59 rfl) (by decide) ?_
                      exact r_iret (pc := 119) (tb_at tkX10_proves 61 rfl) rfl (Nat.le_refl _) (Nat.le_refl _) ⟨_, rfl, rfl, h⟩
                  refine q_if_eq (tgt := 106) (pc := 99) (tb_at tkX10_proves 51 rfl) (by decide) (fun c17 => ?_) (fun c17 => ?_)
                  · refine r_iconst (pc := 106) (tb_at tkX10_proves 54 rfl) ⟨by decide, by decide⟩ ?_
                    exact hJ16 _ (by simp only [if_neg (not_not_intro c17)])
                  · refine r_iconst (pc := 102) (tb_at tkX10_proves 52 rfl) ⟨by decide, by decide⟩ ?_
                    refine r_goto (tgt := 107) (pc := 103) (tb_at tkX10_proves 53 rfl) (by decide) ?_
                    exact hJ16 _ (by simp only [if_pos c17])
            · replace h := h.2 c
              refine r_iload (pc := 70) (tb_at tkX10_proves 36 rfl) rfl ?_
              exact r_iret (pc := 72) (tb_at tkX10_proves 37 rfl) rfl (Nat.le_refl _) (Nat.le_refl _) ⟨_, rfl, rfl, h⟩
          · replace h := h.2 c
            refine r_iload (pc := 45) (tb_at tkX10_proves 23 rfl) rfl ?_
            exact r_iret (pc := 47) (tb_at tkX10_proves 24 rfl) rfl (Nat.le_refl _) (Nat.le_refl _) ⟨_, rfl, rfl, h⟩
        · replace h := h.2 c
          refine r_bipush (pc := 29) (tb_at tkX10_proves 14 rfl) ⟨by decide, by decide, by decide⟩ ?_
          exact r_iret (pc := 31) (tb_at tkX10_proves 15 rfl) rfl (Nat.le_refl _) (Nat.le_refl _) ⟨_, rfl, rfl, h⟩
set_option maxRecDepth 100000 in
set_option maxHeartbeats 4000000 in
theorem gX10_proves_106 {G : GE} {d : Nat} {K : Int → Mem → Prop} {M : Mem}  (h : (((0 : Int) = 0 → K 0 M) ∧ (¬ (0 : Int) = 0 → K 1 M))) : OkI G miX10_proves (d + 1) K 106 [none, none, none, none, none, none, none] [] M := by
  refine r_iconst (pc := 106) (tb_at tkX10_proves 54 rfl) ⟨by decide, by decide⟩ ?_
  refine r_istore (L' := [none, none, none, none, none, none, some (.inl 0)]) (pc := 107) (tb_at tkX10_proves 55 rfl) (by decide) rfl ?_
  refine r_iload (pc := 109) (tb_at tkX10_proves 56 rfl) rfl ?_
  refine q_if_eq (tgt := 118) (pc := 111) (tb_at tkX10_proves 57 rfl) (by decide) (fun c => ?_) (fun c => ?_)
  · replace h := h.1 c
    refine r_iconst (pc := 118) (tb_at tkX10_proves 60 rfl) ⟨by decide, by decide⟩ ?_
    exact r_iret (pc := 119) (tb_at tkX10_proves 61 rfl) rfl (Nat.le_refl _) (Nat.le_refl _) ⟨_, rfl, rfl, h⟩
  · replace h := h.2 c
    refine r_iconst (pc := 114) (tb_at tkX10_proves 58 rfl) ⟨by decide, by decide⟩ ?_
    refine r_goto (tgt := 119) (pc := 115) (tb_at tkX10_proves 59 rfl) (by decide) ?_
    exact r_iret (pc := 119) (tb_at tkX10_proves 61 rfl) rfl (Nat.le_refl _) (Nat.le_refl _) ⟨_, rfl, rfl, h⟩
set_option maxRecDepth 100000 in
set_option maxHeartbeats 4000000 in
theorem gX10_labels_0 {G : GE} {d : Nat} {K : Int → Mem → Prop} {M : Mem} {v1 v2 : Int}  (h : CalI G miX7_isSheet d [.inr (.inr (some 61)), .inl v1] M (fun x2 M1 => ((x2 = 0 → K (-2) M1) ∧ (¬ x2 = 0 → CalI G miX10_isHalf d [.inl v2] M1 (fun x4 M3 => ((¬ x4 = 0 → CalI G miX10_takePrices d [.inr (.inr (some 0)), .inl v1, .inr (.inl (-999999))] M3 (fun x6 M5 => ((x6 = 0 → CalV G miX10_refresh d [.inr (.inr (some 0))] M5 (fun M7 => CalV G miX3_workOut d [.inr (.inr (some 46)), .inr (.inr (some 65))] M7 (fun M8 => ((¬ v2 = 0 → K (M8 46 10) M8) ∧ (v2 = 0 → CalI G miX3_keptCount d [.inr (.inr (some 46))] M8 (fun x10 M9 => K x10 M9)))))) ∧ (¬ x6 = 0 → K x6 M5)))) ∧ (x4 = 0 → K (-2) M3))))))) : OkI G miX10_labels (d + 1) K 0 [some (.inr (.inr (some 0))), some (.inl v1), some (.inl v2), none] [] M := by
  refine r_aload_n (pc := 0) (tb_at tkX10_labels 0 rfl) rfl rfl ?_
  refine r_get 9 9 (pc := 1) (tb_at tkX10_labels 1 rfl) ly_0 flX10_79 rfl ?_
  refine r_iload_n (pc := 4) (tb_at tkX10_labels 2 rfl) rfl rfl ?_
  refine r_invV (mc' := 0) (ms' := 0) [.inl v1] (S := []) (pc := 5) (tb_at tkX10_labels 3 rfl) rfl ly_61 rfl rfl clX10_284 (Nat.le_of_ble_eq_true rfl) (Nat.le_refl _) (Nat.le_refl _) ?_
  refine Cal.mono h ?_
  rintro _ _ M1 ⟨x2, rfl, rfl, h⟩
  show OkI G miX10_labels (d + 1) K 8 [some (.inr (.inr (some 0))), some (.inl v1), some (.inl v2), none] [.inl x2] M1
  refine q_if_eq (tgt := 18) (pc := 8) (tb_at tkX10_labels 4 rfl) (by decide) (fun c => ?_) (fun c => ?_)
  · replace h := h.1 c
    refine r_bipush (pc := 18) (tb_at tkX10_labels 8 rfl) ⟨by decide, by decide, by decide⟩ ?_
    exact r_iret (pc := 20) (tb_at tkX10_labels 9 rfl) rfl (Nat.le_refl _) (Nat.le_refl _) ⟨_, rfl, rfl, h⟩
  · replace h := h.2 c
    refine r_iload_n (pc := 11) (tb_at tkX10_labels 5 rfl) rfl rfl ?_
    refine r_invS (mc' := 0) (ms' := 0) [.inl v2] (S := []) (pc := 12) (tb_at tkX10_labels 6 rfl) rfl clX10_233 (Nat.le_of_ble_eq_true rfl) (Nat.le_refl _) (Nat.le_refl _) ?_
    refine Cal.mono h ?_
    rintro _ _ M3 ⟨x4, rfl, rfl, h⟩
    show OkI G miX10_labels (d + 1) K 15 [some (.inr (.inr (some 0))), some (.inl v1), some (.inl v2), none] [.inl x4] M3
    refine q_if_ne (tgt := 21) (pc := 15) (tb_at tkX10_labels 7 rfl) (by decide) (fun c => ?_) (fun c => ?_)
    · replace h := h.1 c
      refine r_aload_n (pc := 21) (tb_at tkX10_labels 10 rfl) rfl rfl ?_
      refine r_iload_n (pc := 22) (tb_at tkX10_labels 11 rfl) rfl rfl ?_
      refine r_ldc2 (n := -999999) (pc := 23) (tb_at tkX10_labels 12 rfl) kcX10_303 ⟨by decide, by decide⟩ ?_
      refine r_invV (mc' := 0) (ms' := 0) [.inl v1, .inr (.inl (-999999))] (S := []) (pc := 26) (tb_at tkX10_labels 13 rfl) rfl ly_0 rfl rfl clX10_287 (Nat.le_of_ble_eq_true rfl) (Nat.le_refl _) (Nat.le_refl _) ?_
      refine Cal.mono h ?_
      rintro _ _ M5 ⟨x6, rfl, rfl, h⟩
      show OkI G miX10_labels (d + 1) K 29 [some (.inr (.inr (some 0))), some (.inl v1), some (.inl v2), none] [.inl x6] M5
      refine r_istore_n (L' := [some (.inr (.inr (some 0))), some (.inl v1), some (.inl v2), some (.inl x6)]) (pc := 29) (tb_at tkX10_labels 14 rfl) rfl (by decide) rfl ?_
      refine r_iload_n (pc := 30) (tb_at tkX10_labels 15 rfl) rfl rfl ?_
      refine q_if_eq (tgt := 36) (pc := 31) (tb_at tkX10_labels 16 rfl) (by decide) (fun c => ?_) (fun c => ?_)
      · replace h := h.1 c
        refine r_aload_n (pc := 36) (tb_at tkX10_labels 19 rfl) rfl rfl ?_
        refine r_invV (mc' := 0) (ms' := 0) [] (S := []) (pc := 37) (tb_at tkX10_labels 20 rfl) rfl ly_0 rfl rfl clX10_119 (Nat.le_of_ble_eq_true rfl) (Nat.le_refl _) (Nat.le_refl _) ?_
        refine Cal.mono h ?_
        rintro _ _ M7 ⟨rfl, rfl, h⟩
        show OkI G miX10_labels (d + 1) K 40 [some (.inr (.inr (some 0))), some (.inl v1), some (.inl v2), some (.inl x6)] [] M7
        refine r_aload_n (pc := 40) (tb_at tkX10_labels 21 rfl) rfl rfl ?_
        refine r_get 9 6 (pc := 41) (tb_at tkX10_labels 22 rfl) ly_0 flX10_58 rfl ?_
        refine r_aload_n (pc := 44) (tb_at tkX10_labels 23 rfl) rfl rfl ?_
        refine r_get 9 10 (pc := 45) (tb_at tkX10_labels 24 rfl) ly_0 flX10_83 rfl ?_
        refine r_invV (mc' := 0) (ms' := 0) [.inr (.inr (some 65))] (S := []) (pc := 48) (tb_at tkX10_labels 25 rfl) rfl ly_46 rfl rfl clX10_305 (Nat.le_of_ble_eq_true rfl) (Nat.le_refl _) (Nat.le_refl _) ?_
        refine Cal.mono h ?_
        rintro _ _ M8 ⟨rfl, rfl, h⟩
        show OkI G miX10_labels (d + 1) K 51 [some (.inr (.inr (some 0))), some (.inl v1), some (.inl v2), some (.inl x6)] [] M8
        refine r_iload_n (pc := 51) (tb_at tkX10_labels 26 rfl) rfl rfl ?_
        refine q_if_ne (tgt := 65) (pc := 52) (tb_at tkX10_labels 27 rfl) (by decide) (fun c => ?_) (fun c => ?_)
        · replace h := h.1 c
          refine r_aload_n (pc := 65) (tb_at tkX10_labels 32 rfl) rfl rfl ?_
          refine r_get 9 6 (pc := 66) (tb_at tkX10_labels 33 rfl) ly_0 flX10_58 rfl ?_
          refine r_get 3 10 (pc := 69) (tb_at tkX10_labels 34 rfl) ly_46 flX10_312 rfl ?_
          exact r_iret (pc := 72) (tb_at tkX10_labels 35 rfl) rfl (Nat.le_refl _) (Nat.le_refl _) ⟨_, rfl, rfl, h⟩
        · replace h := h.2 c
          refine r_aload_n (pc := 55) (tb_at tkX10_labels 28 rfl) rfl rfl ?_
          refine r_get 9 6 (pc := 56) (tb_at tkX10_labels 29 rfl) ly_0 flX10_58 rfl ?_
          refine r_invV (mc' := 0) (ms' := 0) [] (S := []) (pc := 59) (tb_at tkX10_labels 30 rfl) rfl ly_46 rfl rfl clX10_309 (Nat.le_of_ble_eq_true rfl) (Nat.le_refl _) (Nat.le_refl _) ?_
          refine Cal.mono h ?_
          rintro _ _ M9 ⟨x10, rfl, rfl, h⟩
          show OkI G miX10_labels (d + 1) K 62 [some (.inr (.inr (some 0))), some (.inl v1), some (.inl v2), some (.inl x6)] [.inl x10] M9
          refine r_goto (tgt := 72) (pc := 62) (tb_at tkX10_labels 31 rfl) (by decide) ?_
          exact r_iret (pc := 72) (tb_at tkX10_labels 35 rfl) rfl (Nat.le_refl _) (Nat.le_refl _) ⟨_, rfl, rfl, h⟩
      · replace h := h.2 c
        refine r_iload_n (pc := 34) (tb_at tkX10_labels 17 rfl) rfl rfl ?_
        exact r_iret (pc := 35) (tb_at tkX10_labels 18 rfl) rfl (Nat.le_refl _) (Nat.le_refl _) ⟨_, rfl, rfl, h⟩
    · replace h := h.2 c
      refine r_bipush (pc := 18) (tb_at tkX10_labels 8 rfl) ⟨by decide, by decide, by decide⟩ ?_
      exact r_iret (pc := 20) (tb_at tkX10_labels 9 rfl) rfl (Nat.le_refl _) (Nat.le_refl _) ⟨_, rfl, rfl, h⟩
set_option maxRecDepth 100000 in
set_option maxHeartbeats 4000000 in
theorem gX10_way_0 {G : GE} {d : Nat} {K : Int → Mem → Prop} {M : Mem} {v1 : Int}  (h : CalI G miX7_isSheet d [.inr (.inr (some 61)), .inl v1] M (fun x2 M1 => ((x2 = 0 → K (-9223372036854775808) M1) ∧ (¬ x2 = 0 → CalI G miX10_takePrices d [.inr (.inr (some 0)), .inl v1, .inr (.inl (-999999))] M1 (fun x4 M3 => ((x4 = 0 → CalV G miX10_refresh d [.inr (.inr (some 0))] M3 (fun M5 => CalV G miX3_workOut d [.inr (.inr (some 46)), .inr (.inr (some 65))] M5 (fun M6 => CalL G miX3_leastHome d [.inr (.inr (some 46))] M6 (fun x8 M7 => K x8 M7)))) ∧ (¬ x4 = 0 → K (-9223372036854775808) M3))))))) : OkL G miX10_way (d + 1) K 0 [some (.inr (.inr (some 0))), some (.inl v1)] [] M := by
  refine r_aload_n (pc := 0) (tb_at tkX10_way 0 rfl) rfl rfl ?_
  refine r_get 9 9 (pc := 1) (tb_at tkX10_way 1 rfl) ly_0 flX10_79 rfl ?_
  refine r_iload_n (pc := 4) (tb_at tkX10_way 2 rfl) rfl rfl ?_
  refine r_invV (mc' := 0) (ms' := 0) [.inl v1] (S := []) (pc := 5) (tb_at tkX10_way 3 rfl) rfl ly_61 rfl rfl clX10_284 (Nat.le_of_ble_eq_true rfl) (Nat.le_refl _) (Nat.le_refl _) ?_
  refine Cal.mono h ?_
  rintro _ _ M1 ⟨x2, rfl, rfl, h⟩
  show OkL G miX10_way (d + 1) K 8 [some (.inr (.inr (some 0))), some (.inl v1)] [.inl x2] M1
  refine q_if_eq (tgt := 22) (pc := 8) (tb_at tkX10_way 4 rfl) (by decide) (fun c => ?_) (fun c => ?_)
  · replace h := h.1 c
    refine r_ldc2 (n := -9223372036854775808) (pc := 22) (tb_at tkX10_way 10 rfl) kcX10_259 ⟨by decide, by decide⟩ ?_
    exact r_lret (pc := 25) (tb_at tkX10_way 11 rfl) rfl (Nat.le_refl _) (Nat.le_refl _) ⟨_, rfl, rfl, h⟩
  · replace h := h.2 c
    refine r_aload_n (pc := 11) (tb_at tkX10_way 5 rfl) rfl rfl ?_
    refine r_iload_n (pc := 12) (tb_at tkX10_way 6 rfl) rfl rfl ?_
    refine r_ldc2 (n := -999999) (pc := 13) (tb_at tkX10_way 7 rfl) kcX10_303 ⟨by decide, by decide⟩ ?_
    refine r_invV (mc' := 0) (ms' := 0) [.inl v1, .inr (.inl (-999999))] (S := []) (pc := 16) (tb_at tkX10_way 8 rfl) rfl ly_0 rfl rfl clX10_287 (Nat.le_of_ble_eq_true rfl) (Nat.le_refl _) (Nat.le_refl _) ?_
    refine Cal.mono h ?_
    rintro _ _ M3 ⟨x4, rfl, rfl, h⟩
    show OkL G miX10_way (d + 1) K 19 [some (.inr (.inr (some 0))), some (.inl v1)] [.inl x4] M3
    refine q_if_eq (tgt := 26) (pc := 19) (tb_at tkX10_way 9 rfl) (by decide) (fun c => ?_) (fun c => ?_)
    · replace h := h.1 c
      refine r_aload_n (pc := 26) (tb_at tkX10_way 12 rfl) rfl rfl ?_
      refine r_invV (mc' := 0) (ms' := 0) [] (S := []) (pc := 27) (tb_at tkX10_way 13 rfl) rfl ly_0 rfl rfl clX10_119 (Nat.le_of_ble_eq_true rfl) (Nat.le_refl _) (Nat.le_refl _) ?_
      refine Cal.mono h ?_
      rintro _ _ M5 ⟨rfl, rfl, h⟩
      show OkL G miX10_way (d + 1) K 30 [some (.inr (.inr (some 0))), some (.inl v1)] [] M5
      refine r_aload_n (pc := 30) (tb_at tkX10_way 14 rfl) rfl rfl ?_
      refine r_get 9 6 (pc := 31) (tb_at tkX10_way 15 rfl) ly_0 flX10_58 rfl ?_
      refine r_aload_n (pc := 34) (tb_at tkX10_way 16 rfl) rfl rfl ?_
      refine r_get 9 10 (pc := 35) (tb_at tkX10_way 17 rfl) ly_0 flX10_83 rfl ?_
      refine r_invV (mc' := 0) (ms' := 0) [.inr (.inr (some 65))] (S := []) (pc := 38) (tb_at tkX10_way 18 rfl) rfl ly_46 rfl rfl clX10_305 (Nat.le_of_ble_eq_true rfl) (Nat.le_refl _) (Nat.le_refl _) ?_
      refine Cal.mono h ?_
      rintro _ _ M6 ⟨rfl, rfl, h⟩
      show OkL G miX10_way (d + 1) K 41 [some (.inr (.inr (some 0))), some (.inl v1)] [] M6
      refine r_aload_n (pc := 41) (tb_at tkX10_way 19 rfl) rfl rfl ?_
      refine r_get 9 6 (pc := 42) (tb_at tkX10_way 20 rfl) ly_0 flX10_58 rfl ?_
      refine r_invV (mc' := 0) (ms' := 0) [] (S := []) (pc := 45) (tb_at tkX10_way 21 rfl) rfl ly_46 rfl rfl clX10_315 (Nat.le_of_ble_eq_true rfl) (Nat.le_refl _) (Nat.le_refl _) ?_
      refine Cal.mono h ?_
      rintro _ _ M7 ⟨x8, rfl, rfl, h⟩
      show OkL G miX10_way (d + 1) K 48 [some (.inr (.inr (some 0))), some (.inl v1)] [.inr (.inl x8)] M7
      exact r_lret (pc := 48) (tb_at tkX10_way 22 rfl) rfl (Nat.le_refl _) (Nat.le_refl _) ⟨_, rfl, rfl, h⟩
    · replace h := h.2 c
      refine r_ldc2 (n := -9223372036854775808) (pc := 22) (tb_at tkX10_way 10 rfl) kcX10_259 ⟨by decide, by decide⟩ ?_
      exact r_lret (pc := 25) (tb_at tkX10_way 11 rfl) rfl (Nat.le_refl _) (Nat.le_refl _) ⟨_, rfl, rfl, h⟩
set_option maxRecDepth 100000 in
set_option maxHeartbeats 4000000 in
theorem gX10_late_0 {G : GE} {d : Nat} {K : Int → Mem → Prop} {M : Mem} {v1 v2 v3 : Int}  (h : CalI G miX5_hasFlight d [.inr (.inr (some 1)), .inl v1] M (fun x2 M1 => ((x2 = 0 → K (-2) M1) ∧ (¬ x2 = 0 → CalI G miX10_isBelow d [.inl v2, .inl 100] M1 (fun x4 M3 => ((x4 = 0 → K (-2) M3) ∧ (¬ x4 = 0 → CalI G miX10_isHalf d [.inl v3] M3 (fun x6 M5 => ((¬ x6 = 0 → CalV G miX10_refresh d [.inr (.inr (some 0))] M5 (fun M7 => CalI G miX1_hasCover d [.inr (.inr (some 28))] M7 (fun x9 M8 => ((¬ x9 = 0 → CalI G miX2_byOne d [.inr (.inr (some 54)), .inl v1, .inl v2] M8 (fun x11 M10 => ((¬ v3 = 0 → K x11 M10) ∧ (v3 = 0 → CalI G miX2_lateFlights d [.inr (.inr (some 54))] M10 (fun x13 M12 => K x13 M12))))) ∧ (x9 = 0 → K (-3) M8))))) ∧ (x6 = 0 → K (-2) M5)))))))))) : OkI G miX10_late (d + 1) K 0 [some (.inr (.inr (some 0))), some (.inl v1), some (.inl v2), some (.inl v3), none] [] M := by
  refine r_aload_n (pc := 0) (tb_at tkX10_late 0 rfl) rfl rfl ?_
  refine r_get 9 0 (pc := 1) (tb_at tkX10_late 1 rfl) ly_0 flX10_14 rfl ?_
  refine r_iload_n (pc := 4) (tb_at tkX10_late 2 rfl) rfl rfl ?_
  refine r_invV (mc' := 0) (ms' := 0) [.inl v1] (S := []) (pc := 5) (tb_at tkX10_late 3 rfl) rfl ly_1 rfl rfl clX10_116 (Nat.le_of_ble_eq_true rfl) (Nat.le_refl _) (Nat.le_refl _) ?_
  refine Cal.mono h ?_
  rintro _ _ M1 ⟨x2, rfl, rfl, h⟩
  show OkI G miX10_late (d + 1) K 8 [some (.inr (.inr (some 0))), some (.inl v1), some (.inl v2), some (.inl v3), none] [.inl x2] M1
  refine q_if_eq (tgt := 27) (pc := 8) (tb_at tkX10_late 4 rfl) (by decide) (fun c => ?_) (fun c => ?_)
  · replace h := h.1 c
    refine r_bipush (pc := 27) (tb_at tkX10_late 12 rfl) ⟨by decide, by decide, by decide⟩ ?_
    exact r_iret (pc := 29) (tb_at tkX10_late 13 rfl) rfl (Nat.le_refl _) (Nat.le_refl _) ⟨_, rfl, rfl, h⟩
  · replace h := h.2 c
    refine r_iload_n (pc := 11) (tb_at tkX10_late 5 rfl) rfl rfl ?_
    refine r_bipush (pc := 12) (tb_at tkX10_late 6 rfl) ⟨by decide, by decide, by decide⟩ ?_
    refine r_invS (mc' := 0) (ms' := 0) [.inl v2, .inl 100] (S := []) (pc := 14) (tb_at tkX10_late 7 rfl) rfl clX10_147 (Nat.le_of_ble_eq_true rfl) (Nat.le_refl _) (Nat.le_refl _) ?_
    refine Cal.mono h ?_
    rintro _ _ M3 ⟨x4, rfl, rfl, h⟩
    show OkI G miX10_late (d + 1) K 17 [some (.inr (.inr (some 0))), some (.inl v1), some (.inl v2), some (.inl v3), none] [.inl x4] M3
    refine q_if_eq (tgt := 27) (pc := 17) (tb_at tkX10_late 8 rfl) (by decide) (fun c => ?_) (fun c => ?_)
    · replace h := h.1 c
      refine r_bipush (pc := 27) (tb_at tkX10_late 12 rfl) ⟨by decide, by decide, by decide⟩ ?_
      exact r_iret (pc := 29) (tb_at tkX10_late 13 rfl) rfl (Nat.le_refl _) (Nat.le_refl _) ⟨_, rfl, rfl, h⟩
    · replace h := h.2 c
      refine r_iload_n (pc := 20) (tb_at tkX10_late 9 rfl) rfl rfl ?_
      refine r_invS (mc' := 0) (ms' := 0) [.inl v3] (S := []) (pc := 21) (tb_at tkX10_late 10 rfl) rfl clX10_233 (Nat.le_of_ble_eq_true rfl) (Nat.le_refl _) (Nat.le_refl _) ?_
      refine Cal.mono h ?_
      rintro _ _ M5 ⟨x6, rfl, rfl, h⟩
      show OkI G miX10_late (d + 1) K 24 [some (.inr (.inr (some 0))), some (.inl v1), some (.inl v2), some (.inl v3), none] [.inl x6] M5
      refine q_if_ne (tgt := 30) (pc := 24) (tb_at tkX10_late 11 rfl) (by decide) (fun c => ?_) (fun c => ?_)
      · replace h := h.1 c
        refine r_aload_n (pc := 30) (tb_at tkX10_late 14 rfl) rfl rfl ?_
        refine r_invV (mc' := 0) (ms' := 0) [] (S := []) (pc := 31) (tb_at tkX10_late 15 rfl) rfl ly_0 rfl rfl clX10_119 (Nat.le_of_ble_eq_true rfl) (Nat.le_refl _) (Nat.le_refl _) ?_
        refine Cal.mono h ?_
        rintro _ _ M7 ⟨rfl, rfl, h⟩
        show OkI G miX10_late (d + 1) K 34 [some (.inr (.inr (some 0))), some (.inl v1), some (.inl v2), some (.inl v3), none] [] M7
        refine r_aload_n (pc := 34) (tb_at tkX10_late 16 rfl) rfl rfl ?_
        refine r_get 9 3 (pc := 35) (tb_at tkX10_late 17 rfl) ly_0 flX10_35 rfl ?_
        refine r_invV (mc' := 0) (ms' := 0) [] (S := []) (pc := 38) (tb_at tkX10_late 18 rfl) rfl ly_28 rfl rfl clX10_240 (Nat.le_of_ble_eq_true rfl) (Nat.le_refl _) (Nat.le_refl _) ?_
        refine Cal.mono h ?_
        rintro _ _ M8 ⟨x9, rfl, rfl, h⟩
        show OkI G miX10_late (d + 1) K 41 [some (.inr (.inr (some 0))), some (.inl v1), some (.inl v2), some (.inl v3), none] [.inl x9] M8
        refine q_if_ne (tgt := 47) (pc := 41) (tb_at tkX10_late 19 rfl) (by decide) (fun c => ?_) (fun c => ?_)
        · replace h := h.1 c
          refine r_aload_n (pc := 47) (tb_at tkX10_late 22 rfl) rfl rfl ?_
          refine r_get 9 7 (pc := 48) (tb_at tkX10_late 23 rfl) ly_0 flX10_65 rfl ?_
          refine r_iload_n (pc := 51) (tb_at tkX10_late 24 rfl) rfl rfl ?_
          refine r_iload_n (pc := 52) (tb_at tkX10_late 25 rfl) rfl rfl ?_
          refine r_invV (mc' := 0) (ms' := 0) [.inl v1, .inl v2] (S := []) (pc := 53) (tb_at tkX10_late 26 rfl) rfl ly_54 rfl rfl clX10_318 (Nat.le_of_ble_eq_true rfl) (Nat.le_refl _) (Nat.le_refl _) ?_
          refine Cal.mono h ?_
          rintro _ _ M10 ⟨x11, rfl, rfl, h⟩
          show OkI G miX10_late (d + 1) K 56 [some (.inr (.inr (some 0))), some (.inl v1), some (.inl v2), some (.inl v3), none] [.inl x11] M10
          refine r_istore (L' := [some (.inr (.inr (some 0))), some (.inl v1), some (.inl v2), some (.inl v3), some (.inl x11)]) (pc := 56) (tb_at tkX10_late 27 rfl) (by decide) rfl ?_
          refine r_iload_n (pc := 58) (tb_at tkX10_late 28 rfl) rfl rfl ?_
          refine q_if_ne (tgt := 72) (pc := 59) (tb_at tkX10_late 29 rfl) (by decide) (fun c => ?_) (fun c => ?_)
          · replace h := h.1 c
            refine r_iload (pc := 72) (tb_at tkX10_late 34 rfl) rfl ?_
            exact r_iret (pc := 74) (tb_at tkX10_late 35 rfl) rfl (Nat.le_refl _) (Nat.le_refl _) ⟨_, rfl, rfl, h⟩
          · replace h := h.2 c
            refine r_aload_n (pc := 62) (tb_at tkX10_late 30 rfl) rfl rfl ?_
            refine r_get 9 7 (pc := 63) (tb_at tkX10_late 31 rfl) ly_0 flX10_65 rfl ?_
            refine r_invV (mc' := 0) (ms' := 0) [] (S := []) (pc := 66) (tb_at tkX10_late 32 rfl) rfl ly_54 rfl rfl clX10_321 (Nat.le_of_ble_eq_true rfl) (Nat.le_refl _) (Nat.le_refl _) ?_
            refine Cal.mono h ?_
            rintro _ _ M12 ⟨x13, rfl, rfl, h⟩
            show OkI G miX10_late (d + 1) K 69 [some (.inr (.inr (some 0))), some (.inl v1), some (.inl v2), some (.inl v3), some (.inl x11)] [.inl x13] M12
            refine r_goto (tgt := 74) (pc := 69) (tb_at tkX10_late 33 rfl) (by decide) ?_
            exact r_iret (pc := 74) (tb_at tkX10_late 35 rfl) rfl (Nat.le_refl _) (Nat.le_refl _) ⟨_, rfl, rfl, h⟩
        · replace h := h.2 c
          refine r_bipush (pc := 44) (tb_at tkX10_late 20 rfl) ⟨by decide, by decide, by decide⟩ ?_
          exact r_iret (pc := 46) (tb_at tkX10_late 21 rfl) rfl (Nat.le_refl _) (Nat.le_refl _) ⟨_, rfl, rfl, h⟩
      · replace h := h.2 c
        refine r_bipush (pc := 27) (tb_at tkX10_late 12 rfl) ⟨by decide, by decide, by decide⟩ ?_
        exact r_iret (pc := 29) (tb_at tkX10_late 13 rfl) rfl (Nat.le_refl _) (Nat.le_refl _) ⟨_, rfl, rfl, h⟩
set_option maxRecDepth 100000 in
set_option maxHeartbeats 4000000 in
theorem gX10_worst_0 {G : GE} {d : Nat} {K : Int → Mem → Prop} {M : Mem} {v1 : Int}  (h : CalI G miX10_isBelow d [.inl v1, .inl 100] M (fun x2 M1 => ((¬ x2 = 0 → CalV G miX10_refresh d [.inr (.inr (some 0))] M1 (fun M3 => CalI G miX1_hasCover d [.inr (.inr (some 28))] M3 (fun x5 M4 => ((¬ x5 = 0 → OkI G miX10_worst (d + 1) K 36 [some (.inr (.inr (some 0))), some (.inl v1), some (.inl (-1)), some (.inl (-1)), some (.inl 0), none] [] M4) ∧ (x5 = 0 → K (-3) M4))))) ∧ (x2 = 0 → K (-2) M1)))) : OkI G miX10_worst (d + 1) K 0 [some (.inr (.inr (some 0))), some (.inl v1), none, none, none, none] [] M := by
  refine r_iload_n (pc := 0) (tb_at tkX10_worst 0 rfl) rfl rfl ?_
  refine r_bipush (pc := 1) (tb_at tkX10_worst 1 rfl) ⟨by decide, by decide, by decide⟩ ?_
  refine r_invS (mc' := 0) (ms' := 0) [.inl v1, .inl 100] (S := []) (pc := 3) (tb_at tkX10_worst 2 rfl) rfl clX10_147 (Nat.le_of_ble_eq_true rfl) (Nat.le_refl _) (Nat.le_refl _) ?_
  refine Cal.mono h ?_
  rintro _ _ M1 ⟨x2, rfl, rfl, h⟩
  show OkI G miX10_worst (d + 1) K 6 [some (.inr (.inr (some 0))), some (.inl v1), none, none, none, none] [.inl x2] M1
  refine q_if_ne (tgt := 12) (pc := 6) (tb_at tkX10_worst 3 rfl) (by decide) (fun c => ?_) (fun c => ?_)
  · replace h := h.1 c
    refine r_aload_n (pc := 12) (tb_at tkX10_worst 6 rfl) rfl rfl ?_
    refine r_invV (mc' := 0) (ms' := 0) [] (S := []) (pc := 13) (tb_at tkX10_worst 7 rfl) rfl ly_0 rfl rfl clX10_119 (Nat.le_of_ble_eq_true rfl) (Nat.le_refl _) (Nat.le_refl _) ?_
    refine Cal.mono h ?_
    rintro _ _ M3 ⟨rfl, rfl, h⟩
    show OkI G miX10_worst (d + 1) K 16 [some (.inr (.inr (some 0))), some (.inl v1), none, none, none, none] [] M3
    refine r_aload_n (pc := 16) (tb_at tkX10_worst 8 rfl) rfl rfl ?_
    refine r_get 9 3 (pc := 17) (tb_at tkX10_worst 9 rfl) ly_0 flX10_35 rfl ?_
    refine r_invV (mc' := 0) (ms' := 0) [] (S := []) (pc := 20) (tb_at tkX10_worst 10 rfl) rfl ly_28 rfl rfl clX10_240 (Nat.le_of_ble_eq_true rfl) (Nat.le_refl _) (Nat.le_refl _) ?_
    refine Cal.mono h ?_
    rintro _ _ M4 ⟨x5, rfl, rfl, h⟩
    show OkI G miX10_worst (d + 1) K 23 [some (.inr (.inr (some 0))), some (.inl v1), none, none, none, none] [.inl x5] M4
    refine q_if_ne (tgt := 29) (pc := 23) (tb_at tkX10_worst 11 rfl) (by decide) (fun c => ?_) (fun c => ?_)
    · replace h := h.1 c
      refine r_iconst (pc := 29) (tb_at tkX10_worst 14 rfl) ⟨by decide, by decide⟩ ?_
      refine r_istore_n (L' := [some (.inr (.inr (some 0))), some (.inl v1), some (.inl (-1)), none, none, none]) (pc := 30) (tb_at tkX10_worst 15 rfl) rfl (by decide) rfl ?_
      refine r_iconst (pc := 31) (tb_at tkX10_worst 16 rfl) ⟨by decide, by decide⟩ ?_
      refine r_istore_n (L' := [some (.inr (.inr (some 0))), some (.inl v1), some (.inl (-1)), some (.inl (-1)), none, none]) (pc := 32) (tb_at tkX10_worst 17 rfl) rfl (by decide) rfl ?_
      refine r_iconst (pc := 33) (tb_at tkX10_worst 18 rfl) ⟨by decide, by decide⟩ ?_
      refine r_istore (L' := [some (.inr (.inr (some 0))), some (.inl v1), some (.inl (-1)), some (.inl (-1)), some (.inl 0), none]) (pc := 34) (tb_at tkX10_worst 19 rfl) (by decide) rfl ?_
      exact h
    · replace h := h.2 c
      refine r_bipush (pc := 26) (tb_at tkX10_worst 12 rfl) ⟨by decide, by decide, by decide⟩ ?_
      exact r_iret (pc := 28) (tb_at tkX10_worst 13 rfl) rfl (Nat.le_refl _) (Nat.le_refl _) ⟨_, rfl, rfl, h⟩
  · replace h := h.2 c
    refine r_bipush (pc := 9) (tb_at tkX10_worst 4 rfl) ⟨by decide, by decide, by decide⟩ ?_
    exact r_iret (pc := 11) (tb_at tkX10_worst 5 rfl) rfl (Nat.le_refl _) (Nat.le_refl _) ⟨_, rfl, rfl, h⟩
set_option maxRecDepth 100000 in
set_option maxHeartbeats 4000000 in
theorem gX10_worst_36 {G : GE} {d : Nat} {K : Int → Mem → Prop} {M : Mem} {v1 v2 v3 v4 : Int}  (h : (((M 1 8) ≤ v4 → K v2 M) ∧ (v4 < (M 1 8) → CalI G miX2_byOne d [.inr (.inr (some 54)), .inl v4, .inl v1] M (fun x2 M1 => ((x2 ≤ v3 → OkI G miX10_worst (d + 1) K 36 [some (.inr (.inr (some 0))), some (.inl v1), some (.inl v2), some (.inl v3), some (.inl (w32 (v4 + 1))), none] [] M1) ∧ (v3 < x2 → OkI G miX10_worst (d + 1) K 36 [some (.inr (.inr (some 0))), some (.inl v1), some (.inl v4), some (.inl x2), some (.inl (w32 (v4 + 1))), none] [] M1)))))) : OkI G miX10_worst (d + 1) K 36 [some (.inr (.inr (some 0))), some (.inl v1), some (.inl v2), some (.inl v3), some (.inl v4), none] [] M := by
  refine r_iload (pc := 36) (tb_at tkX10_worst 20 rfl) rfl ?_
  refine r_aload_n (pc := 38) (tb_at tkX10_worst 21 rfl) rfl rfl ?_
  refine r_get 9 0 (pc := 39) (tb_at tkX10_worst 22 rfl) ly_0 flX10_14 rfl ?_
  refine r_get 5 8 (pc := 42) (tb_at tkX10_worst 23 rfl) ly_1 flX10_105 rfl ?_
  refine q_icmp_ge (tgt := 78) (pc := 45) (tb_at tkX10_worst 24 rfl) (by decide) (fun c => ?_) (fun c => ?_)
  · replace h := h.1 c
    refine r_iload_n (pc := 78) (tb_at tkX10_worst 40 rfl) rfl rfl ?_
    exact r_iret (pc := 79) (tb_at tkX10_worst 41 rfl) rfl (Nat.le_refl _) (Nat.le_refl _) ⟨_, rfl, rfl, h⟩
  · replace h := h.2 c
    refine r_aload_n (pc := 48) (tb_at tkX10_worst 25 rfl) rfl rfl ?_
    refine r_get 9 7 (pc := 49) (tb_at tkX10_worst 26 rfl) ly_0 flX10_65 rfl ?_
    refine r_iload (pc := 52) (tb_at tkX10_worst 27 rfl) rfl ?_
    refine r_iload_n (pc := 54) (tb_at tkX10_worst 28 rfl) rfl rfl ?_
    refine r_invV (mc' := 0) (ms' := 0) [.inl v4, .inl v1] (S := []) (pc := 55) (tb_at tkX10_worst 29 rfl) rfl ly_54 rfl rfl clX10_318 (Nat.le_of_ble_eq_true rfl) (Nat.le_refl _) (Nat.le_refl _) ?_
    refine Cal.mono h ?_
    rintro _ _ M1 ⟨x2, rfl, rfl, h⟩
    show OkI G miX10_worst (d + 1) K 58 [some (.inr (.inr (some 0))), some (.inl v1), some (.inl v2), some (.inl v3), some (.inl v4), none] [.inl x2] M1
    refine r_istore (L' := [some (.inr (.inr (some 0))), some (.inl v1), some (.inl v2), some (.inl v3), some (.inl v4), some (.inl x2)]) (pc := 58) (tb_at tkX10_worst 30 rfl) (by decide) rfl ?_
    refine r_iload (pc := 60) (tb_at tkX10_worst 31 rfl) rfl ?_
    refine r_iload_n (pc := 62) (tb_at tkX10_worst 32 rfl) rfl rfl ?_
    refine q_icmp_le (tgt := 72) (pc := 63) (tb_at tkX10_worst 33 rfl) (by decide) (fun c => ?_) (fun c => ?_)
    · replace h := h.1 c
      refine r_iinc (L' := [some (.inr (.inr (some 0))), some (.inl v1), some (.inl v2), some (.inl v3), some (.inl (w32 (v4 + 1))), some (.inl x2)]) (pc := 72) (tb_at tkX10_worst 38 rfl) rfl (by decide) rfl ?_
      refine r_goto (tgt := 36) (pc := 75) (tb_at tkX10_worst 39 rfl) (by decide) ?_
      exact Ok.forget h (And.intro rfl (And.intro rfl (And.intro rfl (And.intro rfl (And.intro rfl trivial)))))
    · replace h := h.2 c
      refine r_iload (pc := 66) (tb_at tkX10_worst 34 rfl) rfl ?_
      refine r_istore_n (L' := [some (.inr (.inr (some 0))), some (.inl v1), some (.inl v2), some (.inl x2), some (.inl v4), some (.inl x2)]) (pc := 68) (tb_at tkX10_worst 35 rfl) rfl (by decide) rfl ?_
      refine r_iload (pc := 69) (tb_at tkX10_worst 36 rfl) rfl ?_
      refine r_istore_n (L' := [some (.inr (.inr (some 0))), some (.inl v1), some (.inl v4), some (.inl x2), some (.inl v4), some (.inl x2)]) (pc := 71) (tb_at tkX10_worst 37 rfl) rfl (by decide) rfl ?_
      refine r_iinc (L' := [some (.inr (.inr (some 0))), some (.inl v1), some (.inl v4), some (.inl x2), some (.inl (w32 (v4 + 1))), some (.inl x2)]) (pc := 72) (tb_at tkX10_worst 38 rfl) rfl (by decide) rfl ?_
      refine r_goto (tgt := 36) (pc := 75) (tb_at tkX10_worst 39 rfl) (by decide) ?_
      exact Ok.forget h (And.intro rfl (And.intro rfl (And.intro rfl (And.intro rfl (And.intro rfl trivial)))))
set_option maxRecDepth 100000 in
set_option maxHeartbeats 4000000 in
theorem gX10_drawn_0 {G : GE} {d : Nat} {K : Int → Mem → Prop} {M : Mem} {v1 v2 : Int}  (h : ((v2 < 1 → K (-2) M) ∧ (1 ≤ v2 → ((v2 ≤ 99 → CalV G miX10_refresh d [.inr (.inr (some 0))] M (fun M1 => CalI G miX1_hasCover d [.inr (.inr (some 28))] M1 (fun x3 M2 => ((x3 = 0 → K (-3) M2) ∧ (¬ x3 = 0 → CalI G miX2_bySeed d [.inr (.inr (some 54)), .inl v1, .inl v2] M2 (fun x5 M4 => K x5 M4)))))) ∧ (99 < v2 → K (-2) M))))) : OkI G miX10_drawn (d + 1) K 0 [some (.inr (.inr (some 0))), some (.inl v1), some (.inl v2)] [] M := by
  refine r_iload_n (pc := 0) (tb_at tkX10_drawn 0 rfl) rfl rfl ?_
  refine r_iconst (pc := 1) (tb_at tkX10_drawn 1 rfl) ⟨by decide, by decide⟩ ?_
  refine q_icmp_lt (tgt := 11) (pc := 2) (tb_at tkX10_drawn 2 rfl) (by decide) (fun c => ?_) (fun c => ?_)
  · replace h := h.1 c
    refine r_bipush (pc := 11) (tb_at tkX10_drawn 6 rfl) ⟨by decide, by decide, by decide⟩ ?_
    exact r_iret (pc := 13) (tb_at tkX10_drawn 7 rfl) rfl (Nat.le_refl _) (Nat.le_refl _) ⟨_, rfl, rfl, h⟩
  · replace h := h.2 c
    refine r_iload_n (pc := 5) (tb_at tkX10_drawn 3 rfl) rfl rfl ?_
    refine r_bipush (pc := 6) (tb_at tkX10_drawn 4 rfl) ⟨by decide, by decide, by decide⟩ ?_
    refine q_icmp_le (tgt := 14) (pc := 8) (tb_at tkX10_drawn 5 rfl) (by decide) (fun c => ?_) (fun c => ?_)
    · replace h := h.1 c
      refine r_aload_n (pc := 14) (tb_at tkX10_drawn 8 rfl) rfl rfl ?_
      refine r_invV (mc' := 0) (ms' := 0) [] (S := []) (pc := 15) (tb_at tkX10_drawn 9 rfl) rfl ly_0 rfl rfl clX10_119 (Nat.le_of_ble_eq_true rfl) (Nat.le_refl _) (Nat.le_refl _) ?_
      refine Cal.mono h ?_
      rintro _ _ M1 ⟨rfl, rfl, h⟩
      show OkI G miX10_drawn (d + 1) K 18 [some (.inr (.inr (some 0))), some (.inl v1), some (.inl v2)] [] M1
      refine r_aload_n (pc := 18) (tb_at tkX10_drawn 10 rfl) rfl rfl ?_
      refine r_get 9 3 (pc := 19) (tb_at tkX10_drawn 11 rfl) ly_0 flX10_35 rfl ?_
      refine r_invV (mc' := 0) (ms' := 0) [] (S := []) (pc := 22) (tb_at tkX10_drawn 12 rfl) rfl ly_28 rfl rfl clX10_240 (Nat.le_of_ble_eq_true rfl) (Nat.le_refl _) (Nat.le_refl _) ?_
      refine Cal.mono h ?_
      rintro _ _ M2 ⟨x3, rfl, rfl, h⟩
      show OkI G miX10_drawn (d + 1) K 25 [some (.inr (.inr (some 0))), some (.inl v1), some (.inl v2)] [.inl x3] M2
      refine q_if_eq (tgt := 40) (pc := 25) (tb_at tkX10_drawn 13 rfl) (by decide) (fun c => ?_) (fun c => ?_)
      · replace h := h.1 c
        refine r_bipush (pc := 40) (tb_at tkX10_drawn 20 rfl) ⟨by decide, by decide, by decide⟩ ?_
        exact r_iret (pc := 42) (tb_at tkX10_drawn 21 rfl) rfl (Nat.le_refl _) (Nat.le_refl _) ⟨_, rfl, rfl, h⟩
      · replace h := h.2 c
        refine r_aload_n (pc := 28) (tb_at tkX10_drawn 14 rfl) rfl rfl ?_
        refine r_get 9 7 (pc := 29) (tb_at tkX10_drawn 15 rfl) ly_0 flX10_65 rfl ?_
        refine r_iload_n (pc := 32) (tb_at tkX10_drawn 16 rfl) rfl rfl ?_
        refine r_iload_n (pc := 33) (tb_at tkX10_drawn 17 rfl) rfl rfl ?_
        refine r_invV (mc' := 0) (ms' := 0) [.inl v1, .inl v2] (S := []) (pc := 34) (tb_at tkX10_drawn 18 rfl) rfl ly_54 rfl rfl clX10_324 (Nat.le_of_ble_eq_true rfl) (Nat.le_refl _) (Nat.le_refl _) ?_
        refine Cal.mono h ?_
        rintro _ _ M4 ⟨x5, rfl, rfl, h⟩
        show OkI G miX10_drawn (d + 1) K 37 [some (.inr (.inr (some 0))), some (.inl v1), some (.inl v2)] [.inl x5] M4
        refine r_goto (tgt := 42) (pc := 37) (tb_at tkX10_drawn 19 rfl) (by decide) ?_
        exact r_iret (pc := 42) (tb_at tkX10_drawn 21 rfl) rfl (Nat.le_refl _) (Nat.le_refl _) ⟨_, rfl, rfl, h⟩
    · replace h := h.2 c
      refine r_bipush (pc := 11) (tb_at tkX10_drawn 6 rfl) ⟨by decide, by decide, by decide⟩ ?_
      exact r_iret (pc := 13) (tb_at tkX10_drawn 7 rfl) rfl (Nat.le_refl _) (Nat.le_refl _) ⟨_, rfl, rfl, h⟩
set_option maxRecDepth 100000 in
set_option maxHeartbeats 4000000 in
theorem gX10_chance_0 {G : GE} {d : Nat} {K : Int → Mem → Prop} {M : Mem} {v1 v2 v3 v4 v5 : Int}  (h : ((v2 < 1 → K (-2) M) ∧ (1 ≤ v2 → ((20 < v2 → K (-2) M) ∧ (v2 ≤ 20 → ((v3 < 1 → K (-2) M) ∧ (1 ≤ v3 → ((99 < v3 → K (-2) M) ∧ (v3 ≤ 99 → CalI G miX10_isBelow d [.inl v4, .inl 10000] M (fun x2 M1 => ((x2 = 0 → K (-2) M1) ∧ (¬ x2 = 0 → CalI G miX10_isHalf d [.inl v5] M1 (fun x4 M3 => ((¬ x4 = 0 → CalV G miX10_refresh d [.inr (.inr (some 0))] M3 (fun M5 => CalI G miX1_hasCover d [.inr (.inr (some 28))] M5 (fun x7 M6 => ((¬ x7 = 0 → OkI G miX10_chance (d + 1) K 67 [some (.inr (.inr (some 0))), some (.inl v1), some (.inl v2), some (.inl v3), some (.inl v4), some (.inl v5), some (.inl 0), some (.inl 0)] [] M6) ∧ (x7 = 0 → K (-3) M6))))) ∧ (x4 = 0 → K (-2) M3))))))))))))))) : OkI G miX10_chance (d + 1) K 0 [some (.inr (.inr (some 0))), some (.inl v1), some (.inl v2), some (.inl v3), some (.inl v4), some (.inl v5), none, none] [] M := by
  refine r_iload_n (pc := 0) (tb_at tkX10_chance 0 rfl) rfl rfl ?_
  refine r_iconst (pc := 1) (tb_at tkX10_chance 1 rfl) ⟨by decide, by decide⟩ ?_
  refine q_icmp_lt (tgt := 41) (pc := 2) (tb_at tkX10_chance 2 rfl) (by decide) (fun c => ?_) (fun c => ?_)
  · replace h := h.1 c
    refine r_bipush (pc := 41) (tb_at tkX10_chance 19 rfl) ⟨by decide, by decide, by decide⟩ ?_
    exact r_iret (pc := 43) (tb_at tkX10_chance 20 rfl) rfl (Nat.le_refl _) (Nat.le_refl _) ⟨_, rfl, rfl, h⟩
  · replace h := h.2 c
    refine r_iload_n (pc := 5) (tb_at tkX10_chance 3 rfl) rfl rfl ?_
    refine r_bipush (pc := 6) (tb_at tkX10_chance 4 rfl) ⟨by decide, by decide, by decide⟩ ?_
    refine q_icmp_gt (tgt := 41) (pc := 8) (tb_at tkX10_chance 5 rfl) (by decide) (fun c => ?_) (fun c => ?_)
    · replace h := h.1 c
      refine r_bipush (pc := 41) (tb_at tkX10_chance 19 rfl) ⟨by decide, by decide, by decide⟩ ?_
      exact r_iret (pc := 43) (tb_at tkX10_chance 20 rfl) rfl (Nat.le_refl _) (Nat.le_refl _) ⟨_, rfl, rfl, h⟩
    · replace h := h.2 c
      refine r_iload_n (pc := 11) (tb_at tkX10_chance 6 rfl) rfl rfl ?_
      refine r_iconst (pc := 12) (tb_at tkX10_chance 7 rfl) ⟨by decide, by decide⟩ ?_
      refine q_icmp_lt (tgt := 41) (pc := 13) (tb_at tkX10_chance 8 rfl) (by decide) (fun c => ?_) (fun c => ?_)
      · replace h := h.1 c
        refine r_bipush (pc := 41) (tb_at tkX10_chance 19 rfl) ⟨by decide, by decide, by decide⟩ ?_
        exact r_iret (pc := 43) (tb_at tkX10_chance 20 rfl) rfl (Nat.le_refl _) (Nat.le_refl _) ⟨_, rfl, rfl, h⟩
      · replace h := h.2 c
        refine r_iload_n (pc := 16) (tb_at tkX10_chance 9 rfl) rfl rfl ?_
        refine r_bipush (pc := 17) (tb_at tkX10_chance 10 rfl) ⟨by decide, by decide, by decide⟩ ?_
        refine q_icmp_gt (tgt := 41) (pc := 19) (tb_at tkX10_chance 11 rfl) (by decide) (fun c => ?_) (fun c => ?_)
        · replace h := h.1 c
          refine r_bipush (pc := 41) (tb_at tkX10_chance 19 rfl) ⟨by decide, by decide, by decide⟩ ?_
          exact r_iret (pc := 43) (tb_at tkX10_chance 20 rfl) rfl (Nat.le_refl _) (Nat.le_refl _) ⟨_, rfl, rfl, h⟩
        · replace h := h.2 c
          refine r_iload (pc := 22) (tb_at tkX10_chance 12 rfl) rfl ?_
          refine r_sipush (pc := 24) (tb_at tkX10_chance 13 rfl) ⟨by decide, by decide, by decide⟩ ?_
          refine r_invS (mc' := 0) (ms' := 0) [.inl v4, .inl 10000] (S := []) (pc := 27) (tb_at tkX10_chance 14 rfl) rfl clX10_147 (Nat.le_of_ble_eq_true rfl) (Nat.le_refl _) (Nat.le_refl _) ?_
          refine Cal.mono h ?_
          rintro _ _ M1 ⟨x2, rfl, rfl, h⟩
          show OkI G miX10_chance (d + 1) K 30 [some (.inr (.inr (some 0))), some (.inl v1), some (.inl v2), some (.inl v3), some (.inl v4), some (.inl v5), none, none] [.inl x2] M1
          refine q_if_eq (tgt := 41) (pc := 30) (tb_at tkX10_chance 15 rfl) (by decide) (fun c => ?_) (fun c => ?_)
          · replace h := h.1 c
            refine r_bipush (pc := 41) (tb_at tkX10_chance 19 rfl) ⟨by decide, by decide, by decide⟩ ?_
            exact r_iret (pc := 43) (tb_at tkX10_chance 20 rfl) rfl (Nat.le_refl _) (Nat.le_refl _) ⟨_, rfl, rfl, h⟩
          · replace h := h.2 c
            refine r_iload (pc := 33) (tb_at tkX10_chance 16 rfl) rfl ?_
            refine r_invS (mc' := 0) (ms' := 0) [.inl v5] (S := []) (pc := 35) (tb_at tkX10_chance 17 rfl) rfl clX10_233 (Nat.le_of_ble_eq_true rfl) (Nat.le_refl _) (Nat.le_refl _) ?_
            refine Cal.mono h ?_
            rintro _ _ M3 ⟨x4, rfl, rfl, h⟩
            show OkI G miX10_chance (d + 1) K 38 [some (.inr (.inr (some 0))), some (.inl v1), some (.inl v2), some (.inl v3), some (.inl v4), some (.inl v5), none, none] [.inl x4] M3
            refine q_if_ne (tgt := 44) (pc := 38) (tb_at tkX10_chance 18 rfl) (by decide) (fun c => ?_) (fun c => ?_)
            · replace h := h.1 c
              refine r_aload_n (pc := 44) (tb_at tkX10_chance 21 rfl) rfl rfl ?_
              refine r_invV (mc' := 0) (ms' := 0) [] (S := []) (pc := 45) (tb_at tkX10_chance 22 rfl) rfl ly_0 rfl rfl clX10_119 (Nat.le_of_ble_eq_true rfl) (Nat.le_refl _) (Nat.le_refl _) ?_
              refine Cal.mono h ?_
              rintro _ _ M5 ⟨rfl, rfl, h⟩
              show OkI G miX10_chance (d + 1) K 48 [some (.inr (.inr (some 0))), some (.inl v1), some (.inl v2), some (.inl v3), some (.inl v4), some (.inl v5), none, none] [] M5
              refine r_aload_n (pc := 48) (tb_at tkX10_chance 23 rfl) rfl rfl ?_
              refine r_get 9 3 (pc := 49) (tb_at tkX10_chance 24 rfl) ly_0 flX10_35 rfl ?_
              refine r_invV (mc' := 0) (ms' := 0) [] (S := []) (pc := 52) (tb_at tkX10_chance 25 rfl) rfl ly_28 rfl rfl clX10_240 (Nat.le_of_ble_eq_true rfl) (Nat.le_refl _) (Nat.le_refl _) ?_
              refine Cal.mono h ?_
              rintro _ _ M6 ⟨x7, rfl, rfl, h⟩
              show OkI G miX10_chance (d + 1) K 55 [some (.inr (.inr (some 0))), some (.inl v1), some (.inl v2), some (.inl v3), some (.inl v4), some (.inl v5), none, none] [.inl x7] M6
              refine q_if_ne (tgt := 61) (pc := 55) (tb_at tkX10_chance 26 rfl) (by decide) (fun c => ?_) (fun c => ?_)
              · replace h := h.1 c
                refine r_iconst (pc := 61) (tb_at tkX10_chance 29 rfl) ⟨by decide, by decide⟩ ?_
                refine r_istore (L' := [some (.inr (.inr (some 0))), some (.inl v1), some (.inl v2), some (.inl v3), some (.inl v4), some (.inl v5), some (.inl 0), none]) (pc := 62) (tb_at tkX10_chance 30 rfl) (by decide) rfl ?_
                refine r_iconst (pc := 64) (tb_at tkX10_chance 31 rfl) ⟨by decide, by decide⟩ ?_
                refine r_istore (L' := [some (.inr (.inr (some 0))), some (.inl v1), some (.inl v2), some (.inl v3), some (.inl v4), some (.inl v5), some (.inl 0), some (.inl 0)]) (pc := 65) (tb_at tkX10_chance 32 rfl) (by decide) rfl ?_
                exact h
              · replace h := h.2 c
                refine r_bipush (pc := 58) (tb_at tkX10_chance 27 rfl) ⟨by decide, by decide, by decide⟩ ?_
                exact r_iret (pc := 60) (tb_at tkX10_chance 28 rfl) rfl (Nat.le_refl _) (Nat.le_refl _) ⟨_, rfl, rfl, h⟩
            · replace h := h.2 c
              refine r_bipush (pc := 41) (tb_at tkX10_chance 19 rfl) ⟨by decide, by decide, by decide⟩ ?_
              exact r_iret (pc := 43) (tb_at tkX10_chance 20 rfl) rfl (Nat.le_refl _) (Nat.le_refl _) ⟨_, rfl, rfl, h⟩
set_option maxRecDepth 100000 in
set_option maxHeartbeats 4000000 in
theorem gX10_chance_67 {G : GE} {d : Nat} {K : Int → Mem → Prop} {M : Mem} {v1 v2 v3 v4 v5 v6 v7 : Int}  (h : ((v2 ≤ v7 → CalL G miX10_inLowest d [.inr (.inl v6), .inr (.inl v2), .inl v5] M (fun x2 M1 => K (w32 x2) M1)) ∧ (v7 < v2 → CalI G miX2_bySeed d [.inr (.inr (some 54)), .inl (w32 (v1 + v7)), .inl v3] M (fun x4 M3 => ((v4 < x4 → OkI G miX10_chance (d + 1) K 67 [some (.inr (.inr (some 0))), some (.inl v1), some (.inl v2), some (.inl v3), some (.inl v4), some (.inl v5), some (.inl v6), some (.inl (w32 (v7 + 1)))] [] M3) ∧ (x4 ≤ v4 → OkI G miX10_chance (d + 1) K 67 [some (.inr (.inr (some 0))), some (.inl v1), some (.inl v2), some (.inl v3), some (.inl v4), some (.inl v5), some (.inl (w32 (v6 + 1))), some (.inl (w32 (v7 + 1)))] [] M3)))))) : OkI G miX10_chance (d + 1) K 67 [some (.inr (.inr (some 0))), some (.inl v1), some (.inl v2), some (.inl v3), some (.inl v4), some (.inl v5), some (.inl v6), some (.inl v7)] [] M := by
  refine r_iload (pc := 67) (tb_at tkX10_chance 33 rfl) rfl ?_
  refine r_iload_n (pc := 69) (tb_at tkX10_chance 34 rfl) rfl rfl ?_
  refine q_icmp_ge (tgt := 99) (pc := 70) (tb_at tkX10_chance 35 rfl) (by decide) (fun c => ?_) (fun c => ?_)
  · replace h := h.1 c
    refine r_iload (pc := 99) (tb_at tkX10_chance 48 rfl) rfl ?_
    refine r_i2l (pc := 101) (tb_at tkX10_chance 49 rfl) ?_
    refine r_iload_n (pc := 102) (tb_at tkX10_chance 50 rfl) rfl rfl ?_
    refine r_i2l (pc := 103) (tb_at tkX10_chance 51 rfl) ?_
    refine r_iload (pc := 104) (tb_at tkX10_chance 52 rfl) rfl ?_
    refine r_invS (mc' := 0) (ms' := 0) [.inr (.inl v6), .inr (.inl v2), .inl v5] (S := []) (pc := 106) (tb_at tkX10_chance 53 rfl) rfl clX10_327 (Nat.le_of_ble_eq_true rfl) (Nat.le_refl _) (Nat.le_refl _) ?_
    refine Cal.mono h ?_
    rintro _ _ M1 ⟨x2, rfl, rfl, h⟩
    show OkI G miX10_chance (d + 1) K 109 [some (.inr (.inr (some 0))), some (.inl v1), some (.inl v2), some (.inl v3), some (.inl v4), some (.inl v5), some (.inl v6), some (.inl v7)] [.inr (.inl x2)] M1
    refine r_l2i (pc := 109) (tb_at tkX10_chance 54 rfl) ?_
    exact r_iret (pc := 110) (tb_at tkX10_chance 55 rfl) rfl (Nat.le_refl _) (Nat.le_refl _) ⟨_, rfl, rfl, h⟩
  · replace h := h.2 c
    refine r_aload_n (pc := 73) (tb_at tkX10_chance 36 rfl) rfl rfl ?_
    refine r_get 9 7 (pc := 74) (tb_at tkX10_chance 37 rfl) ly_0 flX10_65 rfl ?_
    refine r_iload_n (pc := 77) (tb_at tkX10_chance 38 rfl) rfl rfl ?_
    refine r_iload (pc := 78) (tb_at tkX10_chance 39 rfl) rfl ?_
    refine r_iadd (pc := 80) (tb_at tkX10_chance 40 rfl) ?_
    refine r_iload_n (pc := 81) (tb_at tkX10_chance 41 rfl) rfl rfl ?_
    refine r_invV (mc' := 0) (ms' := 0) [.inl (w32 (v1 + v7)), .inl v3] (S := []) (pc := 82) (tb_at tkX10_chance 42 rfl) rfl ly_54 rfl rfl clX10_324 (Nat.le_of_ble_eq_true rfl) (Nat.le_refl _) (Nat.le_refl _) ?_
    refine Cal.mono h ?_
    rintro _ _ M3 ⟨x4, rfl, rfl, h⟩
    show OkI G miX10_chance (d + 1) K 85 [some (.inr (.inr (some 0))), some (.inl v1), some (.inl v2), some (.inl v3), some (.inl v4), some (.inl v5), some (.inl v6), some (.inl v7)] [.inl x4] M3
    refine r_iload (pc := 85) (tb_at tkX10_chance 43 rfl) rfl ?_
    refine q_icmp_gt (tgt := 93) (pc := 87) (tb_at tkX10_chance 44 rfl) (by decide) (fun c => ?_) (fun c => ?_)
    · replace h := h.1 c
      refine r_iinc (L' := [some (.inr (.inr (some 0))), some (.inl v1), some (.inl v2), some (.inl v3), some (.inl v4), some (.inl v5), some (.inl v6), some (.inl (w32 (v7 + 1)))]) (pc := 93) (tb_at tkX10_chance 46 rfl) rfl (by decide) rfl ?_
      refine r_goto (tgt := 67) (pc := 96) (tb_at tkX10_chance 47 rfl) (by decide) ?_
      exact h
    · replace h := h.2 c
      refine r_iinc (L' := [some (.inr (.inr (some 0))), some (.inl v1), some (.inl v2), some (.inl v3), some (.inl v4), some (.inl v5), some (.inl (w32 (v6 + 1))), some (.inl v7)]) (pc := 90) (tb_at tkX10_chance 45 rfl) rfl (by decide) rfl ?_
      refine r_iinc (L' := [some (.inr (.inr (some 0))), some (.inl v1), some (.inl v2), some (.inl v3), some (.inl v4), some (.inl v5), some (.inl (w32 (v6 + 1))), some (.inl (w32 (v7 + 1)))]) (pc := 93) (tb_at tkX10_chance 46 rfl) rfl (by decide) rfl ?_
      refine r_goto (tgt := 67) (pc := 96) (tb_at tkX10_chance 47 rfl) (by decide) ?_
      exact h
set_option maxRecDepth 100000 in
set_option maxHeartbeats 4000000 in
theorem gX10_feed_0 {G : GE} {d : Nat} {K : Int → Mem → Prop} {M : Mem} {v1 v2 v3 v4 v5 v6 : Int}  (h : ((v1 < 1 → K (-2) M) ∧ (1 ≤ v1 → ((5 < v1 → K (-2) M) ∧ (v1 ≤ 5 → CalI G miX10_isByte d [.inl v2] M (fun x2 M1 => ((x2 = 0 → K (-2) M1) ∧ (¬ x2 = 0 → CalI G miX10_isByte d [.inl v3] M1 (fun x4 M3 => ((x4 = 0 → K (-2) M3) ∧ (¬ x4 = 0 → CalI G miX10_isByte d [.inl v4] M3 (fun x6 M5 => ((x6 = 0 → K (-2) M5) ∧ (¬ x6 = 0 → CalI G miX10_isByte d [.inl v5] M5 (fun x8 M7 => ((x8 = 0 → K (-2) M7) ∧ (¬ x8 = 0 → CalI G miX10_isByte d [.inl v6] M7 (fun x10 M9 => ((¬ x10 = 0 → CalI G miX9_hasRoom d [.inr (.inr (some 58)), .inl v1] M9 (fun x12 M11 => ((¬ x12 = 0 → CalV G miX9_add d [.inr (.inr (some 58)), .inl v2] M11 (fun M13 => ((v1 ≤ 1 → OkI G miX10_feed (d + 1) K 86 [some (.inr (.inr (some 0))), some (.inl v1), none, none, some (.inl v4), some (.inl v5), some (.inl v6)] [] M13) ∧ (1 < v1 → CalV G miX9_add d [.inr (.inr (some 58)), .inl v3] M13 (fun M14 => OkI G miX10_feed (d + 1) K 86 [some (.inr (.inr (some 0))), some (.inl v1), none, none, some (.inl v4), some (.inl v5), some (.inl v6)] [] M14))))) ∧ (x12 = 0 → K (-4) M11)))) ∧ (x10 = 0 → K (-2) M9)))))))))))))))))))) : OkI G miX10_feed (d + 1) K 0 [some (.inr (.inr (some 0))), some (.inl v1), some (.inl v2), some (.inl v3), some (.inl v4), some (.inl v5), some (.inl v6)] [] M := by
  refine r_iload_n (pc := 0) (tb_at tkX10_feed 0 rfl) rfl rfl ?_
  refine r_iconst (pc := 1) (tb_at tkX10_feed 1 rfl) ⟨by decide, by decide⟩ ?_
  refine q_icmp_lt (tgt := 48) (pc := 2) (tb_at tkX10_feed 2 rfl) (by decide) (fun c => ?_) (fun c => ?_)
  · replace h := h.1 c
    refine r_bipush (pc := 48) (tb_at tkX10_feed 21 rfl) ⟨by decide, by decide, by decide⟩ ?_
    exact r_iret (pc := 50) (tb_at tkX10_feed 22 rfl) rfl (Nat.le_refl _) (Nat.le_refl _) ⟨_, rfl, rfl, h⟩
  · replace h := h.2 c
    refine r_iload_n (pc := 5) (tb_at tkX10_feed 3 rfl) rfl rfl ?_
    refine r_iconst (pc := 6) (tb_at tkX10_feed 4 rfl) ⟨by decide, by decide⟩ ?_
    refine q_icmp_gt (tgt := 48) (pc := 7) (tb_at tkX10_feed 5 rfl) (by decide) (fun c => ?_) (fun c => ?_)
    · replace h := h.1 c
      refine r_bipush (pc := 48) (tb_at tkX10_feed 21 rfl) ⟨by decide, by decide, by decide⟩ ?_
      exact r_iret (pc := 50) (tb_at tkX10_feed 22 rfl) rfl (Nat.le_refl _) (Nat.le_refl _) ⟨_, rfl, rfl, h⟩
    · replace h := h.2 c
      refine r_iload_n (pc := 10) (tb_at tkX10_feed 6 rfl) rfl rfl ?_
      refine r_invS (mc' := 0) (ms' := 0) [.inl v2] (S := []) (pc := 11) (tb_at tkX10_feed 7 rfl) rfl clX10_331 (Nat.le_of_ble_eq_true rfl) (Nat.le_refl _) (Nat.le_refl _) ?_
      refine Cal.mono h ?_
      rintro _ _ M1 ⟨x2, rfl, rfl, h⟩
      show OkI G miX10_feed (d + 1) K 14 [some (.inr (.inr (some 0))), some (.inl v1), some (.inl v2), some (.inl v3), some (.inl v4), some (.inl v5), some (.inl v6)] [.inl x2] M1
      refine q_if_eq (tgt := 48) (pc := 14) (tb_at tkX10_feed 8 rfl) (by decide) (fun c => ?_) (fun c => ?_)
      · replace h := h.1 c
        refine r_bipush (pc := 48) (tb_at tkX10_feed 21 rfl) ⟨by decide, by decide, by decide⟩ ?_
        exact r_iret (pc := 50) (tb_at tkX10_feed 22 rfl) rfl (Nat.le_refl _) (Nat.le_refl _) ⟨_, rfl, rfl, h⟩
      · replace h := h.2 c
        refine r_iload_n (pc := 17) (tb_at tkX10_feed 9 rfl) rfl rfl ?_
        refine r_invS (mc' := 0) (ms' := 0) [.inl v3] (S := []) (pc := 18) (tb_at tkX10_feed 10 rfl) rfl clX10_331 (Nat.le_of_ble_eq_true rfl) (Nat.le_refl _) (Nat.le_refl _) ?_
        refine Cal.mono h ?_
        rintro _ _ M3 ⟨x4, rfl, rfl, h⟩
        show OkI G miX10_feed (d + 1) K 21 [some (.inr (.inr (some 0))), some (.inl v1), some (.inl v2), some (.inl v3), some (.inl v4), some (.inl v5), some (.inl v6)] [.inl x4] M3
        refine q_if_eq (tgt := 48) (pc := 21) (tb_at tkX10_feed 11 rfl) (by decide) (fun c => ?_) (fun c => ?_)
        · replace h := h.1 c
          refine r_bipush (pc := 48) (tb_at tkX10_feed 21 rfl) ⟨by decide, by decide, by decide⟩ ?_
          exact r_iret (pc := 50) (tb_at tkX10_feed 22 rfl) rfl (Nat.le_refl _) (Nat.le_refl _) ⟨_, rfl, rfl, h⟩
        · replace h := h.2 c
          refine r_iload (pc := 24) (tb_at tkX10_feed 12 rfl) rfl ?_
          refine r_invS (mc' := 0) (ms' := 0) [.inl v4] (S := []) (pc := 26) (tb_at tkX10_feed 13 rfl) rfl clX10_331 (Nat.le_of_ble_eq_true rfl) (Nat.le_refl _) (Nat.le_refl _) ?_
          refine Cal.mono h ?_
          rintro _ _ M5 ⟨x6, rfl, rfl, h⟩
          show OkI G miX10_feed (d + 1) K 29 [some (.inr (.inr (some 0))), some (.inl v1), some (.inl v2), some (.inl v3), some (.inl v4), some (.inl v5), some (.inl v6)] [.inl x6] M5
          refine q_if_eq (tgt := 48) (pc := 29) (tb_at tkX10_feed 14 rfl) (by decide) (fun c => ?_) (fun c => ?_)
          · replace h := h.1 c
            refine r_bipush (pc := 48) (tb_at tkX10_feed 21 rfl) ⟨by decide, by decide, by decide⟩ ?_
            exact r_iret (pc := 50) (tb_at tkX10_feed 22 rfl) rfl (Nat.le_refl _) (Nat.le_refl _) ⟨_, rfl, rfl, h⟩
          · replace h := h.2 c
            refine r_iload (pc := 32) (tb_at tkX10_feed 15 rfl) rfl ?_
            refine r_invS (mc' := 0) (ms' := 0) [.inl v5] (S := []) (pc := 34) (tb_at tkX10_feed 16 rfl) rfl clX10_331 (Nat.le_of_ble_eq_true rfl) (Nat.le_refl _) (Nat.le_refl _) ?_
            refine Cal.mono h ?_
            rintro _ _ M7 ⟨x8, rfl, rfl, h⟩
            show OkI G miX10_feed (d + 1) K 37 [some (.inr (.inr (some 0))), some (.inl v1), some (.inl v2), some (.inl v3), some (.inl v4), some (.inl v5), some (.inl v6)] [.inl x8] M7
            refine q_if_eq (tgt := 48) (pc := 37) (tb_at tkX10_feed 17 rfl) (by decide) (fun c => ?_) (fun c => ?_)
            · replace h := h.1 c
              refine r_bipush (pc := 48) (tb_at tkX10_feed 21 rfl) ⟨by decide, by decide, by decide⟩ ?_
              exact r_iret (pc := 50) (tb_at tkX10_feed 22 rfl) rfl (Nat.le_refl _) (Nat.le_refl _) ⟨_, rfl, rfl, h⟩
            · replace h := h.2 c
              refine r_iload (pc := 40) (tb_at tkX10_feed 18 rfl) rfl ?_
              refine r_invS (mc' := 0) (ms' := 0) [.inl v6] (S := []) (pc := 42) (tb_at tkX10_feed 19 rfl) rfl clX10_331 (Nat.le_of_ble_eq_true rfl) (Nat.le_refl _) (Nat.le_refl _) ?_
              refine Cal.mono h ?_
              rintro _ _ M9 ⟨x10, rfl, rfl, h⟩
              show OkI G miX10_feed (d + 1) K 45 [some (.inr (.inr (some 0))), some (.inl v1), some (.inl v2), some (.inl v3), some (.inl v4), some (.inl v5), some (.inl v6)] [.inl x10] M9
              refine q_if_ne (tgt := 51) (pc := 45) (tb_at tkX10_feed 20 rfl) (by decide) (fun c => ?_) (fun c => ?_)
              · replace h := h.1 c
                refine r_aload_n (pc := 51) (tb_at tkX10_feed 23 rfl) rfl rfl ?_
                refine r_get 9 8 (pc := 52) (tb_at tkX10_feed 24 rfl) ly_0 flX10_72 rfl ?_
                refine r_iload_n (pc := 55) (tb_at tkX10_feed 25 rfl) rfl rfl ?_
                refine r_invV (mc' := 0) (ms' := 0) [.inl v1] (S := []) (pc := 56) (tb_at tkX10_feed 26 rfl) rfl ly_58 rfl rfl clX10_334 (Nat.le_of_ble_eq_true rfl) (Nat.le_refl _) (Nat.le_refl _) ?_
                refine Cal.mono h ?_
                rintro _ _ M11 ⟨x12, rfl, rfl, h⟩
                show OkI G miX10_feed (d + 1) K 59 [some (.inr (.inr (some 0))), some (.inl v1), some (.inl v2), some (.inl v3), some (.inl v4), some (.inl v5), some (.inl v6)] [.inl x12] M11
                refine q_if_ne (tgt := 65) (pc := 59) (tb_at tkX10_feed 27 rfl) (by decide) (fun c => ?_) (fun c => ?_)
                · replace h := h.1 c
                  refine r_aload_n (pc := 65) (tb_at tkX10_feed 30 rfl) rfl rfl ?_
                  refine r_get 9 8 (pc := 66) (tb_at tkX10_feed 31 rfl) ly_0 flX10_72 rfl ?_
                  refine r_iload_n (pc := 69) (tb_at tkX10_feed 32 rfl) rfl rfl ?_
                  refine r_invV (mc' := 0) (ms' := 0) [.inl v2] (S := []) (pc := 70) (tb_at tkX10_feed 33 rfl) rfl ly_58 rfl rfl clX10_337 (Nat.le_of_ble_eq_true rfl) (Nat.le_refl _) (Nat.le_refl _) ?_
                  refine Cal.mono h ?_
                  rintro _ _ M13 ⟨rfl, rfl, h⟩
                  show OkI G miX10_feed (d + 1) K 73 [some (.inr (.inr (some 0))), some (.inl v1), some (.inl v2), some (.inl v3), some (.inl v4), some (.inl v5), some (.inl v6)] [] M13
                  refine r_iload_n (pc := 73) (tb_at tkX10_feed 34 rfl) rfl rfl ?_
                  refine r_iconst (pc := 74) (tb_at tkX10_feed 35 rfl) ⟨by decide, by decide⟩ ?_
                  refine q_icmp_le (tgt := 86) (pc := 75) (tb_at tkX10_feed 36 rfl) (by decide) (fun c => ?_) (fun c => ?_)
                  · replace h := h.1 c
                    exact Ok.forget h (And.intro rfl (And.intro rfl (And.intro rfl (And.intro rfl (And.intro rfl trivial)))))
                  · replace h := h.2 c
                    refine r_aload_n (pc := 78) (tb_at tkX10_feed 37 rfl) rfl rfl ?_
                    refine r_get 9 8 (pc := 79) (tb_at tkX10_feed 38 rfl) ly_0 flX10_72 rfl ?_
                    refine r_iload_n (pc := 82) (tb_at tkX10_feed 39 rfl) rfl rfl ?_
                    refine r_invV (mc' := 0) (ms' := 0) [.inl v3] (S := []) (pc := 83) (tb_at tkX10_feed 40 rfl) rfl ly_58 rfl rfl clX10_337 (Nat.le_of_ble_eq_true rfl) (Nat.le_refl _) (Nat.le_refl _) ?_
                    refine Cal.mono h ?_
                    rintro _ _ M14 ⟨rfl, rfl, h⟩
                    show OkI G miX10_feed (d + 1) K 86 [some (.inr (.inr (some 0))), some (.inl v1), some (.inl v2), some (.inl v3), some (.inl v4), some (.inl v5), some (.inl v6)] [] M14
                    exact Ok.forget h (And.intro rfl (And.intro rfl (And.intro rfl (And.intro rfl (And.intro rfl trivial)))))
                · replace h := h.2 c
                  refine r_bipush (pc := 62) (tb_at tkX10_feed 28 rfl) ⟨by decide, by decide, by decide⟩ ?_
                  exact r_iret (pc := 64) (tb_at tkX10_feed 29 rfl) rfl (Nat.le_refl _) (Nat.le_refl _) ⟨_, rfl, rfl, h⟩
              · replace h := h.2 c
                refine r_bipush (pc := 48) (tb_at tkX10_feed 21 rfl) ⟨by decide, by decide, by decide⟩ ?_
                exact r_iret (pc := 50) (tb_at tkX10_feed 22 rfl) rfl (Nat.le_refl _) (Nat.le_refl _) ⟨_, rfl, rfl, h⟩
set_option maxRecDepth 100000 in
set_option maxHeartbeats 4000000 in
theorem gX10_feed_86 {G : GE} {d : Nat} {K : Int → Mem → Prop} {M : Mem} {v1 v4 v5 v6 : Int}  (h : ((v1 ≤ 2 → OkI G miX10_feed (d + 1) K 100 [some (.inr (.inr (some 0))), some (.inl v1), none, none, none, some (.inl v5), some (.inl v6)] [] M) ∧ (2 < v1 → CalV G miX9_add d [.inr (.inr (some 58)), .inl v4] M (fun M1 => OkI G miX10_feed (d + 1) K 100 [some (.inr (.inr (some 0))), some (.inl v1), none, none, none, some (.inl v5), some (.inl v6)] [] M1)))) : OkI G miX10_feed (d + 1) K 86 [some (.inr (.inr (some 0))), some (.inl v1), none, none, some (.inl v4), some (.inl v5), some (.inl v6)] [] M := by
  refine r_iload_n (pc := 86) (tb_at tkX10_feed 41 rfl) rfl rfl ?_
  refine r_iconst (pc := 87) (tb_at tkX10_feed 42 rfl) ⟨by decide, by decide⟩ ?_
  refine q_icmp_le (tgt := 100) (pc := 88) (tb_at tkX10_feed 43 rfl) (by decide) (fun c => ?_) (fun c => ?_)
  · replace h := h.1 c
    exact Ok.forget h (And.intro rfl (And.intro rfl (And.intro rfl (And.intro rfl trivial))))
  · replace h := h.2 c
    refine r_aload_n (pc := 91) (tb_at tkX10_feed 44 rfl) rfl rfl ?_
    refine r_get 9 8 (pc := 92) (tb_at tkX10_feed 45 rfl) ly_0 flX10_72 rfl ?_
    refine r_iload (pc := 95) (tb_at tkX10_feed 46 rfl) rfl ?_
    refine r_invV (mc' := 0) (ms' := 0) [.inl v4] (S := []) (pc := 97) (tb_at tkX10_feed 47 rfl) rfl ly_58 rfl rfl clX10_337 (Nat.le_of_ble_eq_true rfl) (Nat.le_refl _) (Nat.le_refl _) ?_
    refine Cal.mono h ?_
    rintro _ _ M1 ⟨rfl, rfl, h⟩
    show OkI G miX10_feed (d + 1) K 100 [some (.inr (.inr (some 0))), some (.inl v1), none, none, some (.inl v4), some (.inl v5), some (.inl v6)] [] M1
    exact Ok.forget h (And.intro rfl (And.intro rfl (And.intro rfl (And.intro rfl trivial))))
set_option maxRecDepth 100000 in
set_option maxHeartbeats 4000000 in
theorem gX10_feed_100 {G : GE} {d : Nat} {K : Int → Mem → Prop} {M : Mem} {v1 v5 v6 : Int}  (h : ((v1 ≤ 3 → OkI G miX10_feed (d + 1) K 114 [some (.inr (.inr (some 0))), some (.inl v1), none, none, none, none, some (.inl v6)] [] M) ∧ (3 < v1 → CalV G miX9_add d [.inr (.inr (some 58)), .inl v5] M (fun M1 => OkI G miX10_feed (d + 1) K 114 [some (.inr (.inr (some 0))), some (.inl v1), none, none, none, none, some (.inl v6)] [] M1)))) : OkI G miX10_feed (d + 1) K 100 [some (.inr (.inr (some 0))), some (.inl v1), none, none, none, some (.inl v5), some (.inl v6)] [] M := by
  refine r_iload_n (pc := 100) (tb_at tkX10_feed 48 rfl) rfl rfl ?_
  refine r_iconst (pc := 101) (tb_at tkX10_feed 49 rfl) ⟨by decide, by decide⟩ ?_
  refine q_icmp_le (tgt := 114) (pc := 102) (tb_at tkX10_feed 50 rfl) (by decide) (fun c => ?_) (fun c => ?_)
  · replace h := h.1 c
    exact Ok.forget h (And.intro rfl (And.intro rfl (And.intro rfl trivial)))
  · replace h := h.2 c
    refine r_aload_n (pc := 105) (tb_at tkX10_feed 51 rfl) rfl rfl ?_
    refine r_get 9 8 (pc := 106) (tb_at tkX10_feed 52 rfl) ly_0 flX10_72 rfl ?_
    refine r_iload (pc := 109) (tb_at tkX10_feed 53 rfl) rfl ?_
    refine r_invV (mc' := 0) (ms' := 0) [.inl v5] (S := []) (pc := 111) (tb_at tkX10_feed 54 rfl) rfl ly_58 rfl rfl clX10_337 (Nat.le_of_ble_eq_true rfl) (Nat.le_refl _) (Nat.le_refl _) ?_
    refine Cal.mono h ?_
    rintro _ _ M1 ⟨rfl, rfl, h⟩
    show OkI G miX10_feed (d + 1) K 114 [some (.inr (.inr (some 0))), some (.inl v1), none, none, none, some (.inl v5), some (.inl v6)] [] M1
    exact Ok.forget h (And.intro rfl (And.intro rfl (And.intro rfl trivial)))
set_option maxRecDepth 100000 in
set_option maxHeartbeats 4000000 in
theorem gX10_feed_114 {G : GE} {d : Nat} {K : Int → Mem → Prop} {M : Mem} {v1 v6 : Int}  (h : ((v1 ≤ 4 → K (M 58 2) M) ∧ (4 < v1 → CalV G miX9_add d [.inr (.inr (some 58)), .inl v6] M (fun M1 => K (M1 58 2) M1)))) : OkI G miX10_feed (d + 1) K 114 [some (.inr (.inr (some 0))), some (.inl v1), none, none, none, none, some (.inl v6)] [] M := by
  refine r_iload_n (pc := 114) (tb_at tkX10_feed 55 rfl) rfl rfl ?_
  refine r_iconst (pc := 115) (tb_at tkX10_feed 56 rfl) ⟨by decide, by decide⟩ ?_
  refine q_icmp_le (tgt := 128) (pc := 116) (tb_at tkX10_feed 57 rfl) (by decide) (fun c => ?_) (fun c => ?_)
  · replace h := h.1 c
    refine r_aload_n (pc := 128) (tb_at tkX10_feed 62 rfl) rfl rfl ?_
    refine r_get 9 8 (pc := 129) (tb_at tkX10_feed 63 rfl) ly_0 flX10_72 rfl ?_
    refine r_get 8 2 (pc := 132) (tb_at tkX10_feed 64 rfl) ly_58 flX10_340 rfl ?_
    exact r_iret (pc := 135) (tb_at tkX10_feed 65 rfl) rfl (Nat.le_refl _) (Nat.le_refl _) ⟨_, rfl, rfl, h⟩
  · replace h := h.2 c
    refine r_aload_n (pc := 119) (tb_at tkX10_feed 58 rfl) rfl rfl ?_
    refine r_get 9 8 (pc := 120) (tb_at tkX10_feed 59 rfl) ly_0 flX10_72 rfl ?_
    refine r_iload (pc := 123) (tb_at tkX10_feed 60 rfl) rfl ?_
    refine r_invV (mc' := 0) (ms' := 0) [.inl v6] (S := []) (pc := 125) (tb_at tkX10_feed 61 rfl) rfl ly_58 rfl rfl clX10_337 (Nat.le_of_ble_eq_true rfl) (Nat.le_refl _) (Nat.le_refl _) ?_
    refine Cal.mono h ?_
    rintro _ _ M1 ⟨rfl, rfl, h⟩
    show OkI G miX10_feed (d + 1) K 128 [some (.inr (.inr (some 0))), some (.inl v1), none, none, none, none, some (.inl v6)] [] M1
    refine r_aload_n (pc := 128) (tb_at tkX10_feed 62 rfl) rfl rfl ?_
    refine r_get 9 8 (pc := 129) (tb_at tkX10_feed 63 rfl) ly_0 flX10_72 rfl ?_
    refine r_get 8 2 (pc := 132) (tb_at tkX10_feed 64 rfl) ly_58 flX10_340 rfl ?_
    exact r_iret (pc := 135) (tb_at tkX10_feed 65 rfl) rfl (Nat.le_refl _) (Nat.le_refl _) ⟨_, rfl, rfl, h⟩
set_option maxRecDepth 100000 in
set_option maxHeartbeats 4000000 in
theorem gX10_text_0 {G : GE} {d : Nat} {K : Int → Mem → Prop} {M : Mem}  (h : CalI G miX9_parse d [.inr (.inr (some 58))] M (fun x2 M1 => ((¬ x2 = (-1) → K (w32 ((-100) - x2)) (mup M1 58 2 0)) ∧ (x2 = (-1) → CalI G miX10_doClauses d [.inr (.inr (some 0))] (mup M1 58 2 0) (fun x4 M3 => K x4 M3))))) : OkI G miX10_text (d + 1) K 0 [some (.inr (.inr (some 0))), none] [] M := by
  refine r_aload_n (pc := 0) (tb_at tkX10_text 0 rfl) rfl rfl ?_
  refine r_get 9 8 (pc := 1) (tb_at tkX10_text 1 rfl) ly_0 flX10_72 rfl ?_
  refine r_invV (mc' := 0) (ms' := 0) [] (S := []) (pc := 4) (tb_at tkX10_text 2 rfl) rfl ly_58 rfl rfl clX10_341 (Nat.le_of_ble_eq_true rfl) (Nat.le_refl _) (Nat.le_refl _) ?_
  refine Cal.mono h ?_
  rintro _ _ M1 ⟨x2, rfl, rfl, h⟩
  show OkI G miX10_text (d + 1) K 7 [some (.inr (.inr (some 0))), none] [.inl x2] M1
  refine r_istore_n (L' := [some (.inr (.inr (some 0))), some (.inl x2)]) (pc := 7) (tb_at tkX10_text 3 rfl) rfl (by decide) rfl ?_
  refine r_aload_n (pc := 8) (tb_at tkX10_text 4 rfl) rfl rfl ?_
  refine r_get 9 8 (pc := 9) (tb_at tkX10_text 5 rfl) ly_0 flX10_72 rfl ?_
  refine r_iconst (pc := 12) (tb_at tkX10_text 6 rfl) ⟨by decide, by decide⟩ ?_
  refine r_put 8 2 0 (pc := 13) (tb_at tkX10_text 7 rfl) ly_58 flX10_340 (fun r h => by cases h; rfl) (.inl rfl) rfl (fun h => by cases h) rfl ?_
  refine r_iload_n (pc := 16) (tb_at tkX10_text 8 rfl) rfl rfl ?_
  refine r_iconst (pc := 17) (tb_at tkX10_text 9 rfl) ⟨by decide, by decide⟩ ?_
  refine q_icmp_ne (tgt := 28) (pc := 18) (tb_at tkX10_text 10 rfl) (by decide) (fun c => ?_) (fun c => ?_)
  · replace h := h.1 c
    refine r_bipush (pc := 28) (tb_at tkX10_text 14 rfl) ⟨by decide, by decide, by decide⟩ ?_
    refine r_iload_n (pc := 30) (tb_at tkX10_text 15 rfl) rfl rfl ?_
    refine r_isub (pc := 31) (tb_at tkX10_text 16 rfl) ?_
    exact r_iret (pc := 32) (tb_at tkX10_text 17 rfl) rfl (Nat.le_refl _) (Nat.le_refl _) ⟨_, rfl, rfl, h⟩
  · replace h := h.2 c
    refine r_aload_n (pc := 21) (tb_at tkX10_text 11 rfl) rfl rfl ?_
    refine r_invV (mc' := 0) (ms' := 0) [] (S := []) (pc := 22) (tb_at tkX10_text 12 rfl) rfl ly_0 rfl rfl clX10_344 (Nat.le_of_ble_eq_true rfl) (Nat.le_refl _) (Nat.le_refl _) ?_
    refine Cal.mono h ?_
    rintro _ _ M3 ⟨x4, rfl, rfl, h⟩
    show OkI G miX10_text (d + 1) K 25 [some (.inr (.inr (some 0))), some (.inl x2)] [.inl x4] M3
    refine r_goto (tgt := 32) (pc := 25) (tb_at tkX10_text 13 rfl) (by decide) ?_
    exact r_iret (pc := 32) (tb_at tkX10_text 17 rfl) rfl (Nat.le_refl _) (Nat.le_refl _) ⟨_, rfl, rfl, h⟩
set_option maxRecDepth 100000 in
set_option maxHeartbeats 4000000 in
theorem gX10_tells_0 {G : GE} {d : Nat} {K : Int → Mem → Prop} {M : Mem} {v1 v2 : Int}  (h : CalI G miX7_isSheet d [.inr (.inr (some 61)), .inl v1] M (fun x2 M1 => ((x2 = 0 → K (-2) M1) ∧ (¬ x2 = 0 → ((v2 < 0 → K (-2) M1) ∧ (0 ≤ v2 → ((v2 ≤ 2 → CalI G miX7_isMissing d [.inr (.inr (some 61)), .inl v1] M1 (fun x4 M3 => ((x4 = 0 → (0 ≤ v1 ∧ v1 < 4) ∧ (((M3 63 (v1).toNat) ≤ 7 → CalV G miX10_refresh d [.inr (.inr (some 0))] M3 (fun M5 => CalI G miX10_firstWrong d [.inr (.inr (some 0)), .inl v1] M5 (fun x7 M6 => ((¬ v2 = 0 → ((¬ x7 = (-1) → K (-1) M6) ∧ (x7 = (-1) → CalI G miX10_hasAllFlights d [.inr (.inr (some 0)), .inl v1] M6 (fun x9 M8 => ((¬ x9 = 0 → ((¬ v2 = 1 → CalI G miX10_alongOf d [.inr (.inr (some 0)), .inl v1] M8 (fun x11 M10 => K x11 M10)) ∧ (v2 = 1 → CalI G miX10_totalOf d [.inr (.inr (some 0)), .inl v1] M8 (fun x13 M12 => K x13 M12)))) ∧ (x9 = 0 → K (-1) M8)))))) ∧ (v2 = 0 → K x7 M6))))) ∧ (7 < (M3 63 (v1).toNat) → K (-2) M3))) ∧ (¬ x4 = 0 → K (-11) M3)))) ∧ (2 < v2 → K (-2) M1)))))))) : OkI G miX10_tells (d + 1) K 0 [some (.inr (.inr (some 0))), some (.inl v1), some (.inl v2), none] [] M := by
  refine r_aload_n (pc := 0) (tb_at tkX10_tells 0 rfl) rfl rfl ?_
  refine r_get 9 9 (pc := 1) (tb_at tkX10_tells 1 rfl) ly_0 flX10_79 rfl ?_
  refine r_iload_n (pc := 4) (tb_at tkX10_tells 2 rfl) rfl rfl ?_
  refine r_invV (mc' := 0) (ms' := 0) [.inl v1] (S := []) (pc := 5) (tb_at tkX10_tells 3 rfl) rfl ly_61 rfl rfl clX10_284 (Nat.le_of_ble_eq_true rfl) (Nat.le_refl _) (Nat.le_refl _) ?_
  refine Cal.mono h ?_
  rintro _ _ M1 ⟨x2, rfl, rfl, h⟩
  show OkI G miX10_tells (d + 1) K 8 [some (.inr (.inr (some 0))), some (.inl v1), some (.inl v2), none] [.inl x2] M1
  refine q_if_eq (tgt := 20) (pc := 8) (tb_at tkX10_tells 4 rfl) (by decide) (fun c => ?_) (fun c => ?_)
  · replace h := h.1 c
    refine r_bipush (pc := 20) (tb_at tkX10_tells 10 rfl) ⟨by decide, by decide, by decide⟩ ?_
    exact r_iret (pc := 22) (tb_at tkX10_tells 11 rfl) rfl (Nat.le_refl _) (Nat.le_refl _) ⟨_, rfl, rfl, h⟩
  · replace h := h.2 c
    refine r_iload_n (pc := 11) (tb_at tkX10_tells 5 rfl) rfl rfl ?_
    refine q_if_lt (tgt := 20) (pc := 12) (tb_at tkX10_tells 6 rfl) (by decide) (fun c => ?_) (fun c => ?_)
    · replace h := h.1 c
      refine r_bipush (pc := 20) (tb_at tkX10_tells 10 rfl) ⟨by decide, by decide, by decide⟩ ?_
      exact r_iret (pc := 22) (tb_at tkX10_tells 11 rfl) rfl (Nat.le_refl _) (Nat.le_refl _) ⟨_, rfl, rfl, h⟩
    · replace h := h.2 c
      refine r_iload_n (pc := 15) (tb_at tkX10_tells 7 rfl) rfl rfl ?_
      refine r_iconst (pc := 16) (tb_at tkX10_tells 8 rfl) ⟨by decide, by decide⟩ ?_
      refine q_icmp_le (tgt := 23) (pc := 17) (tb_at tkX10_tells 9 rfl) (by decide) (fun c => ?_) (fun c => ?_)
      · replace h := h.1 c
        refine r_aload_n (pc := 23) (tb_at tkX10_tells 12 rfl) rfl rfl ?_
        refine r_get 9 9 (pc := 24) (tb_at tkX10_tells 13 rfl) ly_0 flX10_79 rfl ?_
        refine r_iload_n (pc := 27) (tb_at tkX10_tells 14 rfl) rfl rfl ?_
        refine r_invV (mc' := 0) (ms' := 0) [.inl v1] (S := []) (pc := 28) (tb_at tkX10_tells 15 rfl) rfl ly_61 rfl rfl clX10_347 (Nat.le_of_ble_eq_true rfl) (Nat.le_refl _) (Nat.le_refl _) ?_
        refine Cal.mono h ?_
        rintro _ _ M3 ⟨x4, rfl, rfl, h⟩
        show OkI G miX10_tells (d + 1) K 31 [some (.inr (.inr (some 0))), some (.inl v1), some (.inl v2), none] [.inl x4] M3
        refine q_if_eq (tgt := 37) (pc := 31) (tb_at tkX10_tells 16 rfl) (by decide) (fun c => ?_) (fun c => ?_)
        · replace h := h.1 c
          refine r_aload_n (pc := 37) (tb_at tkX10_tells 19 rfl) rfl rfl ?_
          refine r_get 9 9 (pc := 38) (tb_at tkX10_tells 20 rfl) ly_0 flX10_79 rfl ?_
          refine r_get 6 1 (pc := 41) (tb_at tkX10_tells 21 rfl) ly_61 flX10_350 rfl ?_
          refine r_iload_n (pc := 44) (tb_at tkX10_tells 22 rfl) rfl rfl ?_
          refine r_iald (pc := 45) (tb_at tkX10_tells 23 rfl) ly_63 h.1.1 h.1.2 ?_
          replace h := h.2
          refine r_bipush (pc := 46) (tb_at tkX10_tells 24 rfl) ⟨by decide, by decide, by decide⟩ ?_
          refine q_icmp_le (tgt := 54) (pc := 48) (tb_at tkX10_tells 25 rfl) (by decide) (fun c => ?_) (fun c => ?_)
          · replace h := h.1 c
            refine r_aload_n (pc := 54) (tb_at tkX10_tells 28 rfl) rfl rfl ?_
            refine r_invV (mc' := 0) (ms' := 0) [] (S := []) (pc := 55) (tb_at tkX10_tells 29 rfl) rfl ly_0 rfl rfl clX10_119 (Nat.le_of_ble_eq_true rfl) (Nat.le_refl _) (Nat.le_refl _) ?_
            refine Cal.mono h ?_
            rintro _ _ M5 ⟨rfl, rfl, h⟩
            show OkI G miX10_tells (d + 1) K 58 [some (.inr (.inr (some 0))), some (.inl v1), some (.inl v2), none] [] M5
            refine r_aload_n (pc := 58) (tb_at tkX10_tells 30 rfl) rfl rfl ?_
            refine r_iload_n (pc := 59) (tb_at tkX10_tells 31 rfl) rfl rfl ?_
            refine r_invV (mc' := 0) (ms' := 0) [.inl v1] (S := []) (pc := 60) (tb_at tkX10_tells 32 rfl) rfl ly_0 rfl rfl clX10_353 (Nat.le_of_ble_eq_true rfl) (Nat.le_refl _) (Nat.le_refl _) ?_
            refine Cal.mono h ?_
            rintro _ _ M6 ⟨x7, rfl, rfl, h⟩
            show OkI G miX10_tells (d + 1) K 63 [some (.inr (.inr (some 0))), some (.inl v1), some (.inl v2), none] [.inl x7] M6
            refine r_istore_n (L' := [some (.inr (.inr (some 0))), some (.inl v1), some (.inl v2), some (.inl x7)]) (pc := 63) (tb_at tkX10_tells 33 rfl) rfl (by decide) rfl ?_
            refine r_iload_n (pc := 64) (tb_at tkX10_tells 34 rfl) rfl rfl ?_
            refine q_if_ne (tgt := 70) (pc := 65) (tb_at tkX10_tells 35 rfl) (by decide) (fun c => ?_) (fun c => ?_)
            · replace h := h.1 c
              refine r_iload_n (pc := 70) (tb_at tkX10_tells 38 rfl) rfl rfl ?_
              refine r_iconst (pc := 71) (tb_at tkX10_tells 39 rfl) ⟨by decide, by decide⟩ ?_
              refine q_icmp_ne (tgt := 83) (pc := 72) (tb_at tkX10_tells 40 rfl) (by decide) (fun c => ?_) (fun c => ?_)
              · replace h := h.1 c
                refine r_iconst (pc := 83) (tb_at tkX10_tells 45 rfl) ⟨by decide, by decide⟩ ?_
                exact r_iret (pc := 84) (tb_at tkX10_tells 46 rfl) rfl (Nat.le_refl _) (Nat.le_refl _) ⟨_, rfl, rfl, h⟩
              · replace h := h.2 c
                refine r_aload_n (pc := 75) (tb_at tkX10_tells 41 rfl) rfl rfl ?_
                refine r_iload_n (pc := 76) (tb_at tkX10_tells 42 rfl) rfl rfl ?_
                refine r_invV (mc' := 0) (ms' := 0) [.inl v1] (S := []) (pc := 77) (tb_at tkX10_tells 43 rfl) rfl ly_0 rfl rfl clX10_356 (Nat.le_of_ble_eq_true rfl) (Nat.le_refl _) (Nat.le_refl _) ?_
                refine Cal.mono h ?_
                rintro _ _ M8 ⟨x9, rfl, rfl, h⟩
                show OkI G miX10_tells (d + 1) K 80 [some (.inr (.inr (some 0))), some (.inl v1), some (.inl v2), some (.inl x7)] [.inl x9] M8
                refine q_if_ne (tgt := 85) (pc := 80) (tb_at tkX10_tells 44 rfl) (by decide) (fun c => ?_) (fun c => ?_)
                · replace h := h.1 c
                  refine r_iload_n (pc := 85) (tb_at tkX10_tells 47 rfl) rfl rfl ?_
                  refine r_iconst (pc := 86) (tb_at tkX10_tells 48 rfl) ⟨by decide, by decide⟩ ?_
                  refine q_icmp_ne (tgt := 98) (pc := 87) (tb_at tkX10_tells 49 rfl) (by decide) (fun c => ?_) (fun c => ?_)
                  · replace h := h.1 c
                    refine r_aload_n (pc := 98) (tb_at tkX10_tells 54 rfl) rfl rfl ?_
                    refine r_iload_n (pc := 99) (tb_at tkX10_tells 55 rfl) rfl rfl ?_
                    refine r_invV (mc' := 0) (ms' := 0) [.inl v1] (S := []) (pc := 100) (tb_at tkX10_tells 56 rfl) rfl ly_0 rfl rfl clX10_362 (Nat.le_of_ble_eq_true rfl) (Nat.le_refl _) (Nat.le_refl _) ?_
                    refine Cal.mono h ?_
                    rintro _ _ M10 ⟨x11, rfl, rfl, h⟩
                    show OkI G miX10_tells (d + 1) K 103 [some (.inr (.inr (some 0))), some (.inl v1), some (.inl v2), some (.inl x7)] [.inl x11] M10
                    exact r_iret (pc := 103) (tb_at tkX10_tells 57 rfl) rfl (Nat.le_refl _) (Nat.le_refl _) ⟨_, rfl, rfl, h⟩
                  · replace h := h.2 c
                    refine r_aload_n (pc := 90) (tb_at tkX10_tells 50 rfl) rfl rfl ?_
                    refine r_iload_n (pc := 91) (tb_at tkX10_tells 51 rfl) rfl rfl ?_
                    refine r_invV (mc' := 0) (ms' := 0) [.inl v1] (S := []) (pc := 92) (tb_at tkX10_tells 52 rfl) rfl ly_0 rfl rfl clX10_359 (Nat.le_of_ble_eq_true rfl) (Nat.le_refl _) (Nat.le_refl _) ?_
                    refine Cal.mono h ?_
                    rintro _ _ M12 ⟨x13, rfl, rfl, h⟩
                    show OkI G miX10_tells (d + 1) K 95 [some (.inr (.inr (some 0))), some (.inl v1), some (.inl v2), some (.inl x7)] [.inl x13] M12
                    refine r_goto (tgt := 103) (pc := 95) (tb_at tkX10_tells 53 rfl) (by decide) ?_
                    exact r_iret (pc := 103) (tb_at tkX10_tells 57 rfl) rfl (Nat.le_refl _) (Nat.le_refl _) ⟨_, rfl, rfl, h⟩
                · replace h := h.2 c
                  refine r_iconst (pc := 83) (tb_at tkX10_tells 45 rfl) ⟨by decide, by decide⟩ ?_
                  exact r_iret (pc := 84) (tb_at tkX10_tells 46 rfl) rfl (Nat.le_refl _) (Nat.le_refl _) ⟨_, rfl, rfl, h⟩
            · replace h := h.2 c
              refine r_iload_n (pc := 68) (tb_at tkX10_tells 36 rfl) rfl rfl ?_
              exact r_iret (pc := 69) (tb_at tkX10_tells 37 rfl) rfl (Nat.le_refl _) (Nat.le_refl _) ⟨_, rfl, rfl, h⟩
          · replace h := h.2 c
            refine r_bipush (pc := 51) (tb_at tkX10_tells 26 rfl) ⟨by decide, by decide, by decide⟩ ?_
            exact r_iret (pc := 53) (tb_at tkX10_tells 27 rfl) rfl (Nat.le_refl _) (Nat.le_refl _) ⟨_, rfl, rfl, h⟩
        · replace h := h.2 c
          refine r_bipush (pc := 34) (tb_at tkX10_tells 17 rfl) ⟨by decide, by decide, by decide⟩ ?_
          exact r_iret (pc := 36) (tb_at tkX10_tells 18 rfl) rfl (Nat.le_refl _) (Nat.le_refl _) ⟨_, rfl, rfl, h⟩
      · replace h := h.2 c
        refine r_bipush (pc := 20) (tb_at tkX10_tells 10 rfl) ⟨by decide, by decide, by decide⟩ ?_
        exact r_iret (pc := 22) (tb_at tkX10_tells 11 rfl) rfl (Nat.le_refl _) (Nat.le_refl _) ⟨_, rfl, rfl, h⟩
set_option maxRecDepth 100000 in
set_option maxHeartbeats 4000000 in
theorem gX10_film_0 {G : GE} {d : Nat} {K : Int → Mem → Prop} {M : Mem} {v1 : Int}  (h : CalI G miX7_isSheet d [.inr (.inr (some 61)), .inl v1] M (fun x2 M1 => ((¬ x2 = 0 → CalV G miX10_refresh d [.inr (.inr (some 0))] M1 (fun M3 => CalI G miX1_hasCover d [.inr (.inr (some 28))] M3 (fun x5 M4 => ((¬ x5 = 0 → CalI G miX1_bestSets d [.inr (.inr (some 28))] M4 (fun x7 M6 => CalV G miX7_become d [.inr (.inr (some 61)), .inl v1, .inl 0, .inl x7] M6 (fun M8 => CalI G miX5_allFlights d [.inr (.inr (some 1))] M8 (fun x10 M9 => OkI G miX10_film (d + 1) K 59 [some (.inr (.inr (some 0))), some (.inl v1), some (.inl x7), some (.inl x10), some (.inl 0), none] [] M9)))) ∧ (x5 = 0 → K (-1) M4))))) ∧ (x2 = 0 → K (-2) M1)))) : OkI G miX10_film (d + 1) K 0 [some (.inr (.inr (some 0))), some (.inl v1), none, none, none, none] [] M := by
  refine r_aload_n (pc := 0) (tb_at tkX10_film 0 rfl) rfl rfl ?_
  refine r_get 9 9 (pc := 1) (tb_at tkX10_film 1 rfl) ly_0 flX10_79 rfl ?_
  refine r_iload_n (pc := 4) (tb_at tkX10_film 2 rfl) rfl rfl ?_
  refine r_invV (mc' := 0) (ms' := 0) [.inl v1] (S := []) (pc := 5) (tb_at tkX10_film 3 rfl) rfl ly_61 rfl rfl clX10_284 (Nat.le_of_ble_eq_true rfl) (Nat.le_refl _) (Nat.le_refl _) ?_
  refine Cal.mono h ?_
  rintro _ _ M1 ⟨x2, rfl, rfl, h⟩
  show OkI G miX10_film (d + 1) K 8 [some (.inr (.inr (some 0))), some (.inl v1), none, none, none, none] [.inl x2] M1
  refine q_if_ne (tgt := 14) (pc := 8) (tb_at tkX10_film 4 rfl) (by decide) (fun c => ?_) (fun c => ?_)
  · replace h := h.1 c
    refine r_aload_n (pc := 14) (tb_at tkX10_film 7 rfl) rfl rfl ?_
    refine r_invV (mc' := 0) (ms' := 0) [] (S := []) (pc := 15) (tb_at tkX10_film 8 rfl) rfl ly_0 rfl rfl clX10_119 (Nat.le_of_ble_eq_true rfl) (Nat.le_refl _) (Nat.le_refl _) ?_
    refine Cal.mono h ?_
    rintro _ _ M3 ⟨rfl, rfl, h⟩
    show OkI G miX10_film (d + 1) K 18 [some (.inr (.inr (some 0))), some (.inl v1), none, none, none, none] [] M3
    refine r_aload_n (pc := 18) (tb_at tkX10_film 9 rfl) rfl rfl ?_
    refine r_get 9 3 (pc := 19) (tb_at tkX10_film 10 rfl) ly_0 flX10_35 rfl ?_
    refine r_invV (mc' := 0) (ms' := 0) [] (S := []) (pc := 22) (tb_at tkX10_film 11 rfl) rfl ly_28 rfl rfl clX10_240 (Nat.le_of_ble_eq_true rfl) (Nat.le_refl _) (Nat.le_refl _) ?_
    refine Cal.mono h ?_
    rintro _ _ M4 ⟨x5, rfl, rfl, h⟩
    show OkI G miX10_film (d + 1) K 25 [some (.inr (.inr (some 0))), some (.inl v1), none, none, none, none] [.inl x5] M4
    refine q_if_ne (tgt := 30) (pc := 25) (tb_at tkX10_film 12 rfl) (by decide) (fun c => ?_) (fun c => ?_)
    · replace h := h.1 c
      refine r_aload_n (pc := 30) (tb_at tkX10_film 15 rfl) rfl rfl ?_
      refine r_get 9 3 (pc := 31) (tb_at tkX10_film 16 rfl) ly_0 flX10_35 rfl ?_
      refine r_invV (mc' := 0) (ms' := 0) [] (S := []) (pc := 34) (tb_at tkX10_film 17 rfl) rfl ly_28 rfl rfl clX10_247 (Nat.le_of_ble_eq_true rfl) (Nat.le_refl _) (Nat.le_refl _) ?_
      refine Cal.mono h ?_
      rintro _ _ M6 ⟨x7, rfl, rfl, h⟩
      show OkI G miX10_film (d + 1) K 37 [some (.inr (.inr (some 0))), some (.inl v1), none, none, none, none] [.inl x7] M6
      refine r_istore_n (L' := [some (.inr (.inr (some 0))), some (.inl v1), some (.inl x7), none, none, none]) (pc := 37) (tb_at tkX10_film 18 rfl) rfl (by decide) rfl ?_
      refine r_aload_n (pc := 38) (tb_at tkX10_film 19 rfl) rfl rfl ?_
      refine r_get 9 9 (pc := 39) (tb_at tkX10_film 20 rfl) ly_0 flX10_79 rfl ?_
      refine r_iload_n (pc := 42) (tb_at tkX10_film 21 rfl) rfl rfl ?_
      refine r_iconst (pc := 43) (tb_at tkX10_film 22 rfl) ⟨by decide, by decide⟩ ?_
      refine r_iload_n (pc := 44) (tb_at tkX10_film 23 rfl) rfl rfl ?_
      refine r_invV (mc' := 0) (ms' := 0) [.inl v1, .inl 0, .inl x7] (S := []) (pc := 45) (tb_at tkX10_film 24 rfl) rfl ly_61 rfl rfl clX10_365 (Nat.le_of_ble_eq_true rfl) (Nat.le_refl _) (Nat.le_refl _) ?_
      refine Cal.mono h ?_
      rintro _ _ M8 ⟨rfl, rfl, h⟩
      show OkI G miX10_film (d + 1) K 48 [some (.inr (.inr (some 0))), some (.inl v1), some (.inl x7), none, none, none] [] M8
      refine r_aload_n (pc := 48) (tb_at tkX10_film 25 rfl) rfl rfl ?_
      refine r_get 9 0 (pc := 49) (tb_at tkX10_film 26 rfl) ly_0 flX10_14 rfl ?_
      refine r_invV (mc' := 0) (ms' := 0) [] (S := []) (pc := 52) (tb_at tkX10_film 27 rfl) rfl ly_1 rfl rfl clX10_368 (Nat.le_of_ble_eq_true rfl) (Nat.le_refl _) (Nat.le_refl _) ?_
      refine Cal.mono h ?_
      rintro _ _ M9 ⟨x10, rfl, rfl, h⟩
      show OkI G miX10_film (d + 1) K 55 [some (.inr (.inr (some 0))), some (.inl v1), some (.inl x7), none, none, none] [.inl x10] M9
      refine r_istore_n (L' := [some (.inr (.inr (some 0))), some (.inl v1), some (.inl x7), some (.inl x10), none, none]) (pc := 55) (tb_at tkX10_film 28 rfl) rfl (by decide) rfl ?_
      refine r_iconst (pc := 56) (tb_at tkX10_film 29 rfl) ⟨by decide, by decide⟩ ?_
      refine r_istore (L' := [some (.inr (.inr (some 0))), some (.inl v1), some (.inl x7), some (.inl x10), some (.inl 0), none]) (pc := 57) (tb_at tkX10_film 30 rfl) (by decide) rfl ?_
      exact h
    · replace h := h.2 c
      refine r_iconst (pc := 28) (tb_at tkX10_film 13 rfl) ⟨by decide, by decide⟩ ?_
      exact r_iret (pc := 29) (tb_at tkX10_film 14 rfl) rfl (Nat.le_refl _) (Nat.le_refl _) ⟨_, rfl, rfl, h⟩
  · replace h := h.2 c
    refine r_bipush (pc := 11) (tb_at tkX10_film 5 rfl) ⟨by decide, by decide, by decide⟩ ?_
    exact r_iret (pc := 13) (tb_at tkX10_film 6 rfl) rfl (Nat.le_refl _) (Nat.le_refl _) ⟨_, rfl, rfl, h⟩
set_option maxRecDepth 100000 in
set_option maxHeartbeats 4000000 in
theorem gX10_film_59 {G : GE} {d : Nat} {K : Int → Mem → Prop} {M : Mem} {v1 v2 v3 v4 : Int}  (h : ((v2 ≤ v4 → K v2 M) ∧ (v4 < v2 → (0 ≤ v3 ∧ v3 < 128) ∧ CalV G miX7_write d [.inr (.inr (some 61)), .inl v1, .inl v4, .inr (.inl (M 32 (v3).toNat))] M (fun M1 => OkI G miX10_film (d + 1) K 59 [some (.inr (.inr (some 0))), some (.inl v1), some (.inl v2), some (.inl (iand v3 (ixor (M 32 (v3).toNat) (-1)))), some (.inl (w32 (v4 + 1))), none] [] M1)))) : OkI G miX10_film (d + 1) K 59 [some (.inr (.inr (some 0))), some (.inl v1), some (.inl v2), some (.inl v3), some (.inl v4), none] [] M := by
  refine r_iload (pc := 59) (tb_at tkX10_film 31 rfl) rfl ?_
  refine r_iload_n (pc := 61) (tb_at tkX10_film 32 rfl) rfl rfl ?_
  refine q_icmp_ge (tgt := 102) (pc := 62) (tb_at tkX10_film 33 rfl) (by decide) (fun c => ?_) (fun c => ?_)
  · replace h := h.1 c
    refine r_iload_n (pc := 102) (tb_at tkX10_film 55 rfl) rfl rfl ?_
    exact r_iret (pc := 103) (tb_at tkX10_film 56 rfl) rfl (Nat.le_refl _) (Nat.le_refl _) ⟨_, rfl, rfl, h⟩
  · replace h := h.2 c
    refine r_aload_n (pc := 65) (tb_at tkX10_film 34 rfl) rfl rfl ?_
    refine r_get 9 3 (pc := 66) (tb_at tkX10_film 35 rfl) ly_0 flX10_35 rfl ?_
    refine r_get 1 5 (pc := 69) (tb_at tkX10_film 36 rfl) ly_28 flX10_371 rfl ?_
    refine r_iload_n (pc := 72) (tb_at tkX10_film 37 rfl) rfl rfl ?_
    refine r_iald (pc := 73) (tb_at tkX10_film 38 rfl) ly_32 h.1.1 h.1.2 ?_
    replace h := h.2
    refine r_istore (L' := [some (.inr (.inr (some 0))), some (.inl v1), some (.inl v2), some (.inl v3), some (.inl v4), some (.inl (M 32 (v3).toNat))]) (pc := 74) (tb_at tkX10_film 39 rfl) (by decide) rfl ?_
    refine r_aload_n (pc := 76) (tb_at tkX10_film 40 rfl) rfl rfl ?_
    refine r_get 9 9 (pc := 77) (tb_at tkX10_film 41 rfl) ly_0 flX10_79 rfl ?_
    refine r_iload_n (pc := 80) (tb_at tkX10_film 42 rfl) rfl rfl ?_
    refine r_iload (pc := 81) (tb_at tkX10_film 43 rfl) rfl ?_
    refine r_iload (pc := 83) (tb_at tkX10_film 44 rfl) rfl ?_
    refine r_i2l (pc := 85) (tb_at tkX10_film 45 rfl) ?_
    refine r_invV (mc' := 0) (ms' := 0) [.inl v1, .inl v4, .inr (.inl (M 32 (v3).toNat))] (S := []) (pc := 86) (tb_at tkX10_film 46 rfl) rfl ly_61 rfl rfl clX10_374 (Nat.le_of_ble_eq_true rfl) (Nat.le_refl _) (Nat.le_refl _) ?_
    refine Cal.mono h ?_
    rintro _ _ M1 ⟨rfl, rfl, h⟩
    show OkI G miX10_film (d + 1) K 89 [some (.inr (.inr (some 0))), some (.inl v1), some (.inl v2), some (.inl v3), some (.inl v4), some (.inl (M 32 (v3).toNat))] [] M1
    refine r_iload_n (pc := 89) (tb_at tkX10_film 47 rfl) rfl rfl ?_
    refine r_iload (pc := 90) (tb_at tkX10_film 48 rfl) rfl ?_
    refine r_iconst (pc := 92) (tb_at tkX10_film 49 rfl) ⟨by decide, by decide⟩ ?_
    refine r_ixor (pc := 93) (tb_at tkX10_film 50 rfl) ?_
    refine r_iand (pc := 94) (tb_at tkX10_film 51 rfl) ?_
    refine r_istore_n (L' := [some (.inr (.inr (some 0))), some (.inl v1), some (.inl v2), some (.inl (iand v3 (ixor (M 32 (v3).toNat) (-1)))), some (.inl v4), some (.inl (M 32 (v3).toNat))]) (pc := 95) (tb_at tkX10_film 52 rfl) rfl (by decide) rfl ?_
    refine r_iinc (L' := [some (.inr (.inr (some 0))), some (.inl v1), some (.inl v2), some (.inl (iand v3 (ixor (M 32 (v3).toNat) (-1)))), some (.inl (w32 (v4 + 1))), some (.inl (M 32 (v3).toNat))]) (pc := 96) (tb_at tkX10_film 53 rfl) rfl (by decide) rfl ?_
    refine r_goto (tgt := 59) (pc := 99) (tb_at tkX10_film 54 rfl) (by decide) ?_
    exact Ok.forget h (And.intro rfl (And.intro rfl (And.intro rfl (And.intro rfl (And.intro rfl trivial)))))
set_option maxRecDepth 100000 in
set_option maxHeartbeats 4000000 in
theorem gX10_load_0 {G : GE} {d : Nat} {K : Int → Mem → Prop} {M : Mem} {v1 v2 v3 v4 : Int}  (h : CalI G miX7_isSheet d [.inr (.inr (some 61)), .inl v1] M (fun x2 M1 => ((x2 = 0 → K (-2) M1) ∧ (¬ x2 = 0 → ((v2 = 0 → OkI G miX10_load (d + 1) K 20 [some (.inr (.inr (some 0))), some (.inl v1), some (.inl v2), some (.inl v3), some (.inl v4), none, none, none, none] [] M1) ∧ (¬ v2 = 0 → ((¬ v2 = 1 → K (-2) M1) ∧ (v2 = 1 → OkI G miX10_load (d + 1) K 20 [some (.inr (.inr (some 0))), some (.inl v1), some (.inl v2), some (.inl v3), some (.inl v4), none, none, none, none] [] M1)))))))) : OkI G miX10_load (d + 1) K 0 [some (.inr (.inr (some 0))), some (.inl v1), some (.inl v2), some (.inl v3), some (.inl v4), none, none, none, none] [] M := by
  refine r_aload_n (pc := 0) (tb_at tkX10_load 0 rfl) rfl rfl ?_
  refine r_get 9 9 (pc := 1) (tb_at tkX10_load 1 rfl) ly_0 flX10_79 rfl ?_
  refine r_iload_n (pc := 4) (tb_at tkX10_load 2 rfl) rfl rfl ?_
  refine r_invV (mc' := 0) (ms' := 0) [.inl v1] (S := []) (pc := 5) (tb_at tkX10_load 3 rfl) rfl ly_61 rfl rfl clX10_284 (Nat.le_of_ble_eq_true rfl) (Nat.le_refl _) (Nat.le_refl _) ?_
  refine Cal.mono h ?_
  rintro _ _ M1 ⟨x2, rfl, rfl, h⟩
  show OkI G miX10_load (d + 1) K 8 [some (.inr (.inr (some 0))), some (.inl v1), some (.inl v2), some (.inl v3), some (.inl v4), none, none, none, none] [.inl x2] M1
  refine q_if_eq (tgt := 32) (pc := 8) (tb_at tkX10_load 4 rfl) (by decide) (fun c => ?_) (fun c => ?_)
  · replace h := h.1 c
    refine r_bipush (pc := 32) (tb_at tkX10_load 15 rfl) ⟨by decide, by decide, by decide⟩ ?_
    exact r_iret (pc := 34) (tb_at tkX10_load 16 rfl) rfl (Nat.le_refl _) (Nat.le_refl _) ⟨_, rfl, rfl, h⟩
  · replace h := h.2 c
    refine r_iload_n (pc := 11) (tb_at tkX10_load 5 rfl) rfl rfl ?_
    refine q_if_eq (tgt := 20) (pc := 12) (tb_at tkX10_load 6 rfl) (by decide) (fun c => ?_) (fun c => ?_)
    · replace h := h.1 c
      exact h
    · replace h := h.2 c
      refine r_iload_n (pc := 15) (tb_at tkX10_load 7 rfl) rfl rfl ?_
      refine r_iconst (pc := 16) (tb_at tkX10_load 8 rfl) ⟨by decide, by decide⟩ ?_
      refine q_icmp_ne (tgt := 32) (pc := 17) (tb_at tkX10_load 9 rfl) (by decide) (fun c => ?_) (fun c => ?_)
      · replace h := h.1 c
        refine r_bipush (pc := 32) (tb_at tkX10_load 15 rfl) ⟨by decide, by decide, by decide⟩ ?_
        exact r_iret (pc := 34) (tb_at tkX10_load 16 rfl) rfl (Nat.le_refl _) (Nat.le_refl _) ⟨_, rfl, rfl, h⟩
      · replace h := h.2 c
        exact h
set_option maxRecDepth 100000 in
set_option maxHeartbeats 4000000 in
theorem gX10_load_20 {G : GE} {d : Nat} {K : Int → Mem → Prop} {M : Mem} {v1 v2 v3 v4 : Int}  (h : ((v4 < 0 → K (-2) M) ∧ (0 ≤ v4 → ((v4 ≤ 7 → CalI G miX7_isMissing d [.inr (.inr (some 61)), .inl v1] M (fun x2 M1 => ((x2 = 0 → (0 ≤ v1 ∧ v1 < 4) ∧ (((M1 62 (v1).toNat) = v2 → OkI G miX10_load (d + 1) K 71 [some (.inr (.inr (some 0))), some (.inl v1), none, some (.inl v3), some (.inl v4), some (.inl 0), some (.inl 0), none, none] [] M1) ∧ (¬ (M1 62 (v1).toNat) = v2 → K (-13) M1))) ∧ (¬ x2 = 0 → K (-11) M1)))) ∧ (7 < v4 → K (-2) M))))) : OkI G miX10_load (d + 1) K 20 [some (.inr (.inr (some 0))), some (.inl v1), some (.inl v2), some (.inl v3), some (.inl v4), none, none, none, none] [] M := by
  refine r_iload (pc := 20) (tb_at tkX10_load 10 rfl) rfl ?_
  refine q_if_lt (tgt := 32) (pc := 22) (tb_at tkX10_load 11 rfl) (by decide) (fun c => ?_) (fun c => ?_)
  · replace h := h.1 c
    refine r_bipush (pc := 32) (tb_at tkX10_load 15 rfl) ⟨by decide, by decide, by decide⟩ ?_
    exact r_iret (pc := 34) (tb_at tkX10_load 16 rfl) rfl (Nat.le_refl _) (Nat.le_refl _) ⟨_, rfl, rfl, h⟩
  · replace h := h.2 c
    refine r_iload (pc := 25) (tb_at tkX10_load 12 rfl) rfl ?_
    refine r_bipush (pc := 27) (tb_at tkX10_load 13 rfl) ⟨by decide, by decide, by decide⟩ ?_
    refine q_icmp_le (tgt := 35) (pc := 29) (tb_at tkX10_load 14 rfl) (by decide) (fun c => ?_) (fun c => ?_)
    · replace h := h.1 c
      refine r_aload_n (pc := 35) (tb_at tkX10_load 17 rfl) rfl rfl ?_
      refine r_get 9 9 (pc := 36) (tb_at tkX10_load 18 rfl) ly_0 flX10_79 rfl ?_
      refine r_iload_n (pc := 39) (tb_at tkX10_load 19 rfl) rfl rfl ?_
      refine r_invV (mc' := 0) (ms' := 0) [.inl v1] (S := []) (pc := 40) (tb_at tkX10_load 20 rfl) rfl ly_61 rfl rfl clX10_347 (Nat.le_of_ble_eq_true rfl) (Nat.le_refl _) (Nat.le_refl _) ?_
      refine Cal.mono h ?_
      rintro _ _ M1 ⟨x2, rfl, rfl, h⟩
      show OkI G miX10_load (d + 1) K 43 [some (.inr (.inr (some 0))), some (.inl v1), some (.inl v2), some (.inl v3), some (.inl v4), none, none, none, none] [.inl x2] M1
      refine q_if_eq (tgt := 49) (pc := 43) (tb_at tkX10_load 21 rfl) (by decide) (fun c => ?_) (fun c => ?_)
      · replace h := h.1 c
        refine r_aload_n (pc := 49) (tb_at tkX10_load 24 rfl) rfl rfl ?_
        refine r_get 9 9 (pc := 50) (tb_at tkX10_load 25 rfl) ly_0 flX10_79 rfl ?_
        refine r_get 6 0 (pc := 53) (tb_at tkX10_load 26 rfl) ly_61 flX10_378 rfl ?_
        refine r_iload_n (pc := 56) (tb_at tkX10_load 27 rfl) rfl rfl ?_
        refine r_iald (pc := 57) (tb_at tkX10_load 28 rfl) ly_62 h.1.1 h.1.2 ?_
        replace h := h.2
        refine r_iload_n (pc := 58) (tb_at tkX10_load 29 rfl) rfl rfl ?_
        refine q_icmp_eq (tgt := 65) (pc := 59) (tb_at tkX10_load 30 rfl) (by decide) (fun c => ?_) (fun c => ?_)
        · replace h := h.1 c
          refine r_iconst (pc := 65) (tb_at tkX10_load 33 rfl) ⟨by decide, by decide⟩ ?_
          refine r_istore (L' := [some (.inr (.inr (some 0))), some (.inl v1), some (.inl v2), some (.inl v3), some (.inl v4), some (.inl 0), none, none, none]) (pc := 66) (tb_at tkX10_load 34 rfl) (by decide) rfl ?_
          refine r_iconst (pc := 68) (tb_at tkX10_load 35 rfl) ⟨by decide, by decide⟩ ?_
          refine r_istore (L' := [some (.inr (.inr (some 0))), some (.inl v1), some (.inl v2), some (.inl v3), some (.inl v4), some (.inl 0), some (.inl 0), none, none]) (pc := 69) (tb_at tkX10_load 36 rfl) (by decide) rfl ?_
          exact Ok.forget h (And.intro rfl (And.intro rfl (And.intro rfl (And.intro rfl (And.intro rfl (And.intro rfl trivial))))))
        · replace h := h.2 c
          refine r_bipush (pc := 62) (tb_at tkX10_load 31 rfl) ⟨by decide, by decide, by decide⟩ ?_
          exact r_iret (pc := 64) (tb_at tkX10_load 32 rfl) rfl (Nat.le_refl _) (Nat.le_refl _) ⟨_, rfl, rfl, h⟩
      · replace h := h.2 c
        refine r_bipush (pc := 46) (tb_at tkX10_load 22 rfl) ⟨by decide, by decide, by decide⟩ ?_
        exact r_iret (pc := 48) (tb_at tkX10_load 23 rfl) rfl (Nat.le_refl _) (Nat.le_refl _) ⟨_, rfl, rfl, h⟩
    · replace h := h.2 c
      refine r_bipush (pc := 32) (tb_at tkX10_load 15 rfl) ⟨by decide, by decide, by decide⟩ ?_
      exact r_iret (pc := 34) (tb_at tkX10_load 16 rfl) rfl (Nat.le_refl _) (Nat.le_refl _) ⟨_, rfl, rfl, h⟩
set_option maxRecDepth 100000 in
set_option maxHeartbeats 4000000 in
theorem gX10_load_71 {G : GE} {d : Nat} {K : Int → Mem → Prop} {M : Mem} {v1 v3 v4 v5 v6 : Int}  (h : ((v4 ≤ v6 → K v5 M) ∧ (v6 < v4 → (((w64 (v3 + (4 * v6))) < 0 → K (-12) M) ∧ (0 ≤ (w64 (v3 + (4 * v6))) → (0 ≤ v1 ∧ v1 < 4) ∧ (((w64 ((v3 + (4 * v6)) + 4)) ≤ (M 63 (v1).toNat) → CalI G miX10_loadOne d [.inr (.inr (some 0)), .inl v1, .inl (w32 (w64 (v3 + (4 * v6))))] M (fun x2 M1 => ((x2 < 0 → OkI G miX10_load (d + 1) K 71 [some (.inr (.inr (some 0))), some (.inl v1), none, some (.inl v3), some (.inl v4), some (.inl v5), some (.inl (w32 (v6 + 1))), none, none] [] M1) ∧ (0 ≤ x2 → OkI G miX10_load (d + 1) K 71 [some (.inr (.inr (some 0))), some (.inl v1), none, some (.inl v3), some (.inl v4), some (.inl (w32 (v5 + 1))), some (.inl (w32 (v6 + 1))), none, none] [] M1)))) ∧ ((M 63 (v1).toNat) < (w64 ((v3 + (4 * v6)) + 4)) → K (-12) M))))))) : OkI G miX10_load (d + 1) K 71 [some (.inr (.inr (some 0))), some (.inl v1), none, some (.inl v3), some (.inl v4), some (.inl v5), some (.inl v6), none, none] [] M := by
  refine r_iload (pc := 71) (tb_at tkX10_load 37 rfl) rfl ?_
  refine r_iload (pc := 73) (tb_at tkX10_load 38 rfl) rfl ?_
  refine q_icmp_ge (tgt := 140) (pc := 75) (tb_at tkX10_load 39 rfl) (by decide) (fun c => ?_) (fun c => ?_)
  · replace h := h.1 c
    refine r_iload (pc := 140) (tb_at tkX10_load 74 rfl) rfl ?_
    exact r_iret (pc := 142) (tb_at tkX10_load 75 rfl) rfl (Nat.le_refl _) (Nat.le_refl _) ⟨_, rfl, rfl, h⟩
  · replace h := h.2 c
    refine r_iload_n (pc := 78) (tb_at tkX10_load 40 rfl) rfl rfl ?_
    refine r_i2l (pc := 79) (tb_at tkX10_load 41 rfl) ?_
    refine r_ldc2 (n := 4) (pc := 80) (tb_at tkX10_load 42 rfl) kcX10_381 ⟨by decide, by decide⟩ ?_
    refine r_iload (pc := 83) (tb_at tkX10_load 43 rfl) rfl ?_
    refine r_i2l (pc := 85) (tb_at tkX10_load 44 rfl) ?_
    refine r_lmul (pc := 86) (tb_at tkX10_load 45 rfl) ?_
    refine r_ladd_r (pc := 87) (tb_at tkX10_load 46 rfl) ?_
    refine r_lstore (L' := [some (.inr (.inr (some 0))), some (.inl v1), none, some (.inl v3), some (.inl v4), some (.inl v5), some (.inl v6), some (.inr (.inl (w64 (v3 + (4 * v6))))), none]) (pc := 88) (tb_at tkX10_load 47 rfl) (by decide) rfl ?_
    refine r_lload (pc := 90) (tb_at tkX10_load 48 rfl) rfl ?_
    refine r_lconst (v := 0) (pc := 92) (tb_at tkX10_load 49 rfl) ⟨by decide, by decide, by decide⟩ ?_
    refine r_lcmp (pc := 93) (tb_at tkX10_load 50 rfl) ?_
    refine q_lif_lt (tgt := 117) (pc := 94) (tb_at tkX10_load 51 rfl) (by decide) (fun c => ?_) (fun c => ?_)
    · replace h := h.1 c
      refine r_bipush (pc := 117) (tb_at tkX10_load 63 rfl) ⟨by decide, by decide, by decide⟩ ?_
      exact r_iret (pc := 119) (tb_at tkX10_load 64 rfl) rfl (Nat.le_refl _) (Nat.le_refl _) ⟨_, rfl, rfl, h⟩
    · replace h := h.2 c
      refine r_lload (pc := 97) (tb_at tkX10_load 52 rfl) rfl ?_
      refine r_ldc2 (n := 4) (pc := 99) (tb_at tkX10_load 53 rfl) kcX10_381 ⟨by decide, by decide⟩ ?_
      refine r_ladd_l (pc := 102) (tb_at tkX10_load 54 rfl) ?_
      refine r_aload_n (pc := 103) (tb_at tkX10_load 55 rfl) rfl rfl ?_
      refine r_get 9 9 (pc := 104) (tb_at tkX10_load 56 rfl) ly_0 flX10_79 rfl ?_
      refine r_get 6 1 (pc := 107) (tb_at tkX10_load 57 rfl) ly_61 flX10_350 rfl ?_
      refine r_iload_n (pc := 110) (tb_at tkX10_load 58 rfl) rfl rfl ?_
      refine r_iald (pc := 111) (tb_at tkX10_load 59 rfl) ly_63 h.1.1 h.1.2 ?_
      replace h := h.2
      refine r_i2l (pc := 112) (tb_at tkX10_load 60 rfl) ?_
      refine r_lcmp (pc := 113) (tb_at tkX10_load 61 rfl) ?_
      refine q_lif_le (tgt := 120) (pc := 114) (tb_at tkX10_load 62 rfl) (by decide) (fun c => ?_) (fun c => ?_)
      · replace h := h.1 c
        refine r_aload_n (pc := 120) (tb_at tkX10_load 65 rfl) rfl rfl ?_
        refine r_iload_n (pc := 121) (tb_at tkX10_load 66 rfl) rfl rfl ?_
        refine r_lload (pc := 122) (tb_at tkX10_load 67 rfl) rfl ?_
        refine r_l2i (pc := 124) (tb_at tkX10_load 68 rfl) ?_
        refine r_invV (mc' := 0) (ms' := 0) [.inl v1, .inl (w32 (w64 (v3 + (4 * v6))))] (S := []) (pc := 125) (tb_at tkX10_load 69 rfl) rfl ly_0 rfl rfl clX10_383 (Nat.le_of_ble_eq_true rfl) (Nat.le_refl _) (Nat.le_refl _) ?_
        refine Cal.mono h ?_
        rintro _ _ M1 ⟨x2, rfl, rfl, h⟩
        show OkI G miX10_load (d + 1) K 128 [some (.inr (.inr (some 0))), some (.inl v1), none, some (.inl v3), some (.inl v4), some (.inl v5), some (.inl v6), some (.inr (.inl (w64 (v3 + (4 * v6))))), none] [.inl x2] M1
        refine q_if_lt (tgt := 134) (pc := 128) (tb_at tkX10_load 70 rfl) (by decide) (fun c => ?_) (fun c => ?_)
        · replace h := h.1 c
          refine r_iinc (L' := [some (.inr (.inr (some 0))), some (.inl v1), none, some (.inl v3), some (.inl v4), some (.inl v5), some (.inl (w32 (v6 + 1))), some (.inr (.inl (w64 (v3 + (4 * v6))))), none]) (pc := 134) (tb_at tkX10_load 72 rfl) rfl (by decide) rfl ?_
          refine r_goto (tgt := 71) (pc := 137) (tb_at tkX10_load 73 rfl) (by decide) ?_
          exact Ok.forget h (And.intro rfl (And.intro rfl (And.intro rfl (And.intro rfl (And.intro rfl (And.intro rfl trivial))))))
        · replace h := h.2 c
          refine r_iinc (L' := [some (.inr (.inr (some 0))), some (.inl v1), none, some (.inl v3), some (.inl v4), some (.inl (w32 (v5 + 1))), some (.inl v6), some (.inr (.inl (w64 (v3 + (4 * v6))))), none]) (pc := 131) (tb_at tkX10_load 71 rfl) rfl (by decide) rfl ?_
          refine r_iinc (L' := [some (.inr (.inr (some 0))), some (.inl v1), none, some (.inl v3), some (.inl v4), some (.inl (w32 (v5 + 1))), some (.inl (w32 (v6 + 1))), some (.inr (.inl (w64 (v3 + (4 * v6))))), none]) (pc := 134) (tb_at tkX10_load 72 rfl) rfl (by decide) rfl ?_
          refine r_goto (tgt := 71) (pc := 137) (tb_at tkX10_load 73 rfl) (by decide) ?_
          exact Ok.forget h (And.intro rfl (And.intro rfl (And.intro rfl (And.intro rfl (And.intro rfl (And.intro rfl trivial))))))
      · replace h := h.2 c
        refine r_bipush (pc := 117) (tb_at tkX10_load 63 rfl) ⟨by decide, by decide, by decide⟩ ?_
        exact r_iret (pc := 119) (tb_at tkX10_load 64 rfl) rfl (Nat.le_refl _) (Nat.le_refl _) ⟨_, rfl, rfl, h⟩
set_option maxRecDepth 100000 in
set_option maxHeartbeats 4000000 in
theorem gX10_image_0 {G : GE} {d : Nat} {K : Int → Mem → Prop} {M : Mem}  (h : CalV G miX5_takeFrom d [.inr (.inr (some 10)), .inr (.inr (some 1))] M (fun M1 => K ((mup M1 0 11 1) 1 8) (mup M1 0 11 1))) : OkI G miX10_image (d + 1) K 0 [some (.inr (.inr (some 0)))] [] M := by
  refine r_aload_n (pc := 0) (tb_at tkX10_image 0 rfl) rfl rfl ?_
  refine r_get 9 1 (pc := 1) (tb_at tkX10_image 1 rfl) ly_0 flX10_18 rfl ?_
  refine r_aload_n (pc := 4) (tb_at tkX10_image 2 rfl) rfl rfl ?_
  refine r_get 9 0 (pc := 5) (tb_at tkX10_image 3 rfl) ly_0 flX10_14 rfl ?_
  refine r_invV (mc' := 0) (ms' := 0) [.inr (.inr (some 1))] (S := []) (pc := 8) (tb_at tkX10_image 4 rfl) rfl ly_10 rfl rfl clX10_386 (Nat.le_of_ble_eq_true rfl) (Nat.le_refl _) (Nat.le_refl _) ?_
  refine Cal.mono h ?_
  rintro _ _ M1 ⟨rfl, rfl, h⟩
  show OkI G miX10_image (d + 1) K 11 [some (.inr (.inr (some 0)))] [] M1
  refine r_aload_n (pc := 11) (tb_at tkX10_image 5 rfl) rfl rfl ?_
  refine r_iconst (pc := 12) (tb_at tkX10_image 6 rfl) ⟨by decide, by decide⟩ ?_
  refine r_put 9 11 1 (pc := 13) (tb_at tkX10_image 7 rfl) ly_0 flX10_389 (fun r h => by cases h; rfl) (.inr (.inl rfl)) rfl (fun _ => by decide) rfl ?_
  refine r_aload_n (pc := 16) (tb_at tkX10_image 8 rfl) rfl rfl ?_
  refine r_get 9 0 (pc := 17) (tb_at tkX10_image 9 rfl) ly_0 flX10_14 rfl ?_
  refine r_get 5 8 (pc := 20) (tb_at tkX10_image 10 rfl) ly_1 flX10_105 rfl ?_
  exact r_iret (pc := 23) (tb_at tkX10_image 11 rfl) rfl (Nat.le_refl _) (Nat.le_refl _) ⟨_, rfl, rfl, h⟩
set_option maxRecDepth 100000 in
set_option maxHeartbeats 4000000 in
theorem gX10_back_0 {G : GE} {d : Nat} {K : Int → Mem → Prop} {M : Mem}  (h : ((¬ (M 0 11) = 0 → CalV G miX5_takeFrom d [.inr (.inr (some 1)), .inr (.inr (some 10))] M (fun M1 => K (M1 1 8) M1)) ∧ ((M 0 11) = 0 → K (-3) M))) : OkI G miX10_back (d + 1) K 0 [some (.inr (.inr (some 0)))] [] M := by
  refine r_aload_n (pc := 0) (tb_at tkX10_back 0 rfl) rfl rfl ?_
  refine r_get 9 11 (pc := 1) (tb_at tkX10_back 1 rfl) ly_0 flX10_389 rfl ?_
  refine q_if_ne (tgt := 10) (pc := 4) (tb_at tkX10_back 2 rfl) (by decide) (fun c => ?_) (fun c => ?_)
  · replace h := h.1 c
    refine r_aload_n (pc := 10) (tb_at tkX10_back 5 rfl) rfl rfl ?_
    refine r_get 9 0 (pc := 11) (tb_at tkX10_back 6 rfl) ly_0 flX10_14 rfl ?_
    refine r_aload_n (pc := 14) (tb_at tkX10_back 7 rfl) rfl rfl ?_
    refine r_get 9 1 (pc := 15) (tb_at tkX10_back 8 rfl) ly_0 flX10_18 rfl ?_
    refine r_invV (mc' := 0) (ms' := 0) [.inr (.inr (some 10))] (S := []) (pc := 18) (tb_at tkX10_back 9 rfl) rfl ly_1 rfl rfl clX10_386 (Nat.le_of_ble_eq_true rfl) (Nat.le_refl _) (Nat.le_refl _) ?_
    refine Cal.mono h ?_
    rintro _ _ M1 ⟨rfl, rfl, h⟩
    show OkI G miX10_back (d + 1) K 21 [some (.inr (.inr (some 0)))] [] M1
    refine r_aload_n (pc := 21) (tb_at tkX10_back 10 rfl) rfl rfl ?_
    refine r_get 9 0 (pc := 22) (tb_at tkX10_back 11 rfl) ly_0 flX10_14 rfl ?_
    refine r_get 5 8 (pc := 25) (tb_at tkX10_back 12 rfl) ly_1 flX10_105 rfl ?_
    exact r_iret (pc := 28) (tb_at tkX10_back 13 rfl) rfl (Nat.le_refl _) (Nat.le_refl _) ⟨_, rfl, rfl, h⟩
  · replace h := h.2 c
    refine r_bipush (pc := 7) (tb_at tkX10_back 3 rfl) ⟨by decide, by decide, by decide⟩ ?_
    exact r_iret (pc := 9) (tb_at tkX10_back 4 rfl) rfl (Nat.le_refl _) (Nat.le_refl _) ⟨_, rfl, rfl, h⟩
set_option maxRecDepth 100000 in
set_option maxHeartbeats 4000000 in
theorem gX10_count_0 {G : GE} {d : Nat} {K : Int → Mem → Prop} {M : Mem} {v1 : Int}  (h : ((v1 < 10 → OkI G miX10_count (d + 1) K 25 [some (.inr (.inr (some 0))), some (.inl v1)] [] M) ∧ (10 ≤ v1 → ((15 ≤ v1 → OkI G miX10_count (d + 1) K 25 [some (.inr (.inr (some 0))), some (.inl v1)] [] M) ∧ (v1 < 15 → (0 ≤ v1 - 10 ∧ v1 - 10 < 5) ∧ K (M 8 (v1 - 10).toNat) M))))) : OkI G miX10_count (d + 1) K 0 [some (.inr (.inr (some 0))), some (.inl v1)] [] M := by
  refine r_iload_n (pc := 0) (tb_at tkX10_count 0 rfl) rfl rfl ?_
  refine r_bipush (pc := 1) (tb_at tkX10_count 1 rfl) ⟨by decide, by decide, by decide⟩ ?_
  refine q_icmp_lt (tgt := 25) (pc := 3) (tb_at tkX10_count 2 rfl) (by decide) (fun c => ?_) (fun c => ?_)
  · replace h := h.1 c
    exact h
  · replace h := h.2 c
    refine r_iload_n (pc := 6) (tb_at tkX10_count 3 rfl) rfl rfl ?_
    refine r_bipush (pc := 7) (tb_at tkX10_count 4 rfl) ⟨by decide, by decide, by decide⟩ ?_
    refine q_icmp_ge (tgt := 25) (pc := 9) (tb_at tkX10_count 5 rfl) (by decide) (fun c => ?_) (fun c => ?_)
    · replace h := h.1 c
      exact h
    · replace h := h.2 c
      refine r_aload_n (pc := 12) (tb_at tkX10_count 6 rfl) rfl rfl ?_
      refine r_get 9 0 (pc := 13) (tb_at tkX10_count 7 rfl) ly_0 flX10_14 rfl ?_
      refine r_get 5 6 (pc := 16) (tb_at tkX10_count 8 rfl) ly_1 flX10_189 rfl ?_
      refine r_iload_n (pc := 19) (tb_at tkX10_count 9 rfl) rfl rfl ?_
      refine r_bipush (pc := 20) (tb_at tkX10_count 10 rfl) ⟨by decide, by decide, by decide⟩ ?_
      refine r_isub (pc := 22) (tb_at tkX10_count 11 rfl) ?_
      refine r_iald_w (pc := 23) (tb_at tkX10_count 12 rfl) ly_8 (by decide) h.1.1 h.1.2 ?_
      replace h := h.2
      exact r_iret (pc := 24) (tb_at tkX10_count 13 rfl) rfl (Nat.le_refl _) (Nat.le_refl _) ⟨_, rfl, rfl, h⟩
set_option maxRecDepth 100000 in
set_option maxHeartbeats 4000000 in
theorem gX10_count_25 {G : GE} {d : Nat} {K : Int → Mem → Prop} {M : Mem} {v1 : Int}  (h : CalV G miX10_refresh d [.inr (.inr (some 0))] M (fun M1 => ((v1 = 0 → K (M1 1 8) M1) ∧ (v1 = 1 → CalI G miX5_markCount d [.inr (.inr (some 1))] M1 (fun x3 M2 => K x3 M2)) ∧ (v1 = 2 → K (M1 58 2) M1) ∧ (v1 = 3 → CalI G miX4_followCount d [.inr (.inr (some 19))] M1 (fun x5 M4 => K x5 M4)) ∧ (v1 = 4 → CalI G miX1_hadCount d [.inr (.inr (some 28))] M1 (fun x7 M6 => K x7 M6)) ∧ (v1 = 5 → K (M1 1 9) M1) ∧ (v1 < 0 ∨ 5 < v1 → K (-2) M1)))) : OkI G miX10_count (d + 1) K 25 [some (.inr (.inr (some 0))), some (.inl v1)] [] M := by
  refine r_aload_n (pc := 25) (tb_at tkX10_count 14 rfl) rfl rfl ?_
  refine r_invV (mc' := 0) (ms' := 0) [] (S := []) (pc := 26) (tb_at tkX10_count 15 rfl) rfl ly_0 rfl rfl clX10_119 (Nat.le_of_ble_eq_true rfl) (Nat.le_refl _) (Nat.le_refl _) ?_
  refine Cal.mono h ?_
  rintro _ _ M1 ⟨rfl, rfl, h⟩
  show OkI G miX10_count (d + 1) K 29 [some (.inr (.inr (some 0))), some (.inl v1)] [] M1
  refine r_iload_n (pc := 29) (tb_at tkX10_count 16 rfl) rfl rfl ?_
  by_cases c0 : v1 < 0 ∨ 5 < v1
  · refine r_tblOut (tgt := 116) (pc := 30) (tb_at tkX10_count 17 rfl) c0 (by decide) ?_
    replace h := h.2.2.2.2.2.2 c0
    refine r_bipush (pc := 116) (tb_at tkX10_count 42 rfl) ⟨by decide, by decide, by decide⟩ ?_
    exact r_iret (pc := 118) (tb_at tkX10_count 43 rfl) rfl (Nat.le_refl _) (Nat.le_refl _) ⟨_, rfl, rfl, h⟩
  · have cc : v1 = 0 ∨ v1 = 1 ∨ v1 = 2 ∨ v1 = 3 ∨ v1 = 4 ∨ v1 = 5 := by omega
    rcases cc with c | c | c | c | c | c
    · refine r_tblIn (off := 38) (tgt := 68) (pc := 30) (tb_at tkX10_count 17 rfl) (by omega) (by omega) (by rw [c]; rfl) (by decide) ?_
      replace h := h.1 c
      refine r_aload_n (pc := 68) (tb_at tkX10_count 18 rfl) rfl rfl ?_
      refine r_get 9 0 (pc := 69) (tb_at tkX10_count 19 rfl) ly_0 flX10_14 rfl ?_
      refine r_get 5 8 (pc := 72) (tb_at tkX10_count 20 rfl) ly_1 flX10_105 rfl ?_
      exact r_iret (pc := 75) (tb_at tkX10_count 21 rfl) rfl (Nat.le_refl _) (Nat.le_refl _) ⟨_, rfl, rfl, h⟩
    · refine r_tblIn (off := 46) (tgt := 76) (pc := 30) (tb_at tkX10_count 17 rfl) (by omega) (by omega) (by rw [c]; rfl) (by decide) ?_
      replace h := h.2.1 c
      refine r_aload_n (pc := 76) (tb_at tkX10_count 22 rfl) rfl rfl ?_
      refine r_get 9 0 (pc := 77) (tb_at tkX10_count 23 rfl) ly_0 flX10_14 rfl ?_
      refine r_invV (mc' := 0) (ms' := 0) [] (S := []) (pc := 80) (tb_at tkX10_count 24 rfl) rfl ly_1 rfl rfl clX10_393 (Nat.le_of_ble_eq_true rfl) (Nat.le_refl _) (Nat.le_refl _) ?_
      refine Cal.mono h ?_
      rintro _ _ M2 ⟨x3, rfl, rfl, h⟩
      show OkI G miX10_count (d + 1) K 83 [some (.inr (.inr (some 0))), some (.inl v1)] [.inl x3] M2
      exact r_iret (pc := 83) (tb_at tkX10_count 25 rfl) rfl (Nat.le_refl _) (Nat.le_refl _) ⟨_, rfl, rfl, h⟩
    · refine r_tblIn (off := 54) (tgt := 84) (pc := 30) (tb_at tkX10_count 17 rfl) (by omega) (by omega) (by rw [c]; rfl) (by decide) ?_
      replace h := h.2.2.1 c
      refine r_aload_n (pc := 84) (tb_at tkX10_count 26 rfl) rfl rfl ?_
      refine r_get 9 8 (pc := 85) (tb_at tkX10_count 27 rfl) ly_0 flX10_72 rfl ?_
      refine r_get 8 2 (pc := 88) (tb_at tkX10_count 28 rfl) ly_58 flX10_340 rfl ?_
      exact r_iret (pc := 91) (tb_at tkX10_count 29 rfl) rfl (Nat.le_refl _) (Nat.le_refl _) ⟨_, rfl, rfl, h⟩
    · refine r_tblIn (off := 62) (tgt := 92) (pc := 30) (tb_at tkX10_count 17 rfl) (by omega) (by omega) (by rw [c]; rfl) (by decide) ?_
      replace h := h.2.2.2.1 c
      refine r_aload_n (pc := 92) (tb_at tkX10_count 30 rfl) rfl rfl ?_
      refine r_get 9 2 (pc := 93) (tb_at tkX10_count 31 rfl) ly_0 flX10_26 rfl ?_
      refine r_invV (mc' := 0) (ms' := 0) [] (S := []) (pc := 96) (tb_at tkX10_count 32 rfl) rfl ly_19 rfl rfl clX10_396 (Nat.le_of_ble_eq_true rfl) (Nat.le_refl _) (Nat.le_refl _) ?_
      refine Cal.mono h ?_
      rintro _ _ M4 ⟨x5, rfl, rfl, h⟩
      show OkI G miX10_count (d + 1) K 99 [some (.inr (.inr (some 0))), some (.inl v1)] [.inl x5] M4
      exact r_iret (pc := 99) (tb_at tkX10_count 33 rfl) rfl (Nat.le_refl _) (Nat.le_refl _) ⟨_, rfl, rfl, h⟩
    · refine r_tblIn (off := 70) (tgt := 100) (pc := 30) (tb_at tkX10_count 17 rfl) (by omega) (by omega) (by rw [c]; rfl) (by decide) ?_
      replace h := h.2.2.2.2.1 c
      refine r_aload_n (pc := 100) (tb_at tkX10_count 34 rfl) rfl rfl ?_
      refine r_get 9 3 (pc := 101) (tb_at tkX10_count 35 rfl) ly_0 flX10_35 rfl ?_
      refine r_invV (mc' := 0) (ms' := 0) [] (S := []) (pc := 104) (tb_at tkX10_count 36 rfl) rfl ly_28 rfl rfl clX10_399 (Nat.le_of_ble_eq_true rfl) (Nat.le_refl _) (Nat.le_refl _) ?_
      refine Cal.mono h ?_
      rintro _ _ M6 ⟨x7, rfl, rfl, h⟩
      show OkI G miX10_count (d + 1) K 107 [some (.inr (.inr (some 0))), some (.inl v1)] [.inl x7] M6
      exact r_iret (pc := 107) (tb_at tkX10_count 37 rfl) rfl (Nat.le_refl _) (Nat.le_refl _) ⟨_, rfl, rfl, h⟩
    · refine r_tblIn (off := 78) (tgt := 108) (pc := 30) (tb_at tkX10_count 17 rfl) (by omega) (by omega) (by rw [c]; rfl) (by decide) ?_
      replace h := h.2.2.2.2.2.1 c
      refine r_aload_n (pc := 108) (tb_at tkX10_count 38 rfl) rfl rfl ?_
      refine r_get 9 0 (pc := 109) (tb_at tkX10_count 39 rfl) ly_0 flX10_14 rfl ?_
      refine r_get 5 9 (pc := 112) (tb_at tkX10_count 40 rfl) ly_1 flX10_179 rfl ?_
      exact r_iret (pc := 115) (tb_at tkX10_count 41 rfl) rfl (Nat.le_refl _) (Nat.le_refl _) ⟨_, rfl, rfl, h⟩
set_option maxRecDepth 100000 in
set_option maxHeartbeats 4000000 in
theorem gX10_sheet_0 {G : GE} {d : Nat} {K : Int → Mem → Prop} {M : Mem} {v1 v2 v3 : Int}  (h : CalI G miX7_isSheet d [.inr (.inr (some 61)), .inl v1] M (fun x2 M1 => ((x2 = 0 → K (-2) M1) ∧ (¬ x2 = 0 → ((v2 < (-1) → K (-2) M1) ∧ ((-1) ≤ v2 → ((v2 ≤ 1 → ((¬ v2 = (-1) → ((v3 ≤ 40 → ((0 ≤ v3 → CalV G miX7_become d [.inr (.inr (some 61)), .inl v1, .inl v2, .inl v3] M1 (fun M3 => K 1 M3)) ∧ (v3 < 0 → K (-14) M1))) ∧ (40 < v3 → K (-2) M1))) ∧ (v2 = (-1) → CalV G miX7_become d [.inr (.inr (some 61)), .inl v1, .inl (-1), .inl 0] M1 (fun M4 => K 1 M4)))) ∧ (1 < v2 → K (-2) M1)))))))) : OkI G miX10_sheet (d + 1) K 0 [some (.inr (.inr (some 0))), some (.inl v1), some (.inl v2), some (.inl v3)] [] M := by
  refine r_aload_n (pc := 0) (tb_at tkX10_sheet 0 rfl) rfl rfl ?_
  refine r_get 9 9 (pc := 1) (tb_at tkX10_sheet 1 rfl) ly_0 flX10_79 rfl ?_
  refine r_iload_n (pc := 4) (tb_at tkX10_sheet 2 rfl) rfl rfl ?_
  refine r_invV (mc' := 0) (ms' := 0) [.inl v1] (S := []) (pc := 5) (tb_at tkX10_sheet 3 rfl) rfl ly_61 rfl rfl clX10_284 (Nat.le_of_ble_eq_true rfl) (Nat.le_refl _) (Nat.le_refl _) ?_
  refine Cal.mono h ?_
  rintro _ _ M1 ⟨x2, rfl, rfl, h⟩
  show OkI G miX10_sheet (d + 1) K 8 [some (.inr (.inr (some 0))), some (.inl v1), some (.inl v2), some (.inl v3)] [.inl x2] M1
  refine q_if_eq (tgt := 21) (pc := 8) (tb_at tkX10_sheet 4 rfl) (by decide) (fun c => ?_) (fun c => ?_)
  · replace h := h.1 c
    refine r_bipush (pc := 21) (tb_at tkX10_sheet 11 rfl) ⟨by decide, by decide, by decide⟩ ?_
    exact r_iret (pc := 23) (tb_at tkX10_sheet 12 rfl) rfl (Nat.le_refl _) (Nat.le_refl _) ⟨_, rfl, rfl, h⟩
  · replace h := h.2 c
    refine r_iload_n (pc := 11) (tb_at tkX10_sheet 5 rfl) rfl rfl ?_
    refine r_iconst (pc := 12) (tb_at tkX10_sheet 6 rfl) ⟨by decide, by decide⟩ ?_
    refine q_icmp_lt (tgt := 21) (pc := 13) (tb_at tkX10_sheet 7 rfl) (by decide) (fun c => ?_) (fun c => ?_)
    · replace h := h.1 c
      refine r_bipush (pc := 21) (tb_at tkX10_sheet 11 rfl) ⟨by decide, by decide, by decide⟩ ?_
      exact r_iret (pc := 23) (tb_at tkX10_sheet 12 rfl) rfl (Nat.le_refl _) (Nat.le_refl _) ⟨_, rfl, rfl, h⟩
    · replace h := h.2 c
      refine r_iload_n (pc := 16) (tb_at tkX10_sheet 8 rfl) rfl rfl ?_
      refine r_iconst (pc := 17) (tb_at tkX10_sheet 9 rfl) ⟨by decide, by decide⟩ ?_
      refine q_icmp_le (tgt := 24) (pc := 18) (tb_at tkX10_sheet 10 rfl) (by decide) (fun c => ?_) (fun c => ?_)
      · replace h := h.1 c
        refine r_iload_n (pc := 24) (tb_at tkX10_sheet 13 rfl) rfl rfl ?_
        refine r_iconst (pc := 25) (tb_at tkX10_sheet 14 rfl) ⟨by decide, by decide⟩ ?_
        refine q_icmp_ne (tgt := 41) (pc := 26) (tb_at tkX10_sheet 15 rfl) (by decide) (fun c => ?_) (fun c => ?_)
        · replace h := h.1 c
          refine r_iload_n (pc := 41) (tb_at tkX10_sheet 24 rfl) rfl rfl ?_
          refine r_bipush (pc := 42) (tb_at tkX10_sheet 25 rfl) ⟨by decide, by decide, by decide⟩ ?_
          refine q_icmp_le (tgt := 50) (pc := 44) (tb_at tkX10_sheet 26 rfl) (by decide) (fun c => ?_) (fun c => ?_)
          · replace h := h.1 c
            refine r_iload_n (pc := 50) (tb_at tkX10_sheet 29 rfl) rfl rfl ?_
            refine q_if_ge (tgt := 57) (pc := 51) (tb_at tkX10_sheet 30 rfl) (by decide) (fun c => ?_) (fun c => ?_)
            · replace h := h.1 c
              refine r_aload_n (pc := 57) (tb_at tkX10_sheet 33 rfl) rfl rfl ?_
              refine r_get 9 9 (pc := 58) (tb_at tkX10_sheet 34 rfl) ly_0 flX10_79 rfl ?_
              refine r_iload_n (pc := 61) (tb_at tkX10_sheet 35 rfl) rfl rfl ?_
              refine r_iload_n (pc := 62) (tb_at tkX10_sheet 36 rfl) rfl rfl ?_
              refine r_iload_n (pc := 63) (tb_at tkX10_sheet 37 rfl) rfl rfl ?_
              refine r_invV (mc' := 0) (ms' := 0) [.inl v1, .inl v2, .inl v3] (S := []) (pc := 64) (tb_at tkX10_sheet 38 rfl) rfl ly_61 rfl rfl clX10_365 (Nat.le_of_ble_eq_true rfl) (Nat.le_refl _) (Nat.le_refl _) ?_
              refine Cal.mono h ?_
              rintro _ _ M3 ⟨rfl, rfl, h⟩
              show OkI G miX10_sheet (d + 1) K 67 [some (.inr (.inr (some 0))), some (.inl v1), some (.inl v2), some (.inl v3)] [] M3
              refine r_iconst (pc := 67) (tb_at tkX10_sheet 39 rfl) ⟨by decide, by decide⟩ ?_
              exact r_iret (pc := 68) (tb_at tkX10_sheet 40 rfl) rfl (Nat.le_refl _) (Nat.le_refl _) ⟨_, rfl, rfl, h⟩
            · replace h := h.2 c
              refine r_bipush (pc := 54) (tb_at tkX10_sheet 31 rfl) ⟨by decide, by decide, by decide⟩ ?_
              exact r_iret (pc := 56) (tb_at tkX10_sheet 32 rfl) rfl (Nat.le_refl _) (Nat.le_refl _) ⟨_, rfl, rfl, h⟩
          · replace h := h.2 c
            refine r_bipush (pc := 47) (tb_at tkX10_sheet 27 rfl) ⟨by decide, by decide, by decide⟩ ?_
            exact r_iret (pc := 49) (tb_at tkX10_sheet 28 rfl) rfl (Nat.le_refl _) (Nat.le_refl _) ⟨_, rfl, rfl, h⟩
        · replace h := h.2 c
          refine r_aload_n (pc := 29) (tb_at tkX10_sheet 16 rfl) rfl rfl ?_
          refine r_get 9 9 (pc := 30) (tb_at tkX10_sheet 17 rfl) ly_0 flX10_79 rfl ?_
          refine r_iload_n (pc := 33) (tb_at tkX10_sheet 18 rfl) rfl rfl ?_
          refine r_iconst (pc := 34) (tb_at tkX10_sheet 19 rfl) ⟨by decide, by decide⟩ ?_
          refine r_iconst (pc := 35) (tb_at tkX10_sheet 20 rfl) ⟨by decide, by decide⟩ ?_
          refine r_invV (mc' := 0) (ms' := 0) [.inl v1, .inl (-1), .inl 0] (S := []) (pc := 36) (tb_at tkX10_sheet 21 rfl) rfl ly_61 rfl rfl clX10_365 (Nat.le_of_ble_eq_true rfl) (Nat.le_refl _) (Nat.le_refl _) ?_
          refine Cal.mono h ?_
          rintro _ _ M4 ⟨rfl, rfl, h⟩
          show OkI G miX10_sheet (d + 1) K 39 [some (.inr (.inr (some 0))), some (.inl v1), some (.inl v2), some (.inl v3)] [] M4
          refine r_iconst (pc := 39) (tb_at tkX10_sheet 22 rfl) ⟨by decide, by decide⟩ ?_
          exact r_iret (pc := 40) (tb_at tkX10_sheet 23 rfl) rfl (Nat.le_refl _) (Nat.le_refl _) ⟨_, rfl, rfl, h⟩
      · replace h := h.2 c
        refine r_bipush (pc := 21) (tb_at tkX10_sheet 11 rfl) ⟨by decide, by decide, by decide⟩ ?_
        exact r_iret (pc := 23) (tb_at tkX10_sheet 12 rfl) rfl (Nat.le_refl _) (Nat.le_refl _) ⟨_, rfl, rfl, h⟩
set_option maxRecDepth 100000 in
set_option maxHeartbeats 4000000 in
theorem gX10_put_0 {G : GE} {d : Nat} {K : Int → Mem → Prop} {M : Mem} {v1 v2 v3 : Int}  (h : CalI G miX7_isSheet d [.inr (.inr (some 61)), .inl v1] M (fun x2 M1 => ((¬ x2 = 0 → CalI G miX7_isMissing d [.inr (.inr (some 61)), .inl v1] M1 (fun x4 M3 => ((x4 = 0 → CalI G miX7_hasItems d [.inr (.inr (some 61)), .inl v1, .inl v2, .inl 1] M3 (fun x6 M5 => ((¬ x6 = 0 → CalV G miX7_write d [.inr (.inr (some 61)), .inl v1, .inl v2, .inr (.inl v3)] M5 (fun M7 => K 1 M7)) ∧ (x6 = 0 → K (-12) M5)))) ∧ (¬ x4 = 0 → K (-11) M3)))) ∧ (x2 = 0 → K (-2) M1)))) : OkI G miX10_put (d + 1) K 0 [some (.inr (.inr (some 0))), some (.inl v1), some (.inl v2), some (.inr (.inl v3)), none] [] M := by
  refine r_aload_n (pc := 0) (tb_at tkX10_put 0 rfl) rfl rfl ?_
  refine r_get 9 9 (pc := 1) (tb_at tkX10_put 1 rfl) ly_0 flX10_79 rfl ?_
  refine r_iload_n (pc := 4) (tb_at tkX10_put 2 rfl) rfl rfl ?_
  refine r_invV (mc' := 0) (ms' := 0) [.inl v1] (S := []) (pc := 5) (tb_at tkX10_put 3 rfl) rfl ly_61 rfl rfl clX10_284 (Nat.le_of_ble_eq_true rfl) (Nat.le_refl _) (Nat.le_refl _) ?_
  refine Cal.mono h ?_
  rintro _ _ M1 ⟨x2, rfl, rfl, h⟩
  show OkI G miX10_put (d + 1) K 8 [some (.inr (.inr (some 0))), some (.inl v1), some (.inl v2), some (.inr (.inl v3)), none] [.inl x2] M1
  refine q_if_ne (tgt := 14) (pc := 8) (tb_at tkX10_put 4 rfl) (by decide) (fun c => ?_) (fun c => ?_)
  · replace h := h.1 c
    refine r_aload_n (pc := 14) (tb_at tkX10_put 7 rfl) rfl rfl ?_
    refine r_get 9 9 (pc := 15) (tb_at tkX10_put 8 rfl) ly_0 flX10_79 rfl ?_
    refine r_iload_n (pc := 18) (tb_at tkX10_put 9 rfl) rfl rfl ?_
    refine r_invV (mc' := 0) (ms' := 0) [.inl v1] (S := []) (pc := 19) (tb_at tkX10_put 10 rfl) rfl ly_61 rfl rfl clX10_347 (Nat.le_of_ble_eq_true rfl) (Nat.le_refl _) (Nat.le_refl _) ?_
    refine Cal.mono h ?_
    rintro _ _ M3 ⟨x4, rfl, rfl, h⟩
    show OkI G miX10_put (d + 1) K 22 [some (.inr (.inr (some 0))), some (.inl v1), some (.inl v2), some (.inr (.inl v3)), none] [.inl x4] M3
    refine q_if_eq (tgt := 28) (pc := 22) (tb_at tkX10_put 11 rfl) (by decide) (fun c => ?_) (fun c => ?_)
    · replace h := h.1 c
      refine r_aload_n (pc := 28) (tb_at tkX10_put 14 rfl) rfl rfl ?_
      refine r_get 9 9 (pc := 29) (tb_at tkX10_put 15 rfl) ly_0 flX10_79 rfl ?_
      refine r_iload_n (pc := 32) (tb_at tkX10_put 16 rfl) rfl rfl ?_
      refine r_iload_n (pc := 33) (tb_at tkX10_put 17 rfl) rfl rfl ?_
      refine r_iconst (pc := 34) (tb_at tkX10_put 18 rfl) ⟨by decide, by decide⟩ ?_
      refine r_invV (mc' := 0) (ms' := 0) [.inl v1, .inl v2, .inl 1] (S := []) (pc := 35) (tb_at tkX10_put 19 rfl) rfl ly_61 rfl rfl clX10_402 (Nat.le_of_ble_eq_true rfl) (Nat.le_refl _) (Nat.le_refl _) ?_
      refine Cal.mono h ?_
      rintro _ _ M5 ⟨x6, rfl, rfl, h⟩
      show OkI G miX10_put (d + 1) K 38 [some (.inr (.inr (some 0))), some (.inl v1), some (.inl v2), some (.inr (.inl v3)), none] [.inl x6] M5
      refine q_if_ne (tgt := 44) (pc := 38) (tb_at tkX10_put 20 rfl) (by decide) (fun c => ?_) (fun c => ?_)
      · replace h := h.1 c
        refine r_aload_n (pc := 44) (tb_at tkX10_put 23 rfl) rfl rfl ?_
        refine r_get 9 9 (pc := 45) (tb_at tkX10_put 24 rfl) ly_0 flX10_79 rfl ?_
        refine r_iload_n (pc := 48) (tb_at tkX10_put 25 rfl) rfl rfl ?_
        refine r_iload_n (pc := 49) (tb_at tkX10_put 26 rfl) rfl rfl ?_
        refine r_lload_n (pc := 50) (tb_at tkX10_put 27 rfl) rfl rfl ?_
        refine r_invV (mc' := 0) (ms' := 0) [.inl v1, .inl v2, .inr (.inl v3)] (S := []) (pc := 51) (tb_at tkX10_put 28 rfl) rfl ly_61 rfl rfl clX10_374 (Nat.le_of_ble_eq_true rfl) (Nat.le_refl _) (Nat.le_refl _) ?_
        refine Cal.mono h ?_
        rintro _ _ M7 ⟨rfl, rfl, h⟩
        show OkI G miX10_put (d + 1) K 54 [some (.inr (.inr (some 0))), some (.inl v1), some (.inl v2), some (.inr (.inl v3)), none] [] M7
        refine r_iconst (pc := 54) (tb_at tkX10_put 29 rfl) ⟨by decide, by decide⟩ ?_
        exact r_iret (pc := 55) (tb_at tkX10_put 30 rfl) rfl (Nat.le_refl _) (Nat.le_refl _) ⟨_, rfl, rfl, h⟩
      · replace h := h.2 c
        refine r_bipush (pc := 41) (tb_at tkX10_put 21 rfl) ⟨by decide, by decide, by decide⟩ ?_
        exact r_iret (pc := 43) (tb_at tkX10_put 22 rfl) rfl (Nat.le_refl _) (Nat.le_refl _) ⟨_, rfl, rfl, h⟩
    · replace h := h.2 c
      refine r_bipush (pc := 25) (tb_at tkX10_put 12 rfl) ⟨by decide, by decide, by decide⟩ ?_
      exact r_iret (pc := 27) (tb_at tkX10_put 13 rfl) rfl (Nat.le_refl _) (Nat.le_refl _) ⟨_, rfl, rfl, h⟩
  · replace h := h.2 c
    refine r_bipush (pc := 11) (tb_at tkX10_put 5 rfl) ⟨by decide, by decide, by decide⟩ ?_
    exact r_iret (pc := 13) (tb_at tkX10_put 6 rfl) rfl (Nat.le_refl _) (Nat.le_refl _) ⟨_, rfl, rfl, h⟩
set_option maxRecDepth 100000 in
set_option maxHeartbeats 4000000 in
theorem gX10_item_0 {G : GE} {d : Nat} {K : Int → Mem → Prop} {M : Mem} {v1 v2 : Int}  (h : CalI G miX7_isSheet d [.inr (.inr (some 61)), .inl v1] M (fun x2 M1 => ((x2 = 0 → K (-9223372036854775808) M1) ∧ (¬ x2 = 0 → CalI G miX7_isMissing d [.inr (.inr (some 61)), .inl v1] M1 (fun x4 M3 => ((¬ x4 = 0 → K (-9223372036854775808) M3) ∧ (x4 = 0 → CalI G miX7_hasItems d [.inr (.inr (some 61)), .inl v1, .inl v2, .inl 1] M3 (fun x6 M5 => ((¬ x6 = 0 → CalL G miX7_read d [.inr (.inr (some 61)), .inl v1, .inl v2] M5 (fun x8 M7 => K x8 M7)) ∧ (x6 = 0 → K (-9223372036854775808) M5)))))))))) : OkL G miX10_item (d + 1) K 0 [some (.inr (.inr (some 0))), some (.inl v1), some (.inl v2)] [] M := by
  refine r_aload_n (pc := 0) (tb_at tkX10_item 0 rfl) rfl rfl ?_
  refine r_get 9 9 (pc := 1) (tb_at tkX10_item 1 rfl) ly_0 flX10_79 rfl ?_
  refine r_iload_n (pc := 4) (tb_at tkX10_item 2 rfl) rfl rfl ?_
  refine r_invV (mc' := 0) (ms' := 0) [.inl v1] (S := []) (pc := 5) (tb_at tkX10_item 3 rfl) rfl ly_61 rfl rfl clX10_284 (Nat.le_of_ble_eq_true rfl) (Nat.le_refl _) (Nat.le_refl _) ?_
  refine Cal.mono h ?_
  rintro _ _ M1 ⟨x2, rfl, rfl, h⟩
  show OkL G miX10_item (d + 1) K 8 [some (.inr (.inr (some 0))), some (.inl v1), some (.inl v2)] [.inl x2] M1
  refine q_if_eq (tgt := 35) (pc := 8) (tb_at tkX10_item 4 rfl) (by decide) (fun c => ?_) (fun c => ?_)
  · replace h := h.1 c
    refine r_ldc2 (n := -9223372036854775808) (pc := 35) (tb_at tkX10_item 17 rfl) kcX10_259 ⟨by decide, by decide⟩ ?_
    exact r_lret (pc := 38) (tb_at tkX10_item 18 rfl) rfl (Nat.le_refl _) (Nat.le_refl _) ⟨_, rfl, rfl, h⟩
  · replace h := h.2 c
    refine r_aload_n (pc := 11) (tb_at tkX10_item 5 rfl) rfl rfl ?_
    refine r_get 9 9 (pc := 12) (tb_at tkX10_item 6 rfl) ly_0 flX10_79 rfl ?_
    refine r_iload_n (pc := 15) (tb_at tkX10_item 7 rfl) rfl rfl ?_
    refine r_invV (mc' := 0) (ms' := 0) [.inl v1] (S := []) (pc := 16) (tb_at tkX10_item 8 rfl) rfl ly_61 rfl rfl clX10_347 (Nat.le_of_ble_eq_true rfl) (Nat.le_refl _) (Nat.le_refl _) ?_
    refine Cal.mono h ?_
    rintro _ _ M3 ⟨x4, rfl, rfl, h⟩
    show OkL G miX10_item (d + 1) K 19 [some (.inr (.inr (some 0))), some (.inl v1), some (.inl v2)] [.inl x4] M3
    refine q_if_ne (tgt := 35) (pc := 19) (tb_at tkX10_item 9 rfl) (by decide) (fun c => ?_) (fun c => ?_)
    · replace h := h.1 c
      refine r_ldc2 (n := -9223372036854775808) (pc := 35) (tb_at tkX10_item 17 rfl) kcX10_259 ⟨by decide, by decide⟩ ?_
      exact r_lret (pc := 38) (tb_at tkX10_item 18 rfl) rfl (Nat.le_refl _) (Nat.le_refl _) ⟨_, rfl, rfl, h⟩
    · replace h := h.2 c
      refine r_aload_n (pc := 22) (tb_at tkX10_item 10 rfl) rfl rfl ?_
      refine r_get 9 9 (pc := 23) (tb_at tkX10_item 11 rfl) ly_0 flX10_79 rfl ?_
      refine r_iload_n (pc := 26) (tb_at tkX10_item 12 rfl) rfl rfl ?_
      refine r_iload_n (pc := 27) (tb_at tkX10_item 13 rfl) rfl rfl ?_
      refine r_iconst (pc := 28) (tb_at tkX10_item 14 rfl) ⟨by decide, by decide⟩ ?_
      refine r_invV (mc' := 0) (ms' := 0) [.inl v1, .inl v2, .inl 1] (S := []) (pc := 29) (tb_at tkX10_item 15 rfl) rfl ly_61 rfl rfl clX10_402 (Nat.le_of_ble_eq_true rfl) (Nat.le_refl _) (Nat.le_refl _) ?_
      refine Cal.mono h ?_
      rintro _ _ M5 ⟨x6, rfl, rfl, h⟩
      show OkL G miX10_item (d + 1) K 32 [some (.inr (.inr (some 0))), some (.inl v1), some (.inl v2)] [.inl x6] M5
      refine q_if_ne (tgt := 39) (pc := 32) (tb_at tkX10_item 16 rfl) (by decide) (fun c => ?_) (fun c => ?_)
      · replace h := h.1 c
        refine r_aload_n (pc := 39) (tb_at tkX10_item 19 rfl) rfl rfl ?_
        refine r_get 9 9 (pc := 40) (tb_at tkX10_item 20 rfl) ly_0 flX10_79 rfl ?_
        refine r_iload_n (pc := 43) (tb_at tkX10_item 21 rfl) rfl rfl ?_
        refine r_iload_n (pc := 44) (tb_at tkX10_item 22 rfl) rfl rfl ?_
        refine r_invV (mc' := 0) (ms' := 0) [.inl v1, .inl v2] (S := []) (pc := 45) (tb_at tkX10_item 23 rfl) rfl ly_61 rfl rfl clX10_405 (Nat.le_of_ble_eq_true rfl) (Nat.le_refl _) (Nat.le_refl _) ?_
        refine Cal.mono h ?_
        rintro _ _ M7 ⟨x8, rfl, rfl, h⟩
        show OkL G miX10_item (d + 1) K 48 [some (.inr (.inr (some 0))), some (.inl v1), some (.inl v2)] [.inr (.inl x8)] M7
        exact r_lret (pc := 48) (tb_at tkX10_item 24 rfl) rfl (Nat.le_refl _) (Nat.le_refl _) ⟨_, rfl, rfl, h⟩
      · replace h := h.2 c
        refine r_ldc2 (n := -9223372036854775808) (pc := 35) (tb_at tkX10_item 17 rfl) kcX10_259 ⟨by decide, by decide⟩ ?_
        exact r_lret (pc := 38) (tb_at tkX10_item 18 rfl) rfl (Nat.le_refl _) (Nat.le_refl _) ⟨_, rfl, rfl, h⟩
set_option maxRecDepth 100000 in
set_option maxHeartbeats 4000000 in
theorem gX10_copy_0 {G : GE} {d : Nat} {K : Int → Mem → Prop} {M : Mem} {v1 v2 v3 v4 v5 : Int}  (h : CalI G miX7_isSheet d [.inr (.inr (some 61)), .inl v1] M (fun x2 M1 => ((x2 = 0 → K (-2) M1) ∧ (¬ x2 = 0 → CalI G miX7_isSheet d [.inr (.inr (some 61)), .inl v3] M1 (fun x4 M3 => ((¬ x4 = 0 → CalI G miX7_isMissing d [.inr (.inr (some 61)), .inl v1] M3 (fun x6 M5 => ((¬ x6 = 0 → K (-11) M5) ∧ (x6 = 0 → CalI G miX7_isMissing d [.inr (.inr (some 61)), .inl v3] M5 (fun x8 M7 => ((x8 = 0 → (0 ≤ v1 ∧ v1 < 4) ∧ (0 ≤ v3 ∧ v3 < 4) ∧ (((M7 62 (v1).toNat) = (M7 62 (v3).toNat) → ((v5 < 0 → K (-12) M7) ∧ (0 ≤ v5 → CalI G miX7_hasItems d [.inr (.inr (some 61)), .inl v1, .inl v2, .inl v5] M7 (fun x10 M9 => ((x10 = 0 → K (-12) M9) ∧ (¬ x10 = 0 → CalI G miX7_hasItems d [.inr (.inr (some 61)), .inl v3, .inl v4, .inl v5] M9 (fun x12 M11 => ((¬ x12 = 0 → CalV G miX7_move d [.inr (.inr (some 61)), .inl v1, .inl v2, .inl v3, .inl v4, .inl v5] M11 (fun M13 => K v5 M13)) ∧ (x12 = 0 → K (-12) M11))))))))) ∧ (¬ (M7 62 (v1).toNat) = (M7 62 (v3).toNat) → K (-13) M7))) ∧ (¬ x8 = 0 → K (-11) M7))))))) ∧ (x4 = 0 → K (-2) M3))))))) : OkI G miX10_copy (d + 1) K 0 [some (.inr (.inr (some 0))), some (.inl v1), some (.inl v2), some (.inl v3), some (.inl v4), some (.inl v5)] [] M := by
  refine r_aload_n (pc := 0) (tb_at tkX10_copy 0 rfl) rfl rfl ?_
  refine r_get 9 9 (pc := 1) (tb_at tkX10_copy 1 rfl) ly_0 flX10_79 rfl ?_
  refine r_iload_n (pc := 4) (tb_at tkX10_copy 2 rfl) rfl rfl ?_
  refine r_invV (mc' := 0) (ms' := 0) [.inl v1] (S := []) (pc := 5) (tb_at tkX10_copy 3 rfl) rfl ly_61 rfl rfl clX10_284 (Nat.le_of_ble_eq_true rfl) (Nat.le_refl _) (Nat.le_refl _) ?_
  refine Cal.mono h ?_
  rintro _ _ M1 ⟨x2, rfl, rfl, h⟩
  show OkI G miX10_copy (d + 1) K 8 [some (.inr (.inr (some 0))), some (.inl v1), some (.inl v2), some (.inl v3), some (.inl v4), some (.inl v5)] [.inl x2] M1
  refine q_if_eq (tgt := 22) (pc := 8) (tb_at tkX10_copy 4 rfl) (by decide) (fun c => ?_) (fun c => ?_)
  · replace h := h.1 c
    refine r_bipush (pc := 22) (tb_at tkX10_copy 10 rfl) ⟨by decide, by decide, by decide⟩ ?_
    exact r_iret (pc := 24) (tb_at tkX10_copy 11 rfl) rfl (Nat.le_refl _) (Nat.le_refl _) ⟨_, rfl, rfl, h⟩
  · replace h := h.2 c
    refine r_aload_n (pc := 11) (tb_at tkX10_copy 5 rfl) rfl rfl ?_
    refine r_get 9 9 (pc := 12) (tb_at tkX10_copy 6 rfl) ly_0 flX10_79 rfl ?_
    refine r_iload_n (pc := 15) (tb_at tkX10_copy 7 rfl) rfl rfl ?_
    refine r_invV (mc' := 0) (ms' := 0) [.inl v3] (S := []) (pc := 16) (tb_at tkX10_copy 8 rfl) rfl ly_61 rfl rfl clX10_284 (Nat.le_of_ble_eq_true rfl) (Nat.le_refl _) (Nat.le_refl _) ?_
    refine Cal.mono h ?_
    rintro _ _ M3 ⟨x4, rfl, rfl, h⟩
    show OkI G miX10_copy (d + 1) K 19 [some (.inr (.inr (some 0))), some (.inl v1), some (.inl v2), some (.inl v3), some (.inl v4), some (.inl v5)] [.inl x4] M3
    refine q_if_ne (tgt := 25) (pc := 19) (tb_at tkX10_copy 9 rfl) (by decide) (fun c => ?_) (fun c => ?_)
    · replace h := h.1 c
      refine r_aload_n (pc := 25) (tb_at tkX10_copy 12 rfl) rfl rfl ?_
      refine r_get 9 9 (pc := 26) (tb_at tkX10_copy 13 rfl) ly_0 flX10_79 rfl ?_
      refine r_iload_n (pc := 29) (tb_at tkX10_copy 14 rfl) rfl rfl ?_
      refine r_invV (mc' := 0) (ms' := 0) [.inl v1] (S := []) (pc := 30) (tb_at tkX10_copy 15 rfl) rfl ly_61 rfl rfl clX10_347 (Nat.le_of_ble_eq_true rfl) (Nat.le_refl _) (Nat.le_refl _) ?_
      refine Cal.mono h ?_
      rintro _ _ M5 ⟨x6, rfl, rfl, h⟩
      show OkI G miX10_copy (d + 1) K 33 [some (.inr (.inr (some 0))), some (.inl v1), some (.inl v2), some (.inl v3), some (.inl v4), some (.inl v5)] [.inl x6] M5
      refine q_if_ne (tgt := 47) (pc := 33) (tb_at tkX10_copy 16 rfl) (by decide) (fun c => ?_) (fun c => ?_)
      · replace h := h.1 c
        refine r_bipush (pc := 47) (tb_at tkX10_copy 22 rfl) ⟨by decide, by decide, by decide⟩ ?_
        exact r_iret (pc := 49) (tb_at tkX10_copy 23 rfl) rfl (Nat.le_refl _) (Nat.le_refl _) ⟨_, rfl, rfl, h⟩
      · replace h := h.2 c
        refine r_aload_n (pc := 36) (tb_at tkX10_copy 17 rfl) rfl rfl ?_
        refine r_get 9 9 (pc := 37) (tb_at tkX10_copy 18 rfl) ly_0 flX10_79 rfl ?_
        refine r_iload_n (pc := 40) (tb_at tkX10_copy 19 rfl) rfl rfl ?_
        refine r_invV (mc' := 0) (ms' := 0) [.inl v3] (S := []) (pc := 41) (tb_at tkX10_copy 20 rfl) rfl ly_61 rfl rfl clX10_347 (Nat.le_of_ble_eq_true rfl) (Nat.le_refl _) (Nat.le_refl _) ?_
        refine Cal.mono h ?_
        rintro _ _ M7 ⟨x8, rfl, rfl, h⟩
        show OkI G miX10_copy (d + 1) K 44 [some (.inr (.inr (some 0))), some (.inl v1), some (.inl v2), some (.inl v3), some (.inl v4), some (.inl v5)] [.inl x8] M7
        refine q_if_eq (tgt := 50) (pc := 44) (tb_at tkX10_copy 21 rfl) (by decide) (fun c => ?_) (fun c => ?_)
        · replace h := h.1 c
          refine r_aload_n (pc := 50) (tb_at tkX10_copy 24 rfl) rfl rfl ?_
          refine r_get 9 9 (pc := 51) (tb_at tkX10_copy 25 rfl) ly_0 flX10_79 rfl ?_
          refine r_get 6 0 (pc := 54) (tb_at tkX10_copy 26 rfl) ly_61 flX10_378 rfl ?_
          refine r_iload_n (pc := 57) (tb_at tkX10_copy 27 rfl) rfl rfl ?_
          refine r_iald (pc := 58) (tb_at tkX10_copy 28 rfl) ly_62 h.1.1 h.1.2 ?_
          replace h := h.2
          refine r_aload_n (pc := 59) (tb_at tkX10_copy 29 rfl) rfl rfl ?_
          refine r_get 9 9 (pc := 60) (tb_at tkX10_copy 30 rfl) ly_0 flX10_79 rfl ?_
          refine r_get 6 0 (pc := 63) (tb_at tkX10_copy 31 rfl) ly_61 flX10_378 rfl ?_
          refine r_iload_n (pc := 66) (tb_at tkX10_copy 32 rfl) rfl rfl ?_
          refine r_iald (pc := 67) (tb_at tkX10_copy 33 rfl) ly_62 h.1.1 h.1.2 ?_
          replace h := h.2
          refine q_icmp_eq (tgt := 74) (pc := 68) (tb_at tkX10_copy 34 rfl) (by decide) (fun c => ?_) (fun c => ?_)
          · replace h := h.1 c
            refine r_iload (pc := 74) (tb_at tkX10_copy 37 rfl) rfl ?_
            refine q_if_lt (tgt := 108) (pc := 76) (tb_at tkX10_copy 38 rfl) (by decide) (fun c => ?_) (fun c => ?_)
            · replace h := h.1 c
              refine r_bipush (pc := 108) (tb_at tkX10_copy 53 rfl) ⟨by decide, by decide, by decide⟩ ?_
              exact r_iret (pc := 110) (tb_at tkX10_copy 54 rfl) rfl (Nat.le_refl _) (Nat.le_refl _) ⟨_, rfl, rfl, h⟩
            · replace h := h.2 c
              refine r_aload_n (pc := 79) (tb_at tkX10_copy 39 rfl) rfl rfl ?_
              refine r_get 9 9 (pc := 80) (tb_at tkX10_copy 40 rfl) ly_0 flX10_79 rfl ?_
              refine r_iload_n (pc := 83) (tb_at tkX10_copy 41 rfl) rfl rfl ?_
              refine r_iload_n (pc := 84) (tb_at tkX10_copy 42 rfl) rfl rfl ?_
              refine r_iload (pc := 85) (tb_at tkX10_copy 43 rfl) rfl ?_
              refine r_invV (mc' := 0) (ms' := 0) [.inl v1, .inl v2, .inl v5] (S := []) (pc := 87) (tb_at tkX10_copy 44 rfl) rfl ly_61 rfl rfl clX10_402 (Nat.le_of_ble_eq_true rfl) (Nat.le_refl _) (Nat.le_refl _) ?_
              refine Cal.mono h ?_
              rintro _ _ M9 ⟨x10, rfl, rfl, h⟩
              show OkI G miX10_copy (d + 1) K 90 [some (.inr (.inr (some 0))), some (.inl v1), some (.inl v2), some (.inl v3), some (.inl v4), some (.inl v5)] [.inl x10] M9
              refine q_if_eq (tgt := 108) (pc := 90) (tb_at tkX10_copy 45 rfl) (by decide) (fun c => ?_) (fun c => ?_)
              · replace h := h.1 c
                refine r_bipush (pc := 108) (tb_at tkX10_copy 53 rfl) ⟨by decide, by decide, by decide⟩ ?_
                exact r_iret (pc := 110) (tb_at tkX10_copy 54 rfl) rfl (Nat.le_refl _) (Nat.le_refl _) ⟨_, rfl, rfl, h⟩
              · replace h := h.2 c
                refine r_aload_n (pc := 93) (tb_at tkX10_copy 46 rfl) rfl rfl ?_
                refine r_get 9 9 (pc := 94) (tb_at tkX10_copy 47 rfl) ly_0 flX10_79 rfl ?_
                refine r_iload_n (pc := 97) (tb_at tkX10_copy 48 rfl) rfl rfl ?_
                refine r_iload (pc := 98) (tb_at tkX10_copy 49 rfl) rfl ?_
                refine r_iload (pc := 100) (tb_at tkX10_copy 50 rfl) rfl ?_
                refine r_invV (mc' := 0) (ms' := 0) [.inl v3, .inl v4, .inl v5] (S := []) (pc := 102) (tb_at tkX10_copy 51 rfl) rfl ly_61 rfl rfl clX10_402 (Nat.le_of_ble_eq_true rfl) (Nat.le_refl _) (Nat.le_refl _) ?_
                refine Cal.mono h ?_
                rintro _ _ M11 ⟨x12, rfl, rfl, h⟩
                show OkI G miX10_copy (d + 1) K 105 [some (.inr (.inr (some 0))), some (.inl v1), some (.inl v2), some (.inl v3), some (.inl v4), some (.inl v5)] [.inl x12] M11
                refine q_if_ne (tgt := 111) (pc := 105) (tb_at tkX10_copy 52 rfl) (by decide) (fun c => ?_) (fun c => ?_)
                · replace h := h.1 c
                  refine r_aload_n (pc := 111) (tb_at tkX10_copy 55 rfl) rfl rfl ?_
                  refine r_get 9 9 (pc := 112) (tb_at tkX10_copy 56 rfl) ly_0 flX10_79 rfl ?_
                  refine r_iload_n (pc := 115) (tb_at tkX10_copy 57 rfl) rfl rfl ?_
                  refine r_iload_n (pc := 116) (tb_at tkX10_copy 58 rfl) rfl rfl ?_
                  refine r_iload_n (pc := 117) (tb_at tkX10_copy 59 rfl) rfl rfl ?_
                  refine r_iload (pc := 118) (tb_at tkX10_copy 60 rfl) rfl ?_
                  refine r_iload (pc := 120) (tb_at tkX10_copy 61 rfl) rfl ?_
                  refine r_invV (mc' := 0) (ms' := 0) [.inl v1, .inl v2, .inl v3, .inl v4, .inl v5] (S := []) (pc := 122) (tb_at tkX10_copy 62 rfl) rfl ly_61 rfl rfl clX10_408 (Nat.le_of_ble_eq_true rfl) (Nat.le_refl _) (Nat.le_refl _) ?_
                  refine Cal.mono h ?_
                  rintro _ _ M13 ⟨rfl, rfl, h⟩
                  show OkI G miX10_copy (d + 1) K 125 [some (.inr (.inr (some 0))), some (.inl v1), some (.inl v2), some (.inl v3), some (.inl v4), some (.inl v5)] [] M13
                  refine r_iload (pc := 125) (tb_at tkX10_copy 63 rfl) rfl ?_
                  exact r_iret (pc := 127) (tb_at tkX10_copy 64 rfl) rfl (Nat.le_refl _) (Nat.le_refl _) ⟨_, rfl, rfl, h⟩
                · replace h := h.2 c
                  refine r_bipush (pc := 108) (tb_at tkX10_copy 53 rfl) ⟨by decide, by decide, by decide⟩ ?_
                  exact r_iret (pc := 110) (tb_at tkX10_copy 54 rfl) rfl (Nat.le_refl _) (Nat.le_refl _) ⟨_, rfl, rfl, h⟩
          · replace h := h.2 c
            refine r_bipush (pc := 71) (tb_at tkX10_copy 35 rfl) ⟨by decide, by decide, by decide⟩ ?_
            exact r_iret (pc := 73) (tb_at tkX10_copy 36 rfl) rfl (Nat.le_refl _) (Nat.le_refl _) ⟨_, rfl, rfl, h⟩
        · replace h := h.2 c
          refine r_bipush (pc := 47) (tb_at tkX10_copy 22 rfl) ⟨by decide, by decide, by decide⟩ ?_
          exact r_iret (pc := 49) (tb_at tkX10_copy 23 rfl) rfl (Nat.le_refl _) (Nat.le_refl _) ⟨_, rfl, rfl, h⟩
    · replace h := h.2 c
      refine r_bipush (pc := 22) (tb_at tkX10_copy 10 rfl) ⟨by decide, by decide, by decide⟩ ?_
      exact r_iret (pc := 24) (tb_at tkX10_copy 11 rfl) rfl (Nat.le_refl _) (Nat.le_refl _) ⟨_, rfl, rfl, h⟩
set_option maxRecDepth 100000 in
set_option maxHeartbeats 4000000 in
theorem gX10_isBelow_0 {G : GE} {d : Nat} {K : Int → Mem → Prop} {M : Mem} {v0 v1 : Int}  (h : ((v0 < 0 → K 0 M) ∧ (0 ≤ v0 → ((v1 ≤ v0 → K 0 M) ∧ (v0 < v1 → K 1 M))))) : OkI G miX10_isBelow d K 0 [some (.inl v0), some (.inl v1)] [] M := by
  refine r_iload_n (pc := 0) (tb_at tkX10_isBelow 0 rfl) rfl rfl ?_
  refine q_if_lt (tgt := 13) (pc := 1) (tb_at tkX10_isBelow 1 rfl) (by decide) (fun c => ?_) (fun c => ?_)
  · replace h := h.1 c
    refine r_iconst (pc := 13) (tb_at tkX10_isBelow 7 rfl) ⟨by decide, by decide⟩ ?_
    exact r_zret (pc := 14) (tb_at tkX10_isBelow 8 rfl) rfl (by decide) (Nat.le_refl _) (Nat.le_refl _) ⟨_, rfl, rfl, h⟩
  · replace h := h.2 c
    refine r_iload_n (pc := 4) (tb_at tkX10_isBelow 2 rfl) rfl rfl ?_
    refine r_iload_n (pc := 5) (tb_at tkX10_isBelow 3 rfl) rfl rfl ?_
    refine q_icmp_ge (tgt := 13) (pc := 6) (tb_at tkX10_isBelow 4 rfl) (by decide) (fun c => ?_) (fun c => ?_)
    · replace h := h.1 c
      refine r_iconst (pc := 13) (tb_at tkX10_isBelow 7 rfl) ⟨by decide, by decide⟩ ?_
      exact r_zret (pc := 14) (tb_at tkX10_isBelow 8 rfl) rfl (by decide) (Nat.le_refl _) (Nat.le_refl _) ⟨_, rfl, rfl, h⟩
    · replace h := h.2 c
      refine r_iconst (pc := 9) (tb_at tkX10_isBelow 5 rfl) ⟨by decide, by decide⟩ ?_
      refine r_goto (tgt := 14) (pc := 10) (tb_at tkX10_isBelow 6 rfl) (by decide) ?_
      exact r_zret (pc := 14) (tb_at tkX10_isBelow 8 rfl) rfl (by decide) (Nat.le_refl _) (Nat.le_refl _) ⟨_, rfl, rfl, h⟩
set_option maxRecDepth 100000 in
set_option maxHeartbeats 4000000 in
theorem gX10_isHalf_0 {G : GE} {d : Nat} {K : Int → Mem → Prop} {M : Mem} {v0 : Int}  (h : ((v0 = 0 → K 1 M) ∧ (¬ v0 = 0 → ((¬ v0 = 1 → K 0 M) ∧ (v0 = 1 → K 1 M))))) : OkI G miX10_isHalf d K 0 [some (.inl v0)] [] M := by
  refine r_iload_n (pc := 0) (tb_at tkX10_isHalf 0 rfl) rfl rfl ?_
  refine q_if_eq (tgt := 9) (pc := 1) (tb_at tkX10_isHalf 1 rfl) (by decide) (fun c => ?_) (fun c => ?_)
  · replace h := h.1 c
    refine r_iconst (pc := 9) (tb_at tkX10_isHalf 5 rfl) ⟨by decide, by decide⟩ ?_
    refine r_goto (tgt := 14) (pc := 10) (tb_at tkX10_isHalf 6 rfl) (by decide) ?_
    exact r_zret (pc := 14) (tb_at tkX10_isHalf 8 rfl) rfl (by decide) (Nat.le_refl _) (Nat.le_refl _) ⟨_, rfl, rfl, h⟩
  · replace h := h.2 c
    refine r_iload_n (pc := 4) (tb_at tkX10_isHalf 2 rfl) rfl rfl ?_
    refine r_iconst (pc := 5) (tb_at tkX10_isHalf 3 rfl) ⟨by decide, by decide⟩ ?_
    refine q_icmp_ne (tgt := 13) (pc := 6) (tb_at tkX10_isHalf 4 rfl) (by decide) (fun c => ?_) (fun c => ?_)
    · replace h := h.1 c
      refine r_iconst (pc := 13) (tb_at tkX10_isHalf 7 rfl) ⟨by decide, by decide⟩ ?_
      exact r_zret (pc := 14) (tb_at tkX10_isHalf 8 rfl) rfl (by decide) (Nat.le_refl _) (Nat.le_refl _) ⟨_, rfl, rfl, h⟩
    · replace h := h.2 c
      refine r_iconst (pc := 9) (tb_at tkX10_isHalf 5 rfl) ⟨by decide, by decide⟩ ?_
      refine r_goto (tgt := 14) (pc := 10) (tb_at tkX10_isHalf 6 rfl) (by decide) ?_
      exact r_zret (pc := 14) (tb_at tkX10_isHalf 8 rfl) rfl (by decide) (Nat.le_refl _) (Nat.le_refl _) ⟨_, rfl, rfl, h⟩
set_option maxRecDepth 100000 in
set_option maxHeartbeats 4000000 in
theorem gX10_isByte_0 {G : GE} {d : Nat} {K : Int → Mem → Prop} {M : Mem} {v0 : Int}  (h : CalI G miX10_isBelow d [.inl v0, .inl 256] M (fun x2 M1 => ((x2 = 0 ∨ x2 = 1) ∧ K x2 M1))) : OkI G miX10_isByte (d + 1) K 0 [some (.inl v0)] [] M := by
  refine r_iload_n (pc := 0) (tb_at tkX10_isByte 0 rfl) rfl rfl ?_
  refine r_sipush (pc := 1) (tb_at tkX10_isByte 1 rfl) ⟨by decide, by decide, by decide⟩ ?_
  refine r_invS (mc' := 0) (ms' := 0) [.inl v0, .inl 256] (S := []) (pc := 4) (tb_at tkX10_isByte 2 rfl) rfl clX10_147 (Nat.le_of_ble_eq_true rfl) (Nat.le_refl _) (Nat.le_refl _) ?_
  refine Cal.mono h ?_
  rintro _ _ M1 ⟨x2, rfl, rfl, h⟩
  show OkI G miX10_isByte (d + 1) K 7 [some (.inl v0)] [.inl x2] M1
  exact r_zret (pc := 7) (tb_at tkX10_isByte 3 rfl) rfl h.1 (Nat.le_refl _) (Nat.le_refl _) ⟨_, rfl, rfl, h.2⟩
set_option maxRecDepth 100000 in
set_option maxHeartbeats 4000000 in
theorem gX10_isAirport_0 {G : GE} {d : Nat} {K : Int → Mem → Prop} {M : Mem} {v0 : Int}  (h : CalI G miX10_isBelow d [.inl v0, .inl 4] M (fun x2 M1 => ((x2 = 0 ∨ x2 = 1) ∧ K x2 M1))) : OkI G miX10_isAirport (d + 1) K 0 [some (.inl v0)] [] M := by
  refine r_iload_n (pc := 0) (tb_at tkX10_isAirport 0 rfl) rfl rfl ?_
  refine r_iconst (pc := 1) (tb_at tkX10_isAirport 1 rfl) ⟨by decide, by decide⟩ ?_
  refine r_invS (mc' := 0) (ms' := 0) [.inl v0, .inl 4] (S := []) (pc := 2) (tb_at tkX10_isAirport 2 rfl) rfl clX10_147 (Nat.le_of_ble_eq_true rfl) (Nat.le_refl _) (Nat.le_refl _) ?_
  refine Cal.mono h ?_
  rintro _ _ M1 ⟨x2, rfl, rfl, h⟩
  show OkI G miX10_isAirport (d + 1) K 5 [some (.inl v0)] [.inl x2] M1
  exact r_zret (pc := 5) (tb_at tkX10_isAirport 3 rfl) rfl h.1 (Nat.le_refl _) (Nat.le_refl _) ⟨_, rfl, rfl, h.2⟩
set_option maxRecDepth 100000 in
set_option maxHeartbeats 4000000 in
theorem gX10_areTimes_0 {G : GE} {d : Nat} {K : Int → Mem → Prop} {M : Mem} {v0 v1 : Int}  (h : CalI G miX10_isBelow d [.inl v0, .inl 300] M (fun x2 M1 => ((x2 = 0 → K 0 M1) ∧ (¬ x2 = 0 → CalI G miX10_isBelow d [.inl v1, .inl 300] M1 (fun x4 M3 => ((x4 = 0 → K 0 M3) ∧ (¬ x4 = 0 → ((v1 ≤ v0 → K 0 M3) ∧ (v0 < v1 → K 1 M3))))))))) : OkI G miX10_areTimes (d + 1) K 0 [some (.inl v0), some (.inl v1)] [] M := by
  refine r_iload_n (pc := 0) (tb_at tkX10_areTimes 0 rfl) rfl rfl ?_
  refine r_sipush (pc := 1) (tb_at tkX10_areTimes 1 rfl) ⟨by decide, by decide, by decide⟩ ?_
  refine r_invS (mc' := 0) (ms' := 0) [.inl v0, .inl 300] (S := []) (pc := 4) (tb_at tkX10_areTimes 2 rfl) rfl clX10_147 (Nat.le_of_ble_eq_true rfl) (Nat.le_refl _) (Nat.le_refl _) ?_
  refine Cal.mono h ?_
  rintro _ _ M1 ⟨x2, rfl, rfl, h⟩
  show OkI G miX10_areTimes (d + 1) K 7 [some (.inl v0), some (.inl v1)] [.inl x2] M1
  refine q_if_eq (tgt := 29) (pc := 7) (tb_at tkX10_areTimes 3 rfl) (by decide) (fun c => ?_) (fun c => ?_)
  · replace h := h.1 c
    refine r_iconst (pc := 29) (tb_at tkX10_areTimes 13 rfl) ⟨by decide, by decide⟩ ?_
    exact r_zret (pc := 30) (tb_at tkX10_areTimes 14 rfl) rfl (by decide) (Nat.le_refl _) (Nat.le_refl _) ⟨_, rfl, rfl, h⟩
  · replace h := h.2 c
    refine r_iload_n (pc := 10) (tb_at tkX10_areTimes 4 rfl) rfl rfl ?_
    refine r_sipush (pc := 11) (tb_at tkX10_areTimes 5 rfl) ⟨by decide, by decide, by decide⟩ ?_
    refine r_invS (mc' := 0) (ms' := 0) [.inl v1, .inl 300] (S := []) (pc := 14) (tb_at tkX10_areTimes 6 rfl) rfl clX10_147 (Nat.le_of_ble_eq_true rfl) (Nat.le_refl _) (Nat.le_refl _) ?_
    refine Cal.mono h ?_
    rintro _ _ M3 ⟨x4, rfl, rfl, h⟩
    show OkI G miX10_areTimes (d + 1) K 17 [some (.inl v0), some (.inl v1)] [.inl x4] M3
    refine q_if_eq (tgt := 29) (pc := 17) (tb_at tkX10_areTimes 7 rfl) (by decide) (fun c => ?_) (fun c => ?_)
    · replace h := h.1 c
      refine r_iconst (pc := 29) (tb_at tkX10_areTimes 13 rfl) ⟨by decide, by decide⟩ ?_
      exact r_zret (pc := 30) (tb_at tkX10_areTimes 14 rfl) rfl (by decide) (Nat.le_refl _) (Nat.le_refl _) ⟨_, rfl, rfl, h⟩
    · replace h := h.2 c
      refine r_iload_n (pc := 20) (tb_at tkX10_areTimes 8 rfl) rfl rfl ?_
      refine r_iload_n (pc := 21) (tb_at tkX10_areTimes 9 rfl) rfl rfl ?_
      refine q_icmp_ge (tgt := 29) (pc := 22) (tb_at tkX10_areTimes 10 rfl) (by decide) (fun c => ?_) (fun c => ?_)
      · replace h := h.1 c
        refine r_iconst (pc := 29) (tb_at tkX10_areTimes 13 rfl) ⟨by decide, by decide⟩ ?_
        exact r_zret (pc := 30) (tb_at tkX10_areTimes 14 rfl) rfl (by decide) (Nat.le_refl _) (Nat.le_refl _) ⟨_, rfl, rfl, h⟩
      · replace h := h.2 c
        refine r_iconst (pc := 25) (tb_at tkX10_areTimes 11 rfl) ⟨by decide, by decide⟩ ?_
        refine r_goto (tgt := 30) (pc := 26) (tb_at tkX10_areTimes 12 rfl) (by decide) ?_
        exact r_zret (pc := 30) (tb_at tkX10_areTimes 14 rfl) rfl (by decide) (Nat.le_refl _) (Nat.le_refl _) ⟨_, rfl, rfl, h⟩
set_option maxRecDepth 100000 in
set_option maxHeartbeats 4000000 in
theorem gX10_inLowest_0 {G : GE} {d : Nat} {K : Int → Mem → Prop} {M : Mem} {v0 v2 v4 : Int}  (h : OkL G miX10_inLowest d K 9 [some (.inr (.inl v0)), none, some (.inr (.inl v2)), none, some (.inl v4), some (.inr (.inl v0)), none, some (.inr (.inl v2)), none, some (.inl 0), none, none] [] M) : OkL G miX10_inLowest d K 0 [some (.inr (.inl v0)), none, some (.inr (.inl v2)), none, some (.inl v4), none, none, none, none, none, none, none] [] M := by
  refine r_lload_n (pc := 0) (tb_at tkX10_inLowest 0 rfl) rfl rfl ?_
  refine r_lstore (L' := [some (.inr (.inl v0)), none, some (.inr (.inl v2)), none, some (.inl v4), some (.inr (.inl v0)), none, none, none, none, none, none]) (pc := 1) (tb_at tkX10_inLowest 1 rfl) (by decide) rfl ?_
  refine r_lload_n (pc := 3) (tb_at tkX10_inLowest 2 rfl) rfl rfl ?_
  refine r_lstore (L' := [some (.inr (.inl v0)), none, some (.inr (.inl v2)), none, some (.inl v4), some (.inr (.inl v0)), none, some (.inr (.inl v2)), none, none, none, none]) (pc := 4) (tb_at tkX10_inLowest 3 rfl) (by decide) rfl ?_
  refine r_iconst (pc := 6) (tb_at tkX10_inLowest 4 rfl) ⟨by decide, by decide⟩ ?_
  refine r_istore (L' := [some (.inr (.inl v0)), none, some (.inr (.inl v2)), none, some (.inl v4), some (.inr (.inl v0)), none, some (.inr (.inl v2)), none, some (.inl 0), none, none]) (pc := 7) (tb_at tkX10_inLowest 5 rfl) (by decide) rfl ?_
  exact h
set_option maxRecDepth 100000 in
set_option maxHeartbeats 4000000 in
theorem gX10_inLowest_9 {G : GE} {d : Nat} {K : Int → Mem → Prop} {M : Mem} {v0 v2 v4 v5 v7 v9 : Int}  (h : ((200 ≤ v9 → OkL G miX10_inLowest d K 45 [some (.inr (.inl v0)), none, some (.inr (.inl v2)), none, some (.inl v4), some (.inr (.inl v5)), none, none, none, none, none, none] [] M) ∧ (v9 < 200 → ((v7 = 0 → OkL G miX10_inLowest d K 45 [some (.inr (.inl v0)), none, some (.inr (.inl v2)), none, some (.inl v4), some (.inr (.inl v5)), none, none, none, none, none, none] [] M) ∧ (¬ v7 = 0 → ¬ v7 = 0 ∧ OkL G miX10_inLowest d K 9 [some (.inr (.inl v0)), none, some (.inr (.inl v2)), none, some (.inl v4), some (.inr (.inl v7)), none, some (.inr (.inl (lrem v5 v7))), none, some (.inl (w32 (v9 + 1))), none, none] [] M))))) : OkL G miX10_inLowest d K 9 [some (.inr (.inl v0)), none, some (.inr (.inl v2)), none, some (.inl v4), some (.inr (.inl v5)), none, some (.inr (.inl v7)), none, some (.inl v9), none, none] [] M := by
  refine r_iload (pc := 9) (tb_at tkX10_inLowest 6 rfl) rfl ?_
  refine r_sipush (pc := 11) (tb_at tkX10_inLowest 7 rfl) ⟨by decide, by decide, by decide⟩ ?_
  refine q_icmp_ge (tgt := 45) (pc := 14) (tb_at tkX10_inLowest 8 rfl) (by decide) (fun c => ?_) (fun c => ?_)
  · replace h := h.1 c
    exact Ok.forget h (And.intro rfl (And.intro rfl (And.intro rfl (And.intro rfl trivial))))
  · replace h := h.2 c
    refine r_lload (pc := 17) (tb_at tkX10_inLowest 9 rfl) rfl ?_
    refine r_lconst (v := 0) (pc := 19) (tb_at tkX10_inLowest 10 rfl) ⟨by decide, by decide, by decide⟩ ?_
    refine r_lcmp (pc := 20) (tb_at tkX10_inLowest 11 rfl) ?_
    refine q_lif_eq (tgt := 45) (pc := 21) (tb_at tkX10_inLowest 12 rfl) (by decide) (fun c => ?_) (fun c => ?_)
    · replace h := h.1 c
      exact Ok.forget h (And.intro rfl (And.intro rfl (And.intro rfl (And.intro rfl trivial))))
    · replace h := h.2 c
      refine r_lload (pc := 24) (tb_at tkX10_inLowest 13 rfl) rfl ?_
      refine r_lload (pc := 26) (tb_at tkX10_inLowest 14 rfl) rfl ?_
      refine r_lrem (pc := 28) (tb_at tkX10_inLowest 15 rfl) h.1 ?_
      replace h := h.2
      refine r_lstore (L' := [some (.inr (.inl v0)), none, some (.inr (.inl v2)), none, some (.inl v4), some (.inr (.inl v5)), none, some (.inr (.inl v7)), none, some (.inl v9), some (.inr (.inl (lrem v5 v7))), none]) (pc := 29) (tb_at tkX10_inLowest 16 rfl) (by decide) rfl ?_
      refine r_lload (pc := 31) (tb_at tkX10_inLowest 17 rfl) rfl ?_
      refine r_lstore (L' := [some (.inr (.inl v0)), none, some (.inr (.inl v2)), none, some (.inl v4), some (.inr (.inl v7)), none, some (.inr (.inl v7)), none, some (.inl v9), some (.inr (.inl (lrem v5 v7))), none]) (pc := 33) (tb_at tkX10_inLowest 18 rfl) (by decide) rfl ?_
      refine r_lload (pc := 35) (tb_at tkX10_inLowest 19 rfl) rfl ?_
      refine r_lstore (L' := [some (.inr (.inl v0)), none, some (.inr (.inl v2)), none, some (.inl v4), some (.inr (.inl v7)), none, some (.inr (.inl (lrem v5 v7))), none, some (.inl v9), some (.inr (.inl (lrem v5 v7))), none]) (pc := 37) (tb_at tkX10_inLowest 20 rfl) (by decide) rfl ?_
      refine r_iinc (L' := [some (.inr (.inl v0)), none, some (.inr (.inl v2)), none, some (.inl v4), some (.inr (.inl v7)), none, some (.inr (.inl (lrem v5 v7))), none, some (.inl (w32 (v9 + 1))), some (.inr (.inl (lrem v5 v7))), none]) (pc := 39) (tb_at tkX10_inLowest 21 rfl) rfl (by decide) rfl ?_
      refine r_goto (tgt := 9) (pc := 42) (tb_at tkX10_inLowest 22 rfl) (by decide) ?_
      exact Ok.forget h (And.intro rfl (And.intro rfl (And.intro rfl (And.intro rfl (And.intro rfl (And.intro rfl trivial))))))
set_option maxRecDepth 100000 in
set_option maxHeartbeats 4000000 in
theorem gX10_inLowest_45 {G : GE} {d : Nat} {K : Int → Mem → Prop} {M : Mem} {v0 v2 v4 v5 : Int}  (h : ((¬ v5 = 0 → ((¬ v4 = 0 → ¬ v5 = 0 ∧ K (ldiv v2 v5) M) ∧ (v4 = 0 → ¬ v5 = 0 ∧ K (ldiv v0 v5) M))) ∧ (v5 = 0 → K (-9223372036854775808) M))) : OkL G miX10_inLowest d K 45 [some (.inr (.inl v0)), none, some (.inr (.inl v2)), none, some (.inl v4), some (.inr (.inl v5)), none, none, none, none, none, none] [] M := by
  refine r_lload (pc := 45) (tb_at tkX10_inLowest 23 rfl) rfl ?_
  refine r_lconst (v := 0) (pc := 47) (tb_at tkX10_inLowest 24 rfl) ⟨by decide, by decide, by decide⟩ ?_
  refine r_lcmp (pc := 48) (tb_at tkX10_inLowest 25 rfl) ?_
  refine q_lif_ne (tgt := 56) (pc := 49) (tb_at tkX10_inLowest 26 rfl) (by decide) (fun c => ?_) (fun c => ?_)
  · replace h := h.1 c
    refine r_iload (pc := 56) (tb_at tkX10_inLowest 29 rfl) rfl ?_
    refine q_if_ne (tgt := 68) (pc := 58) (tb_at tkX10_inLowest 30 rfl) (by decide) (fun c => ?_) (fun c => ?_)
    · replace h := h.1 c
      refine r_lload_n (pc := 68) (tb_at tkX10_inLowest 35 rfl) rfl rfl ?_
      refine r_lload (pc := 69) (tb_at tkX10_inLowest 36 rfl) rfl ?_
      refine r_ldiv (pc := 71) (tb_at tkX10_inLowest 37 rfl) h.1 ?_
      replace h := h.2
      exact r_lret (pc := 72) (tb_at tkX10_inLowest 38 rfl) rfl (Nat.le_refl _) (Nat.le_refl _) ⟨_, rfl, rfl, h⟩
    · replace h := h.2 c
      refine r_lload_n (pc := 61) (tb_at tkX10_inLowest 31 rfl) rfl rfl ?_
      refine r_lload (pc := 62) (tb_at tkX10_inLowest 32 rfl) rfl ?_
      refine r_ldiv (pc := 64) (tb_at tkX10_inLowest 33 rfl) h.1 ?_
      replace h := h.2
      refine r_goto (tgt := 72) (pc := 65) (tb_at tkX10_inLowest 34 rfl) (by decide) ?_
      exact r_lret (pc := 72) (tb_at tkX10_inLowest 38 rfl) rfl (Nat.le_refl _) (Nat.le_refl _) ⟨_, rfl, rfl, h⟩
  · replace h := h.2 c
    refine r_ldc2 (n := -9223372036854775808) (pc := 52) (tb_at tkX10_inLowest 27 rfl) kcX10_259 ⟨by decide, by decide⟩ ?_
    exact r_lret (pc := 55) (tb_at tkX10_inLowest 28 rfl) rfl (Nat.le_refl _) (Nat.le_refl _) ⟨_, rfl, rfl, h⟩
set_option maxRecDepth 100000 in
set_option maxHeartbeats 4000000 in
theorem gX10_refresh_0 {G : GE} {d : Nat} {K : Mem → Prop} {M : Mem}  (h : (((M 0 13) = (M 1 10) → K M) ∧ (¬ (M 0 13) = (M 1 10) → CalV G miX4_workOut d [.inr (.inr (some 19))] M (fun M1 => CalV G miX1_workOut d [.inr (.inr (some 28)), .inr (.inr (some 9))] M1 (fun M2 => CalV G miX2_learn d [.inr (.inr (some 54)), .inr (.inr (some 28))] M2 (fun M3 => K (mup M3 0 13 (M3 1 10)))))))) : OkV G miX10_refresh (d + 1) K 0 [some (.inr (.inr (some 0)))] [] M := by
  refine r_aload_n (pc := 0) (tb_at tkX10_refresh 0 rfl) rfl rfl ?_
  refine r_get 9 13 (pc := 1) (tb_at tkX10_refresh 1 rfl) ly_0 flX10_87 rfl ?_
  refine r_aload_n (pc := 4) (tb_at tkX10_refresh 2 rfl) rfl rfl ?_
  refine r_get 9 0 (pc := 5) (tb_at tkX10_refresh 3 rfl) ly_0 flX10_14 rfl ?_
  refine r_get 5 10 (pc := 8) (tb_at tkX10_refresh 4 rfl) ly_1 flX10_269 rfl ?_
  refine q_icmp_eq (tgt := 57) (pc := 11) (tb_at tkX10_refresh 5 rfl) (by decide) (fun c => ?_) (fun c => ?_)
  · replace h := h.1 c
    exact r_vret (pc := 57) (tb_at tkX10_refresh 25 rfl) rfl (Nat.le_refl _) (Nat.le_refl _) ⟨rfl, rfl, h⟩
  · replace h := h.2 c
    refine r_aload_n (pc := 14) (tb_at tkX10_refresh 6 rfl) rfl rfl ?_
    refine r_get 9 2 (pc := 15) (tb_at tkX10_refresh 7 rfl) ly_0 flX10_26 rfl ?_
    refine r_invV (mc' := 0) (ms' := 0) [] (S := []) (pc := 18) (tb_at tkX10_refresh 8 rfl) rfl ly_19 rfl rfl clX10_412 (Nat.le_of_ble_eq_true rfl) (Nat.le_refl _) (Nat.le_refl _) ?_
    refine Cal.mono h ?_
    rintro _ _ M1 ⟨rfl, rfl, h⟩
    show OkV G miX10_refresh (d + 1) K 21 [some (.inr (.inr (some 0)))] [] M1
    refine r_aload_n (pc := 21) (tb_at tkX10_refresh 9 rfl) rfl rfl ?_
    refine r_get 9 3 (pc := 22) (tb_at tkX10_refresh 10 rfl) ly_0 flX10_35 rfl ?_
    refine r_aload_n (pc := 25) (tb_at tkX10_refresh 11 rfl) rfl rfl ?_
    refine r_get 9 0 (pc := 26) (tb_at tkX10_refresh 12 rfl) ly_0 flX10_14 rfl ?_
    refine r_get 5 7 (pc := 29) (tb_at tkX10_refresh 13 rfl) ly_1 flX10_199 rfl ?_
    refine r_invV (mc' := 0) (ms' := 0) [.inr (.inr (some 9))] (S := []) (pc := 32) (tb_at tkX10_refresh 14 rfl) rfl ly_28 rfl rfl clX10_414 (Nat.le_of_ble_eq_true rfl) (Nat.le_refl _) (Nat.le_refl _) ?_
    refine Cal.mono h ?_
    rintro _ _ M2 ⟨rfl, rfl, h⟩
    show OkV G miX10_refresh (d + 1) K 35 [some (.inr (.inr (some 0)))] [] M2
    refine r_aload_n (pc := 35) (tb_at tkX10_refresh 15 rfl) rfl rfl ?_
    refine r_get 9 7 (pc := 36) (tb_at tkX10_refresh 16 rfl) ly_0 flX10_65 rfl ?_
    refine r_aload_n (pc := 39) (tb_at tkX10_refresh 17 rfl) rfl rfl ?_
    refine r_get 9 3 (pc := 40) (tb_at tkX10_refresh 18 rfl) ly_0 flX10_35 rfl ?_
    refine r_invV (mc' := 0) (ms' := 0) [.inr (.inr (some 28))] (S := []) (pc := 43) (tb_at tkX10_refresh 19 rfl) rfl ly_54 rfl rfl clX10_417 (Nat.le_of_ble_eq_true rfl) (Nat.le_refl _) (Nat.le_refl _) ?_
    refine Cal.mono h ?_
    rintro _ _ M3 ⟨rfl, rfl, h⟩
    show OkV G miX10_refresh (d + 1) K 46 [some (.inr (.inr (some 0)))] [] M3
    refine r_aload_n (pc := 46) (tb_at tkX10_refresh 20 rfl) rfl rfl ?_
    refine r_aload_n (pc := 47) (tb_at tkX10_refresh 21 rfl) rfl rfl ?_
    refine r_get 9 0 (pc := 48) (tb_at tkX10_refresh 22 rfl) ly_0 flX10_14 rfl ?_
    refine r_get 5 10 (pc := 51) (tb_at tkX10_refresh 23 rfl) ly_1 flX10_269 rfl ?_
    refine r_put 9 13 (M3 1 10) (pc := 54) (tb_at tkX10_refresh 24 rfl) ly_0 flX10_87 (fun r h => by cases h; rfl) (.inl rfl) rfl (fun h => by cases h) rfl ?_
    exact r_vret (pc := 57) (tb_at tkX10_refresh 25 rfl) rfl (Nat.le_refl _) (Nat.le_refl _) ⟨rfl, rfl, h⟩
set_option maxRecDepth 100000 in
set_option maxHeartbeats 4000000 in
theorem gX10_isPriced_0 {G : GE} {d : Nat} {K : Int → Mem → Prop} {M : Mem}  (h : CalV G miX10_refresh d [.inr (.inr (some 0))] M (fun M1 => (((M1 0 14) = (M1 1 10) → ((M1 0 12 = 0 ∨ M1 0 12 = 1) ∧ K (M1 0 12) M1)) ∧ (¬ (M1 0 14) = (M1 1 10) → CalI G miX8_solve d [.inr (.inr (some 34)), .inr (.inr (some 28)), .inl (w32 (1 + (M1 1 8)))] M1 (fun x3 M2 => (x3 = 0 ∨ x3 = 1) ∧ (((mup (mup M2 0 12 x3) 0 14 ((mup M2 0 12 x3) 1 10)) 0 12 = 0 ∨ (mup (mup M2 0 12 x3) 0 14 ((mup M2 0 12 x3) 1 10)) 0 12 = 1) ∧ K ((mup (mup M2 0 12 x3) 0 14 ((mup M2 0 12 x3) 1 10)) 0 12) (mup (mup M2 0 12 x3) 0 14 ((mup M2 0 12 x3) 1 10)))))))) : OkI G miX10_isPriced (d + 1) K 0 [some (.inr (.inr (some 0)))] [] M := by
  refine r_aload_n (pc := 0) (tb_at tkX10_isPriced 0 rfl) rfl rfl ?_
  refine r_invV (mc' := 0) (ms' := 0) [] (S := []) (pc := 1) (tb_at tkX10_isPriced 1 rfl) rfl ly_0 rfl rfl clX10_119 (Nat.le_of_ble_eq_true rfl) (Nat.le_refl _) (Nat.le_refl _) ?_
  refine Cal.mono h ?_
  rintro _ _ M1 ⟨rfl, rfl, h⟩
  show OkI G miX10_isPriced (d + 1) K 4 [some (.inr (.inr (some 0)))] [] M1
  refine r_aload_n (pc := 4) (tb_at tkX10_isPriced 2 rfl) rfl rfl ?_
  refine r_get 9 14 (pc := 5) (tb_at tkX10_isPriced 3 rfl) ly_0 flX10_91 rfl ?_
  refine r_aload_n (pc := 8) (tb_at tkX10_isPriced 4 rfl) rfl rfl ?_
  refine r_get 9 0 (pc := 9) (tb_at tkX10_isPriced 5 rfl) ly_0 flX10_14 rfl ?_
  refine r_get 5 10 (pc := 12) (tb_at tkX10_isPriced 6 rfl) ly_1 flX10_269 rfl ?_
  refine q_icmp_eq (tgt := 53) (pc := 15) (tb_at tkX10_isPriced 7 rfl) (by decide) (fun c => ?_) (fun c => ?_)
  · replace h := h.1 c
    refine r_aload_n (pc := 53) (tb_at tkX10_isPriced 25 rfl) rfl rfl ?_
    refine r_get 9 12 (pc := 54) (tb_at tkX10_isPriced 26 rfl) ly_0 flX10_425 rfl ?_
    exact r_zret (pc := 57) (tb_at tkX10_isPriced 27 rfl) rfl h.1 (Nat.le_refl _) (Nat.le_refl _) ⟨_, rfl, rfl, h.2⟩
  · replace h := h.2 c
    refine r_aload_n (pc := 18) (tb_at tkX10_isPriced 8 rfl) rfl rfl ?_
    refine r_aload_n (pc := 19) (tb_at tkX10_isPriced 9 rfl) rfl rfl ?_
    refine r_get 9 4 (pc := 20) (tb_at tkX10_isPriced 10 rfl) ly_0 flX10_42 rfl ?_
    refine r_aload_n (pc := 23) (tb_at tkX10_isPriced 11 rfl) rfl rfl ?_
    refine r_get 9 3 (pc := 24) (tb_at tkX10_isPriced 12 rfl) ly_0 flX10_35 rfl ?_
    refine r_iconst (pc := 27) (tb_at tkX10_isPriced 13 rfl) ⟨by decide, by decide⟩ ?_
    refine r_aload_n (pc := 28) (tb_at tkX10_isPriced 14 rfl) rfl rfl ?_
    refine r_get 9 0 (pc := 29) (tb_at tkX10_isPriced 15 rfl) ly_0 flX10_14 rfl ?_
    refine r_get 5 8 (pc := 32) (tb_at tkX10_isPriced 16 rfl) ly_1 flX10_105 rfl ?_
    refine r_iadd (pc := 35) (tb_at tkX10_isPriced 17 rfl) ?_
    refine r_invV (mc' := 0) (ms' := 0) [.inr (.inr (some 28)), .inl (w32 (1 + (M1 1 8)))] (S := [.inr (.inr (some 0))]) (pc := 36) (tb_at tkX10_isPriced 18 rfl) rfl ly_34 rfl rfl clX10_421 (Nat.le_of_ble_eq_true rfl) (Nat.le_refl _) (Nat.le_refl _) ?_
    refine Cal.mono h ?_
    rintro _ _ M2 ⟨x3, rfl, rfl, h⟩
    show OkI G miX10_isPriced (d + 1) K 39 [some (.inr (.inr (some 0)))] [.inl x3, .inr (.inr (some 0))] M2
    refine r_put 9 12 x3 (pc := 39) (tb_at tkX10_isPriced 19 rfl) ly_0 flX10_425 (fun r h => by cases h; rfl) (.inr (.inl rfl)) rfl (fun _ => h.1) rfl ?_
    replace h := h.2
    refine r_aload_n (pc := 42) (tb_at tkX10_isPriced 20 rfl) rfl rfl ?_
    refine r_aload_n (pc := 43) (tb_at tkX10_isPriced 21 rfl) rfl rfl ?_
    refine r_get 9 0 (pc := 44) (tb_at tkX10_isPriced 22 rfl) ly_0 flX10_14 rfl ?_
    refine r_get 5 10 (pc := 47) (tb_at tkX10_isPriced 23 rfl) ly_1 flX10_269 rfl ?_
    refine r_put 9 14 ((mup M2 0 12 x3) 1 10) (pc := 50) (tb_at tkX10_isPriced 24 rfl) ly_0 flX10_91 (fun r h => by cases h; rfl) (.inl rfl) rfl (fun h => by cases h) rfl ?_
    refine r_aload_n (pc := 53) (tb_at tkX10_isPriced 25 rfl) rfl rfl ?_
    refine r_get 9 12 (pc := 54) (tb_at tkX10_isPriced 26 rfl) ly_0 flX10_425 rfl ?_
    exact r_zret (pc := 57) (tb_at tkX10_isPriced 27 rfl) rfl h.1 (Nat.le_refl _) (Nat.le_refl _) ⟨_, rfl, rfl, h.2⟩
set_option maxRecDepth 100000 in
set_option maxHeartbeats 4000000 in
theorem gX10_takePrices_0 {G : GE} {d : Nat} {K : Int → Mem → Prop} {M : Mem} {v1 v2 : Int}  (h : CalI G miX7_isMissing d [.inr (.inr (some 61)), .inl v1] M (fun x2 M1 => ((x2 = 0 → (0 ≤ v1 ∧ v1 < 4) ∧ (((M1 63 (v1).toNat) = (M1 1 8) → OkI G miX10_takePrices (d + 1) K 39 [some (.inr (.inr (some 0))), some (.inl v1), some (.inr (.inl v2)), none, some (.inl 0)] [] M1) ∧ (¬ (M1 63 (v1).toNat) = (M1 1 8) → K (-3) M1))) ∧ (¬ x2 = 0 → K (-11) M1)))) : OkI G miX10_takePrices (d + 1) K 0 [some (.inr (.inr (some 0))), some (.inl v1), some (.inr (.inl v2)), none, none] [] M := by
  refine r_aload_n (pc := 0) (tb_at tkX10_takePrices 0 rfl) rfl rfl ?_
  refine r_get 9 9 (pc := 1) (tb_at tkX10_takePrices 1 rfl) ly_0 flX10_79 rfl ?_
  refine r_iload_n (pc := 4) (tb_at tkX10_takePrices 2 rfl) rfl rfl ?_
  refine r_invV (mc' := 0) (ms' := 0) [.inl v1] (S := []) (pc := 5) (tb_at tkX10_takePrices 3 rfl) rfl ly_61 rfl rfl clX10_347 (Nat.le_of_ble_eq_true rfl) (Nat.le_refl _) (Nat.le_refl _) ?_
  refine Cal.mono h ?_
  rintro _ _ M1 ⟨x2, rfl, rfl, h⟩
  show OkI G miX10_takePrices (d + 1) K 8 [some (.inr (.inr (some 0))), some (.inl v1), some (.inr (.inl v2)), none, none] [.inl x2] M1
  refine q_if_eq (tgt := 14) (pc := 8) (tb_at tkX10_takePrices 4 rfl) (by decide) (fun c => ?_) (fun c => ?_)
  · replace h := h.1 c
    refine r_aload_n (pc := 14) (tb_at tkX10_takePrices 7 rfl) rfl rfl ?_
    refine r_get 9 9 (pc := 15) (tb_at tkX10_takePrices 8 rfl) ly_0 flX10_79 rfl ?_
    refine r_get 6 1 (pc := 18) (tb_at tkX10_takePrices 9 rfl) ly_61 flX10_350 rfl ?_
    refine r_iload_n (pc := 21) (tb_at tkX10_takePrices 10 rfl) rfl rfl ?_
    refine r_iald (pc := 22) (tb_at tkX10_takePrices 11 rfl) ly_63 h.1.1 h.1.2 ?_
    replace h := h.2
    refine r_aload_n (pc := 23) (tb_at tkX10_takePrices 12 rfl) rfl rfl ?_
    refine r_get 9 0 (pc := 24) (tb_at tkX10_takePrices 13 rfl) ly_0 flX10_14 rfl ?_
    refine r_get 5 8 (pc := 27) (tb_at tkX10_takePrices 14 rfl) ly_1 flX10_105 rfl ?_
    refine q_icmp_eq (tgt := 36) (pc := 30) (tb_at tkX10_takePrices 15 rfl) (by decide) (fun c => ?_) (fun c => ?_)
    · replace h := h.1 c
      refine r_iconst (pc := 36) (tb_at tkX10_takePrices 18 rfl) ⟨by decide, by decide⟩ ?_
      refine r_istore (L' := [some (.inr (.inr (some 0))), some (.inl v1), some (.inr (.inl v2)), none, some (.inl 0)]) (pc := 37) (tb_at tkX10_takePrices 19 rfl) (by decide) rfl ?_
      exact h
    · replace h := h.2 c
      refine r_bipush (pc := 33) (tb_at tkX10_takePrices 16 rfl) ⟨by decide, by decide, by decide⟩ ?_
      exact r_iret (pc := 35) (tb_at tkX10_takePrices 17 rfl) rfl (Nat.le_refl _) (Nat.le_refl _) ⟨_, rfl, rfl, h⟩
  · replace h := h.2 c
    refine r_bipush (pc := 11) (tb_at tkX10_takePrices 5 rfl) ⟨by decide, by decide, by decide⟩ ?_
    exact r_iret (pc := 13) (tb_at tkX10_takePrices 6 rfl) rfl (Nat.le_refl _) (Nat.le_refl _) ⟨_, rfl, rfl, h⟩
set_option maxRecDepth 100000 in
set_option maxHeartbeats 4000000 in
theorem gX10_takePrices_39 {G : GE} {d : Nat} {K : Int → Mem → Prop} {M : Mem} {v1 v2 v4 : Int}  (h : (((M 1 8) ≤ v4 → K 0 M) ∧ (v4 < (M 1 8) → CalL G miX7_read d [.inr (.inr (some 61)), .inl v1, .inl v4] M (fun x2 M1 => (0 ≤ v4 ∧ v4 < 7) ∧ (0 ≤ v4 ∧ v4 < 7) ∧ ((((mup M1 65 (v4).toNat x2) 65 (v4).toNat) < v2 → K (-3) (mup M1 65 (v4).toNat x2)) ∧ (v2 ≤ ((mup M1 65 (v4).toNat x2) 65 (v4).toNat) → (0 ≤ v4 ∧ v4 < 7) ∧ ((((mup M1 65 (v4).toNat x2) 65 (v4).toNat) ≤ 999999 → OkI G miX10_takePrices (d + 1) K 39 [some (.inr (.inr (some 0))), some (.inl v1), some (.inr (.inl v2)), none, some (.inl (w32 (v4 + 1)))] [] (mup M1 65 (v4).toNat x2)) ∧ (999999 < ((mup M1 65 (v4).toNat x2) 65 (v4).toNat) → K (-3) (mup M1 65 (v4).toNat x2))))))))) : OkI G miX10_takePrices (d + 1) K 39 [some (.inr (.inr (some 0))), some (.inl v1), some (.inr (.inl v2)), none, some (.inl v4)] [] M := by
  refine r_iload (pc := 39) (tb_at tkX10_takePrices 20 rfl) rfl ?_
  refine r_aload_n (pc := 41) (tb_at tkX10_takePrices 21 rfl) rfl rfl ?_
  refine r_get 9 0 (pc := 42) (tb_at tkX10_takePrices 22 rfl) ly_0 flX10_14 rfl ?_
  refine r_get 5 8 (pc := 45) (tb_at tkX10_takePrices 23 rfl) ly_1 flX10_105 rfl ?_
  refine q_icmp_ge (tgt := 103) (pc := 48) (tb_at tkX10_takePrices 24 rfl) (by decide) (fun c => ?_) (fun c => ?_)
  · replace h := h.1 c
    refine r_iconst (pc := 103) (tb_at tkX10_takePrices 52 rfl) ⟨by decide, by decide⟩ ?_
    exact r_iret (pc := 104) (tb_at tkX10_takePrices 53 rfl) rfl (Nat.le_refl _) (Nat.le_refl _) ⟨_, rfl, rfl, h⟩
  · replace h := h.2 c
    refine r_aload_n (pc := 51) (tb_at tkX10_takePrices 25 rfl) rfl rfl ?_
    refine r_get 9 10 (pc := 52) (tb_at tkX10_takePrices 26 rfl) ly_0 flX10_83 rfl ?_
    refine r_iload (pc := 55) (tb_at tkX10_takePrices 27 rfl) rfl ?_
    refine r_aload_n (pc := 57) (tb_at tkX10_takePrices 28 rfl) rfl rfl ?_
    refine r_get 9 9 (pc := 58) (tb_at tkX10_takePrices 29 rfl) ly_0 flX10_79 rfl ?_
    refine r_iload_n (pc := 61) (tb_at tkX10_takePrices 30 rfl) rfl rfl ?_
    refine r_iload (pc := 62) (tb_at tkX10_takePrices 31 rfl) rfl ?_
    refine r_invV (mc' := 0) (ms' := 0) [.inl v1, .inl v4] (S := [.inl v4, .inr (.inr (some 65))]) (pc := 64) (tb_at tkX10_takePrices 32 rfl) rfl ly_61 rfl rfl clX10_405 (Nat.le_of_ble_eq_true rfl) (Nat.le_refl _) (Nat.le_refl _) ?_
    refine Cal.mono h ?_
    rintro _ _ M1 ⟨x2, rfl, rfl, h⟩
    show OkI G miX10_takePrices (d + 1) K 67 [some (.inr (.inr (some 0))), some (.inl v1), some (.inr (.inl v2)), none, some (.inl v4)] [.inr (.inl x2), .inl v4, .inr (.inr (some 65))] M1
    refine r_last (pc := 67) (tb_at tkX10_takePrices 33 rfl) ly_65 h.1.1 h.1.2 rfl ?_
    replace h := h.2
    refine r_aload_n (pc := 68) (tb_at tkX10_takePrices 34 rfl) rfl rfl ?_
    refine r_get 9 10 (pc := 69) (tb_at tkX10_takePrices 35 rfl) ly_0 flX10_83 rfl ?_
    refine r_iload (pc := 72) (tb_at tkX10_takePrices 36 rfl) rfl ?_
    refine r_lald (pc := 74) (tb_at tkX10_takePrices 37 rfl) ly_65 h.1.1 h.1.2 ?_
    replace h := h.2
    refine r_lload_n (pc := 75) (tb_at tkX10_takePrices 38 rfl) rfl rfl ?_
    refine r_lcmp (pc := 76) (tb_at tkX10_takePrices 39 rfl) ?_
    refine q_lif_lt (tgt := 94) (pc := 77) (tb_at tkX10_takePrices 40 rfl) (by decide) (fun c => ?_) (fun c => ?_)
    · replace h := h.1 c
      refine r_bipush (pc := 94) (tb_at tkX10_takePrices 48 rfl) ⟨by decide, by decide, by decide⟩ ?_
      exact r_iret (pc := 96) (tb_at tkX10_takePrices 49 rfl) rfl (Nat.le_refl _) (Nat.le_refl _) ⟨_, rfl, rfl, h⟩
    · replace h := h.2 c
      refine r_aload_n (pc := 80) (tb_at tkX10_takePrices 41 rfl) rfl rfl ?_
      refine r_get 9 10 (pc := 81) (tb_at tkX10_takePrices 42 rfl) ly_0 flX10_83 rfl ?_
      refine r_iload (pc := 84) (tb_at tkX10_takePrices 43 rfl) rfl ?_
      refine r_lald (pc := 86) (tb_at tkX10_takePrices 44 rfl) ly_65 h.1.1 h.1.2 ?_
      replace h := h.2
      refine r_ldc2 (n := 999999) (pc := 87) (tb_at tkX10_takePrices 45 rfl) kcX10_428 ⟨by decide, by decide⟩ ?_
      refine r_lcmp (pc := 90) (tb_at tkX10_takePrices 46 rfl) ?_
      refine q_lif_le (tgt := 97) (pc := 91) (tb_at tkX10_takePrices 47 rfl) (by decide) (fun c => ?_) (fun c => ?_)
      · replace h := h.1 c
        refine r_iinc (L' := [some (.inr (.inr (some 0))), some (.inl v1), some (.inr (.inl v2)), none, some (.inl (w32 (v4 + 1)))]) (pc := 97) (tb_at tkX10_takePrices 50 rfl) rfl (by decide) rfl ?_
        refine r_goto (tgt := 39) (pc := 100) (tb_at tkX10_takePrices 51 rfl) (by decide) ?_
        exact h
      · replace h := h.2 c
        refine r_bipush (pc := 94) (tb_at tkX10_takePrices 48 rfl) ⟨by decide, by decide, by decide⟩ ?_
        exact r_iret (pc := 96) (tb_at tkX10_takePrices 49 rfl) rfl (Nat.le_refl _) (Nat.le_refl _) ⟨_, rfl, rfl, h⟩
set_option maxRecDepth 100000 in
set_option maxHeartbeats 4000000 in
theorem gX10_sumOfTold_0 {G : GE} {d : Nat} {K : Int → Mem → Prop} {M : Mem}  (h : OkL G miX10_sumOfTold d K 4 [some (.inr (.inr (some 0))), some (.inr (.inl 0)), none, some (.inl 0)] [] M) : OkL G miX10_sumOfTold d K 0 [some (.inr (.inr (some 0))), none, none, none] [] M := by
  refine r_lconst (v := 0) (pc := 0) (tb_at tkX10_sumOfTold 0 rfl) ⟨by decide, by decide, by decide⟩ ?_
  refine r_lstore_n (L' := [some (.inr (.inr (some 0))), some (.inr (.inl 0)), none, none]) (pc := 1) (tb_at tkX10_sumOfTold 1 rfl) rfl (by decide) rfl ?_
  refine r_iconst (pc := 2) (tb_at tkX10_sumOfTold 2 rfl) ⟨by decide, by decide⟩ ?_
  refine r_istore_n (L' := [some (.inr (.inr (some 0))), some (.inr (.inl 0)), none, some (.inl 0)]) (pc := 3) (tb_at tkX10_sumOfTold 3 rfl) rfl (by decide) rfl ?_
  exact h
set_option maxRecDepth 100000 in
set_option maxHeartbeats 4000000 in
theorem gX10_sumOfTold_4 {G : GE} {d : Nat} {K : Int → Mem → Prop} {M : Mem} {v1 v3 : Int}  (h : (((M 1 8) ≤ v3 → K v1 M) ∧ (v3 < (M 1 8) → (0 ≤ v3 ∧ v3 < 7) ∧ OkL G miX10_sumOfTold d K 4 [some (.inr (.inr (some 0))), some (.inr (.inl (w64 (v1 + (M 65 (v3).toNat))))), none, some (.inl (w32 (v3 + 1)))] [] M))) : OkL G miX10_sumOfTold d K 4 [some (.inr (.inr (some 0))), some (.inr (.inl v1)), none, some (.inl v3)] [] M := by
  refine r_iload_n (pc := 4) (tb_at tkX10_sumOfTold 4 rfl) rfl rfl ?_
  refine r_aload_n (pc := 5) (tb_at tkX10_sumOfTold 5 rfl) rfl rfl ?_
  refine r_get 9 0 (pc := 6) (tb_at tkX10_sumOfTold 6 rfl) ly_0 flX10_14 rfl ?_
  refine r_get 5 8 (pc := 9) (tb_at tkX10_sumOfTold 7 rfl) ly_1 flX10_105 rfl ?_
  refine q_icmp_ge (tgt := 30) (pc := 12) (tb_at tkX10_sumOfTold 8 rfl) (by decide) (fun c => ?_) (fun c => ?_)
  · replace h := h.1 c
    refine r_lload_n (pc := 30) (tb_at tkX10_sumOfTold 18 rfl) rfl rfl ?_
    exact r_lret (pc := 31) (tb_at tkX10_sumOfTold 19 rfl) rfl (Nat.le_refl _) (Nat.le_refl _) ⟨_, rfl, rfl, h⟩
  · replace h := h.2 c
    refine r_lload_n (pc := 15) (tb_at tkX10_sumOfTold 9 rfl) rfl rfl ?_
    refine r_aload_n (pc := 16) (tb_at tkX10_sumOfTold 10 rfl) rfl rfl ?_
    refine r_get 9 10 (pc := 17) (tb_at tkX10_sumOfTold 11 rfl) ly_0 flX10_83 rfl ?_
    refine r_iload_n (pc := 20) (tb_at tkX10_sumOfTold 12 rfl) rfl rfl ?_
    refine r_lald (pc := 21) (tb_at tkX10_sumOfTold 13 rfl) ly_65 h.1.1 h.1.2 ?_
    replace h := h.2
    refine r_ladd (pc := 22) (tb_at tkX10_sumOfTold 14 rfl) ?_
    refine r_lstore_n (L' := [some (.inr (.inr (some 0))), some (.inr (.inl (w64 (v1 + (M 65 (v3).toNat))))), none, some (.inl v3)]) (pc := 23) (tb_at tkX10_sumOfTold 15 rfl) rfl (by decide) rfl ?_
    refine r_iinc (L' := [some (.inr (.inr (some 0))), some (.inr (.inl (w64 (v1 + (M 65 (v3).toNat))))), none, some (.inl (w32 (v3 + 1)))]) (pc := 24) (tb_at tkX10_sumOfTold 16 rfl) rfl (by decide) rfl ?_
    refine r_goto (tgt := 4) (pc := 27) (tb_at tkX10_sumOfTold 17 rfl) (by decide) ?_
    exact h
set_option maxRecDepth 100000 in
set_option maxHeartbeats 4000000 in
theorem gX10_firstWrong_0 {G : GE} {d : Nat} {K : Int → Mem → Prop} {M : Mem} {v1 : Int}  (h : OkI G miX10_firstWrong (d + 1) K 4 [some (.inr (.inr (some 0))), some (.inl v1), some (.inl 0), some (.inl 0), none, none] [] M) : OkI G miX10_firstWrong (d + 1) K 0 [some (.inr (.inr (some 0))), some (.inl v1), none, none, none, none] [] M := by
  refine r_iconst (pc := 0) (tb_at tkX10_firstWrong 0 rfl) ⟨by decide, by decide⟩ ?_
  refine r_istore_n (L' := [some (.inr (.inr (some 0))), some (.inl v1), some (.inl 0), none, none, none]) (pc := 1) (tb_at tkX10_firstWrong 1 rfl) rfl (by decide) rfl ?_
  refine r_iconst (pc := 2) (tb_at tkX10_firstWrong 2 rfl) ⟨by decide, by decide⟩ ?_
  refine r_istore_n (L' := [some (.inr (.inr (some 0))), some (.inl v1), some (.inl 0), some (.inl 0), none, none]) (pc := 3) (tb_at tkX10_firstWrong 3 rfl) rfl (by decide) rfl ?_
  exact h
set_option maxRecDepth 100000 in
set_option maxHeartbeats 4000000 in
theorem gX10_firstWrong_4 {G : GE} {d : Nat} {K : Int → Mem → Prop} {M : Mem} {v1 v2 v3 : Int}  (h : (0 ≤ v1 ∧ v1 < 4) ∧ (((M 63 (v1).toNat) ≤ v3 → K (-1) M) ∧ (v3 < (M 63 (v1).toNat) → CalL G miX7_read d [.inr (.inr (some 61)), .inl v1, .inl v3] M (fun x2 M1 => CalI G miX1_isHad d [.inr (.inr (some 28)), .inr (.inl x2)] M1 (fun x4 M3 => ((x4 = 0 → K v3 M3) ∧ (¬ x4 = 0 → (((iand (w32 x2) v2) = 0 → OkI G miX10_firstWrong (d + 1) K 4 [some (.inr (.inr (some 0))), some (.inl v1), some (.inl (ior v2 (w32 x2))), some (.inl (w32 (v3 + 1))), none, none] [] M3) ∧ (¬ (iand (w32 x2) v2) = 0 → K v3 M3))))))))) : OkI G miX10_firstWrong (d + 1) K 4 [some (.inr (.inr (some 0))), some (.inl v1), some (.inl v2), some (.inl v3), none, none] [] M := by
  refine r_iload_n (pc := 4) (tb_at tkX10_firstWrong 4 rfl) rfl rfl ?_
  refine r_aload_n (pc := 5) (tb_at tkX10_firstWrong 5 rfl) rfl rfl ?_
  refine r_get 9 9 (pc := 6) (tb_at tkX10_firstWrong 6 rfl) ly_0 flX10_79 rfl ?_
  refine r_get 6 1 (pc := 9) (tb_at tkX10_firstWrong 7 rfl) ly_61 flX10_350 rfl ?_
  refine r_iload_n (pc := 12) (tb_at tkX10_firstWrong 8 rfl) rfl rfl ?_
  refine r_iald (pc := 13) (tb_at tkX10_firstWrong 9 rfl) ly_63 h.1.1 h.1.2 ?_
  replace h := h.2
  refine q_icmp_ge (tgt := 62) (pc := 14) (tb_at tkX10_firstWrong 10 rfl) (by decide) (fun c => ?_) (fun c => ?_)
  · replace h := h.1 c
    refine r_iconst (pc := 62) (tb_at tkX10_firstWrong 36 rfl) ⟨by decide, by decide⟩ ?_
    exact r_iret (pc := 63) (tb_at tkX10_firstWrong 37 rfl) rfl (Nat.le_refl _) (Nat.le_refl _) ⟨_, rfl, rfl, h⟩
  · replace h := h.2 c
    refine r_aload_n (pc := 17) (tb_at tkX10_firstWrong 11 rfl) rfl rfl ?_
    refine r_get 9 9 (pc := 18) (tb_at tkX10_firstWrong 12 rfl) ly_0 flX10_79 rfl ?_
    refine r_iload_n (pc := 21) (tb_at tkX10_firstWrong 13 rfl) rfl rfl ?_
    refine r_iload_n (pc := 22) (tb_at tkX10_firstWrong 14 rfl) rfl rfl ?_
    refine r_invV (mc' := 0) (ms' := 0) [.inl v1, .inl v3] (S := []) (pc := 23) (tb_at tkX10_firstWrong 15 rfl) rfl ly_61 rfl rfl clX10_405 (Nat.le_of_ble_eq_true rfl) (Nat.le_refl _) (Nat.le_refl _) ?_
    refine Cal.mono h ?_
    rintro _ _ M1 ⟨x2, rfl, rfl, h⟩
    show OkI G miX10_firstWrong (d + 1) K 26 [some (.inr (.inr (some 0))), some (.inl v1), some (.inl v2), some (.inl v3), none, none] [.inr (.inl x2)] M1
    refine r_lstore (L' := [some (.inr (.inr (some 0))), some (.inl v1), some (.inl v2), some (.inl v3), some (.inr (.inl x2)), none]) (pc := 26) (tb_at tkX10_firstWrong 16 rfl) (by decide) rfl ?_
    refine r_aload_n (pc := 28) (tb_at tkX10_firstWrong 17 rfl) rfl rfl ?_
    refine r_get 9 3 (pc := 29) (tb_at tkX10_firstWrong 18 rfl) ly_0 flX10_35 rfl ?_
    refine r_lload (pc := 32) (tb_at tkX10_firstWrong 19 rfl) rfl ?_
    refine r_invV (mc' := 0) (ms' := 0) [.inr (.inl x2)] (S := []) (pc := 34) (tb_at tkX10_firstWrong 20 rfl) rfl ly_28 rfl rfl clX10_430 (Nat.le_of_ble_eq_true rfl) (Nat.le_refl _) (Nat.le_refl _) ?_
    refine Cal.mono h ?_
    rintro _ _ M3 ⟨x4, rfl, rfl, h⟩
    show OkI G miX10_firstWrong (d + 1) K 37 [some (.inr (.inr (some 0))), some (.inl v1), some (.inl v2), some (.inl v3), some (.inr (.inl x2)), none] [.inl x4] M3
    refine q_if_eq (tgt := 48) (pc := 37) (tb_at tkX10_firstWrong 21 rfl) (by decide) (fun c => ?_) (fun c => ?_)
    · replace h := h.1 c
      refine r_iload_n (pc := 48) (tb_at tkX10_firstWrong 27 rfl) rfl rfl ?_
      exact r_iret (pc := 49) (tb_at tkX10_firstWrong 28 rfl) rfl (Nat.le_refl _) (Nat.le_refl _) ⟨_, rfl, rfl, h⟩
    · replace h := h.2 c
      refine r_lload (pc := 40) (tb_at tkX10_firstWrong 22 rfl) rfl ?_
      refine r_l2i (pc := 42) (tb_at tkX10_firstWrong 23 rfl) ?_
      refine r_iload_n (pc := 43) (tb_at tkX10_firstWrong 24 rfl) rfl rfl ?_
      refine r_iand (pc := 44) (tb_at tkX10_firstWrong 25 rfl) ?_
      refine q_if_eq (tgt := 50) (pc := 45) (tb_at tkX10_firstWrong 26 rfl) (by decide) (fun c => ?_) (fun c => ?_)
      · replace h := h.1 c
        refine r_iload_n (pc := 50) (tb_at tkX10_firstWrong 29 rfl) rfl rfl ?_
        refine r_lload (pc := 51) (tb_at tkX10_firstWrong 30 rfl) rfl ?_
        refine r_l2i (pc := 53) (tb_at tkX10_firstWrong 31 rfl) ?_
        refine r_ior (pc := 54) (tb_at tkX10_firstWrong 32 rfl) ?_
        refine r_istore_n (L' := [some (.inr (.inr (some 0))), some (.inl v1), some (.inl (ior v2 (w32 x2))), some (.inl v3), some (.inr (.inl x2)), none]) (pc := 55) (tb_at tkX10_firstWrong 33 rfl) rfl (by decide) rfl ?_
        refine r_iinc (L' := [some (.inr (.inr (some 0))), some (.inl v1), some (.inl (ior v2 (w32 x2))), some (.inl (w32 (v3 + 1))), some (.inr (.inl x2)), none]) (pc := 56) (tb_at tkX10_firstWrong 34 rfl) rfl (by decide) rfl ?_
        refine r_goto (tgt := 4) (pc := 59) (tb_at tkX10_firstWrong 35 rfl) (by decide) ?_
        exact Ok.forget h (And.intro rfl (And.intro rfl (And.intro rfl (And.intro rfl trivial))))
      · replace h := h.2 c
        refine r_iload_n (pc := 48) (tb_at tkX10_firstWrong 27 rfl) rfl rfl ?_
        exact r_iret (pc := 49) (tb_at tkX10_firstWrong 28 rfl) rfl (Nat.le_refl _) (Nat.le_refl _) ⟨_, rfl, rfl, h⟩
set_option maxRecDepth 100000 in
set_option maxHeartbeats 4000000 in
theorem gX10_hasAllFlights_0 {G : GE} {d : Nat} {K : Int → Mem → Prop} {M : Mem} {v1 : Int}  (h : OkI G miX10_hasAllFlights (d + 1) K 4 [some (.inr (.inr (some 0))), some (.inl v1), some (.inl 0), some (.inl 0)] [] M) : OkI G miX10_hasAllFlights (d + 1) K 0 [some (.inr (.inr (some 0))), some (.inl v1), none, none] [] M := by
  refine r_iconst (pc := 0) (tb_at tkX10_hasAllFlights 0 rfl) ⟨by decide, by decide⟩ ?_
  refine r_istore_n (L' := [some (.inr (.inr (some 0))), some (.inl v1), some (.inl 0), none]) (pc := 1) (tb_at tkX10_hasAllFlights 1 rfl) rfl (by decide) rfl ?_
  refine r_iconst (pc := 2) (tb_at tkX10_hasAllFlights 2 rfl) ⟨by decide, by decide⟩ ?_
  refine r_istore_n (L' := [some (.inr (.inr (some 0))), some (.inl v1), some (.inl 0), some (.inl 0)]) (pc := 3) (tb_at tkX10_hasAllFlights 3 rfl) rfl (by decide) rfl ?_
  exact h
set_option maxRecDepth 100000 in
set_option maxHeartbeats 4000000 in
theorem gX10_hasAllFlights_4 {G : GE} {d : Nat} {K : Int → Mem → Prop} {M : Mem} {v1 v2 v3 : Int}  (h : (0 ≤ v1 ∧ v1 < 4) ∧ (((M 63 (v1).toNat) ≤ v3 → CalI G miX5_allFlights d [.inr (.inr (some 1))] M (fun x2 M1 => ((¬ v2 = x2 → K 0 M1) ∧ (v2 = x2 → K 1 M1)))) ∧ (v3 < (M 63 (v1).toNat) → CalL G miX7_read d [.inr (.inr (some 61)), .inl v1, .inl v3] M (fun x4 M3 => OkI G miX10_hasAllFlights (d + 1) K 4 [some (.inr (.inr (some 0))), some (.inl v1), some (.inl (ior v2 (w32 x4))), some (.inl (w32 (v3 + 1)))] [] M3)))) : OkI G miX10_hasAllFlights (d + 1) K 4 [some (.inr (.inr (some 0))), some (.inl v1), some (.inl v2), some (.inl v3)] [] M := by
  refine r_iload_n (pc := 4) (tb_at tkX10_hasAllFlights 4 rfl) rfl rfl ?_
  refine r_aload_n (pc := 5) (tb_at tkX10_hasAllFlights 5 rfl) rfl rfl ?_
  refine r_get 9 9 (pc := 6) (tb_at tkX10_hasAllFlights 6 rfl) ly_0 flX10_79 rfl ?_
  refine r_get 6 1 (pc := 9) (tb_at tkX10_hasAllFlights 7 rfl) ly_61 flX10_350 rfl ?_
  refine r_iload_n (pc := 12) (tb_at tkX10_hasAllFlights 8 rfl) rfl rfl ?_
  refine r_iald (pc := 13) (tb_at tkX10_hasAllFlights 9 rfl) ly_63 h.1.1 h.1.2 ?_
  replace h := h.2
  refine q_icmp_ge (tgt := 36) (pc := 14) (tb_at tkX10_hasAllFlights 10 rfl) (by decide) (fun c => ?_) (fun c => ?_)
  · replace h := h.1 c
    refine r_iload_n (pc := 36) (tb_at tkX10_hasAllFlights 22 rfl) rfl rfl ?_
    refine r_aload_n (pc := 37) (tb_at tkX10_hasAllFlights 23 rfl) rfl rfl ?_
    refine r_get 9 0 (pc := 38) (tb_at tkX10_hasAllFlights 24 rfl) ly_0 flX10_14 rfl ?_
    refine r_invV (mc' := 0) (ms' := 0) [] (S := [.inl v2]) (pc := 41) (tb_at tkX10_hasAllFlights 25 rfl) rfl ly_1 rfl rfl clX10_368 (Nat.le_of_ble_eq_true rfl) (Nat.le_refl _) (Nat.le_refl _) ?_
    refine Cal.mono h ?_
    rintro _ _ M1 ⟨x2, rfl, rfl, h⟩
    show OkI G miX10_hasAllFlights (d + 1) K 44 [some (.inr (.inr (some 0))), some (.inl v1), some (.inl v2), some (.inl v3)] [.inl x2, .inl v2] M1
    refine q_icmp_ne (tgt := 51) (pc := 44) (tb_at tkX10_hasAllFlights 26 rfl) (by decide) (fun c => ?_) (fun c => ?_)
    · replace h := h.1 c
      refine r_iconst (pc := 51) (tb_at tkX10_hasAllFlights 29 rfl) ⟨by decide, by decide⟩ ?_
      exact r_zret (pc := 52) (tb_at tkX10_hasAllFlights 30 rfl) rfl (by decide) (Nat.le_refl _) (Nat.le_refl _) ⟨_, rfl, rfl, h⟩
    · replace h := h.2 c
      refine r_iconst (pc := 47) (tb_at tkX10_hasAllFlights 27 rfl) ⟨by decide, by decide⟩ ?_
      refine r_goto (tgt := 52) (pc := 48) (tb_at tkX10_hasAllFlights 28 rfl) (by decide) ?_
      exact r_zret (pc := 52) (tb_at tkX10_hasAllFlights 30 rfl) rfl (by decide) (Nat.le_refl _) (Nat.le_refl _) ⟨_, rfl, rfl, h⟩
  · replace h := h.2 c
    refine r_iload_n (pc := 17) (tb_at tkX10_hasAllFlights 11 rfl) rfl rfl ?_
    refine r_aload_n (pc := 18) (tb_at tkX10_hasAllFlights 12 rfl) rfl rfl ?_
    refine r_get 9 9 (pc := 19) (tb_at tkX10_hasAllFlights 13 rfl) ly_0 flX10_79 rfl ?_
    refine r_iload_n (pc := 22) (tb_at tkX10_hasAllFlights 14 rfl) rfl rfl ?_
    refine r_iload_n (pc := 23) (tb_at tkX10_hasAllFlights 15 rfl) rfl rfl ?_
    refine r_invV (mc' := 0) (ms' := 0) [.inl v1, .inl v3] (S := [.inl v2]) (pc := 24) (tb_at tkX10_hasAllFlights 16 rfl) rfl ly_61 rfl rfl clX10_405 (Nat.le_of_ble_eq_true rfl) (Nat.le_refl _) (Nat.le_refl _) ?_
    refine Cal.mono h ?_
    rintro _ _ M3 ⟨x4, rfl, rfl, h⟩
    show OkI G miX10_hasAllFlights (d + 1) K 27 [some (.inr (.inr (some 0))), some (.inl v1), some (.inl v2), some (.inl v3)] [.inr (.inl x4), .inl v2] M3
    refine r_l2i (pc := 27) (tb_at tkX10_hasAllFlights 17 rfl) ?_
    refine r_ior (pc := 28) (tb_at tkX10_hasAllFlights 18 rfl) ?_
    refine r_istore_n (L' := [some (.inr (.inr (some 0))), some (.inl v1), some (.inl (ior v2 (w32 x4))), some (.inl v3)]) (pc := 29) (tb_at tkX10_hasAllFlights 19 rfl) rfl (by decide) rfl ?_
    refine r_iinc (L' := [some (.inr (.inr (some 0))), some (.inl v1), some (.inl (ior v2 (w32 x4))), some (.inl (w32 (v3 + 1)))]) (pc := 30) (tb_at tkX10_hasAllFlights 20 rfl) rfl (by decide) rfl ?_
    refine r_goto (tgt := 4) (pc := 33) (tb_at tkX10_hasAllFlights 21 rfl) (by decide) ?_
    exact h
set_option maxRecDepth 100000 in
set_option maxHeartbeats 4000000 in
theorem gX10_totalOf_0 {G : GE} {d : Nat} {K : Int → Mem → Prop} {M : Mem} {v1 : Int}  (h : OkI G miX10_totalOf (d + 1) K 4 [some (.inr (.inr (some 0))), some (.inl v1), some (.inl 0), some (.inl 0)] [] M) : OkI G miX10_totalOf (d + 1) K 0 [some (.inr (.inr (some 0))), some (.inl v1), none, none] [] M := by
  refine r_iconst (pc := 0) (tb_at tkX10_totalOf 0 rfl) ⟨by decide, by decide⟩ ?_
  refine r_istore_n (L' := [some (.inr (.inr (some 0))), some (.inl v1), some (.inl 0), none]) (pc := 1) (tb_at tkX10_totalOf 1 rfl) rfl (by decide) rfl ?_
  refine r_iconst (pc := 2) (tb_at tkX10_totalOf 2 rfl) ⟨by decide, by decide⟩ ?_
  refine r_istore_n (L' := [some (.inr (.inr (some 0))), some (.inl v1), some (.inl 0), some (.inl 0)]) (pc := 3) (tb_at tkX10_totalOf 3 rfl) rfl (by decide) rfl ?_
  exact h
set_option maxRecDepth 100000 in
set_option maxHeartbeats 4000000 in
theorem gX10_totalOf_4 {G : GE} {d : Nat} {K : Int → Mem → Prop} {M : Mem} {v1 v2 v3 : Int}  (h : (0 ≤ v1 ∧ v1 < 4) ∧ (((M 63 (v1).toNat) ≤ v3 → K v2 M) ∧ (v3 < (M 63 (v1).toNat) → CalL G miX7_read d [.inr (.inr (some 61)), .inl v1, .inl v3] M (fun x2 M1 => CalI G miX1_costOf d [.inr (.inr (some 28)), .inr (.inl x2)] M1 (fun x4 M3 => OkI G miX10_totalOf (d + 1) K 4 [some (.inr (.inr (some 0))), some (.inl v1), some (.inl (w32 (v2 + x4))), some (.inl (w32 (v3 + 1)))] [] M3))))) : OkI G miX10_totalOf (d + 1) K 4 [some (.inr (.inr (some 0))), some (.inl v1), some (.inl v2), some (.inl v3)] [] M := by
  refine r_iload_n (pc := 4) (tb_at tkX10_totalOf 4 rfl) rfl rfl ?_
  refine r_aload_n (pc := 5) (tb_at tkX10_totalOf 5 rfl) rfl rfl ?_
  refine r_get 9 9 (pc := 6) (tb_at tkX10_totalOf 6 rfl) ly_0 flX10_79 rfl ?_
  refine r_get 6 1 (pc := 9) (tb_at tkX10_totalOf 7 rfl) ly_61 flX10_350 rfl ?_
  refine r_iload_n (pc := 12) (tb_at tkX10_totalOf 8 rfl) rfl rfl ?_
  refine r_iald (pc := 13) (tb_at tkX10_totalOf 9 rfl) ly_63 h.1.1 h.1.2 ?_
  replace h := h.2
  refine q_icmp_ge (tgt := 42) (pc := 14) (tb_at tkX10_totalOf 10 rfl) (by decide) (fun c => ?_) (fun c => ?_)
  · replace h := h.1 c
    refine r_iload_n (pc := 42) (tb_at tkX10_totalOf 24 rfl) rfl rfl ?_
    exact r_iret (pc := 43) (tb_at tkX10_totalOf 25 rfl) rfl (Nat.le_refl _) (Nat.le_refl _) ⟨_, rfl, rfl, h⟩
  · replace h := h.2 c
    refine r_iload_n (pc := 17) (tb_at tkX10_totalOf 11 rfl) rfl rfl ?_
    refine r_aload_n (pc := 18) (tb_at tkX10_totalOf 12 rfl) rfl rfl ?_
    refine r_get 9 3 (pc := 19) (tb_at tkX10_totalOf 13 rfl) ly_0 flX10_35 rfl ?_
    refine r_aload_n (pc := 22) (tb_at tkX10_totalOf 14 rfl) rfl rfl ?_
    refine r_get 9 9 (pc := 23) (tb_at tkX10_totalOf 15 rfl) ly_0 flX10_79 rfl ?_
    refine r_iload_n (pc := 26) (tb_at tkX10_totalOf 16 rfl) rfl rfl ?_
    refine r_iload_n (pc := 27) (tb_at tkX10_totalOf 17 rfl) rfl rfl ?_
    refine r_invV (mc' := 0) (ms' := 0) [.inl v1, .inl v3] (S := [.inr (.inr (some 28)), .inl v2]) (pc := 28) (tb_at tkX10_totalOf 18 rfl) rfl ly_61 rfl rfl clX10_405 (Nat.le_of_ble_eq_true rfl) (Nat.le_refl _) (Nat.le_refl _) ?_
    refine Cal.mono h ?_
    rintro _ _ M1 ⟨x2, rfl, rfl, h⟩
    show OkI G miX10_totalOf (d + 1) K 31 [some (.inr (.inr (some 0))), some (.inl v1), some (.inl v2), some (.inl v3)] [.inr (.inl x2), .inr (.inr (some 28)), .inl v2] M1
    refine r_invV (mc' := 0) (ms' := 0) [.inr (.inl x2)] (S := [.inl v2]) (pc := 31) (tb_at tkX10_totalOf 19 rfl) rfl ly_28 rfl rfl clX10_434 (Nat.le_of_ble_eq_true rfl) (Nat.le_refl _) (Nat.le_refl _) ?_
    refine Cal.mono h ?_
    rintro _ _ M3 ⟨x4, rfl, rfl, h⟩
    show OkI G miX10_totalOf (d + 1) K 34 [some (.inr (.inr (some 0))), some (.inl v1), some (.inl v2), some (.inl v3)] [.inl x4, .inl v2] M3
    refine r_iadd (pc := 34) (tb_at tkX10_totalOf 20 rfl) ?_
    refine r_istore_n (L' := [some (.inr (.inr (some 0))), some (.inl v1), some (.inl (w32 (v2 + x4))), some (.inl v3)]) (pc := 35) (tb_at tkX10_totalOf 21 rfl) rfl (by decide) rfl ?_
    refine r_iinc (L' := [some (.inr (.inr (some 0))), some (.inl v1), some (.inl (w32 (v2 + x4))), some (.inl (w32 (v3 + 1)))]) (pc := 36) (tb_at tkX10_totalOf 22 rfl) rfl (by decide) rfl ?_
    refine r_goto (tgt := 4) (pc := 39) (tb_at tkX10_totalOf 23 rfl) (by decide) ?_
    exact h
set_option maxRecDepth 100000 in
set_option maxHeartbeats 4000000 in
theorem gX10_alongOf_0 {G : GE} {d : Nat} {K : Int → Mem → Prop} {M : Mem} {v1 : Int}  (h : OkI G miX10_alongOf (d + 1) K 4 [some (.inr (.inr (some 0))), some (.inl v1), some (.inl 0), some (.inl 0)] [] M) : OkI G miX10_alongOf (d + 1) K 0 [some (.inr (.inr (some 0))), some (.inl v1), none, none] [] M := by
  refine r_iconst (pc := 0) (tb_at tkX10_alongOf 0 rfl) ⟨by decide, by decide⟩ ?_
  refine r_istore_n (L' := [some (.inr (.inr (some 0))), some (.inl v1), some (.inl 0), none]) (pc := 1) (tb_at tkX10_alongOf 1 rfl) rfl (by decide) rfl ?_
  refine r_iconst (pc := 2) (tb_at tkX10_alongOf 2 rfl) ⟨by decide, by decide⟩ ?_
  refine r_istore_n (L' := [some (.inr (.inr (some 0))), some (.inl v1), some (.inl 0), some (.inl 0)]) (pc := 3) (tb_at tkX10_alongOf 3 rfl) rfl (by decide) rfl ?_
  exact h
set_option maxRecDepth 100000 in
set_option maxHeartbeats 4000000 in
theorem gX10_alongOf_4 {G : GE} {d : Nat} {K : Int → Mem → Prop} {M : Mem} {v1 v2 v3 : Int}  (h : (0 ≤ v1 ∧ v1 < 4) ∧ (((M 63 (v1).toNat) ≤ v3 → K v2 M) ∧ (v3 < (M 63 (v1).toNat) → CalL G miX7_read d [.inr (.inr (some 61)), .inl v1, .inl v3] M (fun x2 M1 => CalI G miX1_alongWith d [.inr (.inr (some 28)), .inr (.inl x2)] M1 (fun x4 M3 => OkI G miX10_alongOf (d + 1) K 4 [some (.inr (.inr (some 0))), some (.inl v1), some (.inl (w32 (v2 + x4))), some (.inl (w32 (v3 + 1)))] [] M3))))) : OkI G miX10_alongOf (d + 1) K 4 [some (.inr (.inr (some 0))), some (.inl v1), some (.inl v2), some (.inl v3)] [] M := by
  refine r_iload_n (pc := 4) (tb_at tkX10_alongOf 4 rfl) rfl rfl ?_
  refine r_aload_n (pc := 5) (tb_at tkX10_alongOf 5 rfl) rfl rfl ?_
  refine r_get 9 9 (pc := 6) (tb_at tkX10_alongOf 6 rfl) ly_0 flX10_79 rfl ?_
  refine r_get 6 1 (pc := 9) (tb_at tkX10_alongOf 7 rfl) ly_61 flX10_350 rfl ?_
  refine r_iload_n (pc := 12) (tb_at tkX10_alongOf 8 rfl) rfl rfl ?_
  refine r_iald (pc := 13) (tb_at tkX10_alongOf 9 rfl) ly_63 h.1.1 h.1.2 ?_
  replace h := h.2
  refine q_icmp_ge (tgt := 42) (pc := 14) (tb_at tkX10_alongOf 10 rfl) (by decide) (fun c => ?_) (fun c => ?_)
  · replace h := h.1 c
    refine r_iload_n (pc := 42) (tb_at tkX10_alongOf 24 rfl) rfl rfl ?_
    exact r_iret (pc := 43) (tb_at tkX10_alongOf 25 rfl) rfl (Nat.le_refl _) (Nat.le_refl _) ⟨_, rfl, rfl, h⟩
  · replace h := h.2 c
    refine r_iload_n (pc := 17) (tb_at tkX10_alongOf 11 rfl) rfl rfl ?_
    refine r_aload_n (pc := 18) (tb_at tkX10_alongOf 12 rfl) rfl rfl ?_
    refine r_get 9 3 (pc := 19) (tb_at tkX10_alongOf 13 rfl) ly_0 flX10_35 rfl ?_
    refine r_aload_n (pc := 22) (tb_at tkX10_alongOf 14 rfl) rfl rfl ?_
    refine r_get 9 9 (pc := 23) (tb_at tkX10_alongOf 15 rfl) ly_0 flX10_79 rfl ?_
    refine r_iload_n (pc := 26) (tb_at tkX10_alongOf 16 rfl) rfl rfl ?_
    refine r_iload_n (pc := 27) (tb_at tkX10_alongOf 17 rfl) rfl rfl ?_
    refine r_invV (mc' := 0) (ms' := 0) [.inl v1, .inl v3] (S := [.inr (.inr (some 28)), .inl v2]) (pc := 28) (tb_at tkX10_alongOf 18 rfl) rfl ly_61 rfl rfl clX10_405 (Nat.le_of_ble_eq_true rfl) (Nat.le_refl _) (Nat.le_refl _) ?_
    refine Cal.mono h ?_
    rintro _ _ M1 ⟨x2, rfl, rfl, h⟩
    show OkI G miX10_alongOf (d + 1) K 31 [some (.inr (.inr (some 0))), some (.inl v1), some (.inl v2), some (.inl v3)] [.inr (.inl x2), .inr (.inr (some 28)), .inl v2] M1
    refine r_invV (mc' := 0) (ms' := 0) [.inr (.inl x2)] (S := [.inl v2]) (pc := 31) (tb_at tkX10_alongOf 19 rfl) rfl ly_28 rfl rfl clX10_438 (Nat.le_of_ble_eq_true rfl) (Nat.le_refl _) (Nat.le_refl _) ?_
    refine Cal.mono h ?_
    rintro _ _ M3 ⟨x4, rfl, rfl, h⟩
    show OkI G miX10_alongOf (d + 1) K 34 [some (.inr (.inr (some 0))), some (.inl v1), some (.inl v2), some (.inl v3)] [.inl x4, .inl v2] M3
    refine r_iadd (pc := 34) (tb_at tkX10_alongOf 20 rfl) ?_
    refine r_istore_n (L' := [some (.inr (.inr (some 0))), some (.inl v1), some (.inl (w32 (v2 + x4))), some (.inl v3)]) (pc := 35) (tb_at tkX10_alongOf 21 rfl) rfl (by decide) rfl ?_
    refine r_iinc (L' := [some (.inr (.inr (some 0))), some (.inl v1), some (.inl (w32 (v2 + x4))), some (.inl (w32 (v3 + 1)))]) (pc := 36) (tb_at tkX10_alongOf 22 rfl) rfl (by decide) rfl ?_
    refine r_goto (tgt := 4) (pc := 39) (tb_at tkX10_alongOf 23 rfl) (by decide) ?_
    exact h
set_option maxRecDepth 100000 in
set_option maxHeartbeats 4000000 in
theorem gX10_loadOne_0 {G : GE} {d : Nat} {K : Int → Mem → Prop} {M : Mem} {v1 v2 : Int}  (h : CalL G miX7_read d [.inr (.inr (some 61)), .inl v1, .inl v2] M (fun x2 M1 => CalL G miX7_read d [.inr (.inr (some 61)), .inl v1, .inl (w32 (v2 + 1))] M1 (fun x4 M3 => CalL G miX7_read d [.inr (.inr (some 61)), .inl v1, .inl (w32 (v2 + 2))] M3 (fun x6 M5 => CalL G miX7_read d [.inr (.inr (some 61)), .inl v1, .inl (w32 (v2 + 3))] M5 (fun x8 M7 => CalI G miX10_fly d [.inr (.inr (some 0)), .inl (w32 x2), .inl (w32 x4), .inl (w32 x6), .inl (w32 x8)] M7 (fun x10 M9 => K x10 M9)))))) : OkI G miX10_loadOne (d + 1) K 0 [some (.inr (.inr (some 0))), some (.inl v1), some (.inl v2)] [] M := by
  refine r_aload_n (pc := 0) (tb_at tkX10_loadOne 0 rfl) rfl rfl ?_
  refine r_aload_n (pc := 1) (tb_at tkX10_loadOne 1 rfl) rfl rfl ?_
  refine r_get 9 9 (pc := 2) (tb_at tkX10_loadOne 2 rfl) ly_0 flX10_79 rfl ?_
  refine r_iload_n (pc := 5) (tb_at tkX10_loadOne 3 rfl) rfl rfl ?_
  refine r_iload_n (pc := 6) (tb_at tkX10_loadOne 4 rfl) rfl rfl ?_
  refine r_invV (mc' := 0) (ms' := 0) [.inl v1, .inl v2] (S := [.inr (.inr (some 0))]) (pc := 7) (tb_at tkX10_loadOne 5 rfl) rfl ly_61 rfl rfl clX10_405 (Nat.le_of_ble_eq_true rfl) (Nat.le_refl _) (Nat.le_refl _) ?_
  refine Cal.mono h ?_
  rintro _ _ M1 ⟨x2, rfl, rfl, h⟩
  show OkI G miX10_loadOne (d + 1) K 10 [some (.inr (.inr (some 0))), some (.inl v1), some (.inl v2)] [.inr (.inl x2), .inr (.inr (some 0))] M1
  refine r_l2i (pc := 10) (tb_at tkX10_loadOne 6 rfl) ?_
  refine r_aload_n (pc := 11) (tb_at tkX10_loadOne 7 rfl) rfl rfl ?_
  refine r_get 9 9 (pc := 12) (tb_at tkX10_loadOne 8 rfl) ly_0 flX10_79 rfl ?_
  refine r_iload_n (pc := 15) (tb_at tkX10_loadOne 9 rfl) rfl rfl ?_
  refine r_iload_n (pc := 16) (tb_at tkX10_loadOne 10 rfl) rfl rfl ?_
  refine r_iconst (pc := 17) (tb_at tkX10_loadOne 11 rfl) ⟨by decide, by decide⟩ ?_
  refine r_iadd (pc := 18) (tb_at tkX10_loadOne 12 rfl) ?_
  refine r_invV (mc' := 0) (ms' := 0) [.inl v1, .inl (w32 (v2 + 1))] (S := [.inl (w32 x2), .inr (.inr (some 0))]) (pc := 19) (tb_at tkX10_loadOne 13 rfl) rfl ly_61 rfl rfl clX10_405 (Nat.le_of_ble_eq_true rfl) (Nat.le_refl _) (Nat.le_refl _) ?_
  refine Cal.mono h ?_
  rintro _ _ M3 ⟨x4, rfl, rfl, h⟩
  show OkI G miX10_loadOne (d + 1) K 22 [some (.inr (.inr (some 0))), some (.inl v1), some (.inl v2)] [.inr (.inl x4), .inl (w32 x2), .inr (.inr (some 0))] M3
  refine r_l2i (pc := 22) (tb_at tkX10_loadOne 14 rfl) ?_
  refine r_aload_n (pc := 23) (tb_at tkX10_loadOne 15 rfl) rfl rfl ?_
  refine r_get 9 9 (pc := 24) (tb_at tkX10_loadOne 16 rfl) ly_0 flX10_79 rfl ?_
  refine r_iload_n (pc := 27) (tb_at tkX10_loadOne 17 rfl) rfl rfl ?_
  refine r_iload_n (pc := 28) (tb_at tkX10_loadOne 18 rfl) rfl rfl ?_
  refine r_iconst (pc := 29) (tb_at tkX10_loadOne 19 rfl) ⟨by decide, by decide⟩ ?_
  refine r_iadd (pc := 30) (tb_at tkX10_loadOne 20 rfl) ?_
  refine r_invV (mc' := 0) (ms' := 0) [.inl v1, .inl (w32 (v2 + 2))] (S := [.inl (w32 x4), .inl (w32 x2), .inr (.inr (some 0))]) (pc := 31) (tb_at tkX10_loadOne 21 rfl) rfl ly_61 rfl rfl clX10_405 (Nat.le_of_ble_eq_true rfl) (Nat.le_refl _) (Nat.le_refl _) ?_
  refine Cal.mono h ?_
  rintro _ _ M5 ⟨x6, rfl, rfl, h⟩
  show OkI G miX10_loadOne (d + 1) K 34 [some (.inr (.inr (some 0))), some (.inl v1), some (.inl v2)] [.inr (.inl x6), .inl (w32 x4), .inl (w32 x2), .inr (.inr (some 0))] M5
  refine r_l2i (pc := 34) (tb_at tkX10_loadOne 22 rfl) ?_
  refine r_aload_n (pc := 35) (tb_at tkX10_loadOne 23 rfl) rfl rfl ?_
  refine r_get 9 9 (pc := 36) (tb_at tkX10_loadOne 24 rfl) ly_0 flX10_79 rfl ?_
  refine r_iload_n (pc := 39) (tb_at tkX10_loadOne 25 rfl) rfl rfl ?_
  refine r_iload_n (pc := 40) (tb_at tkX10_loadOne 26 rfl) rfl rfl ?_
  refine r_iconst (pc := 41) (tb_at tkX10_loadOne 27 rfl) ⟨by decide, by decide⟩ ?_
  refine r_iadd (pc := 42) (tb_at tkX10_loadOne 28 rfl) ?_
  refine r_invV (mc' := 0) (ms' := 0) [.inl v1, .inl (w32 (v2 + 3))] (S := [.inl (w32 x6), .inl (w32 x4), .inl (w32 x2), .inr (.inr (some 0))]) (pc := 43) (tb_at tkX10_loadOne 29 rfl) rfl ly_61 rfl rfl clX10_405 (Nat.le_of_ble_eq_true rfl) (Nat.le_refl _) (Nat.le_refl _) ?_
  refine Cal.mono h ?_
  rintro _ _ M7 ⟨x8, rfl, rfl, h⟩
  show OkI G miX10_loadOne (d + 1) K 46 [some (.inr (.inr (some 0))), some (.inl v1), some (.inl v2)] [.inr (.inl x8), .inl (w32 x6), .inl (w32 x4), .inl (w32 x2), .inr (.inr (some 0))] M7
  refine r_l2i (pc := 46) (tb_at tkX10_loadOne 30 rfl) ?_
  refine r_invV (mc' := 0) (ms' := 0) [.inl (w32 x2), .inl (w32 x4), .inl (w32 x6), .inl (w32 x8)] (S := []) (pc := 47) (tb_at tkX10_loadOne 31 rfl) rfl ly_0 rfl rfl clX10_441 (Nat.le_of_ble_eq_true rfl) (Nat.le_refl _) (Nat.le_refl _) ?_
  refine Cal.mono h ?_
  rintro _ _ M9 ⟨x10, rfl, rfl, h⟩
  show OkI G miX10_loadOne (d + 1) K 50 [some (.inr (.inr (some 0))), some (.inl v1), some (.inl v2)] [.inl x10] M9
  exact r_iret (pc := 50) (tb_at tkX10_loadOne 32 rfl) rfl (Nat.le_refl _) (Nat.le_refl _) ⟨_, rfl, rfl, h⟩
set_option maxRecDepth 100000 in
set_option maxHeartbeats 4000000 in
theorem gX10_doClauses_0 {G : GE} {d : Nat} {K : Int → Mem → Prop} {M : Mem}  (h : OkI G miX10_doClauses (d + 1) K 6 [some (.inr (.inr (some 0))), some (.inl 0), some (.inl 0), some (.inl 0)] [] M) : OkI G miX10_doClauses (d + 1) K 0 [some (.inr (.inr (some 0))), none, none, none] [] M := by
  refine r_iconst (pc := 0) (tb_at tkX10_doClauses 0 rfl) ⟨by decide, by decide⟩ ?_
  refine r_istore_n (L' := [some (.inr (.inr (some 0))), some (.inl 0), none, none]) (pc := 1) (tb_at tkX10_doClauses 1 rfl) rfl (by decide) rfl ?_
  refine r_iconst (pc := 2) (tb_at tkX10_doClauses 2 rfl) ⟨by decide, by decide⟩ ?_
  refine r_istore_n (L' := [some (.inr (.inr (some 0))), some (.inl 0), some (.inl 0), none]) (pc := 3) (tb_at tkX10_doClauses 3 rfl) rfl (by decide) rfl ?_
  refine r_iconst (pc := 4) (tb_at tkX10_doClauses 4 rfl) ⟨by decide, by decide⟩ ?_
  refine r_istore_n (L' := [some (.inr (.inr (some 0))), some (.inl 0), some (.inl 0), some (.inl 0)]) (pc := 5) (tb_at tkX10_doClauses 5 rfl) rfl (by decide) rfl ?_
  exact h
set_option maxRecDepth 100000 in
set_option maxHeartbeats 4000000 in
theorem gX10_doClauses_6 {G : GE} {d : Nat} {K : Int → Mem → Prop} {M : Mem} {v1 v2 v3 : Int}  (h : ((60 ≤ v3 → K v1 M) ∧ (v3 < 60 → (((M 58 3) ≤ v2 → K v1 M) ∧ (v2 < (M 58 3) → CalI G miX10_doClause d [.inr (.inr (some 0)), .inl v2] M (fun x2 M1 => ((x2 < 0 → OkI G miX10_doClauses (d + 1) K 34 [some (.inr (.inr (some 0))), some (.inl v1), some (.inl v2), some (.inl v3)] [] M1) ∧ (0 ≤ x2 → OkI G miX10_doClauses (d + 1) K 34 [some (.inr (.inr (some 0))), some (.inl (w32 (v1 + 1))), some (.inl v2), some (.inl v3)] [] M1)))))))) : OkI G miX10_doClauses (d + 1) K 6 [some (.inr (.inr (some 0))), some (.inl v1), some (.inl v2), some (.inl v3)] [] M := by
  refine r_iload_n (pc := 6) (tb_at tkX10_doClauses 6 rfl) rfl rfl ?_
  refine r_bipush (pc := 7) (tb_at tkX10_doClauses 7 rfl) ⟨by decide, by decide, by decide⟩ ?_
  refine q_icmp_ge (tgt := 56) (pc := 9) (tb_at tkX10_doClauses 8 rfl) (by decide) (fun c => ?_) (fun c => ?_)
  · replace h := h.1 c
    refine r_iload_n (pc := 56) (tb_at tkX10_doClauses 31 rfl) rfl rfl ?_
    exact r_iret (pc := 57) (tb_at tkX10_doClauses 32 rfl) rfl (Nat.le_refl _) (Nat.le_refl _) ⟨_, rfl, rfl, h⟩
  · replace h := h.2 c
    refine r_iload_n (pc := 12) (tb_at tkX10_doClauses 9 rfl) rfl rfl ?_
    refine r_aload_n (pc := 13) (tb_at tkX10_doClauses 10 rfl) rfl rfl ?_
    refine r_get 9 8 (pc := 14) (tb_at tkX10_doClauses 11 rfl) ly_0 flX10_72 rfl ?_
    refine r_get 8 3 (pc := 17) (tb_at tkX10_doClauses 12 rfl) ly_58 flX10_444 rfl ?_
    refine q_icmp_ge (tgt := 56) (pc := 20) (tb_at tkX10_doClauses 13 rfl) (by decide) (fun c => ?_) (fun c => ?_)
    · replace h := h.1 c
      refine r_iload_n (pc := 56) (tb_at tkX10_doClauses 31 rfl) rfl rfl ?_
      exact r_iret (pc := 57) (tb_at tkX10_doClauses 32 rfl) rfl (Nat.le_refl _) (Nat.le_refl _) ⟨_, rfl, rfl, h⟩
    · replace h := h.2 c
      refine r_aload_n (pc := 23) (tb_at tkX10_doClauses 14 rfl) rfl rfl ?_
      refine r_iload_n (pc := 24) (tb_at tkX10_doClauses 15 rfl) rfl rfl ?_
      refine r_invV (mc' := 0) (ms' := 0) [.inl v2] (S := []) (pc := 25) (tb_at tkX10_doClauses 16 rfl) rfl ly_0 rfl rfl clX10_447 (Nat.le_of_ble_eq_true rfl) (Nat.le_refl _) (Nat.le_refl _) ?_
      refine Cal.mono h ?_
      rintro _ _ M1 ⟨x2, rfl, rfl, h⟩
      show OkI G miX10_doClauses (d + 1) K 28 [some (.inr (.inr (some 0))), some (.inl v1), some (.inl v2), some (.inl v3)] [.inl x2] M1
      refine q_if_lt (tgt := 34) (pc := 28) (tb_at tkX10_doClauses 17 rfl) (by decide) (fun c => ?_) (fun c => ?_)
      · replace h := h.1 c
        exact h
      · replace h := h.2 c
        refine r_iinc (L' := [some (.inr (.inr (some 0))), some (.inl (w32 (v1 + 1))), some (.inl v2), some (.inl v3)]) (pc := 31) (tb_at tkX10_doClauses 18 rfl) rfl (by decide) rfl ?_
        exact h
set_option maxRecDepth 100000 in
set_option maxHeartbeats 4000000 in
theorem gX10_doClauses_34 {G : GE} {d : Nat} {K : Int → Mem → Prop} {M : Mem} {v1 v2 v3 : Int}  (h : CalI G miX9_token d [.inr (.inr (some 58)), .inl v2] M (fun x2 M1 => CalI G miX9_numbersOf d [.inl x2] M1 (fun x4 M3 => OkI G miX10_doClauses (d + 1) K 6 [some (.inr (.inr (some 0))), some (.inl v1), some (.inl (w32 (v2 + (1 + x4)))), some (.inl (w32 (v3 + 1)))] [] M3))) : OkI G miX10_doClauses (d + 1) K 34 [some (.inr (.inr (some 0))), some (.inl v1), some (.inl v2), some (.inl v3)] [] M := by
  refine r_iload_n (pc := 34) (tb_at tkX10_doClauses 19 rfl) rfl rfl ?_
  refine r_iconst (pc := 35) (tb_at tkX10_doClauses 20 rfl) ⟨by decide, by decide⟩ ?_
  refine r_aload_n (pc := 36) (tb_at tkX10_doClauses 21 rfl) rfl rfl ?_
  refine r_get 9 8 (pc := 37) (tb_at tkX10_doClauses 22 rfl) ly_0 flX10_72 rfl ?_
  refine r_iload_n (pc := 40) (tb_at tkX10_doClauses 23 rfl) rfl rfl ?_
  refine r_invV (mc' := 0) (ms' := 0) [.inl v2] (S := [.inl 1, .inl v2]) (pc := 41) (tb_at tkX10_doClauses 24 rfl) rfl ly_58 rfl rfl clX10_450 (Nat.le_of_ble_eq_true rfl) (Nat.le_refl _) (Nat.le_refl _) ?_
  refine Cal.mono h ?_
  rintro _ _ M1 ⟨x2, rfl, rfl, h⟩
  show OkI G miX10_doClauses (d + 1) K 44 [some (.inr (.inr (some 0))), some (.inl v1), some (.inl v2), some (.inl v3)] [.inl x2, .inl 1, .inl v2] M1
  refine r_invS (mc' := 0) (ms' := 0) [.inl x2] (S := [.inl 1, .inl v2]) (pc := 44) (tb_at tkX10_doClauses 25 rfl) rfl clX10_453 (Nat.le_of_ble_eq_true rfl) (Nat.le_refl _) (Nat.le_refl _) ?_
  refine Cal.mono h ?_
  rintro _ _ M3 ⟨x4, rfl, rfl, h⟩
  show OkI G miX10_doClauses (d + 1) K 47 [some (.inr (.inr (some 0))), some (.inl v1), some (.inl v2), some (.inl v3)] [.inl x4, .inl 1, .inl v2] M3
  refine r_iadd (pc := 47) (tb_at tkX10_doClauses 26 rfl) ?_
  refine r_iadd_r (pc := 48) (tb_at tkX10_doClauses 27 rfl) ?_
  refine r_istore_n (L' := [some (.inr (.inr (some 0))), some (.inl v1), some (.inl (w32 (v2 + (1 + x4)))), some (.inl v3)]) (pc := 49) (tb_at tkX10_doClauses 28 rfl) rfl (by decide) rfl ?_
  refine r_iinc (L' := [some (.inr (.inr (some 0))), some (.inl v1), some (.inl (w32 (v2 + (1 + x4)))), some (.inl (w32 (v3 + 1)))]) (pc := 50) (tb_at tkX10_doClauses 29 rfl) rfl (by decide) rfl ?_
  refine r_goto (tgt := 6) (pc := 53) (tb_at tkX10_doClauses 30 rfl) (by decide) ?_
  exact h
set_option maxRecDepth 100000 in
set_option maxHeartbeats 4000000 in
theorem gX10_doClause_0 {G : GE} {d : Nat} {K : Int → Mem → Prop} {M : Mem} {v1 : Int}  (h : CalI G miX9_token d [.inr (.inr (some 58)), .inl (w32 (v1 + 1))] M (fun x2 M1 => CalI G miX9_token d [.inr (.inr (some 58)), .inl (w32 (v1 + 2))] M1 (fun x4 M3 => CalI G miX9_token d [.inr (.inr (some 58)), .inl (w32 (v1 + 3))] M3 (fun x6 M5 => CalI G miX9_token d [.inr (.inr (some 58)), .inl v1] M5 (fun x8 M7 => ((x8 = 0 → CalI G miX9_token d [.inr (.inr (some 58)), .inl (w32 (v1 + 4))] M7 (fun x10 M9 => CalI G miX10_fly d [.inr (.inr (some 0)), .inl x2, .inl x4, .inl x6, .inl x10] M9 (fun x12 M11 => K x12 M11))) ∧ (x8 = 1 → CalI G miX10_kind d [.inr (.inr (some 0)), .inl x2, .inl x4, .inl x6] M7 (fun x14 M13 => K x14 M13)) ∧ (x8 = 2 → CalI G miX10_base d [.inr (.inr (some 0)), .inl x2] M7 (fun x16 M15 => K x16 M15)) ∧ (x8 = 3 → CalI G miX10_fee d [.inr (.inr (some 0)), .inl x2, .inl x4] M7 (fun x18 M17 => K x18 M17)) ∧ (x8 = 4 → CalI G miX10_mark d [.inr (.inr (some 0)), .inl x2, .inl x4, .inl 1] M7 (fun x20 M19 => K x20 M19)) ∧ (x8 = 5 → CalI G miX10_mark d [.inr (.inr (some 0)), .inl x2, .inl x4, .inl 2] M7 (fun x22 M21 => K x22 M21)) ∧ (x8 < 0 ∨ 5 < x8 → CalI G miX10_mark d [.inr (.inr (some 0)), .inl x2, .inl x4, .inl 0] M7 (fun x24 M23 => K x24 M23)))))))) : OkI G miX10_doClause (d + 1) K 0 [some (.inr (.inr (some 0))), some (.inl v1), none, none, none] [] M := by
  refine r_aload_n (pc := 0) (tb_at tkX10_doClause 0 rfl) rfl rfl ?_
  refine r_get 9 8 (pc := 1) (tb_at tkX10_doClause 1 rfl) ly_0 flX10_72 rfl ?_
  refine r_iload_n (pc := 4) (tb_at tkX10_doClause 2 rfl) rfl rfl ?_
  refine r_iconst (pc := 5) (tb_at tkX10_doClause 3 rfl) ⟨by decide, by decide⟩ ?_
  refine r_iadd (pc := 6) (tb_at tkX10_doClause 4 rfl) ?_
  refine r_invV (mc' := 0) (ms' := 0) [.inl (w32 (v1 + 1))] (S := []) (pc := 7) (tb_at tkX10_doClause 5 rfl) rfl ly_58 rfl rfl clX10_450 (Nat.le_of_ble_eq_true rfl) (Nat.le_refl _) (Nat.le_refl _) ?_
  refine Cal.mono h ?_
  rintro _ _ M1 ⟨x2, rfl, rfl, h⟩
  show OkI G miX10_doClause (d + 1) K 10 [some (.inr (.inr (some 0))), some (.inl v1), none, none, none] [.inl x2] M1
  refine r_istore_n (L' := [some (.inr (.inr (some 0))), some (.inl v1), some (.inl x2), none, none]) (pc := 10) (tb_at tkX10_doClause 6 rfl) rfl (by decide) rfl ?_
  refine r_aload_n (pc := 11) (tb_at tkX10_doClause 7 rfl) rfl rfl ?_
  refine r_get 9 8 (pc := 12) (tb_at tkX10_doClause 8 rfl) ly_0 flX10_72 rfl ?_
  refine r_iload_n (pc := 15) (tb_at tkX10_doClause 9 rfl) rfl rfl ?_
  refine r_iconst (pc := 16) (tb_at tkX10_doClause 10 rfl) ⟨by decide, by decide⟩ ?_
  refine r_iadd (pc := 17) (tb_at tkX10_doClause 11 rfl) ?_
  refine r_invV (mc' := 0) (ms' := 0) [.inl (w32 (v1 + 2))] (S := []) (pc := 18) (tb_at tkX10_doClause 12 rfl) rfl ly_58 rfl rfl clX10_450 (Nat.le_of_ble_eq_true rfl) (Nat.le_refl _) (Nat.le_refl _) ?_
  refine Cal.mono h ?_
  rintro _ _ M3 ⟨x4, rfl, rfl, h⟩
  show OkI G miX10_doClause (d + 1) K 21 [some (.inr (.inr (some 0))), some (.inl v1), some (.inl x2), none, none] [.inl x4] M3
  refine r_istore_n (L' := [some (.inr (.inr (some 0))), some (.inl v1), some (.inl x2), some (.inl x4), none]) (pc := 21) (tb_at tkX10_doClause 13 rfl) rfl (by decide) rfl ?_
  refine r_aload_n (pc := 22) (tb_at tkX10_doClause 14 rfl) rfl rfl ?_
  refine r_get 9 8 (pc := 23) (tb_at tkX10_doClause 15 rfl) ly_0 flX10_72 rfl ?_
  refine r_iload_n (pc := 26) (tb_at tkX10_doClause 16 rfl) rfl rfl ?_
  refine r_iconst (pc := 27) (tb_at tkX10_doClause 17 rfl) ⟨by decide, by decide⟩ ?_
  refine r_iadd (pc := 28) (tb_at tkX10_doClause 18 rfl) ?_
  refine r_invV (mc' := 0) (ms' := 0) [.inl (w32 (v1 + 3))] (S := []) (pc := 29) (tb_at tkX10_doClause 19 rfl) rfl ly_58 rfl rfl clX10_450 (Nat.le_of_ble_eq_true rfl) (Nat.le_refl _) (Nat.le_refl _) ?_
  refine Cal.mono h ?_
  rintro _ _ M5 ⟨x6, rfl, rfl, h⟩
  show OkI G miX10_doClause (d + 1) K 32 [some (.inr (.inr (some 0))), some (.inl v1), some (.inl x2), some (.inl x4), none] [.inl x6] M5
  refine r_istore (L' := [some (.inr (.inr (some 0))), some (.inl v1), some (.inl x2), some (.inl x4), some (.inl x6)]) (pc := 32) (tb_at tkX10_doClause 20 rfl) (by decide) rfl ?_
  refine r_aload_n (pc := 34) (tb_at tkX10_doClause 21 rfl) rfl rfl ?_
  refine r_get 9 8 (pc := 35) (tb_at tkX10_doClause 22 rfl) ly_0 flX10_72 rfl ?_
  refine r_iload_n (pc := 38) (tb_at tkX10_doClause 23 rfl) rfl rfl ?_
  refine r_invV (mc' := 0) (ms' := 0) [.inl v1] (S := []) (pc := 39) (tb_at tkX10_doClause 24 rfl) rfl ly_58 rfl rfl clX10_450 (Nat.le_of_ble_eq_true rfl) (Nat.le_refl _) (Nat.le_refl _) ?_
  refine Cal.mono h ?_
  rintro _ _ M7 ⟨x8, rfl, rfl, h⟩
  show OkI G miX10_doClause (d + 1) K 42 [some (.inr (.inr (some 0))), some (.inl v1), some (.inl x2), some (.inl x4), some (.inl x6)] [.inl x8] M7
  by_cases c0 : x8 < 0 ∨ 5 < x8
  · refine r_tblOut (tgt := 137) (pc := 42) (tb_at tkX10_doClause 25 rfl) c0 (by decide) ?_
    replace h := h.2.2.2.2.2.2 c0
    refine r_aload_n (pc := 137) (tb_at tkX10_doClause 65 rfl) rfl rfl ?_
    refine r_iload_n (pc := 138) (tb_at tkX10_doClause 66 rfl) rfl rfl ?_
    refine r_iload_n (pc := 139) (tb_at tkX10_doClause 67 rfl) rfl rfl ?_
    refine r_iconst (pc := 140) (tb_at tkX10_doClause 68 rfl) ⟨by decide, by decide⟩ ?_
    refine r_invV (mc' := 0) (ms' := 0) [.inl x2, .inl x4, .inl 0] (S := []) (pc := 141) (tb_at tkX10_doClause 69 rfl) rfl ly_0 rfl rfl clX10_466 (Nat.le_of_ble_eq_true rfl) (Nat.le_refl _) (Nat.le_refl _) ?_
    refine Cal.mono h ?_
    rintro _ _ M23 ⟨x24, rfl, rfl, h⟩
    show OkI G miX10_doClause (d + 1) K 144 [some (.inr (.inr (some 0))), some (.inl v1), some (.inl x2), some (.inl x4), some (.inl x6)] [.inl x24] M23
    exact r_iret (pc := 144) (tb_at tkX10_doClause 70 rfl) rfl (Nat.le_refl _) (Nat.le_refl _) ⟨_, rfl, rfl, h⟩
  · have cc : x8 = 0 ∨ x8 = 1 ∨ x8 = 2 ∨ x8 = 3 ∨ x8 = 4 ∨ x8 = 5 := by omega
    rcases cc with c | c | c | c | c | c
    · refine r_tblIn (off := 38) (tgt := 80) (pc := 42) (tb_at tkX10_doClause 25 rfl) (by omega) (by omega) (by rw [c]; rfl) (by decide) ?_
      replace h := h.1 c
      refine r_aload_n (pc := 80) (tb_at tkX10_doClause 26 rfl) rfl rfl ?_
      refine r_iload_n (pc := 81) (tb_at tkX10_doClause 27 rfl) rfl rfl ?_
      refine r_iload_n (pc := 82) (tb_at tkX10_doClause 28 rfl) rfl rfl ?_
      refine r_iload (pc := 83) (tb_at tkX10_doClause 29 rfl) rfl ?_
      refine r_aload_n (pc := 85) (tb_at tkX10_doClause 30 rfl) rfl rfl ?_
      refine r_get 9 8 (pc := 86) (tb_at tkX10_doClause 31 rfl) ly_0 flX10_72 rfl ?_
      refine r_iload_n (pc := 89) (tb_at tkX10_doClause 32 rfl) rfl rfl ?_
      refine r_iconst (pc := 90) (tb_at tkX10_doClause 33 rfl) ⟨by decide, by decide⟩ ?_
      refine r_iadd (pc := 91) (tb_at tkX10_doClause 34 rfl) ?_
      refine r_invV (mc' := 0) (ms' := 0) [.inl (w32 (v1 + 4))] (S := [.inl x6, .inl x4, .inl x2, .inr (.inr (some 0))]) (pc := 92) (tb_at tkX10_doClause 35 rfl) rfl ly_58 rfl rfl clX10_450 (Nat.le_of_ble_eq_true rfl) (Nat.le_refl _) (Nat.le_refl _) ?_
      refine Cal.mono h ?_
      rintro _ _ M9 ⟨x10, rfl, rfl, h⟩
      show OkI G miX10_doClause (d + 1) K 95 [some (.inr (.inr (some 0))), some (.inl v1), some (.inl x2), some (.inl x4), some (.inl x6)] [.inl x10, .inl x6, .inl x4, .inl x2, .inr (.inr (some 0))] M9
      refine r_invV (mc' := 0) (ms' := 0) [.inl x2, .inl x4, .inl x6, .inl x10] (S := []) (pc := 95) (tb_at tkX10_doClause 36 rfl) rfl ly_0 rfl rfl clX10_441 (Nat.le_of_ble_eq_true rfl) (Nat.le_refl _) (Nat.le_refl _) ?_
      refine Cal.mono h ?_
      rintro _ _ M11 ⟨x12, rfl, rfl, h⟩
      show OkI G miX10_doClause (d + 1) K 98 [some (.inr (.inr (some 0))), some (.inl v1), some (.inl x2), some (.inl x4), some (.inl x6)] [.inl x12] M11
      exact r_iret (pc := 98) (tb_at tkX10_doClause 37 rfl) rfl (Nat.le_refl _) (Nat.le_refl _) ⟨_, rfl, rfl, h⟩
    · refine r_tblIn (off := 57) (tgt := 99) (pc := 42) (tb_at tkX10_doClause 25 rfl) (by omega) (by omega) (by rw [c]; rfl) (by decide) ?_
      replace h := h.2.1 c
      refine r_aload_n (pc := 99) (tb_at tkX10_doClause 38 rfl) rfl rfl ?_
      refine r_iload_n (pc := 100) (tb_at tkX10_doClause 39 rfl) rfl rfl ?_
      refine r_iload_n (pc := 101) (tb_at tkX10_doClause 40 rfl) rfl rfl ?_
      refine r_iload (pc := 102) (tb_at tkX10_doClause 41 rfl) rfl ?_
      refine r_invV (mc' := 0) (ms' := 0) [.inl x2, .inl x4, .inl x6] (S := []) (pc := 104) (tb_at tkX10_doClause 42 rfl) rfl ly_0 rfl rfl clX10_456 (Nat.le_of_ble_eq_true rfl) (Nat.le_refl _) (Nat.le_refl _) ?_
      refine Cal.mono h ?_
      rintro _ _ M13 ⟨x14, rfl, rfl, h⟩
      show OkI G miX10_doClause (d + 1) K 107 [some (.inr (.inr (some 0))), some (.inl v1), some (.inl x2), some (.inl x4), some (.inl x6)] [.inl x14] M13
      exact r_iret (pc := 107) (tb_at tkX10_doClause 43 rfl) rfl (Nat.le_refl _) (Nat.le_refl _) ⟨_, rfl, rfl, h⟩
    · refine r_tblIn (off := 66) (tgt := 108) (pc := 42) (tb_at tkX10_doClause 25 rfl) (by omega) (by omega) (by rw [c]; rfl) (by decide) ?_
      replace h := h.2.2.1 c
      refine r_aload_n (pc := 108) (tb_at tkX10_doClause 44 rfl) rfl rfl ?_
      refine r_iload_n (pc := 109) (tb_at tkX10_doClause 45 rfl) rfl rfl ?_
      refine r_invV (mc' := 0) (ms' := 0) [.inl x2] (S := []) (pc := 110) (tb_at tkX10_doClause 46 rfl) rfl ly_0 rfl rfl clX10_460 (Nat.le_of_ble_eq_true rfl) (Nat.le_refl _) (Nat.le_refl _) ?_
      refine Cal.mono h ?_
      rintro _ _ M15 ⟨x16, rfl, rfl, h⟩
      show OkI G miX10_doClause (d + 1) K 113 [some (.inr (.inr (some 0))), some (.inl v1), some (.inl x2), some (.inl x4), some (.inl x6)] [.inl x16] M15
      exact r_iret (pc := 113) (tb_at tkX10_doClause 47 rfl) rfl (Nat.le_refl _) (Nat.le_refl _) ⟨_, rfl, rfl, h⟩
    · refine r_tblIn (off := 72) (tgt := 114) (pc := 42) (tb_at tkX10_doClause 25 rfl) (by omega) (by omega) (by rw [c]; rfl) (by decide) ?_
      replace h := h.2.2.2.1 c
      refine r_aload_n (pc := 114) (tb_at tkX10_doClause 48 rfl) rfl rfl ?_
      refine r_iload_n (pc := 115) (tb_at tkX10_doClause 49 rfl) rfl rfl ?_
      refine r_iload_n (pc := 116) (tb_at tkX10_doClause 50 rfl) rfl rfl ?_
      refine r_invV (mc' := 0) (ms' := 0) [.inl x2, .inl x4] (S := []) (pc := 117) (tb_at tkX10_doClause 51 rfl) rfl ly_0 rfl rfl clX10_463 (Nat.le_of_ble_eq_true rfl) (Nat.le_refl _) (Nat.le_refl _) ?_
      refine Cal.mono h ?_
      rintro _ _ M17 ⟨x18, rfl, rfl, h⟩
      show OkI G miX10_doClause (d + 1) K 120 [some (.inr (.inr (some 0))), some (.inl v1), some (.inl x2), some (.inl x4), some (.inl x6)] [.inl x18] M17
      exact r_iret (pc := 120) (tb_at tkX10_doClause 52 rfl) rfl (Nat.le_refl _) (Nat.le_refl _) ⟨_, rfl, rfl, h⟩
    · refine r_tblIn (off := 79) (tgt := 121) (pc := 42) (tb_at tkX10_doClause 25 rfl) (by omega) (by omega) (by rw [c]; rfl) (by decide) ?_
      replace h := h.2.2.2.2.1 c
      refine r_aload_n (pc := 121) (tb_at tkX10_doClause 53 rfl) rfl rfl ?_
      refine r_iload_n (pc := 122) (tb_at tkX10_doClause 54 rfl) rfl rfl ?_
      refine r_iload_n (pc := 123) (tb_at tkX10_doClause 55 rfl) rfl rfl ?_
      refine r_iconst (pc := 124) (tb_at tkX10_doClause 56 rfl) ⟨by decide, by decide⟩ ?_
      refine r_invV (mc' := 0) (ms' := 0) [.inl x2, .inl x4, .inl 1] (S := []) (pc := 125) (tb_at tkX10_doClause 57 rfl) rfl ly_0 rfl rfl clX10_466 (Nat.le_of_ble_eq_true rfl) (Nat.le_refl _) (Nat.le_refl _) ?_
      refine Cal.mono h ?_
      rintro _ _ M19 ⟨x20, rfl, rfl, h⟩
      show OkI G miX10_doClause (d + 1) K 128 [some (.inr (.inr (some 0))), some (.inl v1), some (.inl x2), some (.inl x4), some (.inl x6)] [.inl x20] M19
      exact r_iret (pc := 128) (tb_at tkX10_doClause 58 rfl) rfl (Nat.le_refl _) (Nat.le_refl _) ⟨_, rfl, rfl, h⟩
    · refine r_tblIn (off := 87) (tgt := 129) (pc := 42) (tb_at tkX10_doClause 25 rfl) (by omega) (by omega) (by rw [c]; rfl) (by decide) ?_
      replace h := h.2.2.2.2.2.1 c
      refine r_aload_n (pc := 129) (tb_at tkX10_doClause 59 rfl) rfl rfl ?_
      refine r_iload_n (pc := 130) (tb_at tkX10_doClause 60 rfl) rfl rfl ?_
      refine r_iload_n (pc := 131) (tb_at tkX10_doClause 61 rfl) rfl rfl ?_
      refine r_iconst (pc := 132) (tb_at tkX10_doClause 62 rfl) ⟨by decide, by decide⟩ ?_
      refine r_invV (mc' := 0) (ms' := 0) [.inl x2, .inl x4, .inl 2] (S := []) (pc := 133) (tb_at tkX10_doClause 63 rfl) rfl ly_0 rfl rfl clX10_466 (Nat.le_of_ble_eq_true rfl) (Nat.le_refl _) (Nat.le_refl _) ?_
      refine Cal.mono h ?_
      rintro _ _ M21 ⟨x22, rfl, rfl, h⟩
      show OkI G miX10_doClause (d + 1) K 136 [some (.inr (.inr (some 0))), some (.inl v1), some (.inl x2), some (.inl x4), some (.inl x6)] [.inl x22] M21
      exact r_iret (pc := 136) (tb_at tkX10_doClause 64 rfl) rfl (Nat.le_refl _) (Nat.le_refl _) ⟨_, rfl, rfl, h⟩
