-- seg lemmas (by wip/gen/mk_seg.py 18.segB)
set_option maxRecDepth 100000 in
set_option maxHeartbeats 4000000 in
theorem gX0_hasBoundWith_0 {G : GE} {d : Nat} {K : Int → Mem → Prop} {M : Mem} {v1 v2 v3 : Int}  (h : (0 ≤ (v1 * 7) + v2 ∧ (v1 * 7) + v2 < 49) ∧ CalV G miX1_workOut d [.inr (.inr (some 39)), .inr (.inr (some 45))] (mup (mcp M 9 45 0 0 49) 45 ((v1 * 7) + v2).toNat v3) (fun M1 => CalI G miX8_solve d [.inr (.inr (some 34)), .inr (.inr (some 39)), .inl 1] M1 (fun x3 M2 => ((x3 = 0 ∨ x3 = 1) ∧ K x3 M2)))) : OkI G miX0_hasBoundWith (d + 1) K 0 [some (.inr (.inr (some 38))), some (.inl v1), some (.inl v2), some (.inl v3)] [] M := by
  refine r_aload_n (pc := 0) (tb_at tkX0_hasBoundWith 0 rfl) rfl rfl ?_
  refine r_get 0 0 (pc := 1) (tb_at tkX0_hasBoundWith 1 rfl) ly_38 flX0_22 rfl ?_
  refine r_get 5 7 (pc := 4) (tb_at tkX0_hasBoundWith 2 rfl) ly_1 flX0_34 rfl ?_
  refine r_iconst (pc := 7) (tb_at tkX0_hasBoundWith 3 rfl) ⟨by decide, by decide⟩ ?_
  refine r_aload_n (pc := 8) (tb_at tkX0_hasBoundWith 4 rfl) rfl rfl ?_
  refine r_get 0 3 (pc := 9) (tb_at tkX0_hasBoundWith 5 rfl) ly_38 flX0_9 rfl ?_
  refine r_iconst (pc := 12) (tb_at tkX0_hasBoundWith 6 rfl) ⟨by decide, by decide⟩ ?_
  refine r_bipush (pc := 13) (tb_at tkX0_hasBoundWith 7 rfl) ⟨by decide, by decide, by decide⟩ ?_
  refine r_copyI (pc := 15) (tb_at tkX0_hasBoundWith 8 rfl) kacX0_37 kac_n kac_s kac_i ly_9 ly_45 (by decide) (by decide) (by decide) (by decide) (by decide) (Nat.le_of_ble_eq_true rfl) (M' := mcp M 9 45 0 0 49) rfl ?_
  refine r_aload_n (pc := 18) (tb_at tkX0_hasBoundWith 9 rfl) rfl rfl ?_
  refine r_get 0 3 (pc := 19) (tb_at tkX0_hasBoundWith 10 rfl) ly_38 flX0_9 rfl ?_
  refine r_iload_n (pc := 22) (tb_at tkX0_hasBoundWith 11 rfl) rfl rfl ?_
  refine r_bipush (pc := 23) (tb_at tkX0_hasBoundWith 12 rfl) ⟨by decide, by decide, by decide⟩ ?_
  refine r_imul (pc := 25) (tb_at tkX0_hasBoundWith 13 rfl) ?_
  refine r_iload_n (pc := 26) (tb_at tkX0_hasBoundWith 14 rfl) rfl rfl ?_
  refine r_iadd_l (pc := 27) (tb_at tkX0_hasBoundWith 15 rfl) ?_
  refine r_iload_n (pc := 28) (tb_at tkX0_hasBoundWith 16 rfl) rfl rfl ?_
  refine r_iast_w (pc := 29) (tb_at tkX0_hasBoundWith 17 rfl) ly_45 (by decide) h.1.1 h.1.2 rfl ?_
  replace h := h.2
  refine r_aload_n (pc := 30) (tb_at tkX0_hasBoundWith 18 rfl) rfl rfl ?_
  refine r_get 0 1 (pc := 31) (tb_at tkX0_hasBoundWith 19 rfl) ly_38 flX0_26 rfl ?_
  refine r_aload_n (pc := 34) (tb_at tkX0_hasBoundWith 20 rfl) rfl rfl ?_
  refine r_get 0 3 (pc := 35) (tb_at tkX0_hasBoundWith 21 rfl) ly_38 flX0_9 rfl ?_
  refine r_invV (mc' := 0) (ms' := 0) [.inr (.inr (some 45))] (S := []) (pc := 38) (tb_at tkX0_hasBoundWith 22 rfl) rfl ly_39 rfl rfl clX0_43 (Nat.le_of_ble_eq_true rfl) (Nat.le_refl _) (Nat.le_refl _) ?_
  refine Cal.mono h ?_
  rintro _ _ M1 ⟨rfl, rfl, h⟩
  show OkI G miX0_hasBoundWith (d + 1) K 41 [some (.inr (.inr (some 38))), some (.inl v1), some (.inl v2), some (.inl v3)] [] M1
  refine r_aload_n (pc := 41) (tb_at tkX0_hasBoundWith 23 rfl) rfl rfl ?_
  refine r_get 0 2 (pc := 42) (tb_at tkX0_hasBoundWith 24 rfl) ly_38 flX0_30 rfl ?_
  refine r_aload_n (pc := 45) (tb_at tkX0_hasBoundWith 25 rfl) rfl rfl ?_
  refine r_get 0 1 (pc := 46) (tb_at tkX0_hasBoundWith 26 rfl) ly_38 flX0_26 rfl ?_
  refine r_iconst (pc := 49) (tb_at tkX0_hasBoundWith 27 rfl) ⟨by decide, by decide⟩ ?_
  refine r_invV (mc' := 0) (ms' := 0) [.inr (.inr (some 39)), .inl 1] (S := []) (pc := 50) (tb_at tkX0_hasBoundWith 28 rfl) rfl ly_34 rfl rfl clX0_49 (Nat.le_of_ble_eq_true rfl) (Nat.le_refl _) (Nat.le_refl _) ?_
  refine Cal.mono h ?_
  rintro _ _ M2 ⟨x3, rfl, rfl, h⟩
  show OkI G miX0_hasBoundWith (d + 1) K 53 [some (.inr (.inr (some 38))), some (.inl v1), some (.inl v2), some (.inl v3)] [.inl x3] M2
  exact r_zret (pc := 53) (tb_at tkX0_hasBoundWith 29 rfl) rfl h.1 (Nat.le_refl _) (Nat.le_refl _) ⟨_, rfl, rfl, h.2⟩
set_option maxRecDepth 100000 in
set_option maxHeartbeats 4000000 in
theorem gX0_grow_0 {G : GE} {d : Nat} {K : Mem → Prop} {M : Mem}  (h : CalV G miX0_visit d [.inr (.inr (some 38)), .inl 0] (mup (mup (mcp M 9 45 0 0 49) 38 4 0) 38 5 0) (fun M1 => K M1)) : OkV G miX0_grow (d + 1) K 0 [some (.inr (.inr (some 38)))] [] M := by
  refine r_aload_n (pc := 0) (tb_at tkX0_grow 0 rfl) rfl rfl ?_
  refine r_get 0 0 (pc := 1) (tb_at tkX0_grow 1 rfl) ly_38 flX0_22 rfl ?_
  refine r_get 5 7 (pc := 4) (tb_at tkX0_grow 2 rfl) ly_1 flX0_34 rfl ?_
  refine r_iconst (pc := 7) (tb_at tkX0_grow 3 rfl) ⟨by decide, by decide⟩ ?_
  refine r_aload_n (pc := 8) (tb_at tkX0_grow 4 rfl) rfl rfl ?_
  refine r_get 0 3 (pc := 9) (tb_at tkX0_grow 5 rfl) ly_38 flX0_9 rfl ?_
  refine r_iconst (pc := 12) (tb_at tkX0_grow 6 rfl) ⟨by decide, by decide⟩ ?_
  refine r_bipush (pc := 13) (tb_at tkX0_grow 7 rfl) ⟨by decide, by decide, by decide⟩ ?_
  refine r_copyI (pc := 15) (tb_at tkX0_grow 8 rfl) kacX0_37 kac_n kac_s kac_i ly_9 ly_45 (by decide) (by decide) (by decide) (by decide) (by decide) (Nat.le_of_ble_eq_true rfl) (M' := mcp M 9 45 0 0 49) rfl ?_
  refine r_aload_n (pc := 18) (tb_at tkX0_grow 9 rfl) rfl rfl ?_
  refine r_iconst (pc := 19) (tb_at tkX0_grow 10 rfl) ⟨by decide, by decide⟩ ?_
  refine r_put 0 4 0 (pc := 20) (tb_at tkX0_grow 11 rfl) ly_38 flX0_15 (fun r h => by cases h; rfl) (.inl rfl) rfl (fun h => by cases h) rfl ?_
  refine r_aload_n (pc := 23) (tb_at tkX0_grow 12 rfl) rfl rfl ?_
  refine r_iconst (pc := 24) (tb_at tkX0_grow 13 rfl) ⟨by decide, by decide⟩ ?_
  refine r_put 0 5 0 (pc := 25) (tb_at tkX0_grow 14 rfl) ly_38 flX0_19 (fun r h => by cases h; rfl) (.inl rfl) rfl (fun h => by cases h) rfl ?_
  refine r_aload_n (pc := 28) (tb_at tkX0_grow 15 rfl) rfl rfl ?_
  refine r_iconst (pc := 29) (tb_at tkX0_grow 16 rfl) ⟨by decide, by decide⟩ ?_
  refine r_invV (mc' := 0) (ms' := 0) [.inl 0] (S := []) (pc := 30) (tb_at tkX0_grow 17 rfl) rfl ly_38 rfl rfl clX0_55 (Nat.le_of_ble_eq_true rfl) (Nat.le_refl _) (Nat.le_refl _) ?_
  refine Cal.mono h ?_
  rintro _ _ M1 ⟨rfl, rfl, h⟩
  show OkV G miX0_grow (d + 1) K 33 [some (.inr (.inr (some 38)))] [] M1
  exact r_vret (pc := 33) (tb_at tkX0_grow 18 rfl) rfl (Nat.le_refl _) (Nat.le_refl _) ⟨rfl, rfl, h⟩
set_option maxRecDepth 100000 in
set_option maxHeartbeats 4000000 in
theorem gX0_isDear_0 {G : GE} {d : Nat} {K : Int → Mem → Prop} {M : Mem}  (h : (((M 38 4) ≤ 40 → K 0 M) ∧ (40 < (M 38 4) → K 1 M))) : OkI G miX0_isDear d K 0 [some (.inr (.inr (some 38)))] [] M := by
  refine r_aload_n (pc := 0) (tb_at tkX0_isDear 0 rfl) rfl rfl ?_
  refine r_get 0 4 (pc := 1) (tb_at tkX0_isDear 1 rfl) ly_38 flX0_15 rfl ?_
  refine r_bipush (pc := 4) (tb_at tkX0_isDear 2 rfl) ⟨by decide, by decide, by decide⟩ ?_
  refine q_icmp_le (tgt := 13) (pc := 6) (tb_at tkX0_isDear 3 rfl) (by decide) (fun c => ?_) (fun c => ?_)
  · replace h := h.1 c
    refine r_iconst (pc := 13) (tb_at tkX0_isDear 6 rfl) ⟨by decide, by decide⟩ ?_
    exact r_zret (pc := 14) (tb_at tkX0_isDear 7 rfl) rfl (by decide) (Nat.le_refl _) (Nat.le_refl _) ⟨_, rfl, rfl, h⟩
  · replace h := h.2 c
    refine r_iconst (pc := 9) (tb_at tkX0_isDear 4 rfl) ⟨by decide, by decide⟩ ?_
    refine r_goto (tgt := 14) (pc := 10) (tb_at tkX0_isDear 5 rfl) (by decide) ?_
    exact r_zret (pc := 14) (tb_at tkX0_isDear 7 rfl) rfl (by decide) (Nat.le_refl _) (Nat.le_refl _) ⟨_, rfl, rfl, h⟩
set_option maxRecDepth 100000 in
set_option maxHeartbeats 4000000 in
theorem gX0_visit_0 {G : GE} {d : Nat} {K : Mem → Prop} {M : Mem} {v1 : Int}  (h : CalI G miX0_isDear d [.inr (.inr (some 38))] (mup M 38 4 (w32 ((M 38 4) + 1))) (fun x2 M1 => ((¬ x2 = 0 → K M1) ∧ (x2 = 0 → ((v1 ≤ 40 → CalV G miX1_workOut d [.inr (.inr (some 39)), .inr (.inr (some 45))] M1 (fun M3 => CalI G miX1_hasCover d [.inr (.inr (some 39))] M3 (fun x5 M4 => ((¬ x5 = 0 → CalI G miX8_solve d [.inr (.inr (some 34)), .inr (.inr (some 39)), .inl 1] M4 (fun x7 M6 => ((x7 = 0 → OkV G miX0_visit (d + 1) K 91 [some (.inr (.inr (some 38))), some (.inl v1), none] [] M6) ∧ (¬ x7 = 0 → CalI G miX1_leastTotal d [.inr (.inr (some 39))] M6 (fun x9 M8 => CalI G miX8_boundIs d [.inr (.inr (some 34)), .inr (.inl x9), .inr (.inl 1)] M8 (fun x11 M10 => ((x11 = 0 → OkV G miX0_visit (d + 1) K 91 [some (.inr (.inr (some 38))), some (.inl v1), none] [] M10) ∧ (¬ x11 = 0 → K M10)))))))) ∧ (x5 = 0 → K (mup M4 38 5 (w32 ((M4 38 5) + 1)))))))) ∧ (40 < v1 → K M1)))))) : OkV G miX0_visit (d + 1) K 0 [some (.inr (.inr (some 38))), some (.inl v1), none] [] M := by
  refine r_aload_n (pc := 0) (tb_at tkX0_visit 0 rfl) rfl rfl ?_
  refine r_dup (pc := 1) (tb_at tkX0_visit 1 rfl) (fun _ h => by cases h) ?_
  refine r_get 0 4 (pc := 2) (tb_at tkX0_visit 2 rfl) ly_38 flX0_15 rfl ?_
  refine r_iconst (pc := 5) (tb_at tkX0_visit 3 rfl) ⟨by decide, by decide⟩ ?_
  refine r_iadd (pc := 6) (tb_at tkX0_visit 4 rfl) ?_
  refine r_put 0 4 (w32 ((M 38 4) + 1)) (pc := 7) (tb_at tkX0_visit 5 rfl) ly_38 flX0_15 (fun r h => by cases h; rfl) (.inl rfl) rfl (fun h => by cases h) rfl ?_
  refine r_aload_n (pc := 10) (tb_at tkX0_visit 6 rfl) rfl rfl ?_
  refine r_invV (mc' := 0) (ms' := 0) [] (S := []) (pc := 11) (tb_at tkX0_visit 7 rfl) rfl ly_38 rfl rfl clX0_59 (Nat.le_of_ble_eq_true rfl) (Nat.le_refl _) (Nat.le_refl _) ?_
  refine Cal.mono h ?_
  rintro _ _ M1 ⟨x2, rfl, rfl, h⟩
  show OkV G miX0_visit (d + 1) K 14 [some (.inr (.inr (some 38))), some (.inl v1), none] [.inl x2] M1
  refine q_if_ne (tgt := 23) (pc := 14) (tb_at tkX0_visit 8 rfl) (by decide) (fun c => ?_) (fun c => ?_)
  · replace h := h.1 c
    exact r_vret (pc := 23) (tb_at tkX0_visit 12 rfl) rfl (Nat.le_refl _) (Nat.le_refl _) ⟨rfl, rfl, h⟩
  · replace h := h.2 c
    refine r_iload_n (pc := 17) (tb_at tkX0_visit 9 rfl) rfl rfl ?_
    refine r_bipush (pc := 18) (tb_at tkX0_visit 10 rfl) ⟨by decide, by decide, by decide⟩ ?_
    refine q_icmp_le (tgt := 24) (pc := 20) (tb_at tkX0_visit 11 rfl) (by decide) (fun c => ?_) (fun c => ?_)
    · replace h := h.1 c
      refine r_aload_n (pc := 24) (tb_at tkX0_visit 13 rfl) rfl rfl ?_
      refine r_get 0 1 (pc := 25) (tb_at tkX0_visit 14 rfl) ly_38 flX0_26 rfl ?_
      refine r_aload_n (pc := 28) (tb_at tkX0_visit 15 rfl) rfl rfl ?_
      refine r_get 0 3 (pc := 29) (tb_at tkX0_visit 16 rfl) ly_38 flX0_9 rfl ?_
      refine r_invV (mc' := 0) (ms' := 0) [.inr (.inr (some 45))] (S := []) (pc := 32) (tb_at tkX0_visit 17 rfl) rfl ly_39 rfl rfl clX0_43 (Nat.le_of_ble_eq_true rfl) (Nat.le_refl _) (Nat.le_refl _) ?_
      refine Cal.mono h ?_
      rintro _ _ M3 ⟨rfl, rfl, h⟩
      show OkV G miX0_visit (d + 1) K 35 [some (.inr (.inr (some 38))), some (.inl v1), none] [] M3
      refine r_aload_n (pc := 35) (tb_at tkX0_visit 18 rfl) rfl rfl ?_
      refine r_get 0 1 (pc := 36) (tb_at tkX0_visit 19 rfl) ly_38 flX0_26 rfl ?_
      refine r_invV (mc' := 0) (ms' := 0) [] (S := []) (pc := 39) (tb_at tkX0_visit 20 rfl) rfl ly_39 rfl rfl clX0_63 (Nat.le_of_ble_eq_true rfl) (Nat.le_refl _) (Nat.le_refl _) ?_
      refine Cal.mono h ?_
      rintro _ _ M4 ⟨x5, rfl, rfl, h⟩
      show OkV G miX0_visit (d + 1) K 42 [some (.inr (.inr (some 38))), some (.inl v1), none] [.inl x5] M4
      refine q_if_ne (tgt := 56) (pc := 42) (tb_at tkX0_visit 21 rfl) (by decide) (fun c => ?_) (fun c => ?_)
      · replace h := h.1 c
        refine r_aload_n (pc := 56) (tb_at tkX0_visit 29 rfl) rfl rfl ?_
        refine r_get 0 2 (pc := 57) (tb_at tkX0_visit 30 rfl) ly_38 flX0_30 rfl ?_
        refine r_aload_n (pc := 60) (tb_at tkX0_visit 31 rfl) rfl rfl ?_
        refine r_get 0 1 (pc := 61) (tb_at tkX0_visit 32 rfl) ly_38 flX0_26 rfl ?_
        refine r_iconst (pc := 64) (tb_at tkX0_visit 33 rfl) ⟨by decide, by decide⟩ ?_
        refine r_invV (mc' := 0) (ms' := 0) [.inr (.inr (some 39)), .inl 1] (S := []) (pc := 65) (tb_at tkX0_visit 34 rfl) rfl ly_34 rfl rfl clX0_49 (Nat.le_of_ble_eq_true rfl) (Nat.le_refl _) (Nat.le_refl _) ?_
        refine Cal.mono h ?_
        rintro _ _ M6 ⟨x7, rfl, rfl, h⟩
        show OkV G miX0_visit (d + 1) K 68 [some (.inr (.inr (some 38))), some (.inl v1), none] [.inl x7] M6
        refine q_if_eq (tgt := 91) (pc := 68) (tb_at tkX0_visit 35 rfl) (by decide) (fun c => ?_) (fun c => ?_)
        · replace h := h.1 c
          exact h
        · replace h := h.2 c
          refine r_aload_n (pc := 71) (tb_at tkX0_visit 36 rfl) rfl rfl ?_
          refine r_get 0 2 (pc := 72) (tb_at tkX0_visit 37 rfl) ly_38 flX0_30 rfl ?_
          refine r_aload_n (pc := 75) (tb_at tkX0_visit 38 rfl) rfl rfl ?_
          refine r_get 0 1 (pc := 76) (tb_at tkX0_visit 39 rfl) ly_38 flX0_26 rfl ?_
          refine r_invV (mc' := 0) (ms' := 0) [] (S := [.inr (.inr (some 34))]) (pc := 79) (tb_at tkX0_visit 40 rfl) rfl ly_39 rfl rfl clX0_66 (Nat.le_of_ble_eq_true rfl) (Nat.le_refl _) (Nat.le_refl _) ?_
          refine Cal.mono h ?_
          rintro _ _ M8 ⟨x9, rfl, rfl, h⟩
          show OkV G miX0_visit (d + 1) K 82 [some (.inr (.inr (some 38))), some (.inl v1), none] [.inl x9, .inr (.inr (some 34))] M8
          refine r_i2l (pc := 82) (tb_at tkX0_visit 41 rfl) ?_
          refine r_lconst (v := 1) (pc := 83) (tb_at tkX0_visit 42 rfl) ⟨by decide, by decide, by decide⟩ ?_
          refine r_invV (mc' := 0) (ms' := 0) [.inr (.inl x9), .inr (.inl 1)] (S := []) (pc := 84) (tb_at tkX0_visit 43 rfl) rfl ly_34 rfl rfl clX0_70 (Nat.le_of_ble_eq_true rfl) (Nat.le_refl _) (Nat.le_refl _) ?_
          refine Cal.mono h ?_
          rintro _ _ M10 ⟨x11, rfl, rfl, h⟩
          show OkV G miX0_visit (d + 1) K 87 [some (.inr (.inr (some 38))), some (.inl v1), none] [.inl x11] M10
          refine q_if_eq (tgt := 91) (pc := 87) (tb_at tkX0_visit 44 rfl) (by decide) (fun c => ?_) (fun c => ?_)
          · replace h := h.1 c
            exact h
          · replace h := h.2 c
            exact r_vret (pc := 90) (tb_at tkX0_visit 45 rfl) rfl (Nat.le_refl _) (Nat.le_refl _) ⟨rfl, rfl, h⟩
      · replace h := h.2 c
        refine r_aload_n (pc := 45) (tb_at tkX0_visit 22 rfl) rfl rfl ?_
        refine r_dup (pc := 46) (tb_at tkX0_visit 23 rfl) (fun _ h => by cases h) ?_
        refine r_get 0 5 (pc := 47) (tb_at tkX0_visit 24 rfl) ly_38 flX0_19 rfl ?_
        refine r_iconst (pc := 50) (tb_at tkX0_visit 25 rfl) ⟨by decide, by decide⟩ ?_
        refine r_iadd (pc := 51) (tb_at tkX0_visit 26 rfl) ?_
        refine r_put 0 5 (w32 ((M4 38 5) + 1)) (pc := 52) (tb_at tkX0_visit 27 rfl) ly_38 flX0_19 (fun r h => by cases h; rfl) (.inl rfl) rfl (fun h => by cases h) rfl ?_
        exact r_vret (pc := 55) (tb_at tkX0_visit 28 rfl) rfl (Nat.le_refl _) (Nat.le_refl _) ⟨rfl, rfl, h⟩
    · replace h := h.2 c
      exact r_vret (pc := 23) (tb_at tkX0_visit 12 rfl) rfl (Nat.le_refl _) (Nat.le_refl _) ⟨rfl, rfl, h⟩
set_option maxRecDepth 100000 in
set_option maxHeartbeats 4000000 in
theorem gX0_visit_91 {G : GE} {d : Nat} {K : Mem → Prop} {M : Mem} {v1 : Int}  (h : CalI G miX1_firstFree d [.inr (.inr (some 39)), .inr (.inr (some 45))] M (fun x2 M1 => ((¬ x2 = (-1) → (0 ≤ x2 ∧ x2 < 49) ∧ CalV G miX0_visit d [.inr (.inr (some 38)), .inl (w32 (v1 + 1))] (mup M1 45 (x2).toNat 1) (fun M3 => (0 ≤ x2 ∧ x2 < 49) ∧ CalV G miX0_visit d [.inr (.inr (some 38)), .inl (w32 (v1 + 1))] (mup M3 45 (x2).toNat 2) (fun M4 => (0 ≤ x2 ∧ x2 < 49) ∧ K (mup M4 45 (x2).toNat 0)))) ∧ (x2 = (-1) → K M1)))) : OkV G miX0_visit (d + 1) K 91 [some (.inr (.inr (some 38))), some (.inl v1), none] [] M := by
  refine r_aload_n (pc := 91) (tb_at tkX0_visit 46 rfl) rfl rfl ?_
  refine r_get 0 1 (pc := 92) (tb_at tkX0_visit 47 rfl) ly_38 flX0_26 rfl ?_
  refine r_aload_n (pc := 95) (tb_at tkX0_visit 48 rfl) rfl rfl ?_
  refine r_get 0 3 (pc := 96) (tb_at tkX0_visit 49 rfl) ly_38 flX0_9 rfl ?_
  refine r_invV (mc' := 0) (ms' := 0) [.inr (.inr (some 45))] (S := []) (pc := 99) (tb_at tkX0_visit 50 rfl) rfl ly_39 rfl rfl clX0_74 (Nat.le_of_ble_eq_true rfl) (Nat.le_refl _) (Nat.le_refl _) ?_
  refine Cal.mono h ?_
  rintro _ _ M1 ⟨x2, rfl, rfl, h⟩
  show OkV G miX0_visit (d + 1) K 102 [some (.inr (.inr (some 38))), some (.inl v1), none] [.inl x2] M1
  refine r_istore_n (L' := [some (.inr (.inr (some 38))), some (.inl v1), some (.inl x2)]) (pc := 102) (tb_at tkX0_visit 51 rfl) rfl (by decide) rfl ?_
  refine r_iload_n (pc := 103) (tb_at tkX0_visit 52 rfl) rfl rfl ?_
  refine r_iconst (pc := 104) (tb_at tkX0_visit 53 rfl) ⟨by decide, by decide⟩ ?_
  refine q_icmp_ne (tgt := 109) (pc := 105) (tb_at tkX0_visit 54 rfl) (by decide) (fun c => ?_) (fun c => ?_)
  · replace h := h.1 c
    refine r_aload_n (pc := 109) (tb_at tkX0_visit 56 rfl) rfl rfl ?_
    refine r_get 0 3 (pc := 110) (tb_at tkX0_visit 57 rfl) ly_38 flX0_9 rfl ?_
    refine r_iload_n (pc := 113) (tb_at tkX0_visit 58 rfl) rfl rfl ?_
    refine r_iconst (pc := 114) (tb_at tkX0_visit 59 rfl) ⟨by decide, by decide⟩ ?_
    refine r_iast (pc := 115) (tb_at tkX0_visit 60 rfl) ly_45 h.1.1 h.1.2 rfl ?_
    replace h := h.2
    refine r_aload_n (pc := 116) (tb_at tkX0_visit 61 rfl) rfl rfl ?_
    refine r_iload_n (pc := 117) (tb_at tkX0_visit 62 rfl) rfl rfl ?_
    refine r_iconst (pc := 118) (tb_at tkX0_visit 63 rfl) ⟨by decide, by decide⟩ ?_
    refine r_iadd (pc := 119) (tb_at tkX0_visit 64 rfl) ?_
    refine r_invV (mc' := 0) (ms' := 0) [.inl (w32 (v1 + 1))] (S := []) (pc := 120) (tb_at tkX0_visit 65 rfl) rfl ly_38 rfl rfl clX0_55 (Nat.le_of_ble_eq_true rfl) (Nat.le_refl _) (Nat.le_refl _) ?_
    refine Cal.mono h ?_
    rintro _ _ M3 ⟨rfl, rfl, h⟩
    show OkV G miX0_visit (d + 1) K 123 [some (.inr (.inr (some 38))), some (.inl v1), some (.inl x2)] [] M3
    refine r_aload_n (pc := 123) (tb_at tkX0_visit 66 rfl) rfl rfl ?_
    refine r_get 0 3 (pc := 124) (tb_at tkX0_visit 67 rfl) ly_38 flX0_9 rfl ?_
    refine r_iload_n (pc := 127) (tb_at tkX0_visit 68 rfl) rfl rfl ?_
    refine r_iconst (pc := 128) (tb_at tkX0_visit 69 rfl) ⟨by decide, by decide⟩ ?_
    refine r_iast (pc := 129) (tb_at tkX0_visit 70 rfl) ly_45 h.1.1 h.1.2 rfl ?_
    replace h := h.2
    refine r_aload_n (pc := 130) (tb_at tkX0_visit 71 rfl) rfl rfl ?_
    refine r_iload_n (pc := 131) (tb_at tkX0_visit 72 rfl) rfl rfl ?_
    refine r_iconst (pc := 132) (tb_at tkX0_visit 73 rfl) ⟨by decide, by decide⟩ ?_
    refine r_iadd (pc := 133) (tb_at tkX0_visit 74 rfl) ?_
    refine r_invV (mc' := 0) (ms' := 0) [.inl (w32 (v1 + 1))] (S := []) (pc := 134) (tb_at tkX0_visit 75 rfl) rfl ly_38 rfl rfl clX0_55 (Nat.le_of_ble_eq_true rfl) (Nat.le_refl _) (Nat.le_refl _) ?_
    refine Cal.mono h ?_
    rintro _ _ M4 ⟨rfl, rfl, h⟩
    show OkV G miX0_visit (d + 1) K 137 [some (.inr (.inr (some 38))), some (.inl v1), some (.inl x2)] [] M4
    refine r_aload_n (pc := 137) (tb_at tkX0_visit 76 rfl) rfl rfl ?_
    refine r_get 0 3 (pc := 138) (tb_at tkX0_visit 77 rfl) ly_38 flX0_9 rfl ?_
    refine r_iload_n (pc := 141) (tb_at tkX0_visit 78 rfl) rfl rfl ?_
    refine r_iconst (pc := 142) (tb_at tkX0_visit 79 rfl) ⟨by decide, by decide⟩ ?_
    refine r_iast (pc := 143) (tb_at tkX0_visit 80 rfl) ly_45 h.1.1 h.1.2 rfl ?_
    replace h := h.2
    exact r_vret (pc := 144) (tb_at tkX0_visit 81 rfl) rfl (Nat.le_refl _) (Nat.le_refl _) ⟨rfl, rfl, h⟩
  · replace h := h.2 c
    exact r_vret (pc := 108) (tb_at tkX0_visit 55 rfl) rfl (Nat.le_refl _) (Nat.le_refl _) ⟨rfl, rfl, h⟩
set_option maxRecDepth 100000 in
set_option maxHeartbeats 4000000 in
theorem gX1_workOut_0 {G : GE} {d : Nat} {K : Mem → Prop} {M : Mem} {t mk : Nat} (ht : t = 28 ∨ t = 39) (hm : mk = 9 ∨ mk = 45) (h : CalV G miJ7_fill_53178 d [.inr (.inr (some (t + 2))), .inl (-1)] M (fun M1 => CalV G miJ7_fill_53178 d [.inr (.inr (some (t + 3))), .inl (-1)] M1 (fun M2 => OkV G miX1_workOut (d + 1) K 18 [some (.inr (.inr (some t))), some (.inr (.inr (some mk))), some (.inl 1)] [] M2))) : OkV G miX1_workOut (d + 1) K 0 [some (.inr (.inr (some t))), some (.inr (.inr (some mk))), none] [] M := by
  refine r_aload_n (pc := 0) (tb_at tkX1_workOut 0 rfl) rfl rfl ?_
  refine r_get 1 3 (pc := 1) (tb_at tkX1_workOut 1 rfl) (lyT0 ht) flX1_15 rfl ?_
  refine r_iconst (pc := 4) (tb_at tkX1_workOut 2 rfl) ⟨by decide, by decide⟩ ?_
  refine r_invS (mc' := 0) (ms' := 0) [.inr (.inr (some (t + 2))), .inl (-1)] (S := []) (pc := 5) (tb_at tkX1_workOut 3 rfl) rfl clX1_36 (Nat.le_of_ble_eq_true rfl) (Nat.le_refl _) (Nat.le_refl _) ?_
  refine Cal.mono h ?_
  rintro _ _ M1 ⟨rfl, rfl, h⟩
  show OkV G miX1_workOut (d + 1) K 8 [some (.inr (.inr (some t))), some (.inr (.inr (some mk))), none] [] M1
  refine r_aload_n (pc := 8) (tb_at tkX1_workOut 4 rfl) rfl rfl ?_
  refine r_get 1 4 (pc := 9) (tb_at tkX1_workOut 5 rfl) (lyT0 ht) flX1_19 rfl ?_
  refine r_iconst (pc := 12) (tb_at tkX1_workOut 6 rfl) ⟨by decide, by decide⟩ ?_
  refine r_invS (mc' := 0) (ms' := 0) [.inr (.inr (some (t + 3))), .inl (-1)] (S := []) (pc := 13) (tb_at tkX1_workOut 7 rfl) rfl clX1_36 (Nat.le_of_ble_eq_true rfl) (Nat.le_refl _) (Nat.le_refl _) ?_
  refine Cal.mono h ?_
  rintro _ _ M2 ⟨rfl, rfl, h⟩
  show OkV G miX1_workOut (d + 1) K 16 [some (.inr (.inr (some t))), some (.inr (.inr (some mk))), none] [] M2
  refine r_iconst (pc := 16) (tb_at tkX1_workOut 8 rfl) ⟨by decide, by decide⟩ ?_
  refine r_istore_n (L' := [some (.inr (.inr (some t))), some (.inr (.inr (some mk))), some (.inl 1)]) (pc := 17) (tb_at tkX1_workOut 9 rfl) rfl (by decide) rfl ?_
  exact h
set_option maxRecDepth 100000 in
set_option maxHeartbeats 4000000 in
theorem gX1_workOut_18 {G : GE} {d : Nat} {K : Mem → Prop} {M : Mem} {v2 : Int} {t mk : Nat} (ht : t = 28 ∨ t = 39) (hm : mk = 9 ∨ mk = 45) (h : CalI G miX5_allFlights d [.inr (.inr (some 1))] M (fun x2 M1 => ((x2 < v2 → OkV G miX1_workOut (d + 1) K 98 [some (.inr (.inr (some t))), none, some (.inl 1)] [] (mup (mup M1 (t + 5) 0 0) (t + 4) 0 0)) ∧ (v2 ≤ x2 → (0 ≤ v2 ∧ v2 < 128) ∧ (((M1 24 (v2).toNat) = (-1) → OkV G miX1_workOut (d + 1) K 60 [some (.inr (.inr (some t))), some (.inr (.inr (some mk))), some (.inl v2)] [.inl v2, .inr (.inr (some (t + 1)))] M1) ∧ (¬ (M1 24 (v2).toNat) = (-1) → CalI G miX1_suits d [.inr (.inr (some t)), .inl v2, .inr (.inr (some mk))] M1 (fun x4 M3 => (0 ≤ v2 ∧ v2 < 128) ∧ ((if ¬ (x4 = 0) then (1 : Int) else 0) = 0 ∨ (if ¬ (x4 = 0) then (1 : Int) else 0) = 1) ∧ (0 ≤ v2 ∧ v2 < 128) ∧ ((((mup M3 (t + 1) (v2).toNat (if ¬ (x4 = 0) then (1 : Int) else 0)) (t + 1) (v2).toNat) = 0 → OkV G miX1_workOut (d + 1) K 18 [some (.inr (.inr (some t))), some (.inr (.inr (some mk))), some (.inl (w32 (v2 + 1)))] [] (mup M3 (t + 1) (v2).toNat (if ¬ (x4 = 0) then (1 : Int) else 0))) ∧ (¬ ((mup M3 (t + 1) (v2).toNat (if ¬ (x4 = 0) then (1 : Int) else 0)) (t + 1) (v2).toNat) = 0 → CalV G miX1_offer d [.inr (.inr (some t)), .inl v2] (mup M3 (t + 1) (v2).toNat (if ¬ (x4 = 0) then (1 : Int) else 0)) (fun M5 => OkV G miX1_workOut (d + 1) K 18 [some (.inr (.inr (some t))), some (.inr (.inr (some mk))), some (.inl (w32 (v2 + 1)))] [] M5)))))))))) : OkV G miX1_workOut (d + 1) K 18 [some (.inr (.inr (some t))), some (.inr (.inr (some mk))), some (.inl v2)] [] M := by
  refine r_iload_n (pc := 18) (tb_at tkX1_workOut 10 rfl) rfl rfl ?_
  refine r_aload_n (pc := 19) (tb_at tkX1_workOut 11 rfl) rfl rfl ?_
  refine r_get 1 0 (pc := 20) (tb_at tkX1_workOut 12 rfl) (lyT0 ht) flX1_28 rfl ?_
  refine r_invV (mc' := 0) (ms' := 0) [] (S := [.inl v2]) (pc := 23) (tb_at tkX1_workOut 13 rfl) rfl ly_1 rfl rfl clX1_42 (Nat.le_of_ble_eq_true rfl) (Nat.le_refl _) (Nat.le_refl _) ?_
  refine Cal.mono h ?_
  rintro _ _ M1 ⟨x2, rfl, rfl, h⟩
  show OkV G miX1_workOut (d + 1) K 26 [some (.inr (.inr (some t))), some (.inr (.inr (some mk))), some (.inl v2)] [.inl x2, .inl v2] M1
  refine q_icmp_gt (tgt := 82) (pc := 26) (tb_at tkX1_workOut 14 rfl) (by decide) (fun c => ?_) (fun c => ?_)
  · replace h := h.1 c
    refine r_aload_n (pc := 82) (tb_at tkX1_workOut 44 rfl) rfl rfl ?_
    refine r_get 1 6 (pc := 83) (tb_at tkX1_workOut 45 rfl) (lyT0 ht) flX1_25 rfl ?_
    refine r_iconst (pc := 86) (tb_at tkX1_workOut 46 rfl) ⟨by decide, by decide⟩ ?_
    refine r_iconst (pc := 87) (tb_at tkX1_workOut 47 rfl) ⟨by decide, by decide⟩ ?_
    refine r_iast_k (k0 := 0) (pc := 88) (tb_at tkX1_workOut 48 rfl) (lyT5 ht) rfl (by decide) (by decide) rfl ?_
    refine r_aload_n (pc := 89) (tb_at tkX1_workOut 49 rfl) rfl rfl ?_
    refine r_get 1 5 (pc := 90) (tb_at tkX1_workOut 50 rfl) (lyT0 ht) flX1_22 rfl ?_
    refine r_iconst (pc := 93) (tb_at tkX1_workOut 51 rfl) ⟨by decide, by decide⟩ ?_
    refine r_iconst (pc := 94) (tb_at tkX1_workOut 52 rfl) ⟨by decide, by decide⟩ ?_
    refine r_iast_k (k0 := 0) (pc := 95) (tb_at tkX1_workOut 53 rfl) (lyT4 ht) rfl (by decide) (by decide) rfl ?_
    refine r_iconst (pc := 96) (tb_at tkX1_workOut 54 rfl) ⟨by decide, by decide⟩ ?_
    refine r_istore_n (L' := [some (.inr (.inr (some t))), some (.inr (.inr (some mk))), some (.inl 1)]) (pc := 97) (tb_at tkX1_workOut 55 rfl) rfl (by decide) rfl ?_
    exact Ok.forget h (And.intro rfl (And.intro rfl trivial))
  · replace h := h.2 c
    refine r_aload_n (pc := 29) (tb_at tkX1_workOut 15 rfl) rfl rfl ?_
    refine r_get 1 2 (pc := 30) (tb_at tkX1_workOut 16 rfl) (lyT0 ht) flX1_9 rfl ?_
    refine r_iload_n (pc := 33) (tb_at tkX1_workOut 17 rfl) rfl rfl ?_
    refine r_aload_n (pc := 34) (tb_at tkX1_workOut 18 rfl) rfl rfl ?_
    refine r_get 1 1 (pc := 35) (tb_at tkX1_workOut 19 rfl) (lyT0 ht) flX1_32 rfl ?_
    refine r_get 4 5 (pc := 38) (tb_at tkX1_workOut 20 rfl) ly_19 flX1_48 rfl ?_
    refine r_iload_n (pc := 41) (tb_at tkX1_workOut 21 rfl) rfl rfl ?_
    refine r_iald (pc := 42) (tb_at tkX1_workOut 22 rfl) ly_24 h.1.1 h.1.2 ?_
    replace h := h.2
    refine r_iconst (pc := 43) (tb_at tkX1_workOut 23 rfl) ⟨by decide, by decide⟩ ?_
    refine q_icmp_eq (tgt := 60) (pc := 44) (tb_at tkX1_workOut 24 rfl) (by decide) (fun c => ?_) (fun c => ?_)
    · replace h := h.1 c
      exact h
    · replace h := h.2 c
      refine r_aload_n (pc := 47) (tb_at tkX1_workOut 25 rfl) rfl rfl ?_
      refine r_iload_n (pc := 48) (tb_at tkX1_workOut 26 rfl) rfl rfl ?_
      refine r_aload_n (pc := 49) (tb_at tkX1_workOut 27 rfl) rfl rfl ?_
      refine r_invV (mc' := 0) (ms' := 0) [.inl v2, .inr (.inr (some mk))] (S := [.inl v2, .inr (.inr (some (t + 1)))]) (pc := 50) (tb_at tkX1_workOut 28 rfl) rfl (lyT0 ht) rfl rfl clX1_51 (Nat.le_of_ble_eq_true rfl) (Nat.le_refl _) (Nat.le_refl _) ?_
      refine Cal.mono h ?_
      rintro _ _ M3 ⟨x4, rfl, rfl, h⟩
      show OkV G miX1_workOut (d + 1) K 53 [some (.inr (.inr (some t))), some (.inr (.inr (some mk))), some (.inl v2)] [.inl x4, .inl v2, .inr (.inr (some (t + 1)))] M3
      have hJ6 : ∀ t0 : Int, t0 = (if ¬ (x4 = 0) then (1 : Int) else 0) → OkV G miX1_workOut (d + 1) K 61 [some (.inr (.inr (some t))), some (.inr (.inr (some mk))), some (.inl v2)] [.inl t0, .inl v2, .inr (.inr (some (t + 1)))] M3 := by
        rintro _ rfl
        refine r_zast (pc := 61) (tb_at tkX1_workOut 33 rfl) (lyT1 ht) h.1.1 h.1.2 h.2.1 rfl ?_
        replace h := h.2.2
        refine r_aload_n (pc := 62) (tb_at tkX1_workOut 34 rfl) rfl rfl ?_
        refine r_get 1 2 (pc := 63) (tb_at tkX1_workOut 35 rfl) (lyT0 ht) flX1_9 rfl ?_
        refine r_iload_n (pc := 66) (tb_at tkX1_workOut 36 rfl) rfl rfl ?_
        refine r_zald (pc := 67) (tb_at tkX1_workOut 37 rfl) (lyT1 ht) h.1.1 h.1.2 ?_
        replace h := h.2
        refine q_if_eq (tgt := 76) (pc := 68) (tb_at tkX1_workOut 38 rfl) (by decide) (fun c => ?_) (fun c => ?_)
        · replace h := h.1 c
          refine r_iinc (L' := [some (.inr (.inr (some t))), some (.inr (.inr (some mk))), some (.inl (w32 (v2 + 1)))]) (pc := 76) (tb_at tkX1_workOut 42 rfl) rfl (by decide) rfl ?_
          refine r_goto (tgt := 18) (pc := 79) (tb_at tkX1_workOut 43 rfl) (by decide) ?_
          exact h
        · replace h := h.2 c
          refine r_aload_n (pc := 71) (tb_at tkX1_workOut 39 rfl) rfl rfl ?_
          refine r_iload_n (pc := 72) (tb_at tkX1_workOut 40 rfl) rfl rfl ?_
          refine r_invV (mc' := 0) (ms' := 0) [.inl v2] (S := []) (pc := 73) (tb_at tkX1_workOut 41 rfl) rfl (lyT0 ht) rfl rfl clX1_55 (Nat.le_of_ble_eq_true rfl) (Nat.le_refl _) (Nat.le_refl _) ?_
          refine Cal.mono h ?_
          rintro _ _ M5 ⟨rfl, rfl, h⟩
          show OkV G miX1_workOut (d + 1) K 76 [some (.inr (.inr (some t))), some (.inr (.inr (some mk))), some (.inl v2)] [] M5
          refine r_iinc (L' := [some (.inr (.inr (some t))), some (.inr (.inr (some mk))), some (.inl (w32 (v2 + 1)))]) (pc := 76) (tb_at tkX1_workOut 42 rfl) rfl (by decide) rfl ?_
          refine r_goto (tgt := 18) (pc := 79) (tb_at tkX1_workOut 43 rfl) (by decide) ?_
          exact h
      refine q_if_eq (tgt := 60) (pc := 53) (tb_at tkX1_workOut 29 rfl) (by decide) (fun c7 => ?_) (fun c7 => ?_)
      · refine r_iconst (pc := 60) (tb_at tkX1_workOut 32 rfl) ⟨by decide, by decide⟩ ?_
        exact hJ6 _ (by simp only [if_neg (not_not_intro c7)])
      · refine r_iconst (pc := 56) (tb_at tkX1_workOut 30 rfl) ⟨by decide, by decide⟩ ?_
        refine r_goto (tgt := 61) (pc := 57) (tb_at tkX1_workOut 31 rfl) (by decide) ?_
        exact hJ6 _ (by simp only [if_pos c7])
set_option maxRecDepth 100000 in
set_option maxHeartbeats 4000000 in
theorem gX1_workOut_98 {G : GE} {d : Nat} {K : Mem → Prop} {M : Mem} {v2 : Int} {t mk : Nat} (ht : t = 28 ∨ t = 39) (hm : mk = 9 ∨ mk = 45) (h : CalI G miX5_allFlights d [.inr (.inr (some 1))] M (fun x2 M1 => ((x2 < v2 → K M1) ∧ (v2 ≤ x2 → CalV G miX1_choose d [.inr (.inr (some t)), .inl v2] M1 (fun M3 => OkV G miX1_workOut (d + 1) K 98 [some (.inr (.inr (some t))), none, some (.inl (w32 (v2 + 1)))] [] M3))))) : OkV G miX1_workOut (d + 1) K 98 [some (.inr (.inr (some t))), none, some (.inl v2)] [] M := by
  refine r_iload_n (pc := 98) (tb_at tkX1_workOut 56 rfl) rfl rfl ?_
  refine r_aload_n (pc := 99) (tb_at tkX1_workOut 57 rfl) rfl rfl ?_
  refine r_get 1 0 (pc := 100) (tb_at tkX1_workOut 58 rfl) (lyT0 ht) flX1_28 rfl ?_
  refine r_invV (mc' := 0) (ms' := 0) [] (S := [.inl v2]) (pc := 103) (tb_at tkX1_workOut 59 rfl) rfl ly_1 rfl rfl clX1_42 (Nat.le_of_ble_eq_true rfl) (Nat.le_refl _) (Nat.le_refl _) ?_
  refine Cal.mono h ?_
  rintro _ _ M1 ⟨x2, rfl, rfl, h⟩
  show OkV G miX1_workOut (d + 1) K 106 [some (.inr (.inr (some t))), none, some (.inl v2)] [.inl x2, .inl v2] M1
  refine q_icmp_gt (tgt := 120) (pc := 106) (tb_at tkX1_workOut 60 rfl) (by decide) (fun c => ?_) (fun c => ?_)
  · replace h := h.1 c
    exact r_vret (pc := 120) (tb_at tkX1_workOut 66 rfl) rfl (Nat.le_refl _) (Nat.le_refl _) ⟨rfl, rfl, h⟩
  · replace h := h.2 c
    refine r_aload_n (pc := 109) (tb_at tkX1_workOut 61 rfl) rfl rfl ?_
    refine r_iload_n (pc := 110) (tb_at tkX1_workOut 62 rfl) rfl rfl ?_
    refine r_invV (mc' := 0) (ms' := 0) [.inl v2] (S := []) (pc := 111) (tb_at tkX1_workOut 63 rfl) rfl (lyT0 ht) rfl rfl clX1_59 (Nat.le_of_ble_eq_true rfl) (Nat.le_refl _) (Nat.le_refl _) ?_
    refine Cal.mono h ?_
    rintro _ _ M3 ⟨rfl, rfl, h⟩
    show OkV G miX1_workOut (d + 1) K 114 [some (.inr (.inr (some t))), none, some (.inl v2)] [] M3
    refine r_iinc (L' := [some (.inr (.inr (some t))), none, some (.inl (w32 (v2 + 1)))]) (pc := 114) (tb_at tkX1_workOut 64 rfl) rfl (by decide) rfl ?_
    refine r_goto (tgt := 98) (pc := 117) (tb_at tkX1_workOut 65 rfl) (by decide) ?_
    exact h
set_option maxRecDepth 100000 in
set_option maxHeartbeats 4000000 in
theorem gX1_workOut_60 {G : GE} {d : Nat} {K : Mem → Prop} {M : Mem} {v2 s1 : Int} {t mk : Nat} (ht : t = 28 ∨ t = 39) (hm : mk = 9 ∨ mk = 45) (h : (0 ≤ s1 ∧ s1 < 128) ∧ (0 ≤ v2 ∧ v2 < 128) ∧ ((((mup M (t + 1) (s1).toNat 0) (t + 1) (v2).toNat) = 0 → OkV G miX1_workOut (d + 1) K 18 [some (.inr (.inr (some t))), some (.inr (.inr (some mk))), some (.inl (w32 (v2 + 1)))] [] (mup M (t + 1) (s1).toNat 0)) ∧ (¬ ((mup M (t + 1) (s1).toNat 0) (t + 1) (v2).toNat) = 0 → CalV G miX1_offer d [.inr (.inr (some t)), .inl v2] (mup M (t + 1) (s1).toNat 0) (fun M1 => OkV G miX1_workOut (d + 1) K 18 [some (.inr (.inr (some t))), some (.inr (.inr (some mk))), some (.inl (w32 (v2 + 1)))] [] M1)))) : OkV G miX1_workOut (d + 1) K 60 [some (.inr (.inr (some t))), some (.inr (.inr (some mk))), some (.inl v2)] [.inl s1, .inr (.inr (some (t + 1)))] M := by
  refine r_iconst (pc := 60) (tb_at tkX1_workOut 32 rfl) ⟨by decide, by decide⟩ ?_
  refine r_zast (pc := 61) (tb_at tkX1_workOut 33 rfl) (lyT1 ht) h.1.1 h.1.2 (by decide) rfl ?_
  replace h := h.2
  refine r_aload_n (pc := 62) (tb_at tkX1_workOut 34 rfl) rfl rfl ?_
  refine r_get 1 2 (pc := 63) (tb_at tkX1_workOut 35 rfl) (lyT0 ht) flX1_9 rfl ?_
  refine r_iload_n (pc := 66) (tb_at tkX1_workOut 36 rfl) rfl rfl ?_
  refine r_zald (pc := 67) (tb_at tkX1_workOut 37 rfl) (lyT1 ht) h.1.1 h.1.2 ?_
  replace h := h.2
  refine q_if_eq (tgt := 76) (pc := 68) (tb_at tkX1_workOut 38 rfl) (by decide) (fun c => ?_) (fun c => ?_)
  · replace h := h.1 c
    refine r_iinc (L' := [some (.inr (.inr (some t))), some (.inr (.inr (some mk))), some (.inl (w32 (v2 + 1)))]) (pc := 76) (tb_at tkX1_workOut 42 rfl) rfl (by decide) rfl ?_
    refine r_goto (tgt := 18) (pc := 79) (tb_at tkX1_workOut 43 rfl) (by decide) ?_
    exact h
  · replace h := h.2 c
    refine r_aload_n (pc := 71) (tb_at tkX1_workOut 39 rfl) rfl rfl ?_
    refine r_iload_n (pc := 72) (tb_at tkX1_workOut 40 rfl) rfl rfl ?_
    refine r_invV (mc' := 0) (ms' := 0) [.inl v2] (S := []) (pc := 73) (tb_at tkX1_workOut 41 rfl) rfl (lyT0 ht) rfl rfl clX1_55 (Nat.le_of_ble_eq_true rfl) (Nat.le_refl _) (Nat.le_refl _) ?_
    refine Cal.mono h ?_
    rintro _ _ M1 ⟨rfl, rfl, h⟩
    show OkV G miX1_workOut (d + 1) K 76 [some (.inr (.inr (some t))), some (.inr (.inr (some mk))), some (.inl v2)] [] M1
    refine r_iinc (L' := [some (.inr (.inr (some t))), some (.inr (.inr (some mk))), some (.inl (w32 (v2 + 1)))]) (pc := 76) (tb_at tkX1_workOut 42 rfl) rfl (by decide) rfl ?_
    refine r_goto (tgt := 18) (pc := 79) (tb_at tkX1_workOut 43 rfl) (by decide) ?_
    exact h
set_option maxRecDepth 100000 in
set_option maxHeartbeats 4000000 in
theorem gX1_suits_0 {G : GE} {d : Nat} {K : Int → Mem → Prop} {M : Mem} {v1 : Int} {t mk : Nat} (ht : t = 28 ∨ t = 39) (hm : mk = 9 ∨ mk = 45) (h : OkI G miX1_suits (d + 1) K 2 [some (.inr (.inr (some t))), some (.inl v1), some (.inr (.inr (some mk))), some (.inl 0), none, none, none, none] [] M) : OkI G miX1_suits (d + 1) K 0 [some (.inr (.inr (some t))), some (.inl v1), some (.inr (.inr (some mk))), none, none, none, none, none] [] M := by
  refine r_iconst (pc := 0) (tb_at tkX1_suits 0 rfl) ⟨by decide, by decide⟩ ?_
  refine r_istore_n (L' := [some (.inr (.inr (some t))), some (.inl v1), some (.inr (.inr (some mk))), some (.inl 0), none, none, none, none]) (pc := 1) (tb_at tkX1_suits 1 rfl) rfl (by decide) rfl ?_
  exact h
set_option maxRecDepth 100000 in
set_option maxHeartbeats 4000000 in
theorem gX1_suits_2 {G : GE} {d : Nat} {K : Int → Mem → Prop} {M : Mem} {v1 v3 : Int} {t mk : Nat} (ht : t = 28 ∨ t = 39) (hm : mk = 9 ∨ mk = 45) (h : (((M 1 8) ≤ v3 → K 1 M) ∧ (v3 < (M 1 8) → OkI G miX1_suits (d + 1) K 16 [some (.inr (.inr (some t))), some (.inl v1), some (.inr (.inr (some mk))), some (.inl v3), some (.inl 0), none, none, none] [] M))) : OkI G miX1_suits (d + 1) K 2 [some (.inr (.inr (some t))), some (.inl v1), some (.inr (.inr (some mk))), some (.inl v3), none, none, none, none] [] M := by
  refine r_iload_n (pc := 2) (tb_at tkX1_suits 2 rfl) rfl rfl ?_
  refine r_aload_n (pc := 3) (tb_at tkX1_suits 3 rfl) rfl rfl ?_
  refine r_get 1 0 (pc := 4) (tb_at tkX1_suits 4 rfl) (lyT0 ht) flX1_28 rfl ?_
  refine r_get 5 8 (pc := 7) (tb_at tkX1_suits 5 rfl) ly_1 flX1_62 rfl ?_
  refine q_icmp_ge (tgt := 118) (pc := 10) (tb_at tkX1_suits 6 rfl) (by decide) (fun c => ?_) (fun c => ?_)
  · replace h := h.1 c
    refine r_iconst (pc := 118) (tb_at tkX1_suits 62 rfl) ⟨by decide, by decide⟩ ?_
    exact r_zret (pc := 119) (tb_at tkX1_suits 63 rfl) rfl (by decide) (Nat.le_refl _) (Nat.le_refl _) ⟨_, rfl, rfl, h⟩
  · replace h := h.2 c
    refine r_iconst (pc := 13) (tb_at tkX1_suits 7 rfl) ⟨by decide, by decide⟩ ?_
    refine r_istore (L' := [some (.inr (.inr (some t))), some (.inl v1), some (.inr (.inr (some mk))), some (.inl v3), some (.inl 0), none, none, none]) (pc := 14) (tb_at tkX1_suits 8 rfl) (by decide) rfl ?_
    exact h
set_option maxRecDepth 100000 in
set_option maxHeartbeats 4000000 in
theorem gX1_suits_16 {G : GE} {d : Nat} {K : Int → Mem → Prop} {M : Mem} {v1 v3 v4 : Int} {t mk : Nat} (ht : t = 28 ∨ t = 39) (hm : mk = 9 ∨ mk = 45) (h : (((M 1 8) ≤ v4 → OkI G miX1_suits (d + 1) K 2 [some (.inr (.inr (some t))), some (.inl v1), some (.inr (.inr (some mk))), some (.inl (w32 (v3 + 1))), none, none, none, none] [] M) ∧ (v4 < (M 1 8) → (0 ≤ (v3 * 7) + v4 ∧ (v3 * 7) + v4 < 49) ∧ ((¬ (M mk ((v3 * 7) + v4).toNat) = 0 → CalI G miX4_isRightBehind d [.inr (.inr (some 19)), .inl v1, .inl v3, .inl v4] M (fun x2 M1 => ((¬ (M mk ((v3 * 7) + v4).toNat) = 1 → ((x2 = 0 → OkI G miX1_suits (d + 1) K 16 [some (.inr (.inr (some t))), some (.inl v1), some (.inr (.inr (some mk))), some (.inl v3), some (.inl (w32 (v4 + 1))), none, none, none] [] M1) ∧ (¬ x2 = 0 → K 0 M1))) ∧ ((M mk ((v3 * 7) + v4).toNat) = 1 → ((((iand v1 (ior (ishl 1 v3) (ishl 1 v4))) = 0) → OkI G miX1_suits (d + 1) K 16 [some (.inr (.inr (some t))), some (.inl v1), some (.inr (.inr (some mk))), some (.inl v3), some (.inl (w32 (v4 + 1))), none, none, none] [] M1) ∧ (¬ ((iand v1 (ior (ishl 1 v3) (ishl 1 v4))) = 0) → ((¬ x2 = 0 → OkI G miX1_suits (d + 1) K 16 [some (.inr (.inr (some t))), some (.inl v1), some (.inr (.inr (some mk))), some (.inl v3), some (.inl (w32 (v4 + 1))), none, none, none] [] M1) ∧ (x2 = 0 → K 0 M1)))))))) ∧ ((M mk ((v3 * 7) + v4).toNat) = 0 → OkI G miX1_suits (d + 1) K 16 [some (.inr (.inr (some t))), some (.inl v1), some (.inr (.inr (some mk))), some (.inl v3), some (.inl (w32 (v4 + 1))), none, none, none] [] M))))) : OkI G miX1_suits (d + 1) K 16 [some (.inr (.inr (some t))), some (.inl v1), some (.inr (.inr (some mk))), some (.inl v3), some (.inl v4), none, none, none] [] M := by
  refine r_iload (pc := 16) (tb_at tkX1_suits 9 rfl) rfl ?_
  refine r_aload_n (pc := 18) (tb_at tkX1_suits 10 rfl) rfl rfl ?_
  refine r_get 1 0 (pc := 19) (tb_at tkX1_suits 11 rfl) (lyT0 ht) flX1_28 rfl ?_
  refine r_get 5 8 (pc := 22) (tb_at tkX1_suits 12 rfl) ly_1 flX1_62 rfl ?_
  refine q_icmp_ge (tgt := 112) (pc := 25) (tb_at tkX1_suits 13 rfl) (by decide) (fun c => ?_) (fun c => ?_)
  · replace h := h.1 c
    refine r_iinc (L' := [some (.inr (.inr (some t))), some (.inl v1), some (.inr (.inr (some mk))), some (.inl (w32 (v3 + 1))), some (.inl v4), none, none, none]) (pc := 112) (tb_at tkX1_suits 60 rfl) rfl (by decide) rfl ?_
    refine r_goto (tgt := 2) (pc := 115) (tb_at tkX1_suits 61 rfl) (by decide) ?_
    exact Ok.forget h (And.intro rfl (And.intro rfl (And.intro rfl (And.intro rfl trivial))))
  · replace h := h.2 c
    refine r_aload_n (pc := 28) (tb_at tkX1_suits 14 rfl) rfl rfl ?_
    refine r_iload_n (pc := 29) (tb_at tkX1_suits 15 rfl) rfl rfl ?_
    refine r_bipush (pc := 30) (tb_at tkX1_suits 16 rfl) ⟨by decide, by decide, by decide⟩ ?_
    refine r_imul (pc := 32) (tb_at tkX1_suits 17 rfl) ?_
    refine r_iload (pc := 33) (tb_at tkX1_suits 18 rfl) rfl ?_
    refine r_iadd_l (pc := 35) (tb_at tkX1_suits 19 rfl) ?_
    refine r_iald_w (pc := 36) (tb_at tkX1_suits 20 rfl) (lyMk hm) (by decide) h.1.1 h.1.2 ?_
    replace h := h.2
    refine r_istore (L' := [some (.inr (.inr (some t))), some (.inl v1), some (.inr (.inr (some mk))), some (.inl v3), some (.inl v4), some (.inl (M mk ((v3 * 7) + v4).toNat)), none, none]) (pc := 37) (tb_at tkX1_suits 21 rfl) (by decide) rfl ?_
    refine r_iload (pc := 39) (tb_at tkX1_suits 22 rfl) rfl ?_
    refine q_if_ne (tgt := 47) (pc := 41) (tb_at tkX1_suits 23 rfl) (by decide) (fun c => ?_) (fun c => ?_)
    · replace h := h.1 c
      refine r_aload_n (pc := 47) (tb_at tkX1_suits 25 rfl) rfl rfl ?_
      refine r_get 1 1 (pc := 48) (tb_at tkX1_suits 26 rfl) (lyT0 ht) flX1_32 rfl ?_
      refine r_iload_n (pc := 51) (tb_at tkX1_suits 27 rfl) rfl rfl ?_
      refine r_iload_n (pc := 52) (tb_at tkX1_suits 28 rfl) rfl rfl ?_
      refine r_iload (pc := 53) (tb_at tkX1_suits 29 rfl) rfl ?_
      refine r_invV (mc' := 0) (ms' := 0) [.inl v1, .inl v3, .inl v4] (S := []) (pc := 55) (tb_at tkX1_suits 30 rfl) rfl ly_19 rfl rfl clX1_66 (Nat.le_of_ble_eq_true rfl) (Nat.le_refl _) (Nat.le_refl _) ?_
      refine Cal.mono h ?_
      rintro _ _ M1 ⟨x2, rfl, rfl, h⟩
      show OkI G miX1_suits (d + 1) K 58 [some (.inr (.inr (some t))), some (.inl v1), some (.inr (.inr (some mk))), some (.inl v3), some (.inl v4), some (.inl (M mk ((v3 * 7) + v4).toNat)), none, none] [.inl x2] M1
      refine r_istore (L' := [some (.inr (.inr (some t))), some (.inl v1), some (.inr (.inr (some mk))), some (.inl v3), some (.inl v4), some (.inl (M mk ((v3 * 7) + v4).toNat)), some (.inl x2), none]) (pc := 58) (tb_at tkX1_suits 31 rfl) (by decide) rfl ?_
      refine r_iload_n (pc := 60) (tb_at tkX1_suits 32 rfl) rfl rfl ?_
      refine r_iconst (pc := 61) (tb_at tkX1_suits 33 rfl) ⟨by decide, by decide⟩ ?_
      refine r_iload_n (pc := 62) (tb_at tkX1_suits 34 rfl) rfl rfl ?_
      refine r_ishl (pc := 63) (tb_at tkX1_suits 35 rfl) ?_
      refine r_iconst (pc := 64) (tb_at tkX1_suits 36 rfl) ⟨by decide, by decide⟩ ?_
      refine r_iload (pc := 65) (tb_at tkX1_suits 37 rfl) rfl ?_
      refine r_ishl (pc := 67) (tb_at tkX1_suits 38 rfl) ?_
      refine r_ior (pc := 68) (tb_at tkX1_suits 39 rfl) ?_
      refine r_iand (pc := 69) (tb_at tkX1_suits 40 rfl) ?_
      have hJ3 : ∀ t0 : Int, t0 = (if ¬ ((iand v1 (ior (ishl 1 v3) (ishl 1 v4))) = 0) then (1 : Int) else 0) → OkI G miX1_suits (d + 1) K 78 [some (.inr (.inr (some t))), some (.inl v1), some (.inr (.inr (some mk))), some (.inl v3), some (.inl v4), some (.inl (M mk ((v3 * 7) + v4).toNat)), some (.inl x2), none] [.inl t0] M1 := by
        rintro _ rfl
        refine r_istore (L' := [some (.inr (.inr (some t))), some (.inl v1), some (.inr (.inr (some mk))), some (.inl v3), some (.inl v4), some (.inl (M mk ((v3 * 7) + v4).toNat)), some (.inl x2), some (.inl (if ¬ ((iand v1 (ior (ishl 1 v3) (ishl 1 v4))) = 0) then (1 : Int) else 0))]) (pc := 78) (tb_at tkX1_suits 45 rfl) (by decide) rfl ?_
        refine r_iload (pc := 80) (tb_at tkX1_suits 46 rfl) rfl ?_
        refine r_iconst (pc := 82) (tb_at tkX1_suits 47 rfl) ⟨by decide, by decide⟩ ?_
        refine q_icmp_ne (tgt := 99) (pc := 83) (tb_at tkX1_suits 48 rfl) (by decide) (fun c => ?_) (fun c => ?_)
        · replace h := h.1 c
          refine r_iload (pc := 99) (tb_at tkX1_suits 54 rfl) rfl ?_
          refine q_if_eq (tgt := 106) (pc := 101) (tb_at tkX1_suits 55 rfl) (by decide) (fun c => ?_) (fun c => ?_)
          · replace h := h.1 c
            refine r_iinc (L' := [some (.inr (.inr (some t))), some (.inl v1), some (.inr (.inr (some mk))), some (.inl v3), some (.inl (w32 (v4 + 1))), some (.inl (M mk ((v3 * 7) + v4).toNat)), some (.inl x2), some (.inl (if ¬ ((iand v1 (ior (ishl 1 v3) (ishl 1 v4))) = 0) then (1 : Int) else 0))]) (pc := 106) (tb_at tkX1_suits 58 rfl) rfl (by decide) rfl ?_
            refine r_goto (tgt := 16) (pc := 109) (tb_at tkX1_suits 59 rfl) (by decide) ?_
            exact Ok.forget h (And.intro rfl (And.intro rfl (And.intro rfl (And.intro rfl (And.intro rfl trivial)))))
          · replace h := h.2 c
            refine r_iconst (pc := 104) (tb_at tkX1_suits 56 rfl) ⟨by decide, by decide⟩ ?_
            exact r_zret (pc := 105) (tb_at tkX1_suits 57 rfl) rfl (by decide) (Nat.le_refl _) (Nat.le_refl _) ⟨_, rfl, rfl, h⟩
        · replace h := h.2 c
          refine r_iload (pc := 86) (tb_at tkX1_suits 49 rfl) rfl ?_
          refine q_nbif_eq (tgt := 106) (pc := 88) (tb_at tkX1_suits 50 rfl) (by decide) (fun c => ?_) (fun c => ?_)
          · replace h := h.1 c
            refine r_iinc (L' := [some (.inr (.inr (some t))), some (.inl v1), some (.inr (.inr (some mk))), some (.inl v3), some (.inl (w32 (v4 + 1))), some (.inl (M mk ((v3 * 7) + v4).toNat)), some (.inl x2), some (.inl (if ¬ ((iand v1 (ior (ishl 1 v3) (ishl 1 v4))) = 0) then (1 : Int) else 0))]) (pc := 106) (tb_at tkX1_suits 58 rfl) rfl (by decide) rfl ?_
            refine r_goto (tgt := 16) (pc := 109) (tb_at tkX1_suits 59 rfl) (by decide) ?_
            exact Ok.forget h (And.intro rfl (And.intro rfl (And.intro rfl (And.intro rfl (And.intro rfl trivial)))))
          · replace h := h.2 c
            refine r_iload (pc := 91) (tb_at tkX1_suits 51 rfl) rfl ?_
            refine q_if_ne (tgt := 106) (pc := 93) (tb_at tkX1_suits 52 rfl) (by decide) (fun c => ?_) (fun c => ?_)
            · replace h := h.1 c
              refine r_iinc (L' := [some (.inr (.inr (some t))), some (.inl v1), some (.inr (.inr (some mk))), some (.inl v3), some (.inl (w32 (v4 + 1))), some (.inl (M mk ((v3 * 7) + v4).toNat)), some (.inl x2), some (.inl (if ¬ ((iand v1 (ior (ishl 1 v3) (ishl 1 v4))) = 0) then (1 : Int) else 0))]) (pc := 106) (tb_at tkX1_suits 58 rfl) rfl (by decide) rfl ?_
              refine r_goto (tgt := 16) (pc := 109) (tb_at tkX1_suits 59 rfl) (by decide) ?_
              exact Ok.forget h (And.intro rfl (And.intro rfl (And.intro rfl (And.intro rfl (And.intro rfl trivial)))))
            · replace h := h.2 c
              refine r_goto (tgt := 104) (pc := 96) (tb_at tkX1_suits 53 rfl) (by decide) ?_
              refine r_iconst (pc := 104) (tb_at tkX1_suits 56 rfl) ⟨by decide, by decide⟩ ?_
              exact r_zret (pc := 105) (tb_at tkX1_suits 57 rfl) rfl (by decide) (Nat.le_refl _) (Nat.le_refl _) ⟨_, rfl, rfl, h⟩
      refine q_if_eq (tgt := 77) (pc := 70) (tb_at tkX1_suits 41 rfl) (by decide) (fun c4 => ?_) (fun c4 => ?_)
      · refine r_iconst (pc := 77) (tb_at tkX1_suits 44 rfl) ⟨by decide, by decide⟩ ?_
        exact hJ3 _ (by simp only [if_neg (not_not_intro c4)])
      · refine r_iconst (pc := 73) (tb_at tkX1_suits 42 rfl) ⟨by decide, by decide⟩ ?_
        refine r_goto (tgt := 78) (pc := 74) (tb_at tkX1_suits 43 rfl) (by decide) ?_
        exact hJ3 _ (by simp only [if_pos c4])
    · replace h := h.2 c
      refine r_goto (tgt := 106) (pc := 44) (tb_at tkX1_suits 24 rfl) (by decide) ?_
      refine r_iinc (L' := [some (.inr (.inr (some t))), some (.inl v1), some (.inr (.inr (some mk))), some (.inl v3), some (.inl (w32 (v4 + 1))), some (.inl (M mk ((v3 * 7) + v4).toNat)), none, none]) (pc := 106) (tb_at tkX1_suits 58 rfl) rfl (by decide) rfl ?_
      refine r_goto (tgt := 16) (pc := 109) (tb_at tkX1_suits 59 rfl) (by decide) ?_
      exact Ok.forget h (And.intro rfl (And.intro rfl (And.intro rfl (And.intro rfl (And.intro rfl trivial)))))
set_option maxRecDepth 100000 in
set_option maxHeartbeats 4000000 in
theorem gX1_offer_0 {G : GE} {d : Nat} {K : Mem → Prop} {M : Mem} {v1 : Int} {t : Nat} (ht : t = 28 ∨ t = 39) (h : OkV G miX1_offer (d + 1) K 12 [some (.inr (.inr (some t))), some (.inl v1), some (.inl (M 8 3)), some (.inl v1), none] [] M) : OkV G miX1_offer (d + 1) K 0 [some (.inr (.inr (some t))), some (.inl v1), none, none, none] [] M := by
  refine r_aload_n (pc := 0) (tb_at tkX1_offer 0 rfl) rfl rfl ?_
  refine r_get 1 0 (pc := 1) (tb_at tkX1_offer 1 rfl) (lyT0 ht) flX1_28 rfl ?_
  refine r_get 5 6 (pc := 4) (tb_at tkX1_offer 2 rfl) ly_1 flX1_70 rfl ?_
  refine r_iconst (pc := 7) (tb_at tkX1_offer 3 rfl) ⟨by decide, by decide⟩ ?_
  refine r_iald_k (k0 := 3) (pc := 8) (tb_at tkX1_offer 4 rfl) ly_8 rfl (by decide) (by decide) ?_
  refine r_istore_n (L' := [some (.inr (.inr (some t))), some (.inl v1), some (.inl (M 8 3)), none, none]) (pc := 9) (tb_at tkX1_offer 5 rfl) rfl (by decide) rfl ?_
  refine r_iload_n (pc := 10) (tb_at tkX1_offer 6 rfl) rfl rfl ?_
  refine r_istore_n (L' := [some (.inr (.inr (some t))), some (.inl v1), some (.inl (M 8 3)), some (.inl v1), none]) (pc := 11) (tb_at tkX1_offer 7 rfl) rfl (by decide) rfl ?_
  exact h
set_option maxRecDepth 100000 in
set_option maxHeartbeats 4000000 in
theorem gX1_offer_12 {G : GE} {d : Nat} {K : Mem → Prop} {M : Mem} {v1 v2 v3 : Int} {t : Nat} (ht : t = 28 ∨ t = 39) (h : ((v3 ≤ 0 → K M) ∧ (0 < v3 → (0 ≤ v1 ∧ v1 < 128) ∧ CalI G miJ6_bitCount_0f7a4 d [.inl (iand v1 (ixor v3 (-1)))] M (fun x2 M1 => (0 ≤ v3 ∧ v3 < 128) ∧ (((M1 (t + 2) (v3).toNat) = (-1) → OkV G miX1_offer (d + 1) K 59 [some (.inr (.inr (some t))), some (.inl v1), some (.inl v2), some (.inl v3), some (.inl (w32 ((M 24 (v1).toNat) + (v2 * x2))))] [] M1) ∧ (¬ (M1 (t + 2) (v3).toNat) = (-1) → (0 ≤ v3 ∧ v3 < 128) ∧ (((M1 (t + 2) (v3).toNat) ≤ (w32 ((M 24 (v1).toNat) + (v2 * x2))) → OkV G miX1_offer (d + 1) K 12 [some (.inr (.inr (some t))), some (.inl v1), some (.inl v2), some (.inl (iand (w32 (v3 - 1)) v1)), none] [] M1) ∧ ((w32 ((M 24 (v1).toNat) + (v2 * x2))) < (M1 (t + 2) (v3).toNat) → OkV G miX1_offer (d + 1) K 59 [some (.inr (.inr (some t))), some (.inl v1), some (.inl v2), some (.inl v3), some (.inl (w32 ((M 24 (v1).toNat) + (v2 * x2))))] [] M1)))))))) : OkV G miX1_offer (d + 1) K 12 [some (.inr (.inr (some t))), some (.inl v1), some (.inl v2), some (.inl v3), none] [] M := by
  refine r_iload_n (pc := 12) (tb_at tkX1_offer 8 rfl) rfl rfl ?_
  refine q_if_le (tgt := 83) (pc := 13) (tb_at tkX1_offer 9 rfl) (by decide) (fun c => ?_) (fun c => ?_)
  · replace h := h.1 c
    exact r_vret (pc := 83) (tb_at tkX1_offer 54 rfl) rfl (Nat.le_refl _) (Nat.le_refl _) ⟨rfl, rfl, h⟩
  · replace h := h.2 c
    refine r_aload_n (pc := 16) (tb_at tkX1_offer 10 rfl) rfl rfl ?_
    refine r_get 1 1 (pc := 17) (tb_at tkX1_offer 11 rfl) (lyT0 ht) flX1_32 rfl ?_
    refine r_get 4 5 (pc := 20) (tb_at tkX1_offer 12 rfl) ly_19 flX1_48 rfl ?_
    refine r_iload_n (pc := 23) (tb_at tkX1_offer 13 rfl) rfl rfl ?_
    refine r_iald (pc := 24) (tb_at tkX1_offer 14 rfl) ly_24 h.1.1 h.1.2 ?_
    replace h := h.2
    refine r_iload_n (pc := 25) (tb_at tkX1_offer 15 rfl) rfl rfl ?_
    refine r_iload_n (pc := 26) (tb_at tkX1_offer 16 rfl) rfl rfl ?_
    refine r_iload_n (pc := 27) (tb_at tkX1_offer 17 rfl) rfl rfl ?_
    refine r_iconst (pc := 28) (tb_at tkX1_offer 18 rfl) ⟨by decide, by decide⟩ ?_
    refine r_ixor (pc := 29) (tb_at tkX1_offer 19 rfl) ?_
    refine r_iand (pc := 30) (tb_at tkX1_offer 20 rfl) ?_
    refine r_invS (mc' := 0) (ms' := 0) [.inl (iand v1 (ixor v3 (-1)))] (S := [.inl v2, .inl (M 24 (v1).toNat)]) (pc := 31) (tb_at tkX1_offer 21 rfl) rfl clX1_73 (Nat.le_of_ble_eq_true rfl) (Nat.le_refl _) (Nat.le_refl _) ?_
    refine Cal.mono h ?_
    rintro _ _ M1 ⟨x2, rfl, rfl, h⟩
    show OkV G miX1_offer (d + 1) K 34 [some (.inr (.inr (some t))), some (.inl v1), some (.inl v2), some (.inl v3), none] [.inl x2, .inl v2, .inl (M 24 (v1).toNat)] M1
    refine r_imul (pc := 34) (tb_at tkX1_offer 22 rfl) ?_
    refine r_iadd_r (pc := 35) (tb_at tkX1_offer 23 rfl) ?_
    refine r_istore (L' := [some (.inr (.inr (some t))), some (.inl v1), some (.inl v2), some (.inl v3), some (.inl (w32 ((M 24 (v1).toNat) + (v2 * x2))))]) (pc := 36) (tb_at tkX1_offer 24 rfl) (by decide) rfl ?_
    refine r_aload_n (pc := 38) (tb_at tkX1_offer 25 rfl) rfl rfl ?_
    refine r_get 1 3 (pc := 39) (tb_at tkX1_offer 26 rfl) (lyT0 ht) flX1_15 rfl ?_
    refine r_iload_n (pc := 42) (tb_at tkX1_offer 27 rfl) rfl rfl ?_
    refine r_iald (pc := 43) (tb_at tkX1_offer 28 rfl) (lyT2 ht) h.1.1 h.1.2 ?_
    replace h := h.2
    refine r_iconst (pc := 44) (tb_at tkX1_offer 29 rfl) ⟨by decide, by decide⟩ ?_
    refine q_icmp_eq (tgt := 59) (pc := 45) (tb_at tkX1_offer 30 rfl) (by decide) (fun c => ?_) (fun c => ?_)
    · replace h := h.1 c
      exact h
    · replace h := h.2 c
      refine r_iload (pc := 48) (tb_at tkX1_offer 31 rfl) rfl ?_
      refine r_aload_n (pc := 50) (tb_at tkX1_offer 32 rfl) rfl rfl ?_
      refine r_get 1 3 (pc := 51) (tb_at tkX1_offer 33 rfl) (lyT0 ht) flX1_15 rfl ?_
      refine r_iload_n (pc := 54) (tb_at tkX1_offer 34 rfl) rfl rfl ?_
      refine r_iald (pc := 55) (tb_at tkX1_offer 35 rfl) (lyT2 ht) h.1.1 h.1.2 ?_
      replace h := h.2
      refine q_icmp_ge (tgt := 74) (pc := 56) (tb_at tkX1_offer 36 rfl) (by decide) (fun c => ?_) (fun c => ?_)
      · replace h := h.1 c
        refine r_iload_n (pc := 74) (tb_at tkX1_offer 47 rfl) rfl rfl ?_
        refine r_iconst (pc := 75) (tb_at tkX1_offer 48 rfl) ⟨by decide, by decide⟩ ?_
        refine r_isub (pc := 76) (tb_at tkX1_offer 49 rfl) ?_
        refine r_iload_n (pc := 77) (tb_at tkX1_offer 50 rfl) rfl rfl ?_
        refine r_iand (pc := 78) (tb_at tkX1_offer 51 rfl) ?_
        refine r_istore_n (L' := [some (.inr (.inr (some t))), some (.inl v1), some (.inl v2), some (.inl (iand (w32 (v3 - 1)) v1)), some (.inl (w32 ((M 24 (v1).toNat) + (v2 * x2))))]) (pc := 79) (tb_at tkX1_offer 52 rfl) rfl (by decide) rfl ?_
        refine r_goto (tgt := 12) (pc := 80) (tb_at tkX1_offer 53 rfl) (by decide) ?_
        exact Ok.forget h (And.intro rfl (And.intro rfl (And.intro rfl (And.intro rfl trivial))))
      · replace h := h.2 c
        exact h
set_option maxRecDepth 100000 in
set_option maxHeartbeats 4000000 in
theorem gX1_offer_59 {G : GE} {d : Nat} {K : Mem → Prop} {M : Mem} {v1 v2 v3 v4 : Int} {t : Nat} (ht : t = 28 ∨ t = 39) (h : (0 ≤ v3 ∧ v3 < 128) ∧ (0 ≤ v3 ∧ v3 < 128) ∧ OkV G miX1_offer (d + 1) K 12 [some (.inr (.inr (some t))), some (.inl v1), some (.inl v2), some (.inl (iand (w32 (v3 - 1)) v1)), none] [] (mup (mup M (t + 2) (v3).toNat v4) (t + 3) (v3).toNat v1)) : OkV G miX1_offer (d + 1) K 59 [some (.inr (.inr (some t))), some (.inl v1), some (.inl v2), some (.inl v3), some (.inl v4)] [] M := by
  refine r_aload_n (pc := 59) (tb_at tkX1_offer 37 rfl) rfl rfl ?_
  refine r_get 1 3 (pc := 60) (tb_at tkX1_offer 38 rfl) (lyT0 ht) flX1_15 rfl ?_
  refine r_iload_n (pc := 63) (tb_at tkX1_offer 39 rfl) rfl rfl ?_
  refine r_iload (pc := 64) (tb_at tkX1_offer 40 rfl) rfl ?_
  refine r_iast (pc := 66) (tb_at tkX1_offer 41 rfl) (lyT2 ht) h.1.1 h.1.2 rfl ?_
  replace h := h.2
  refine r_aload_n (pc := 67) (tb_at tkX1_offer 42 rfl) rfl rfl ?_
  refine r_get 1 4 (pc := 68) (tb_at tkX1_offer 43 rfl) (lyT0 ht) flX1_19 rfl ?_
  refine r_iload_n (pc := 71) (tb_at tkX1_offer 44 rfl) rfl rfl ?_
  refine r_iload_n (pc := 72) (tb_at tkX1_offer 45 rfl) rfl rfl ?_
  refine r_iast (pc := 73) (tb_at tkX1_offer 46 rfl) (lyT3 ht) h.1.1 h.1.2 rfl ?_
  replace h := h.2
  refine r_iload_n (pc := 74) (tb_at tkX1_offer 47 rfl) rfl rfl ?_
  refine r_iconst (pc := 75) (tb_at tkX1_offer 48 rfl) ⟨by decide, by decide⟩ ?_
  refine r_isub (pc := 76) (tb_at tkX1_offer 49 rfl) ?_
  refine r_iload_n (pc := 77) (tb_at tkX1_offer 50 rfl) rfl rfl ?_
  refine r_iand (pc := 78) (tb_at tkX1_offer 51 rfl) ?_
  refine r_istore_n (L' := [some (.inr (.inr (some t))), some (.inl v1), some (.inl v2), some (.inl (iand (w32 (v3 - 1)) v1)), some (.inl v4)]) (pc := 79) (tb_at tkX1_offer 52 rfl) rfl (by decide) rfl ?_
  refine r_goto (tgt := 12) (pc := 80) (tb_at tkX1_offer 53 rfl) (by decide) ?_
  exact Ok.forget h (And.intro rfl (And.intro rfl (And.intro rfl (And.intro rfl trivial))))
set_option maxRecDepth 100000 in
set_option maxHeartbeats 4000000 in
theorem gX1_choose_0 {G : GE} {d : Nat} {K : Mem → Prop} {M : Mem} {v1 : Int} {t : Nat} (ht : t = 28 ∨ t = 39) (h : (0 ≤ v1 ∧ v1 < 128) ∧ (0 ≤ v1 ∧ v1 < 128) ∧ OkV G miX1_choose d K 28 [some (.inr (.inr (some t))), some (.inl v1), some (.inl (iand v1 (w32 (-v1)))), some (.inl (iand v1 (ixor (iand v1 (w32 (-v1))) (-1)))), some (.inl (iand v1 (ixor (iand v1 (w32 (-v1))) (-1)))), none, none, none] [] (mup (mup M (t + 5) (v1).toNat (-1)) (t + 4) (v1).toNat 0)) : OkV G miX1_choose d K 0 [some (.inr (.inr (some t))), some (.inl v1), none, none, none, none, none, none] [] M := by
  refine r_aload_n (pc := 0) (tb_at tkX1_choose 0 rfl) rfl rfl ?_
  refine r_get 1 6 (pc := 1) (tb_at tkX1_choose 1 rfl) (lyT0 ht) flX1_25 rfl ?_
  refine r_iload_n (pc := 4) (tb_at tkX1_choose 2 rfl) rfl rfl ?_
  refine r_iconst (pc := 5) (tb_at tkX1_choose 3 rfl) ⟨by decide, by decide⟩ ?_
  refine r_iast (pc := 6) (tb_at tkX1_choose 4 rfl) (lyT5 ht) h.1.1 h.1.2 rfl ?_
  replace h := h.2
  refine r_aload_n (pc := 7) (tb_at tkX1_choose 5 rfl) rfl rfl ?_
  refine r_get 1 5 (pc := 8) (tb_at tkX1_choose 6 rfl) (lyT0 ht) flX1_22 rfl ?_
  refine r_iload_n (pc := 11) (tb_at tkX1_choose 7 rfl) rfl rfl ?_
  refine r_iconst (pc := 12) (tb_at tkX1_choose 8 rfl) ⟨by decide, by decide⟩ ?_
  refine r_iast (pc := 13) (tb_at tkX1_choose 9 rfl) (lyT4 ht) h.1.1 h.1.2 rfl ?_
  replace h := h.2
  refine r_iload_n (pc := 14) (tb_at tkX1_choose 10 rfl) rfl rfl ?_
  refine r_iload_n (pc := 15) (tb_at tkX1_choose 11 rfl) rfl rfl ?_
  refine r_ineg (pc := 16) (tb_at tkX1_choose 12 rfl) ?_
  refine r_iand (pc := 17) (tb_at tkX1_choose 13 rfl) ?_
  refine r_istore_n (L' := [some (.inr (.inr (some t))), some (.inl v1), some (.inl (iand v1 (w32 (-v1)))), none, none, none, none, none]) (pc := 18) (tb_at tkX1_choose 14 rfl) rfl (by decide) rfl ?_
  refine r_iload_n (pc := 19) (tb_at tkX1_choose 15 rfl) rfl rfl ?_
  refine r_iload_n (pc := 20) (tb_at tkX1_choose 16 rfl) rfl rfl ?_
  refine r_iconst (pc := 21) (tb_at tkX1_choose 17 rfl) ⟨by decide, by decide⟩ ?_
  refine r_ixor (pc := 22) (tb_at tkX1_choose 18 rfl) ?_
  refine r_iand (pc := 23) (tb_at tkX1_choose 19 rfl) ?_
  refine r_istore_n (L' := [some (.inr (.inr (some t))), some (.inl v1), some (.inl (iand v1 (w32 (-v1)))), some (.inl (iand v1 (ixor (iand v1 (w32 (-v1))) (-1)))), none, none, none, none]) (pc := 24) (tb_at tkX1_choose 20 rfl) rfl (by decide) rfl ?_
  refine r_iload_n (pc := 25) (tb_at tkX1_choose 21 rfl) rfl rfl ?_
  refine r_istore (L' := [some (.inr (.inr (some t))), some (.inl v1), some (.inl (iand v1 (w32 (-v1)))), some (.inl (iand v1 (ixor (iand v1 (w32 (-v1))) (-1)))), some (.inl (iand v1 (ixor (iand v1 (w32 (-v1))) (-1)))), none, none, none]) (pc := 26) (tb_at tkX1_choose 22 rfl) (by decide) rfl ?_
  exact h
set_option maxRecDepth 100000 in
set_option maxHeartbeats 4000000 in
theorem gX1_choose_28 {G : GE} {d : Nat} {K : Mem → Prop} {M : Mem} {v1 v2 v3 v4 : Int} {t : Nat} (ht : t = 28 ∨ t = 39) (h : ((v4 < 0 → K M) ∧ (0 ≤ v4 → (0 ≤ iand v3 (ixor v4 (-1)) ∧ iand v3 (ixor v4 (-1)) < 128) ∧ (0 ≤ ior v2 v4 ∧ ior v2 v4 < 128) ∧ (((M (t + 2) (ior v2 v4).toNat) = (-1) → OkV G miX1_choose d K 121 [some (.inr (.inr (some t))), some (.inl v1), some (.inl v2), some (.inl v3), some (.inl v4), none, none, none] [] M) ∧ (¬ (M (t + 2) (ior v2 v4).toNat) = (-1) → ((¬ (M (t + 5) (iand v3 (ixor v4 (-1))).toNat) = (-1) → (0 ≤ ior v2 v4 ∧ ior v2 v4 < 128) ∧ (0 ≤ v1 ∧ v1 < 128) ∧ (((M (t + 5) (v1).toNat) = (-1) → OkV G miX1_choose d K 105 [some (.inr (.inr (some t))), some (.inl v1), some (.inl v2), some (.inl v3), some (.inl v4), some (.inl (ior v2 v4)), none, some (.inl (w32 ((M (t + 2) (ior v2 v4).toNat) + (M (t + 5) (iand v3 (ixor v4 (-1))).toNat))))] [] M) ∧ (¬ (M (t + 5) (v1).toNat) = (-1) → (0 ≤ v1 ∧ v1 < 128) ∧ (((M (t + 5) (v1).toNat) < (w32 ((M (t + 2) (ior v2 v4).toNat) + (M (t + 5) (iand v3 (ixor v4 (-1))).toNat))) → OkV G miX1_choose d K 121 [some (.inr (.inr (some t))), some (.inl v1), some (.inl v2), some (.inl v3), some (.inl v4), none, none, none] [] M) ∧ ((w32 ((M (t + 2) (ior v2 v4).toNat) + (M (t + 5) (iand v3 (ixor v4 (-1))).toNat))) ≤ (M (t + 5) (v1).toNat) → OkV G miX1_choose d K 105 [some (.inr (.inr (some t))), some (.inl v1), some (.inl v2), some (.inl v3), some (.inl v4), some (.inl (ior v2 v4)), none, some (.inl (w32 ((M (t + 2) (ior v2 v4).toNat) + (M (t + 5) (iand v3 (ixor v4 (-1))).toNat))))] [] M))))) ∧ ((M (t + 5) (iand v3 (ixor v4 (-1))).toNat) = (-1) → OkV G miX1_choose d K 121 [some (.inr (.inr (some t))), some (.inl v1), some (.inl v2), some (.inl v3), some (.inl v4), none, none, none] [] M))))))) : OkV G miX1_choose d K 28 [some (.inr (.inr (some t))), some (.inl v1), some (.inl v2), some (.inl v3), some (.inl v4), none, none, none] [] M := by
  refine r_iload (pc := 28) (tb_at tkX1_choose 23 rfl) rfl ?_
  refine q_if_lt (tgt := 141) (pc := 30) (tb_at tkX1_choose 24 rfl) (by decide) (fun c => ?_) (fun c => ?_)
  · replace h := h.1 c
    exact r_vret (pc := 141) (tb_at tkX1_choose 88 rfl) rfl (Nat.le_refl _) (Nat.le_refl _) ⟨rfl, rfl, h⟩
  · replace h := h.2 c
    refine r_iload_n (pc := 33) (tb_at tkX1_choose 25 rfl) rfl rfl ?_
    refine r_iload (pc := 34) (tb_at tkX1_choose 26 rfl) rfl ?_
    refine r_ior (pc := 36) (tb_at tkX1_choose 27 rfl) ?_
    refine r_istore (L' := [some (.inr (.inr (some t))), some (.inl v1), some (.inl v2), some (.inl v3), some (.inl v4), some (.inl (ior v2 v4)), none, none]) (pc := 37) (tb_at tkX1_choose 28 rfl) (by decide) rfl ?_
    refine r_aload_n (pc := 39) (tb_at tkX1_choose 29 rfl) rfl rfl ?_
    refine r_get 1 6 (pc := 40) (tb_at tkX1_choose 30 rfl) (lyT0 ht) flX1_25 rfl ?_
    refine r_iload_n (pc := 43) (tb_at tkX1_choose 31 rfl) rfl rfl ?_
    refine r_iload (pc := 44) (tb_at tkX1_choose 32 rfl) rfl ?_
    refine r_iconst (pc := 46) (tb_at tkX1_choose 33 rfl) ⟨by decide, by decide⟩ ?_
    refine r_ixor (pc := 47) (tb_at tkX1_choose 34 rfl) ?_
    refine r_iand (pc := 48) (tb_at tkX1_choose 35 rfl) ?_
    refine r_iald (pc := 49) (tb_at tkX1_choose 36 rfl) (lyT5 ht) h.1.1 h.1.2 ?_
    replace h := h.2
    refine r_istore (L' := [some (.inr (.inr (some t))), some (.inl v1), some (.inl v2), some (.inl v3), some (.inl v4), some (.inl (ior v2 v4)), some (.inl (M (t + 5) (iand v3 (ixor v4 (-1))).toNat)), none]) (pc := 50) (tb_at tkX1_choose 37 rfl) (by decide) rfl ?_
    refine r_aload_n (pc := 52) (tb_at tkX1_choose 38 rfl) rfl rfl ?_
    refine r_get 1 3 (pc := 53) (tb_at tkX1_choose 39 rfl) (lyT0 ht) flX1_15 rfl ?_
    refine r_iload (pc := 56) (tb_at tkX1_choose 40 rfl) rfl ?_
    refine r_iald (pc := 58) (tb_at tkX1_choose 41 rfl) (lyT2 ht) h.1.1 h.1.2 ?_
    replace h := h.2
    refine r_iconst (pc := 59) (tb_at tkX1_choose 42 rfl) ⟨by decide, by decide⟩ ?_
    refine q_icmp_eq (tgt := 121) (pc := 60) (tb_at tkX1_choose 43 rfl) (by decide) (fun c => ?_) (fun c => ?_)
    · replace h := h.1 c
      exact Ok.forget h (And.intro rfl (And.intro rfl (And.intro rfl (And.intro rfl (And.intro rfl trivial)))))
    · replace h := h.2 c
      refine r_iload (pc := 63) (tb_at tkX1_choose 44 rfl) rfl ?_
      refine r_iconst (pc := 65) (tb_at tkX1_choose 45 rfl) ⟨by decide, by decide⟩ ?_
      refine q_icmp_ne (tgt := 72) (pc := 66) (tb_at tkX1_choose 46 rfl) (by decide) (fun c => ?_) (fun c => ?_)
      · replace h := h.1 c
        refine r_aload_n (pc := 72) (tb_at tkX1_choose 48 rfl) rfl rfl ?_
        refine r_get 1 3 (pc := 73) (tb_at tkX1_choose 49 rfl) (lyT0 ht) flX1_15 rfl ?_
        refine r_iload (pc := 76) (tb_at tkX1_choose 50 rfl) rfl ?_
        refine r_iald (pc := 78) (tb_at tkX1_choose 51 rfl) (lyT2 ht) h.1.1 h.1.2 ?_
        replace h := h.2
        refine r_iload (pc := 79) (tb_at tkX1_choose 52 rfl) rfl ?_
        refine r_iadd (pc := 81) (tb_at tkX1_choose 53 rfl) ?_
        refine r_istore (L' := [some (.inr (.inr (some t))), some (.inl v1), some (.inl v2), some (.inl v3), some (.inl v4), some (.inl (ior v2 v4)), some (.inl (M (t + 5) (iand v3 (ixor v4 (-1))).toNat)), some (.inl (w32 ((M (t + 2) (ior v2 v4).toNat) + (M (t + 5) (iand v3 (ixor v4 (-1))).toNat))))]) (pc := 82) (tb_at tkX1_choose 54 rfl) (by decide) rfl ?_
        refine r_aload_n (pc := 84) (tb_at tkX1_choose 55 rfl) rfl rfl ?_
        refine r_get 1 6 (pc := 85) (tb_at tkX1_choose 56 rfl) (lyT0 ht) flX1_25 rfl ?_
        refine r_iload_n (pc := 88) (tb_at tkX1_choose 57 rfl) rfl rfl ?_
        refine r_iald (pc := 89) (tb_at tkX1_choose 58 rfl) (lyT5 ht) h.1.1 h.1.2 ?_
        replace h := h.2
        refine r_iconst (pc := 90) (tb_at tkX1_choose 59 rfl) ⟨by decide, by decide⟩ ?_
        refine q_icmp_eq (tgt := 105) (pc := 91) (tb_at tkX1_choose 60 rfl) (by decide) (fun c => ?_) (fun c => ?_)
        · replace h := h.1 c
          exact Ok.forget h (And.intro rfl (And.intro rfl (And.intro rfl (And.intro rfl (And.intro rfl (And.intro rfl (And.intro rfl trivial)))))))
        · replace h := h.2 c
          refine r_iload (pc := 94) (tb_at tkX1_choose 61 rfl) rfl ?_
          refine r_aload_n (pc := 96) (tb_at tkX1_choose 62 rfl) rfl rfl ?_
          refine r_get 1 6 (pc := 97) (tb_at tkX1_choose 63 rfl) (lyT0 ht) flX1_25 rfl ?_
          refine r_iload_n (pc := 100) (tb_at tkX1_choose 64 rfl) rfl rfl ?_
          refine r_iald (pc := 101) (tb_at tkX1_choose 65 rfl) (lyT5 ht) h.1.1 h.1.2 ?_
          replace h := h.2
          refine q_icmp_gt (tgt := 121) (pc := 102) (tb_at tkX1_choose 66 rfl) (by decide) (fun c => ?_) (fun c => ?_)
          · replace h := h.1 c
            exact Ok.forget h (And.intro rfl (And.intro rfl (And.intro rfl (And.intro rfl (And.intro rfl trivial)))))
          · replace h := h.2 c
            exact Ok.forget h (And.intro rfl (And.intro rfl (And.intro rfl (And.intro rfl (And.intro rfl (And.intro rfl (And.intro rfl trivial)))))))
      · replace h := h.2 c
        refine r_goto (tgt := 121) (pc := 69) (tb_at tkX1_choose 47 rfl) (by decide) ?_
        exact Ok.forget h (And.intro rfl (And.intro rfl (And.intro rfl (And.intro rfl (And.intro rfl trivial)))))
set_option maxRecDepth 100000 in
set_option maxHeartbeats 4000000 in
theorem gX1_choose_121 {G : GE} {d : Nat} {K : Mem → Prop} {M : Mem} {v1 v2 v3 v4 : Int} {t : Nat} (ht : t = 28 ∨ t = 39) (h : OkV G miX1_choose d K 28 [some (.inr (.inr (some t))), some (.inl v1), some (.inl v2), some (.inl v3), some (.inl (if v4 = 0 then (-1 : Int) else iand (w32 (v4 - 1)) v3)), none, none, none] [] M) : OkV G miX1_choose d K 121 [some (.inr (.inr (some t))), some (.inl v1), some (.inl v2), some (.inl v3), some (.inl v4), none, none, none] [] M := by
  refine r_iload (pc := 121) (tb_at tkX1_choose 77 rfl) rfl ?_
  have hJ1 : ∀ t0 : Int, t0 = (if v4 = 0 then (-1 : Int) else iand (w32 (v4 - 1)) v3) → OkV G miX1_choose d K 136 [some (.inr (.inr (some t))), some (.inl v1), some (.inl v2), some (.inl v3), some (.inl v4), none, none, none] [.inl t0] M := by
    rintro _ rfl
    refine r_istore (L' := [some (.inr (.inr (some t))), some (.inl v1), some (.inl v2), some (.inl v3), some (.inl (if v4 = 0 then (-1 : Int) else iand (w32 (v4 - 1)) v3)), none, none, none]) (pc := 136) (tb_at tkX1_choose 86 rfl) (by decide) rfl ?_
    refine r_goto (tgt := 28) (pc := 138) (tb_at tkX1_choose 87 rfl) (by decide) ?_
    exact h
  refine q_if_ne (tgt := 130) (pc := 123) (tb_at tkX1_choose 78 rfl) (by decide) (fun c2 => ?_) (fun c2 => ?_)
  · refine r_iload (pc := 130) (tb_at tkX1_choose 81 rfl) rfl ?_
    refine r_iconst (pc := 132) (tb_at tkX1_choose 82 rfl) ⟨by decide, by decide⟩ ?_
    refine r_isub (pc := 133) (tb_at tkX1_choose 83 rfl) ?_
    refine r_iload_n (pc := 134) (tb_at tkX1_choose 84 rfl) rfl rfl ?_
    refine r_iand (pc := 135) (tb_at tkX1_choose 85 rfl) ?_
    exact hJ1 _ (by simp only [if_neg c2])
  · refine r_iconst (pc := 126) (tb_at tkX1_choose 79 rfl) ⟨by decide, by decide⟩ ?_
    refine r_goto (tgt := 136) (pc := 127) (tb_at tkX1_choose 80 rfl) (by decide) ?_
    exact hJ1 _ (by simp only [if_pos c2])
set_option maxRecDepth 100000 in
set_option maxHeartbeats 4000000 in
theorem gX1_choose_105 {G : GE} {d : Nat} {K : Mem → Prop} {M : Mem} {v1 v2 v3 v4 v5 v7 : Int} {t : Nat} (ht : t = 28 ∨ t = 39) (h : (0 ≤ v1 ∧ v1 < 128) ∧ (0 ≤ v1 ∧ v1 < 128) ∧ OkV G miX1_choose d K 121 [some (.inr (.inr (some t))), some (.inl v1), some (.inl v2), some (.inl v3), some (.inl v4), none, none, none] [] (mup (mup M (t + 5) (v1).toNat v7) (t + 4) (v1).toNat v5)) : OkV G miX1_choose d K 105 [some (.inr (.inr (some t))), some (.inl v1), some (.inl v2), some (.inl v3), some (.inl v4), some (.inl v5), none, some (.inl v7)] [] M := by
  refine r_aload_n (pc := 105) (tb_at tkX1_choose 67 rfl) rfl rfl ?_
  refine r_get 1 6 (pc := 106) (tb_at tkX1_choose 68 rfl) (lyT0 ht) flX1_25 rfl ?_
  refine r_iload_n (pc := 109) (tb_at tkX1_choose 69 rfl) rfl rfl ?_
  refine r_iload (pc := 110) (tb_at tkX1_choose 70 rfl) rfl ?_
  refine r_iast (pc := 112) (tb_at tkX1_choose 71 rfl) (lyT5 ht) h.1.1 h.1.2 rfl ?_
  replace h := h.2
  refine r_aload_n (pc := 113) (tb_at tkX1_choose 72 rfl) rfl rfl ?_
  refine r_get 1 5 (pc := 114) (tb_at tkX1_choose 73 rfl) (lyT0 ht) flX1_22 rfl ?_
  refine r_iload_n (pc := 117) (tb_at tkX1_choose 74 rfl) rfl rfl ?_
  refine r_iload (pc := 118) (tb_at tkX1_choose 75 rfl) rfl ?_
  refine r_iast (pc := 120) (tb_at tkX1_choose 76 rfl) (lyT4 ht) h.1.1 h.1.2 rfl ?_
  replace h := h.2
  exact Ok.forget h (And.intro rfl (And.intro rfl (And.intro rfl (And.intro rfl (And.intro rfl trivial)))))
set_option maxRecDepth 100000 in
set_option maxHeartbeats 4000000 in
theorem gX1_hasCover_0 {G : GE} {d : Nat} {K : Int → Mem → Prop} {M : Mem} {t : Nat} (ht : t = 28 ∨ t = 39) (h : CalI G miX1_leastTotal d [.inr (.inr (some t))] M (fun x2 M1 => ((x2 = (-1) → K 0 M1) ∧ (¬ x2 = (-1) → K 1 M1)))) : OkI G miX1_hasCover (d + 1) K 0 [some (.inr (.inr (some t)))] [] M := by
  refine r_aload_n (pc := 0) (tb_at tkX1_hasCover 0 rfl) rfl rfl ?_
  refine r_invV (mc' := 0) (ms' := 0) [] (S := []) (pc := 1) (tb_at tkX1_hasCover 1 rfl) rfl (lyT0 ht) rfl rfl clX1_79 (Nat.le_of_ble_eq_true rfl) (Nat.le_refl _) (Nat.le_refl _) ?_
  refine Cal.mono h ?_
  rintro _ _ M1 ⟨x2, rfl, rfl, h⟩
  show OkI G miX1_hasCover (d + 1) K 4 [some (.inr (.inr (some t)))] [.inl x2] M1
  refine r_iconst (pc := 4) (tb_at tkX1_hasCover 2 rfl) ⟨by decide, by decide⟩ ?_
  refine q_icmp_eq (tgt := 12) (pc := 5) (tb_at tkX1_hasCover 3 rfl) (by decide) (fun c => ?_) (fun c => ?_)
  · replace h := h.1 c
    refine r_iconst (pc := 12) (tb_at tkX1_hasCover 6 rfl) ⟨by decide, by decide⟩ ?_
    exact r_zret (pc := 13) (tb_at tkX1_hasCover 7 rfl) rfl (by decide) (Nat.le_refl _) (Nat.le_refl _) ⟨_, rfl, rfl, h⟩
  · replace h := h.2 c
    refine r_iconst (pc := 8) (tb_at tkX1_hasCover 4 rfl) ⟨by decide, by decide⟩ ?_
    refine r_goto (tgt := 13) (pc := 9) (tb_at tkX1_hasCover 5 rfl) (by decide) ?_
    exact r_zret (pc := 13) (tb_at tkX1_hasCover 7 rfl) rfl (by decide) (Nat.le_refl _) (Nat.le_refl _) ⟨_, rfl, rfl, h⟩
set_option maxRecDepth 100000 in
set_option maxHeartbeats 4000000 in
theorem gX1_leastTotal_0 {G : GE} {d : Nat} {K : Int → Mem → Prop} {M : Mem} {t : Nat} (ht : t = 28 ∨ t = 39) (h : CalI G miX5_allFlights d [.inr (.inr (some 1))] M (fun x2 M1 => (0 ≤ x2 ∧ x2 < 128) ∧ K (M1 (t + 5) (x2).toNat) M1)) : OkI G miX1_leastTotal (d + 1) K 0 [some (.inr (.inr (some t)))] [] M := by
  refine r_aload_n (pc := 0) (tb_at tkX1_leastTotal 0 rfl) rfl rfl ?_
  refine r_get 1 6 (pc := 1) (tb_at tkX1_leastTotal 1 rfl) (lyT0 ht) flX1_25 rfl ?_
  refine r_aload_n (pc := 4) (tb_at tkX1_leastTotal 2 rfl) rfl rfl ?_
  refine r_get 1 0 (pc := 5) (tb_at tkX1_leastTotal 3 rfl) (lyT0 ht) flX1_28 rfl ?_
  refine r_invV (mc' := 0) (ms' := 0) [] (S := [.inr (.inr (some (t + 5)))]) (pc := 8) (tb_at tkX1_leastTotal 4 rfl) rfl ly_1 rfl rfl clX1_42 (Nat.le_of_ble_eq_true rfl) (Nat.le_refl _) (Nat.le_refl _) ?_
  refine Cal.mono h ?_
  rintro _ _ M1 ⟨x2, rfl, rfl, h⟩
  show OkI G miX1_leastTotal (d + 1) K 11 [some (.inr (.inr (some t)))] [.inl x2, .inr (.inr (some (t + 5)))] M1
  refine r_iald (pc := 11) (tb_at tkX1_leastTotal 5 rfl) (lyT5 ht) h.1.1 h.1.2 ?_
  replace h := h.2
  exact r_iret (pc := 12) (tb_at tkX1_leastTotal 6 rfl) rfl (Nat.le_refl _) (Nat.le_refl _) ⟨_, rfl, rfl, h⟩
set_option maxRecDepth 100000 in
set_option maxHeartbeats 4000000 in
theorem gX1_bestSets_0 {G : GE} {d : Nat} {K : Int → Mem → Prop} {M : Mem} {t : Nat} (ht : t = 28 ∨ t = 39) (h : CalI G miX5_allFlights d [.inr (.inr (some 1))] M (fun x2 M1 => OkI G miX1_bestSets (d + 1) K 12 [some (.inr (.inr (some t))), some (.inl 0), some (.inl x2), some (.inl 0)] [] M1)) : OkI G miX1_bestSets (d + 1) K 0 [some (.inr (.inr (some t))), none, none, none] [] M := by
  refine r_iconst (pc := 0) (tb_at tkX1_bestSets 0 rfl) ⟨by decide, by decide⟩ ?_
  refine r_istore_n (L' := [some (.inr (.inr (some t))), some (.inl 0), none, none]) (pc := 1) (tb_at tkX1_bestSets 1 rfl) rfl (by decide) rfl ?_
  refine r_aload_n (pc := 2) (tb_at tkX1_bestSets 2 rfl) rfl rfl ?_
  refine r_get 1 0 (pc := 3) (tb_at tkX1_bestSets 3 rfl) (lyT0 ht) flX1_28 rfl ?_
  refine r_invV (mc' := 0) (ms' := 0) [] (S := []) (pc := 6) (tb_at tkX1_bestSets 4 rfl) rfl ly_1 rfl rfl clX1_42 (Nat.le_of_ble_eq_true rfl) (Nat.le_refl _) (Nat.le_refl _) ?_
  refine Cal.mono h ?_
  rintro _ _ M1 ⟨x2, rfl, rfl, h⟩
  show OkI G miX1_bestSets (d + 1) K 9 [some (.inr (.inr (some t))), some (.inl 0), none, none] [.inl x2] M1
  refine r_istore_n (L' := [some (.inr (.inr (some t))), some (.inl 0), some (.inl x2), none]) (pc := 9) (tb_at tkX1_bestSets 5 rfl) rfl (by decide) rfl ?_
  refine r_iconst (pc := 10) (tb_at tkX1_bestSets 6 rfl) ⟨by decide, by decide⟩ ?_
  refine r_istore_n (L' := [some (.inr (.inr (some t))), some (.inl 0), some (.inl x2), some (.inl 0)]) (pc := 11) (tb_at tkX1_bestSets 7 rfl) rfl (by decide) rfl ?_
  exact h
set_option maxRecDepth 100000 in
set_option maxHeartbeats 4000000 in
theorem gX1_bestSets_12 {G : GE} {d : Nat} {K : Int → Mem → Prop} {M : Mem} {v1 v2 v3 : Int} {t : Nat} (ht : t = 28 ∨ t = 39) (h : ((7 ≤ v3 → K v1 M) ∧ (v3 < 7 → (0 ≤ v2 ∧ v2 < 128) ∧ (((M (t + 4) (v2).toNat) = 0 → K v1 M) ∧ (¬ (M (t + 4) (v2).toNat) = 0 → (0 ≤ v2 ∧ v2 < 128) ∧ OkI G miX1_bestSets (d + 1) K 12 [some (.inr (.inr (some t))), some (.inl (w32 (v1 + 1))), some (.inl (iand v2 (ixor (M (t + 4) (v2).toNat) (-1)))), some (.inl (w32 (v3 + 1)))] [] M))))) : OkI G miX1_bestSets (d + 1) K 12 [some (.inr (.inr (some t))), some (.inl v1), some (.inl v2), some (.inl v3)] [] M := by
  refine r_iload_n (pc := 12) (tb_at tkX1_bestSets 8 rfl) rfl rfl ?_
  refine r_bipush (pc := 13) (tb_at tkX1_bestSets 9 rfl) ⟨by decide, by decide, by decide⟩ ?_
  refine q_icmp_ge (tgt := 47) (pc := 15) (tb_at tkX1_bestSets 10 rfl) (by decide) (fun c => ?_) (fun c => ?_)
  · replace h := h.1 c
    refine r_iload_n (pc := 47) (tb_at tkX1_bestSets 28 rfl) rfl rfl ?_
    exact r_iret (pc := 48) (tb_at tkX1_bestSets 29 rfl) rfl (Nat.le_refl _) (Nat.le_refl _) ⟨_, rfl, rfl, h⟩
  · replace h := h.2 c
    refine r_aload_n (pc := 18) (tb_at tkX1_bestSets 11 rfl) rfl rfl ?_
    refine r_get 1 5 (pc := 19) (tb_at tkX1_bestSets 12 rfl) (lyT0 ht) flX1_22 rfl ?_
    refine r_iload_n (pc := 22) (tb_at tkX1_bestSets 13 rfl) rfl rfl ?_
    refine r_iald (pc := 23) (tb_at tkX1_bestSets 14 rfl) (lyT4 ht) h.1.1 h.1.2 ?_
    replace h := h.2
    refine q_if_eq (tgt := 47) (pc := 24) (tb_at tkX1_bestSets 15 rfl) (by decide) (fun c => ?_) (fun c => ?_)
    · replace h := h.1 c
      refine r_iload_n (pc := 47) (tb_at tkX1_bestSets 28 rfl) rfl rfl ?_
      exact r_iret (pc := 48) (tb_at tkX1_bestSets 29 rfl) rfl (Nat.le_refl _) (Nat.le_refl _) ⟨_, rfl, rfl, h⟩
    · replace h := h.2 c
      refine r_iinc (L' := [some (.inr (.inr (some t))), some (.inl (w32 (v1 + 1))), some (.inl v2), some (.inl v3)]) (pc := 27) (tb_at tkX1_bestSets 16 rfl) rfl (by decide) rfl ?_
      refine r_iload_n (pc := 30) (tb_at tkX1_bestSets 17 rfl) rfl rfl ?_
      refine r_aload_n (pc := 31) (tb_at tkX1_bestSets 18 rfl) rfl rfl ?_
      refine r_get 1 5 (pc := 32) (tb_at tkX1_bestSets 19 rfl) (lyT0 ht) flX1_22 rfl ?_
      refine r_iload_n (pc := 35) (tb_at tkX1_bestSets 20 rfl) rfl rfl ?_
      refine r_iald (pc := 36) (tb_at tkX1_bestSets 21 rfl) (lyT4 ht) h.1.1 h.1.2 ?_
      replace h := h.2
      refine r_iconst (pc := 37) (tb_at tkX1_bestSets 22 rfl) ⟨by decide, by decide⟩ ?_
      refine r_ixor (pc := 38) (tb_at tkX1_bestSets 23 rfl) ?_
      refine r_iand (pc := 39) (tb_at tkX1_bestSets 24 rfl) ?_
      refine r_istore_n (L' := [some (.inr (.inr (some t))), some (.inl (w32 (v1 + 1))), some (.inl (iand v2 (ixor (M (t + 4) (v2).toNat) (-1)))), some (.inl v3)]) (pc := 40) (tb_at tkX1_bestSets 25 rfl) rfl (by decide) rfl ?_
      refine r_iinc (L' := [some (.inr (.inr (some t))), some (.inl (w32 (v1 + 1))), some (.inl (iand v2 (ixor (M (t + 4) (v2).toNat) (-1)))), some (.inl (w32 (v3 + 1)))]) (pc := 41) (tb_at tkX1_bestSets 26 rfl) rfl (by decide) rfl ?_
      refine r_goto (tgt := 12) (pc := 44) (tb_at tkX1_bestSets 27 rfl) (by decide) ?_
      exact h
set_option maxRecDepth 100000 in
set_option maxHeartbeats 4000000 in
theorem gX1_bestAlong_0 {G : GE} {d : Nat} {K : Int → Mem → Prop} {M : Mem} {t : Nat} (ht : t = 28 ∨ t = 39) (h : CalI G miX5_allFlights d [.inr (.inr (some 1))] M (fun x2 M1 => OkI G miX1_bestAlong (d + 1) K 12 [some (.inr (.inr (some t))), some (.inl 0), some (.inl x2), some (.inl 0)] [] M1)) : OkI G miX1_bestAlong (d + 1) K 0 [some (.inr (.inr (some t))), none, none, none] [] M := by
  refine r_iconst (pc := 0) (tb_at tkX1_bestAlong 0 rfl) ⟨by decide, by decide⟩ ?_
  refine r_istore_n (L' := [some (.inr (.inr (some t))), some (.inl 0), none, none]) (pc := 1) (tb_at tkX1_bestAlong 1 rfl) rfl (by decide) rfl ?_
  refine r_aload_n (pc := 2) (tb_at tkX1_bestAlong 2 rfl) rfl rfl ?_
  refine r_get 1 0 (pc := 3) (tb_at tkX1_bestAlong 3 rfl) (lyT0 ht) flX1_28 rfl ?_
  refine r_invV (mc' := 0) (ms' := 0) [] (S := []) (pc := 6) (tb_at tkX1_bestAlong 4 rfl) rfl ly_1 rfl rfl clX1_42 (Nat.le_of_ble_eq_true rfl) (Nat.le_refl _) (Nat.le_refl _) ?_
  refine Cal.mono h ?_
  rintro _ _ M1 ⟨x2, rfl, rfl, h⟩
  show OkI G miX1_bestAlong (d + 1) K 9 [some (.inr (.inr (some t))), some (.inl 0), none, none] [.inl x2] M1
  refine r_istore_n (L' := [some (.inr (.inr (some t))), some (.inl 0), some (.inl x2), none]) (pc := 9) (tb_at tkX1_bestAlong 5 rfl) rfl (by decide) rfl ?_
  refine r_iconst (pc := 10) (tb_at tkX1_bestAlong 6 rfl) ⟨by decide, by decide⟩ ?_
  refine r_istore_n (L' := [some (.inr (.inr (some t))), some (.inl 0), some (.inl x2), some (.inl 0)]) (pc := 11) (tb_at tkX1_bestAlong 7 rfl) rfl (by decide) rfl ?_
  exact h
set_option maxRecDepth 100000 in
set_option maxHeartbeats 4000000 in
theorem gX1_bestAlong_12 {G : GE} {d : Nat} {K : Int → Mem → Prop} {M : Mem} {v1 v2 v3 : Int} {t : Nat} (ht : t = 28 ∨ t = 39) (h : ((7 ≤ v3 → K v1 M) ∧ (v3 < 7 → (0 ≤ v2 ∧ v2 < 128) ∧ (((M (t + 4) (v2).toNat) = 0 → K v1 M) ∧ (¬ (M (t + 4) (v2).toNat) = 0 → (0 ≤ v2 ∧ v2 < 128) ∧ CalI G miX1_alongWith d [.inr (.inr (some t)), .inr (.inl (M (t + 4) (v2).toNat))] M (fun x2 M1 => (0 ≤ v2 ∧ v2 < 128) ∧ OkI G miX1_bestAlong (d + 1) K 12 [some (.inr (.inr (some t))), some (.inl (w32 (v1 + x2))), some (.inl (iand v2 (ixor (M1 (t + 4) (v2).toNat) (-1)))), some (.inl (w32 (v3 + 1)))] [] M1)))))) : OkI G miX1_bestAlong (d + 1) K 12 [some (.inr (.inr (some t))), some (.inl v1), some (.inl v2), some (.inl v3)] [] M := by
  refine r_iload_n (pc := 12) (tb_at tkX1_bestAlong 8 rfl) rfl rfl ?_
  refine r_bipush (pc := 13) (tb_at tkX1_bestAlong 9 rfl) ⟨by decide, by decide, by decide⟩ ?_
  refine q_icmp_ge (tgt := 58) (pc := 15) (tb_at tkX1_bestAlong 10 rfl) (by decide) (fun c => ?_) (fun c => ?_)
  · replace h := h.1 c
    refine r_iload_n (pc := 58) (tb_at tkX1_bestAlong 37 rfl) rfl rfl ?_
    exact r_iret (pc := 59) (tb_at tkX1_bestAlong 38 rfl) rfl (Nat.le_refl _) (Nat.le_refl _) ⟨_, rfl, rfl, h⟩
  · replace h := h.2 c
    refine r_aload_n (pc := 18) (tb_at tkX1_bestAlong 11 rfl) rfl rfl ?_
    refine r_get 1 5 (pc := 19) (tb_at tkX1_bestAlong 12 rfl) (lyT0 ht) flX1_22 rfl ?_
    refine r_iload_n (pc := 22) (tb_at tkX1_bestAlong 13 rfl) rfl rfl ?_
    refine r_iald (pc := 23) (tb_at tkX1_bestAlong 14 rfl) (lyT4 ht) h.1.1 h.1.2 ?_
    replace h := h.2
    refine q_if_eq (tgt := 58) (pc := 24) (tb_at tkX1_bestAlong 15 rfl) (by decide) (fun c => ?_) (fun c => ?_)
    · replace h := h.1 c
      refine r_iload_n (pc := 58) (tb_at tkX1_bestAlong 37 rfl) rfl rfl ?_
      exact r_iret (pc := 59) (tb_at tkX1_bestAlong 38 rfl) rfl (Nat.le_refl _) (Nat.le_refl _) ⟨_, rfl, rfl, h⟩
    · replace h := h.2 c
      refine r_iload_n (pc := 27) (tb_at tkX1_bestAlong 16 rfl) rfl rfl ?_
      refine r_aload_n (pc := 28) (tb_at tkX1_bestAlong 17 rfl) rfl rfl ?_
      refine r_aload_n (pc := 29) (tb_at tkX1_bestAlong 18 rfl) rfl rfl ?_
      refine r_get 1 5 (pc := 30) (tb_at tkX1_bestAlong 19 rfl) (lyT0 ht) flX1_22 rfl ?_
      refine r_iload_n (pc := 33) (tb_at tkX1_bestAlong 20 rfl) rfl rfl ?_
      refine r_iald (pc := 34) (tb_at tkX1_bestAlong 21 rfl) (lyT4 ht) h.1.1 h.1.2 ?_
      replace h := h.2
      refine r_i2l (pc := 35) (tb_at tkX1_bestAlong 22 rfl) ?_
      refine r_invV (mc' := 0) (ms' := 0) [.inr (.inl (M (t + 4) (v2).toNat))] (S := [.inl v1]) (pc := 36) (tb_at tkX1_bestAlong 23 rfl) rfl (lyT0 ht) rfl rfl clX1_82 (Nat.le_of_ble_eq_true rfl) (Nat.le_refl _) (Nat.le_refl _) ?_
      refine Cal.mono h ?_
      rintro _ _ M1 ⟨x2, rfl, rfl, h⟩
      show OkI G miX1_bestAlong (d + 1) K 39 [some (.inr (.inr (some t))), some (.inl v1), some (.inl v2), some (.inl v3)] [.inl x2, .inl v1] M1
      refine r_iadd (pc := 39) (tb_at tkX1_bestAlong 24 rfl) ?_
      refine r_istore_n (L' := [some (.inr (.inr (some t))), some (.inl (w32 (v1 + x2))), some (.inl v2), some (.inl v3)]) (pc := 40) (tb_at tkX1_bestAlong 25 rfl) rfl (by decide) rfl ?_
      refine r_iload_n (pc := 41) (tb_at tkX1_bestAlong 26 rfl) rfl rfl ?_
      refine r_aload_n (pc := 42) (tb_at tkX1_bestAlong 27 rfl) rfl rfl ?_
      refine r_get 1 5 (pc := 43) (tb_at tkX1_bestAlong 28 rfl) (lyT0 ht) flX1_22 rfl ?_
      refine r_iload_n (pc := 46) (tb_at tkX1_bestAlong 29 rfl) rfl rfl ?_
      refine r_iald (pc := 47) (tb_at tkX1_bestAlong 30 rfl) (lyT4 ht) h.1.1 h.1.2 ?_
      replace h := h.2
      refine r_iconst (pc := 48) (tb_at tkX1_bestAlong 31 rfl) ⟨by decide, by decide⟩ ?_
      refine r_ixor (pc := 49) (tb_at tkX1_bestAlong 32 rfl) ?_
      refine r_iand (pc := 50) (tb_at tkX1_bestAlong 33 rfl) ?_
      refine r_istore_n (L' := [some (.inr (.inr (some t))), some (.inl (w32 (v1 + x2))), some (.inl (iand v2 (ixor (M1 (t + 4) (v2).toNat) (-1)))), some (.inl v3)]) (pc := 51) (tb_at tkX1_bestAlong 34 rfl) rfl (by decide) rfl ?_
      refine r_iinc (L' := [some (.inr (.inr (some t))), some (.inl (w32 (v1 + x2))), some (.inl (iand v2 (ixor (M1 (t + 4) (v2).toNat) (-1)))), some (.inl (w32 (v3 + 1)))]) (pc := 52) (tb_at tkX1_bestAlong 35 rfl) rfl (by decide) rfl ?_
      refine r_goto (tgt := 12) (pc := 55) (tb_at tkX1_bestAlong 36 rfl) (by decide) ?_
      exact h
set_option maxRecDepth 100000 in
set_option maxHeartbeats 4000000 in
theorem gX1_bestSetWith_0 {G : GE} {d : Nat} {K : Int → Mem → Prop} {M : Mem} {v1 : Int} {t : Nat} (ht : t = 28 ∨ t = 39) (h : CalI G miX5_allFlights d [.inr (.inr (some 1))] M (fun x2 M1 => OkI G miX1_bestSetWith (d + 1) K 10 [some (.inr (.inr (some t))), some (.inl v1), some (.inl x2), some (.inl 0), none] [] M1)) : OkI G miX1_bestSetWith (d + 1) K 0 [some (.inr (.inr (some t))), some (.inl v1), none, none, none] [] M := by
  refine r_aload_n (pc := 0) (tb_at tkX1_bestSetWith 0 rfl) rfl rfl ?_
  refine r_get 1 0 (pc := 1) (tb_at tkX1_bestSetWith 1 rfl) (lyT0 ht) flX1_28 rfl ?_
  refine r_invV (mc' := 0) (ms' := 0) [] (S := []) (pc := 4) (tb_at tkX1_bestSetWith 2 rfl) rfl ly_1 rfl rfl clX1_42 (Nat.le_of_ble_eq_true rfl) (Nat.le_refl _) (Nat.le_refl _) ?_
  refine Cal.mono h ?_
  rintro _ _ M1 ⟨x2, rfl, rfl, h⟩
  show OkI G miX1_bestSetWith (d + 1) K 7 [some (.inr (.inr (some t))), some (.inl v1), none, none, none] [.inl x2] M1
  refine r_istore_n (L' := [some (.inr (.inr (some t))), some (.inl v1), some (.inl x2), none, none]) (pc := 7) (tb_at tkX1_bestSetWith 3 rfl) rfl (by decide) rfl ?_
  refine r_iconst (pc := 8) (tb_at tkX1_bestSetWith 4 rfl) ⟨by decide, by decide⟩ ?_
  refine r_istore_n (L' := [some (.inr (.inr (some t))), some (.inl v1), some (.inl x2), some (.inl 0), none]) (pc := 9) (tb_at tkX1_bestSetWith 5 rfl) rfl (by decide) rfl ?_
  exact h
set_option maxRecDepth 100000 in
set_option maxHeartbeats 4000000 in
theorem gX1_bestSetWith_10 {G : GE} {d : Nat} {K : Int → Mem → Prop} {M : Mem} {v1 v2 v3 : Int} {t : Nat} (ht : t = 28 ∨ t = 39) (h : ((7 ≤ v3 → K (-1) M) ∧ (v3 < 7 → (0 ≤ v2 ∧ v2 < 128) ∧ (((M (t + 4) (v2).toNat) = 0 → K (-1) M) ∧ (¬ (M (t + 4) (v2).toNat) = 0 → (0 ≤ v2 ∧ v2 < 128) ∧ (((iand (ishr (M (t + 4) (v2).toNat) v1) 1) = 0 → OkI G miX1_bestSetWith (d + 1) K 10 [some (.inr (.inr (some t))), some (.inl v1), some (.inl (iand v2 (ixor (M (t + 4) (v2).toNat) (-1)))), some (.inl (w32 (v3 + 1))), none] [] M) ∧ (¬ (iand (ishr (M (t + 4) (v2).toNat) v1) 1) = 0 → K (M (t + 4) (v2).toNat) M))))))) : OkI G miX1_bestSetWith (d + 1) K 10 [some (.inr (.inr (some t))), some (.inl v1), some (.inl v2), some (.inl v3), none] [] M := by
  refine r_iload_n (pc := 10) (tb_at tkX1_bestSetWith 6 rfl) rfl rfl ?_
  refine r_bipush (pc := 11) (tb_at tkX1_bestSetWith 7 rfl) ⟨by decide, by decide, by decide⟩ ?_
  refine q_icmp_ge (tgt := 58) (pc := 13) (tb_at tkX1_bestSetWith 8 rfl) (by decide) (fun c => ?_) (fun c => ?_)
  · replace h := h.1 c
    refine r_iconst (pc := 58) (tb_at tkX1_bestSetWith 35 rfl) ⟨by decide, by decide⟩ ?_
    exact r_iret (pc := 59) (tb_at tkX1_bestSetWith 36 rfl) rfl (Nat.le_refl _) (Nat.le_refl _) ⟨_, rfl, rfl, h⟩
  · replace h := h.2 c
    refine r_aload_n (pc := 16) (tb_at tkX1_bestSetWith 9 rfl) rfl rfl ?_
    refine r_get 1 5 (pc := 17) (tb_at tkX1_bestSetWith 10 rfl) (lyT0 ht) flX1_22 rfl ?_
    refine r_iload_n (pc := 20) (tb_at tkX1_bestSetWith 11 rfl) rfl rfl ?_
    refine r_iald (pc := 21) (tb_at tkX1_bestSetWith 12 rfl) (lyT4 ht) h.1.1 h.1.2 ?_
    replace h := h.2
    refine q_if_eq (tgt := 58) (pc := 22) (tb_at tkX1_bestSetWith 13 rfl) (by decide) (fun c => ?_) (fun c => ?_)
    · replace h := h.1 c
      refine r_iconst (pc := 58) (tb_at tkX1_bestSetWith 35 rfl) ⟨by decide, by decide⟩ ?_
      exact r_iret (pc := 59) (tb_at tkX1_bestSetWith 36 rfl) rfl (Nat.le_refl _) (Nat.le_refl _) ⟨_, rfl, rfl, h⟩
    · replace h := h.2 c
      refine r_aload_n (pc := 25) (tb_at tkX1_bestSetWith 14 rfl) rfl rfl ?_
      refine r_get 1 5 (pc := 26) (tb_at tkX1_bestSetWith 15 rfl) (lyT0 ht) flX1_22 rfl ?_
      refine r_iload_n (pc := 29) (tb_at tkX1_bestSetWith 16 rfl) rfl rfl ?_
      refine r_iald (pc := 30) (tb_at tkX1_bestSetWith 17 rfl) (lyT4 ht) h.1.1 h.1.2 ?_
      replace h := h.2
      refine r_istore (L' := [some (.inr (.inr (some t))), some (.inl v1), some (.inl v2), some (.inl v3), some (.inl (M (t + 4) (v2).toNat))]) (pc := 31) (tb_at tkX1_bestSetWith 18 rfl) (by decide) rfl ?_
      refine r_iload (pc := 33) (tb_at tkX1_bestSetWith 19 rfl) rfl ?_
      refine r_iload_n (pc := 35) (tb_at tkX1_bestSetWith 20 rfl) rfl rfl ?_
      refine r_ishr (pc := 36) (tb_at tkX1_bestSetWith 21 rfl) ?_
      refine r_iconst (pc := 37) (tb_at tkX1_bestSetWith 22 rfl) ⟨by decide, by decide⟩ ?_
      refine r_iand (pc := 38) (tb_at tkX1_bestSetWith 23 rfl) ?_
      refine q_if_eq (tgt := 45) (pc := 39) (tb_at tkX1_bestSetWith 24 rfl) (by decide) (fun c => ?_) (fun c => ?_)
      · replace h := h.1 c
        refine r_iload_n (pc := 45) (tb_at tkX1_bestSetWith 27 rfl) rfl rfl ?_
        refine r_iload (pc := 46) (tb_at tkX1_bestSetWith 28 rfl) rfl ?_
        refine r_iconst (pc := 48) (tb_at tkX1_bestSetWith 29 rfl) ⟨by decide, by decide⟩ ?_
        refine r_ixor (pc := 49) (tb_at tkX1_bestSetWith 30 rfl) ?_
        refine r_iand (pc := 50) (tb_at tkX1_bestSetWith 31 rfl) ?_
        refine r_istore_n (L' := [some (.inr (.inr (some t))), some (.inl v1), some (.inl (iand v2 (ixor (M (t + 4) (v2).toNat) (-1)))), some (.inl v3), some (.inl (M (t + 4) (v2).toNat))]) (pc := 51) (tb_at tkX1_bestSetWith 32 rfl) rfl (by decide) rfl ?_
        refine r_iinc (L' := [some (.inr (.inr (some t))), some (.inl v1), some (.inl (iand v2 (ixor (M (t + 4) (v2).toNat) (-1)))), some (.inl (w32 (v3 + 1))), some (.inl (M (t + 4) (v2).toNat))]) (pc := 52) (tb_at tkX1_bestSetWith 33 rfl) rfl (by decide) rfl ?_
        refine r_goto (tgt := 10) (pc := 55) (tb_at tkX1_bestSetWith 34 rfl) (by decide) ?_
        exact Ok.forget h (And.intro rfl (And.intro rfl (And.intro rfl (And.intro rfl trivial))))
      · replace h := h.2 c
        refine r_iload (pc := 42) (tb_at tkX1_bestSetWith 25 rfl) rfl ?_
        exact r_iret (pc := 44) (tb_at tkX1_bestSetWith 26 rfl) rfl (Nat.le_refl _) (Nat.le_refl _) ⟨_, rfl, rfl, h⟩
set_option maxRecDepth 100000 in
set_option maxHeartbeats 4000000 in
theorem gX1_isHad_0 {G : GE} {d : Nat} {K : Int → Mem → Prop} {M : Mem} {v1 : Int} {t : Nat} (ht : t = 28 ∨ t = 39) (h : ((v1 ≤ 0 → K 0 M) ∧ (0 < v1 → CalI G miX5_allFlights d [.inr (.inr (some 1))] M (fun x2 M1 => ((x2 < v1 → K 0 M1) ∧ (v1 ≤ x2 → (0 ≤ w32 v1 ∧ w32 v1 < 128) ∧ (((M1 (t + 2) (w32 v1).toNat) = (-1) → K 0 M1) ∧ (¬ (M1 (t + 2) (w32 v1).toNat) = (-1) → K 1 M1)))))))) : OkI G miX1_isHad (d + 1) K 0 [some (.inr (.inr (some t))), some (.inr (.inl v1)), none] [] M := by
  refine r_lload_n (pc := 0) (tb_at tkX1_isHad 0 rfl) rfl rfl ?_
  refine r_lconst (v := 0) (pc := 1) (tb_at tkX1_isHad 1 rfl) ⟨by decide, by decide, by decide⟩ ?_
  refine r_lcmp (pc := 2) (tb_at tkX1_isHad 2 rfl) ?_
  refine q_lif_le (tgt := 34) (pc := 3) (tb_at tkX1_isHad 3 rfl) (by decide) (fun c => ?_) (fun c => ?_)
  · replace h := h.1 c
    refine r_iconst (pc := 34) (tb_at tkX1_isHad 20 rfl) ⟨by decide, by decide⟩ ?_
    exact r_zret (pc := 35) (tb_at tkX1_isHad 21 rfl) rfl (by decide) (Nat.le_refl _) (Nat.le_refl _) ⟨_, rfl, rfl, h⟩
  · replace h := h.2 c
    refine r_lload_n (pc := 6) (tb_at tkX1_isHad 4 rfl) rfl rfl ?_
    refine r_aload_n (pc := 7) (tb_at tkX1_isHad 5 rfl) rfl rfl ?_
    refine r_get 1 0 (pc := 8) (tb_at tkX1_isHad 6 rfl) (lyT0 ht) flX1_28 rfl ?_
    refine r_invV (mc' := 0) (ms' := 0) [] (S := [.inr (.inl v1)]) (pc := 11) (tb_at tkX1_isHad 7 rfl) rfl ly_1 rfl rfl clX1_42 (Nat.le_of_ble_eq_true rfl) (Nat.le_refl _) (Nat.le_refl _) ?_
    refine Cal.mono h ?_
    rintro _ _ M1 ⟨x2, rfl, rfl, h⟩
    show OkI G miX1_isHad (d + 1) K 14 [some (.inr (.inr (some t))), some (.inr (.inl v1)), none] [.inl x2, .inr (.inl v1)] M1
    refine r_i2l (pc := 14) (tb_at tkX1_isHad 8 rfl) ?_
    refine r_lcmp (pc := 15) (tb_at tkX1_isHad 9 rfl) ?_
    refine q_lif_gt (tgt := 34) (pc := 16) (tb_at tkX1_isHad 10 rfl) (by decide) (fun c => ?_) (fun c => ?_)
    · replace h := h.1 c
      refine r_iconst (pc := 34) (tb_at tkX1_isHad 20 rfl) ⟨by decide, by decide⟩ ?_
      exact r_zret (pc := 35) (tb_at tkX1_isHad 21 rfl) rfl (by decide) (Nat.le_refl _) (Nat.le_refl _) ⟨_, rfl, rfl, h⟩
    · replace h := h.2 c
      refine r_aload_n (pc := 19) (tb_at tkX1_isHad 11 rfl) rfl rfl ?_
      refine r_get 1 3 (pc := 20) (tb_at tkX1_isHad 12 rfl) (lyT0 ht) flX1_15 rfl ?_
      refine r_lload_n (pc := 23) (tb_at tkX1_isHad 13 rfl) rfl rfl ?_
      refine r_l2i (pc := 24) (tb_at tkX1_isHad 14 rfl) ?_
      refine r_iald (pc := 25) (tb_at tkX1_isHad 15 rfl) (lyT2 ht) h.1.1 h.1.2 ?_
      replace h := h.2
      refine r_iconst (pc := 26) (tb_at tkX1_isHad 16 rfl) ⟨by decide, by decide⟩ ?_
      refine q_icmp_eq (tgt := 34) (pc := 27) (tb_at tkX1_isHad 17 rfl) (by decide) (fun c => ?_) (fun c => ?_)
      · replace h := h.1 c
        refine r_iconst (pc := 34) (tb_at tkX1_isHad 20 rfl) ⟨by decide, by decide⟩ ?_
        exact r_zret (pc := 35) (tb_at tkX1_isHad 21 rfl) rfl (by decide) (Nat.le_refl _) (Nat.le_refl _) ⟨_, rfl, rfl, h⟩
      · replace h := h.2 c
        refine r_iconst (pc := 30) (tb_at tkX1_isHad 18 rfl) ⟨by decide, by decide⟩ ?_
        refine r_goto (tgt := 35) (pc := 31) (tb_at tkX1_isHad 19 rfl) (by decide) ?_
        exact r_zret (pc := 35) (tb_at tkX1_isHad 21 rfl) rfl (by decide) (Nat.le_refl _) (Nat.le_refl _) ⟨_, rfl, rfl, h⟩
set_option maxRecDepth 100000 in
set_option maxHeartbeats 4000000 in
theorem gX1_costOf_0 {G : GE} {d : Nat} {K : Int → Mem → Prop} {M : Mem} {v1 : Int} {t : Nat} (ht : t = 28 ∨ t = 39) (h : CalI G miX1_isHad d [.inr (.inr (some t)), .inr (.inl v1)] M (fun x2 M1 => ((x2 = 0 → K 0 M1) ∧ (¬ x2 = 0 → (0 ≤ w32 v1 ∧ w32 v1 < 128) ∧ K (M1 (t + 2) (w32 v1).toNat) M1)))) : OkI G miX1_costOf (d + 1) K 0 [some (.inr (.inr (some t))), some (.inr (.inl v1)), none] [] M := by
  refine r_aload_n (pc := 0) (tb_at tkX1_costOf 0 rfl) rfl rfl ?_
  refine r_lload_n (pc := 1) (tb_at tkX1_costOf 1 rfl) rfl rfl ?_
  refine r_invV (mc' := 0) (ms' := 0) [.inr (.inl v1)] (S := []) (pc := 2) (tb_at tkX1_costOf 2 rfl) rfl (lyT0 ht) rfl rfl clX1_86 (Nat.le_of_ble_eq_true rfl) (Nat.le_refl _) (Nat.le_refl _) ?_
  refine Cal.mono h ?_
  rintro _ _ M1 ⟨x2, rfl, rfl, h⟩
  show OkI G miX1_costOf (d + 1) K 5 [some (.inr (.inr (some t))), some (.inr (.inl v1)), none] [.inl x2] M1
  refine q_if_eq (tgt := 18) (pc := 5) (tb_at tkX1_costOf 3 rfl) (by decide) (fun c => ?_) (fun c => ?_)
  · replace h := h.1 c
    refine r_iconst (pc := 18) (tb_at tkX1_costOf 10 rfl) ⟨by decide, by decide⟩ ?_
    exact r_iret (pc := 19) (tb_at tkX1_costOf 11 rfl) rfl (Nat.le_refl _) (Nat.le_refl _) ⟨_, rfl, rfl, h⟩
  · replace h := h.2 c
    refine r_aload_n (pc := 8) (tb_at tkX1_costOf 4 rfl) rfl rfl ?_
    refine r_get 1 3 (pc := 9) (tb_at tkX1_costOf 5 rfl) (lyT0 ht) flX1_15 rfl ?_
    refine r_lload_n (pc := 12) (tb_at tkX1_costOf 6 rfl) rfl rfl ?_
    refine r_l2i (pc := 13) (tb_at tkX1_costOf 7 rfl) ?_
    refine r_iald (pc := 14) (tb_at tkX1_costOf 8 rfl) (lyT2 ht) h.1.1 h.1.2 ?_
    replace h := h.2
    refine r_goto (tgt := 19) (pc := 15) (tb_at tkX1_costOf 9 rfl) (by decide) ?_
    exact r_iret (pc := 19) (tb_at tkX1_costOf 11 rfl) rfl (Nat.le_refl _) (Nat.le_refl _) ⟨_, rfl, rfl, h⟩
set_option maxRecDepth 100000 in
set_option maxHeartbeats 4000000 in
theorem gX1_alongWith_0 {G : GE} {d : Nat} {K : Int → Mem → Prop} {M : Mem} {v1 : Int} {t : Nat} (ht : t = 28 ∨ t = 39) (h : CalI G miX1_isHad d [.inr (.inr (some t)), .inr (.inl v1)] M (fun x2 M1 => ((x2 = 0 → K 0 M1) ∧ (¬ x2 = 0 → (0 ≤ w32 v1 ∧ w32 v1 < 128) ∧ CalI G miJ6_bitCount_0f7a4 d [.inl (iand (M1 (t + 3) (w32 v1).toNat) (ixor (w32 v1) (-1)))] M1 (fun x4 M3 => K x4 M3))))) : OkI G miX1_alongWith (d + 1) K 0 [some (.inr (.inr (some t))), some (.inr (.inl v1)), none] [] M := by
  refine r_aload_n (pc := 0) (tb_at tkX1_alongWith 0 rfl) rfl rfl ?_
  refine r_lload_n (pc := 1) (tb_at tkX1_alongWith 1 rfl) rfl rfl ?_
  refine r_invV (mc' := 0) (ms' := 0) [.inr (.inl v1)] (S := []) (pc := 2) (tb_at tkX1_alongWith 2 rfl) rfl (lyT0 ht) rfl rfl clX1_86 (Nat.le_of_ble_eq_true rfl) (Nat.le_refl _) (Nat.le_refl _) ?_
  refine Cal.mono h ?_
  rintro _ _ M1 ⟨x2, rfl, rfl, h⟩
  show OkI G miX1_alongWith (d + 1) K 5 [some (.inr (.inr (some t))), some (.inr (.inl v1)), none] [.inl x2] M1
  refine q_if_eq (tgt := 26) (pc := 5) (tb_at tkX1_alongWith 3 rfl) (by decide) (fun c => ?_) (fun c => ?_)
  · replace h := h.1 c
    refine r_iconst (pc := 26) (tb_at tkX1_alongWith 16 rfl) ⟨by decide, by decide⟩ ?_
    exact r_iret (pc := 27) (tb_at tkX1_alongWith 17 rfl) rfl (Nat.le_refl _) (Nat.le_refl _) ⟨_, rfl, rfl, h⟩
  · replace h := h.2 c
    refine r_aload_n (pc := 8) (tb_at tkX1_alongWith 4 rfl) rfl rfl ?_
    refine r_get 1 4 (pc := 9) (tb_at tkX1_alongWith 5 rfl) (lyT0 ht) flX1_19 rfl ?_
    refine r_lload_n (pc := 12) (tb_at tkX1_alongWith 6 rfl) rfl rfl ?_
    refine r_l2i (pc := 13) (tb_at tkX1_alongWith 7 rfl) ?_
    refine r_iald (pc := 14) (tb_at tkX1_alongWith 8 rfl) (lyT3 ht) h.1.1 h.1.2 ?_
    replace h := h.2
    refine r_lload_n (pc := 15) (tb_at tkX1_alongWith 9 rfl) rfl rfl ?_
    refine r_l2i (pc := 16) (tb_at tkX1_alongWith 10 rfl) ?_
    refine r_iconst (pc := 17) (tb_at tkX1_alongWith 11 rfl) ⟨by decide, by decide⟩ ?_
    refine r_ixor (pc := 18) (tb_at tkX1_alongWith 12 rfl) ?_
    refine r_iand (pc := 19) (tb_at tkX1_alongWith 13 rfl) ?_
    refine r_invS (mc' := 0) (ms' := 0) [.inl (iand (M1 (t + 3) (w32 v1).toNat) (ixor (w32 v1) (-1)))] (S := []) (pc := 20) (tb_at tkX1_alongWith 14 rfl) rfl clX1_73 (Nat.le_of_ble_eq_true rfl) (Nat.le_refl _) (Nat.le_refl _) ?_
    refine Cal.mono h ?_
    rintro _ _ M3 ⟨x4, rfl, rfl, h⟩
    show OkI G miX1_alongWith (d + 1) K 23 [some (.inr (.inr (some t))), some (.inr (.inl v1)), none] [.inl x4] M3
    refine r_goto (tgt := 27) (pc := 23) (tb_at tkX1_alongWith 15 rfl) (by decide) ?_
    exact r_iret (pc := 27) (tb_at tkX1_alongWith 17 rfl) rfl (Nat.le_refl _) (Nat.le_refl _) ⟨_, rfl, rfl, h⟩
set_option maxRecDepth 100000 in
set_option maxHeartbeats 4000000 in
theorem gX1_pairingCount_0 {G : GE} {d : Nat} {K : Int → Mem → Prop} {M : Mem} {t : Nat} (ht : t = 28 ∨ t = 39) (h : OkI G miX1_pairingCount (d + 1) K 4 [some (.inr (.inr (some t))), some (.inl 0), some (.inl 1)] [] M) : OkI G miX1_pairingCount (d + 1) K 0 [some (.inr (.inr (some t))), none, none] [] M := by
  refine r_iconst (pc := 0) (tb_at tkX1_pairingCount 0 rfl) ⟨by decide, by decide⟩ ?_
  refine r_istore_n (L' := [some (.inr (.inr (some t))), some (.inl 0), none]) (pc := 1) (tb_at tkX1_pairingCount 1 rfl) rfl (by decide) rfl ?_
  refine r_iconst (pc := 2) (tb_at tkX1_pairingCount 2 rfl) ⟨by decide, by decide⟩ ?_
  refine r_istore_n (L' := [some (.inr (.inr (some t))), some (.inl 0), some (.inl 1)]) (pc := 3) (tb_at tkX1_pairingCount 3 rfl) rfl (by decide) rfl ?_
  exact h
set_option maxRecDepth 100000 in
set_option maxHeartbeats 4000000 in
theorem gX1_pairingCount_4 {G : GE} {d : Nat} {K : Int → Mem → Prop} {M : Mem} {v1 v2 : Int} {t : Nat} (ht : t = 28 ∨ t = 39) (h : CalI G miX5_allFlights d [.inr (.inr (some 1))] M (fun x2 M1 => ((x2 < v2 → K v1 M1) ∧ (v2 ≤ x2 → (0 ≤ v2 ∧ v2 < 128) ∧ (((M1 (t + 1) (v2).toNat) = 0 → OkI G miX1_pairingCount (d + 1) K 4 [some (.inr (.inr (some t))), some (.inl v1), some (.inl (w32 (v2 + 1)))] [] M1) ∧ (¬ (M1 (t + 1) (v2).toNat) = 0 → OkI G miX1_pairingCount (d + 1) K 4 [some (.inr (.inr (some t))), some (.inl (w32 (v1 + 1))), some (.inl (w32 (v2 + 1)))] [] M1)))))) : OkI G miX1_pairingCount (d + 1) K 4 [some (.inr (.inr (some t))), some (.inl v1), some (.inl v2)] [] M := by
  refine r_iload_n (pc := 4) (tb_at tkX1_pairingCount 4 rfl) rfl rfl ?_
  refine r_aload_n (pc := 5) (tb_at tkX1_pairingCount 5 rfl) rfl rfl ?_
  refine r_get 1 0 (pc := 6) (tb_at tkX1_pairingCount 6 rfl) (lyT0 ht) flX1_28 rfl ?_
  refine r_invV (mc' := 0) (ms' := 0) [] (S := [.inl v2]) (pc := 9) (tb_at tkX1_pairingCount 7 rfl) rfl ly_1 rfl rfl clX1_42 (Nat.le_of_ble_eq_true rfl) (Nat.le_refl _) (Nat.le_refl _) ?_
  refine Cal.mono h ?_
  rintro _ _ M1 ⟨x2, rfl, rfl, h⟩
  show OkI G miX1_pairingCount (d + 1) K 12 [some (.inr (.inr (some t))), some (.inl v1), some (.inl v2)] [.inl x2, .inl v2] M1
  refine q_icmp_gt (tgt := 33) (pc := 12) (tb_at tkX1_pairingCount 8 rfl) (by decide) (fun c => ?_) (fun c => ?_)
  · replace h := h.1 c
    refine r_iload_n (pc := 33) (tb_at tkX1_pairingCount 17 rfl) rfl rfl ?_
    exact r_iret (pc := 34) (tb_at tkX1_pairingCount 18 rfl) rfl (Nat.le_refl _) (Nat.le_refl _) ⟨_, rfl, rfl, h⟩
  · replace h := h.2 c
    refine r_aload_n (pc := 15) (tb_at tkX1_pairingCount 9 rfl) rfl rfl ?_
    refine r_get 1 2 (pc := 16) (tb_at tkX1_pairingCount 10 rfl) (lyT0 ht) flX1_9 rfl ?_
    refine r_iload_n (pc := 19) (tb_at tkX1_pairingCount 11 rfl) rfl rfl ?_
    refine r_zald (pc := 20) (tb_at tkX1_pairingCount 12 rfl) (lyT1 ht) h.1.1 h.1.2 ?_
    replace h := h.2
    refine q_if_eq (tgt := 27) (pc := 21) (tb_at tkX1_pairingCount 13 rfl) (by decide) (fun c => ?_) (fun c => ?_)
    · replace h := h.1 c
      refine r_iinc (L' := [some (.inr (.inr (some t))), some (.inl v1), some (.inl (w32 (v2 + 1)))]) (pc := 27) (tb_at tkX1_pairingCount 15 rfl) rfl (by decide) rfl ?_
      refine r_goto (tgt := 4) (pc := 30) (tb_at tkX1_pairingCount 16 rfl) (by decide) ?_
      exact h
    · replace h := h.2 c
      refine r_iinc (L' := [some (.inr (.inr (some t))), some (.inl (w32 (v1 + 1))), some (.inl v2)]) (pc := 24) (tb_at tkX1_pairingCount 14 rfl) rfl (by decide) rfl ?_
      refine r_iinc (L' := [some (.inr (.inr (some t))), some (.inl (w32 (v1 + 1))), some (.inl (w32 (v2 + 1)))]) (pc := 27) (tb_at tkX1_pairingCount 15 rfl) rfl (by decide) rfl ?_
      refine r_goto (tgt := 4) (pc := 30) (tb_at tkX1_pairingCount 16 rfl) (by decide) ?_
      exact h
set_option maxRecDepth 100000 in
set_option maxHeartbeats 4000000 in
theorem gX1_pairingAt_0 {G : GE} {d : Nat} {K : Int → Mem → Prop} {M : Mem} {v1 : Int} {t : Nat} (ht : t = 28 ∨ t = 39) (h : OkI G miX1_pairingAt (d + 1) K 4 [some (.inr (.inr (some t))), none, some (.inl v1), some (.inl 1)] [] M) : OkI G miX1_pairingAt (d + 1) K 0 [some (.inr (.inr (some t))), some (.inl v1), none, none] [] M := by
  refine r_iload_n (pc := 0) (tb_at tkX1_pairingAt 0 rfl) rfl rfl ?_
  refine r_istore_n (L' := [some (.inr (.inr (some t))), some (.inl v1), some (.inl v1), none]) (pc := 1) (tb_at tkX1_pairingAt 1 rfl) rfl (by decide) rfl ?_
  refine r_iconst (pc := 2) (tb_at tkX1_pairingAt 2 rfl) ⟨by decide, by decide⟩ ?_
  refine r_istore_n (L' := [some (.inr (.inr (some t))), some (.inl v1), some (.inl v1), some (.inl 1)]) (pc := 3) (tb_at tkX1_pairingAt 3 rfl) rfl (by decide) rfl ?_
  exact Ok.forget h (And.intro rfl (And.intro rfl (And.intro rfl trivial)))
set_option maxRecDepth 100000 in
set_option maxHeartbeats 4000000 in
theorem gX1_pairingAt_4 {G : GE} {d : Nat} {K : Int → Mem → Prop} {M : Mem} {v2 v3 : Int} {t : Nat} (ht : t = 28 ∨ t = 39) (h : CalI G miX5_allFlights d [.inr (.inr (some 1))] M (fun x2 M1 => ((x2 < v3 → K (-1) M1) ∧ (v3 ≤ x2 → ((v2 < 0 → K (-1) M1) ∧ (0 ≤ v2 → (0 ≤ v3 ∧ v3 < 128) ∧ (((M1 (t + 1) (v3).toNat) = 0 → OkI G miX1_pairingAt (d + 1) K 4 [some (.inr (.inr (some t))), none, some (.inl v2), some (.inl (w32 (v3 + 1)))] [] M1) ∧ (¬ (M1 (t + 1) (v3).toNat) = 0 → ((¬ v2 = 0 → OkI G miX1_pairingAt (d + 1) K 4 [some (.inr (.inr (some t))), none, some (.inl (w32 (v2 + (-1)))), some (.inl (w32 (v3 + 1)))] [] M1) ∧ (v2 = 0 → K v3 M1)))))))))) : OkI G miX1_pairingAt (d + 1) K 4 [some (.inr (.inr (some t))), none, some (.inl v2), some (.inl v3)] [] M := by
  refine r_iload_n (pc := 4) (tb_at tkX1_pairingAt 4 rfl) rfl rfl ?_
  refine r_aload_n (pc := 5) (tb_at tkX1_pairingAt 5 rfl) rfl rfl ?_
  refine r_get 1 0 (pc := 6) (tb_at tkX1_pairingAt 6 rfl) (lyT0 ht) flX1_28 rfl ?_
  refine r_invV (mc' := 0) (ms' := 0) [] (S := [.inl v3]) (pc := 9) (tb_at tkX1_pairingAt 7 rfl) rfl ly_1 rfl rfl clX1_42 (Nat.le_of_ble_eq_true rfl) (Nat.le_refl _) (Nat.le_refl _) ?_
  refine Cal.mono h ?_
  rintro _ _ M1 ⟨x2, rfl, rfl, h⟩
  show OkI G miX1_pairingAt (d + 1) K 12 [some (.inr (.inr (some t))), none, some (.inl v2), some (.inl v3)] [.inl x2, .inl v3] M1
  refine q_icmp_gt (tgt := 43) (pc := 12) (tb_at tkX1_pairingAt 8 rfl) (by decide) (fun c => ?_) (fun c => ?_)
  · replace h := h.1 c
    refine r_iconst (pc := 43) (tb_at tkX1_pairingAt 23 rfl) ⟨by decide, by decide⟩ ?_
    exact r_iret (pc := 44) (tb_at tkX1_pairingAt 24 rfl) rfl (Nat.le_refl _) (Nat.le_refl _) ⟨_, rfl, rfl, h⟩
  · replace h := h.2 c
    refine r_iload_n (pc := 15) (tb_at tkX1_pairingAt 9 rfl) rfl rfl ?_
    refine q_if_lt (tgt := 43) (pc := 16) (tb_at tkX1_pairingAt 10 rfl) (by decide) (fun c => ?_) (fun c => ?_)
    · replace h := h.1 c
      refine r_iconst (pc := 43) (tb_at tkX1_pairingAt 23 rfl) ⟨by decide, by decide⟩ ?_
      exact r_iret (pc := 44) (tb_at tkX1_pairingAt 24 rfl) rfl (Nat.le_refl _) (Nat.le_refl _) ⟨_, rfl, rfl, h⟩
    · replace h := h.2 c
      refine r_aload_n (pc := 19) (tb_at tkX1_pairingAt 11 rfl) rfl rfl ?_
      refine r_get 1 2 (pc := 20) (tb_at tkX1_pairingAt 12 rfl) (lyT0 ht) flX1_9 rfl ?_
      refine r_iload_n (pc := 23) (tb_at tkX1_pairingAt 13 rfl) rfl rfl ?_
      refine r_zald (pc := 24) (tb_at tkX1_pairingAt 14 rfl) (lyT1 ht) h.1.1 h.1.2 ?_
      replace h := h.2
      refine q_if_eq (tgt := 37) (pc := 25) (tb_at tkX1_pairingAt 15 rfl) (by decide) (fun c => ?_) (fun c => ?_)
      · replace h := h.1 c
        refine r_iinc (L' := [some (.inr (.inr (some t))), none, some (.inl v2), some (.inl (w32 (v3 + 1)))]) (pc := 37) (tb_at tkX1_pairingAt 21 rfl) rfl (by decide) rfl ?_
        refine r_goto (tgt := 4) (pc := 40) (tb_at tkX1_pairingAt 22 rfl) (by decide) ?_
        exact h
      · replace h := h.2 c
        refine r_iload_n (pc := 28) (tb_at tkX1_pairingAt 16 rfl) rfl rfl ?_
        refine q_if_ne (tgt := 34) (pc := 29) (tb_at tkX1_pairingAt 17 rfl) (by decide) (fun c => ?_) (fun c => ?_)
        · replace h := h.1 c
          refine r_iinc (L' := [some (.inr (.inr (some t))), none, some (.inl (w32 (v2 + (-1)))), some (.inl v3)]) (pc := 34) (tb_at tkX1_pairingAt 20 rfl) rfl (by decide) rfl ?_
          refine r_iinc (L' := [some (.inr (.inr (some t))), none, some (.inl (w32 (v2 + (-1)))), some (.inl (w32 (v3 + 1)))]) (pc := 37) (tb_at tkX1_pairingAt 21 rfl) rfl (by decide) rfl ?_
          refine r_goto (tgt := 4) (pc := 40) (tb_at tkX1_pairingAt 22 rfl) (by decide) ?_
          exact h
        · replace h := h.2 c
          refine r_iload_n (pc := 32) (tb_at tkX1_pairingAt 18 rfl) rfl rfl ?_
          exact r_iret (pc := 33) (tb_at tkX1_pairingAt 19 rfl) rfl (Nat.le_refl _) (Nat.le_refl _) ⟨_, rfl, rfl, h⟩
set_option maxRecDepth 100000 in
set_option maxHeartbeats 4000000 in
theorem gX1_hadCount_0 {G : GE} {d : Nat} {K : Int → Mem → Prop} {M : Mem} {t : Nat} (ht : t = 28 ∨ t = 39) (h : OkI G miX1_hadCount (d + 1) K 4 [some (.inr (.inr (some t))), some (.inl 0), some (.inl 1)] [] M) : OkI G miX1_hadCount (d + 1) K 0 [some (.inr (.inr (some t))), none, none] [] M := by
  refine r_iconst (pc := 0) (tb_at tkX1_hadCount 0 rfl) ⟨by decide, by decide⟩ ?_
  refine r_istore_n (L' := [some (.inr (.inr (some t))), some (.inl 0), none]) (pc := 1) (tb_at tkX1_hadCount 1 rfl) rfl (by decide) rfl ?_
  refine r_iconst (pc := 2) (tb_at tkX1_hadCount 2 rfl) ⟨by decide, by decide⟩ ?_
  refine r_istore_n (L' := [some (.inr (.inr (some t))), some (.inl 0), some (.inl 1)]) (pc := 3) (tb_at tkX1_hadCount 3 rfl) rfl (by decide) rfl ?_
  exact h
set_option maxRecDepth 100000 in
set_option maxHeartbeats 4000000 in
theorem gX1_hadCount_4 {G : GE} {d : Nat} {K : Int → Mem → Prop} {M : Mem} {v1 v2 : Int} {t : Nat} (ht : t = 28 ∨ t = 39) (h : CalI G miX5_allFlights d [.inr (.inr (some 1))] M (fun x2 M1 => ((x2 < v2 → K v1 M1) ∧ (v2 ≤ x2 → (0 ≤ v2 ∧ v2 < 128) ∧ (((M1 (t + 2) (v2).toNat) = (-1) → OkI G miX1_hadCount (d + 1) K 4 [some (.inr (.inr (some t))), some (.inl v1), some (.inl (w32 (v2 + 1)))] [] M1) ∧ (¬ (M1 (t + 2) (v2).toNat) = (-1) → OkI G miX1_hadCount (d + 1) K 4 [some (.inr (.inr (some t))), some (.inl (w32 (v1 + 1))), some (.inl (w32 (v2 + 1)))] [] M1)))))) : OkI G miX1_hadCount (d + 1) K 4 [some (.inr (.inr (some t))), some (.inl v1), some (.inl v2)] [] M := by
  refine r_iload_n (pc := 4) (tb_at tkX1_hadCount 4 rfl) rfl rfl ?_
  refine r_aload_n (pc := 5) (tb_at tkX1_hadCount 5 rfl) rfl rfl ?_
  refine r_get 1 0 (pc := 6) (tb_at tkX1_hadCount 6 rfl) (lyT0 ht) flX1_28 rfl ?_
  refine r_invV (mc' := 0) (ms' := 0) [] (S := [.inl v2]) (pc := 9) (tb_at tkX1_hadCount 7 rfl) rfl ly_1 rfl rfl clX1_42 (Nat.le_of_ble_eq_true rfl) (Nat.le_refl _) (Nat.le_refl _) ?_
  refine Cal.mono h ?_
  rintro _ _ M1 ⟨x2, rfl, rfl, h⟩
  show OkI G miX1_hadCount (d + 1) K 12 [some (.inr (.inr (some t))), some (.inl v1), some (.inl v2)] [.inl x2, .inl v2] M1
  refine q_icmp_gt (tgt := 34) (pc := 12) (tb_at tkX1_hadCount 8 rfl) (by decide) (fun c => ?_) (fun c => ?_)
  · replace h := h.1 c
    refine r_iload_n (pc := 34) (tb_at tkX1_hadCount 18 rfl) rfl rfl ?_
    exact r_iret (pc := 35) (tb_at tkX1_hadCount 19 rfl) rfl (Nat.le_refl _) (Nat.le_refl _) ⟨_, rfl, rfl, h⟩
  · replace h := h.2 c
    refine r_aload_n (pc := 15) (tb_at tkX1_hadCount 9 rfl) rfl rfl ?_
    refine r_get 1 3 (pc := 16) (tb_at tkX1_hadCount 10 rfl) (lyT0 ht) flX1_15 rfl ?_
    refine r_iload_n (pc := 19) (tb_at tkX1_hadCount 11 rfl) rfl rfl ?_
    refine r_iald (pc := 20) (tb_at tkX1_hadCount 12 rfl) (lyT2 ht) h.1.1 h.1.2 ?_
    replace h := h.2
    refine r_iconst (pc := 21) (tb_at tkX1_hadCount 13 rfl) ⟨by decide, by decide⟩ ?_
    refine q_icmp_eq (tgt := 28) (pc := 22) (tb_at tkX1_hadCount 14 rfl) (by decide) (fun c => ?_) (fun c => ?_)
    · replace h := h.1 c
      refine r_iinc (L' := [some (.inr (.inr (some t))), some (.inl v1), some (.inl (w32 (v2 + 1)))]) (pc := 28) (tb_at tkX1_hadCount 16 rfl) rfl (by decide) rfl ?_
      refine r_goto (tgt := 4) (pc := 31) (tb_at tkX1_hadCount 17 rfl) (by decide) ?_
      exact h
    · replace h := h.2 c
      refine r_iinc (L' := [some (.inr (.inr (some t))), some (.inl (w32 (v1 + 1))), some (.inl v2)]) (pc := 25) (tb_at tkX1_hadCount 15 rfl) rfl (by decide) rfl ?_
      refine r_iinc (L' := [some (.inr (.inr (some t))), some (.inl (w32 (v1 + 1))), some (.inl (w32 (v2 + 1)))]) (pc := 28) (tb_at tkX1_hadCount 16 rfl) rfl (by decide) rfl ?_
      refine r_goto (tgt := 4) (pc := 31) (tb_at tkX1_hadCount 17 rfl) (by decide) ?_
      exact h
set_option maxRecDepth 100000 in
set_option maxHeartbeats 4000000 in
theorem gX1_firstUnfair_0 {G : GE} {d : Nat} {K : Int → Mem → Prop} {M : Mem} {v2 : Int} {t : Nat} (ht : t = 28 ∨ t = 39) (h : OkI G miX1_firstUnfair (d + 1) K 2 [some (.inr (.inr (some t))), some (.inr (.inr (some 65))), some (.inl v2), some (.inl 1), none, none, none] [] M) : OkI G miX1_firstUnfair (d + 1) K 0 [some (.inr (.inr (some t))), some (.inr (.inr (some 65))), some (.inl v2), none, none, none, none] [] M := by
  refine r_iconst (pc := 0) (tb_at tkX1_firstUnfair 0 rfl) ⟨by decide, by decide⟩ ?_
  refine r_istore_n (L' := [some (.inr (.inr (some t))), some (.inr (.inr (some 65))), some (.inl v2), some (.inl 1), none, none, none]) (pc := 1) (tb_at tkX1_firstUnfair 1 rfl) rfl (by decide) rfl ?_
  exact h
set_option maxRecDepth 100000 in
set_option maxHeartbeats 4000000 in
theorem gX1_firstUnfair_2 {G : GE} {d : Nat} {K : Int → Mem → Prop} {M : Mem} {v2 v3 : Int} {t : Nat} (ht : t = 28 ∨ t = 39) (h : CalI G miX5_allFlights d [.inr (.inr (some 1))] M (fun x2 M1 => ((x2 < v3 → K (-1) M1) ∧ (v3 ≤ x2 → OkI G miX1_firstUnfair (d + 1) K 19 [some (.inr (.inr (some t))), some (.inr (.inr (some 65))), some (.inl v2), some (.inl v3), some (.inr (.inl 0)), none, some (.inl 0)] [] M1)))) : OkI G miX1_firstUnfair (d + 1) K 2 [some (.inr (.inr (some t))), some (.inr (.inr (some 65))), some (.inl v2), some (.inl v3), none, none, none] [] M := by
  refine r_iload_n (pc := 2) (tb_at tkX1_firstUnfair 2 rfl) rfl rfl ?_
  refine r_aload_n (pc := 3) (tb_at tkX1_firstUnfair 3 rfl) rfl rfl ?_
  refine r_get 1 0 (pc := 4) (tb_at tkX1_firstUnfair 4 rfl) (lyT0 ht) flX1_28 rfl ?_
  refine r_invV (mc' := 0) (ms' := 0) [] (S := [.inl v3]) (pc := 7) (tb_at tkX1_firstUnfair 5 rfl) rfl ly_1 rfl rfl clX1_42 (Nat.le_of_ble_eq_true rfl) (Nat.le_refl _) (Nat.le_refl _) ?_
  refine Cal.mono h ?_
  rintro _ _ M1 ⟨x2, rfl, rfl, h⟩
  show OkI G miX1_firstUnfair (d + 1) K 10 [some (.inr (.inr (some t))), some (.inr (.inr (some 65))), some (.inl v2), some (.inl v3), none, none, none] [.inl x2, .inl v3] M1
  refine q_icmp_gt (tgt := 88) (pc := 10) (tb_at tkX1_firstUnfair 6 rfl) (by decide) (fun c => ?_) (fun c => ?_)
  · replace h := h.1 c
    refine r_iconst (pc := 88) (tb_at tkX1_firstUnfair 52 rfl) ⟨by decide, by decide⟩ ?_
    exact r_iret (pc := 89) (tb_at tkX1_firstUnfair 53 rfl) rfl (Nat.le_refl _) (Nat.le_refl _) ⟨_, rfl, rfl, h⟩
  · replace h := h.2 c
    refine r_lconst (v := 0) (pc := 13) (tb_at tkX1_firstUnfair 7 rfl) ⟨by decide, by decide, by decide⟩ ?_
    refine r_lstore (L' := [some (.inr (.inr (some t))), some (.inr (.inr (some 65))), some (.inl v2), some (.inl v3), some (.inr (.inl 0)), none, none]) (pc := 14) (tb_at tkX1_firstUnfair 8 rfl) (by decide) rfl ?_
    refine r_iconst (pc := 16) (tb_at tkX1_firstUnfair 9 rfl) ⟨by decide, by decide⟩ ?_
    refine r_istore (L' := [some (.inr (.inr (some t))), some (.inr (.inr (some 65))), some (.inl v2), some (.inl v3), some (.inr (.inl 0)), none, some (.inl 0)]) (pc := 17) (tb_at tkX1_firstUnfair 10 rfl) (by decide) rfl ?_
    exact h
set_option maxRecDepth 100000 in
set_option maxHeartbeats 4000000 in
theorem gX1_firstUnfair_19 {G : GE} {d : Nat} {K : Int → Mem → Prop} {M : Mem} {v2 v3 v4 v6 : Int} {t : Nat} (ht : t = 28 ∨ t = 39) (h : (((M 1 8) ≤ v6 → (0 ≤ v3 ∧ v3 < 128) ∧ (((M (t + 2) (v3).toNat) = (-1) → OkI G miX1_firstUnfair (d + 1) K 2 [some (.inr (.inr (some t))), some (.inr (.inr (some 65))), some (.inl v2), some (.inl (w32 (v3 + 1))), none, none, none] [] M) ∧ (¬ (M (t + 2) (v3).toNat) = (-1) → (0 ≤ v3 ∧ v3 < 128) ∧ ((v4 ≤ (w64 (v2 * (M (t + 2) (v3).toNat))) → OkI G miX1_firstUnfair (d + 1) K 2 [some (.inr (.inr (some t))), some (.inr (.inr (some 65))), some (.inl v2), some (.inl (w32 (v3 + 1))), none, none, none] [] M) ∧ ((w64 (v2 * (M (t + 2) (v3).toNat))) < v4 → K v3 M))))) ∧ (v6 < (M 1 8) → (0 ≤ v6 ∧ v6 < 7) ∧ OkI G miX1_firstUnfair (d + 1) K 19 [some (.inr (.inr (some t))), some (.inr (.inr (some 65))), some (.inl v2), some (.inl v3), some (.inr (.inl (w64 (v4 + ((iand (ishr v3 v6) 1) * (M 65 (v6).toNat)))))), none, some (.inl (w32 (v6 + 1)))] [] M))) : OkI G miX1_firstUnfair (d + 1) K 19 [some (.inr (.inr (some t))), some (.inr (.inr (some 65))), some (.inl v2), some (.inl v3), some (.inr (.inl v4)), none, some (.inl v6)] [] M := by
  refine r_iload (pc := 19) (tb_at tkX1_firstUnfair 11 rfl) rfl ?_
  refine r_aload_n (pc := 21) (tb_at tkX1_firstUnfair 12 rfl) rfl rfl ?_
  refine r_get 1 0 (pc := 22) (tb_at tkX1_firstUnfair 13 rfl) (lyT0 ht) flX1_28 rfl ?_
  refine r_get 5 8 (pc := 25) (tb_at tkX1_firstUnfair 14 rfl) ly_1 flX1_62 rfl ?_
  refine q_icmp_ge (tgt := 54) (pc := 28) (tb_at tkX1_firstUnfair 15 rfl) (by decide) (fun c => ?_) (fun c => ?_)
  · replace h := h.1 c
    refine r_aload_n (pc := 54) (tb_at tkX1_firstUnfair 31 rfl) rfl rfl ?_
    refine r_get 1 3 (pc := 55) (tb_at tkX1_firstUnfair 32 rfl) (lyT0 ht) flX1_15 rfl ?_
    refine r_iload_n (pc := 58) (tb_at tkX1_firstUnfair 33 rfl) rfl rfl ?_
    refine r_iald (pc := 59) (tb_at tkX1_firstUnfair 34 rfl) (lyT2 ht) h.1.1 h.1.2 ?_
    replace h := h.2
    refine r_iconst (pc := 60) (tb_at tkX1_firstUnfair 35 rfl) ⟨by decide, by decide⟩ ?_
    refine q_icmp_eq (tgt := 82) (pc := 61) (tb_at tkX1_firstUnfair 36 rfl) (by decide) (fun c => ?_) (fun c => ?_)
    · replace h := h.1 c
      refine r_iinc (L' := [some (.inr (.inr (some t))), some (.inr (.inr (some 65))), some (.inl v2), some (.inl (w32 (v3 + 1))), some (.inr (.inl v4)), none, some (.inl v6)]) (pc := 82) (tb_at tkX1_firstUnfair 50 rfl) rfl (by decide) rfl ?_
      refine r_goto (tgt := 2) (pc := 85) (tb_at tkX1_firstUnfair 51 rfl) (by decide) ?_
      exact Ok.forget h (And.intro rfl (And.intro rfl (And.intro rfl (And.intro rfl trivial))))
    · replace h := h.2 c
      refine r_lload (pc := 64) (tb_at tkX1_firstUnfair 37 rfl) rfl ?_
      refine r_iload_n (pc := 66) (tb_at tkX1_firstUnfair 38 rfl) rfl rfl ?_
      refine r_i2l (pc := 67) (tb_at tkX1_firstUnfair 39 rfl) ?_
      refine r_aload_n (pc := 68) (tb_at tkX1_firstUnfair 40 rfl) rfl rfl ?_
      refine r_get 1 3 (pc := 69) (tb_at tkX1_firstUnfair 41 rfl) (lyT0 ht) flX1_15 rfl ?_
      refine r_iload_n (pc := 72) (tb_at tkX1_firstUnfair 42 rfl) rfl rfl ?_
      refine r_iald (pc := 73) (tb_at tkX1_firstUnfair 43 rfl) (lyT2 ht) h.1.1 h.1.2 ?_
      replace h := h.2
      refine r_i2l (pc := 74) (tb_at tkX1_firstUnfair 44 rfl) ?_
      refine r_lmul (pc := 75) (tb_at tkX1_firstUnfair 45 rfl) ?_
      refine r_lcmp (pc := 76) (tb_at tkX1_firstUnfair 46 rfl) ?_
      refine q_lif_le (tgt := 82) (pc := 77) (tb_at tkX1_firstUnfair 47 rfl) (by decide) (fun c => ?_) (fun c => ?_)
      · replace h := h.1 c
        refine r_iinc (L' := [some (.inr (.inr (some t))), some (.inr (.inr (some 65))), some (.inl v2), some (.inl (w32 (v3 + 1))), some (.inr (.inl v4)), none, some (.inl v6)]) (pc := 82) (tb_at tkX1_firstUnfair 50 rfl) rfl (by decide) rfl ?_
        refine r_goto (tgt := 2) (pc := 85) (tb_at tkX1_firstUnfair 51 rfl) (by decide) ?_
        exact Ok.forget h (And.intro rfl (And.intro rfl (And.intro rfl (And.intro rfl trivial))))
      · replace h := h.2 c
        refine r_iload_n (pc := 80) (tb_at tkX1_firstUnfair 48 rfl) rfl rfl ?_
        exact r_iret (pc := 81) (tb_at tkX1_firstUnfair 49 rfl) rfl (Nat.le_refl _) (Nat.le_refl _) ⟨_, rfl, rfl, h⟩
  · replace h := h.2 c
    refine r_lload (pc := 31) (tb_at tkX1_firstUnfair 16 rfl) rfl ?_
    refine r_iload_n (pc := 33) (tb_at tkX1_firstUnfair 17 rfl) rfl rfl ?_
    refine r_iload (pc := 34) (tb_at tkX1_firstUnfair 18 rfl) rfl ?_
    refine r_ishr (pc := 36) (tb_at tkX1_firstUnfair 19 rfl) ?_
    refine r_iconst (pc := 37) (tb_at tkX1_firstUnfair 20 rfl) ⟨by decide, by decide⟩ ?_
    refine r_iand (pc := 38) (tb_at tkX1_firstUnfair 21 rfl) ?_
    refine r_i2l (pc := 39) (tb_at tkX1_firstUnfair 22 rfl) ?_
    refine r_aload_n (pc := 40) (tb_at tkX1_firstUnfair 23 rfl) rfl rfl ?_
    refine r_iload (pc := 41) (tb_at tkX1_firstUnfair 24 rfl) rfl ?_
    refine r_lald (pc := 43) (tb_at tkX1_firstUnfair 25 rfl) ly_65 h.1.1 h.1.2 ?_
    replace h := h.2
    refine r_lmul (pc := 44) (tb_at tkX1_firstUnfair 26 rfl) ?_
    refine r_ladd_r (pc := 45) (tb_at tkX1_firstUnfair 27 rfl) ?_
    refine r_lstore (L' := [some (.inr (.inr (some t))), some (.inr (.inr (some 65))), some (.inl v2), some (.inl v3), some (.inr (.inl (w64 (v4 + ((iand (ishr v3 v6) 1) * (M 65 (v6).toNat)))))), none, some (.inl v6)]) (pc := 46) (tb_at tkX1_firstUnfair 28 rfl) (by decide) rfl ?_
    refine r_iinc (L' := [some (.inr (.inr (some t))), some (.inr (.inr (some 65))), some (.inl v2), some (.inl v3), some (.inr (.inl (w64 (v4 + ((iand (ishr v3 v6) 1) * (M 65 (v6).toNat)))))), none, some (.inl (w32 (v6 + 1)))]) (pc := 48) (tb_at tkX1_firstUnfair 29 rfl) rfl (by decide) rfl ?_
    refine r_goto (tgt := 19) (pc := 51) (tb_at tkX1_firstUnfair 30 rfl) (by decide) ?_
    exact h
set_option maxRecDepth 100000 in
set_option maxHeartbeats 4000000 in
theorem gX1_firstFree_0 {G : GE} {d : Nat} {K : Int → Mem → Prop} {M : Mem} {t mk : Nat} (ht : t = 28 ∨ t = 39) (hm : mk = 9 ∨ mk = 45) (h : OkI G miX1_firstFree (d + 1) K 2 [some (.inr (.inr (some t))), some (.inr (.inr (some mk))), some (.inl 0), none] [] M) : OkI G miX1_firstFree (d + 1) K 0 [some (.inr (.inr (some t))), some (.inr (.inr (some mk))), none, none] [] M := by
  refine r_iconst (pc := 0) (tb_at tkX1_firstFree 0 rfl) ⟨by decide, by decide⟩ ?_
  refine r_istore_n (L' := [some (.inr (.inr (some t))), some (.inr (.inr (some mk))), some (.inl 0), none]) (pc := 1) (tb_at tkX1_firstFree 1 rfl) rfl (by decide) rfl ?_
  exact h
set_option maxRecDepth 100000 in
set_option maxHeartbeats 4000000 in
theorem gX1_firstFree_2 {G : GE} {d : Nat} {K : Int → Mem → Prop} {M : Mem} {v2 : Int} {t mk : Nat} (ht : t = 28 ∨ t = 39) (hm : mk = 9 ∨ mk = 45) (h : (((M 1 8) ≤ v2 → K (-1) M) ∧ (v2 < (M 1 8) → OkI G miX1_firstFree (d + 1) K 15 [some (.inr (.inr (some t))), some (.inr (.inr (some mk))), some (.inl v2), some (.inl 0)] [] M))) : OkI G miX1_firstFree (d + 1) K 2 [some (.inr (.inr (some t))), some (.inr (.inr (some mk))), some (.inl v2), none] [] M := by
  refine r_iload_n (pc := 2) (tb_at tkX1_firstFree 2 rfl) rfl rfl ?_
  refine r_aload_n (pc := 3) (tb_at tkX1_firstFree 3 rfl) rfl rfl ?_
  refine r_get 1 0 (pc := 4) (tb_at tkX1_firstFree 4 rfl) (lyT0 ht) flX1_28 rfl ?_
  refine r_get 5 8 (pc := 7) (tb_at tkX1_firstFree 5 rfl) ly_1 flX1_62 rfl ?_
  refine q_icmp_ge (tgt := 65) (pc := 10) (tb_at tkX1_firstFree 6 rfl) (by decide) (fun c => ?_) (fun c => ?_)
  · replace h := h.1 c
    refine r_iconst (pc := 65) (tb_at tkX1_firstFree 37 rfl) ⟨by decide, by decide⟩ ?_
    exact r_iret (pc := 66) (tb_at tkX1_firstFree 38 rfl) rfl (Nat.le_refl _) (Nat.le_refl _) ⟨_, rfl, rfl, h⟩
  · replace h := h.2 c
    refine r_iconst (pc := 13) (tb_at tkX1_firstFree 7 rfl) ⟨by decide, by decide⟩ ?_
    refine r_istore_n (L' := [some (.inr (.inr (some t))), some (.inr (.inr (some mk))), some (.inl v2), some (.inl 0)]) (pc := 14) (tb_at tkX1_firstFree 8 rfl) rfl (by decide) rfl ?_
    exact h
set_option maxRecDepth 100000 in
set_option maxHeartbeats 4000000 in
theorem gX1_firstFree_15 {G : GE} {d : Nat} {K : Int → Mem → Prop} {M : Mem} {v2 v3 : Int} {t mk : Nat} (ht : t = 28 ∨ t = 39) (hm : mk = 9 ∨ mk = 45) (h : (((M 1 8) ≤ v3 → OkI G miX1_firstFree (d + 1) K 2 [some (.inr (.inr (some t))), some (.inr (.inr (some mk))), some (.inl (w32 (v2 + 1))), none] [] M) ∧ (v3 < (M 1 8) → (0 ≤ (v2 * 7) + v3 ∧ (v2 * 7) + v3 < 49) ∧ ((¬ (M mk ((v2 * 7) + v3).toNat) = 0 → OkI G miX1_firstFree (d + 1) K 15 [some (.inr (.inr (some t))), some (.inr (.inr (some mk))), some (.inl v2), some (.inl (w32 (v3 + 1)))] [] M) ∧ ((M mk ((v2 * 7) + v3).toNat) = 0 → CalI G miX1_standSomewhere d [.inr (.inr (some t)), .inl v2, .inl v3] M (fun x2 M1 => ((x2 = 0 → OkI G miX1_firstFree (d + 1) K 15 [some (.inr (.inr (some t))), some (.inr (.inr (some mk))), some (.inl v2), some (.inl (w32 (v3 + 1)))] [] M1) ∧ (¬ x2 = 0 → K (w32 ((v2 * 7) + v3)) M1)))))))) : OkI G miX1_firstFree (d + 1) K 15 [some (.inr (.inr (some t))), some (.inr (.inr (some mk))), some (.inl v2), some (.inl v3)] [] M := by
  refine r_iload_n (pc := 15) (tb_at tkX1_firstFree 9 rfl) rfl rfl ?_
  refine r_aload_n (pc := 16) (tb_at tkX1_firstFree 10 rfl) rfl rfl ?_
  refine r_get 1 0 (pc := 17) (tb_at tkX1_firstFree 11 rfl) (lyT0 ht) flX1_28 rfl ?_
  refine r_get 5 8 (pc := 20) (tb_at tkX1_firstFree 12 rfl) ly_1 flX1_62 rfl ?_
  refine q_icmp_ge (tgt := 59) (pc := 23) (tb_at tkX1_firstFree 13 rfl) (by decide) (fun c => ?_) (fun c => ?_)
  · replace h := h.1 c
    refine r_iinc (L' := [some (.inr (.inr (some t))), some (.inr (.inr (some mk))), some (.inl (w32 (v2 + 1))), some (.inl v3)]) (pc := 59) (tb_at tkX1_firstFree 35 rfl) rfl (by decide) rfl ?_
    refine r_goto (tgt := 2) (pc := 62) (tb_at tkX1_firstFree 36 rfl) (by decide) ?_
    exact Ok.forget h (And.intro rfl (And.intro rfl (And.intro rfl trivial)))
  · replace h := h.2 c
    refine r_aload_n (pc := 26) (tb_at tkX1_firstFree 14 rfl) rfl rfl ?_
    refine r_iload_n (pc := 27) (tb_at tkX1_firstFree 15 rfl) rfl rfl ?_
    refine r_bipush (pc := 28) (tb_at tkX1_firstFree 16 rfl) ⟨by decide, by decide, by decide⟩ ?_
    refine r_imul (pc := 30) (tb_at tkX1_firstFree 17 rfl) ?_
    refine r_iload_n (pc := 31) (tb_at tkX1_firstFree 18 rfl) rfl rfl ?_
    refine r_iadd_l (pc := 32) (tb_at tkX1_firstFree 19 rfl) ?_
    refine r_iald_w (pc := 33) (tb_at tkX1_firstFree 20 rfl) (lyMk hm) (by decide) h.1.1 h.1.2 ?_
    replace h := h.2
    refine q_if_ne (tgt := 53) (pc := 34) (tb_at tkX1_firstFree 21 rfl) (by decide) (fun c => ?_) (fun c => ?_)
    · replace h := h.1 c
      refine r_iinc (L' := [some (.inr (.inr (some t))), some (.inr (.inr (some mk))), some (.inl v2), some (.inl (w32 (v3 + 1)))]) (pc := 53) (tb_at tkX1_firstFree 33 rfl) rfl (by decide) rfl ?_
      refine r_goto (tgt := 15) (pc := 56) (tb_at tkX1_firstFree 34 rfl) (by decide) ?_
      exact h
    · replace h := h.2 c
      refine r_aload_n (pc := 37) (tb_at tkX1_firstFree 22 rfl) rfl rfl ?_
      refine r_iload_n (pc := 38) (tb_at tkX1_firstFree 23 rfl) rfl rfl ?_
      refine r_iload_n (pc := 39) (tb_at tkX1_firstFree 24 rfl) rfl rfl ?_
      refine r_invV (mc' := 0) (ms' := 0) [.inl v2, .inl v3] (S := []) (pc := 40) (tb_at tkX1_firstFree 25 rfl) rfl (lyT0 ht) rfl rfl clX1_90 (Nat.le_of_ble_eq_true rfl) (Nat.le_refl _) (Nat.le_refl _) ?_
      refine Cal.mono h ?_
      rintro _ _ M1 ⟨x2, rfl, rfl, h⟩
      show OkI G miX1_firstFree (d + 1) K 43 [some (.inr (.inr (some t))), some (.inr (.inr (some mk))), some (.inl v2), some (.inl v3)] [.inl x2] M1
      refine q_if_eq (tgt := 53) (pc := 43) (tb_at tkX1_firstFree 26 rfl) (by decide) (fun c => ?_) (fun c => ?_)
      · replace h := h.1 c
        refine r_iinc (L' := [some (.inr (.inr (some t))), some (.inr (.inr (some mk))), some (.inl v2), some (.inl (w32 (v3 + 1)))]) (pc := 53) (tb_at tkX1_firstFree 33 rfl) rfl (by decide) rfl ?_
        refine r_goto (tgt := 15) (pc := 56) (tb_at tkX1_firstFree 34 rfl) (by decide) ?_
        exact h
      · replace h := h.2 c
        refine r_iload_n (pc := 46) (tb_at tkX1_firstFree 27 rfl) rfl rfl ?_
        refine r_bipush (pc := 47) (tb_at tkX1_firstFree 28 rfl) ⟨by decide, by decide, by decide⟩ ?_
        refine r_imul (pc := 49) (tb_at tkX1_firstFree 29 rfl) ?_
        refine r_iload_n (pc := 50) (tb_at tkX1_firstFree 30 rfl) rfl rfl ?_
        refine r_iadd_l (pc := 51) (tb_at tkX1_firstFree 31 rfl) ?_
        exact r_iret (pc := 52) (tb_at tkX1_firstFree 32 rfl) rfl (Nat.le_refl _) (Nat.le_refl _) ⟨_, rfl, rfl, h⟩
set_option maxRecDepth 100000 in
set_option maxHeartbeats 4000000 in
theorem gX1_standSomewhere_0 {G : GE} {d : Nat} {K : Int → Mem → Prop} {M : Mem} {v1 v2 : Int} {t : Nat} (ht : t = 28 ∨ t = 39) (h : (0 ≤ (v1 * 7) + v2 ∧ (v1 * 7) + v2 < 49) ∧ ((¬ (M 21 ((v1 * 7) + v2).toNat) = 0 → OkI G miX1_standSomewhere (d + 1) K 21 [some (.inr (.inr (some t))), some (.inl v1), some (.inl v2), some (.inl 1)] [] M) ∧ ((M 21 ((v1 * 7) + v2).toNat) = 0 → K 0 M))) : OkI G miX1_standSomewhere (d + 1) K 0 [some (.inr (.inr (some t))), some (.inl v1), some (.inl v2), none] [] M := by
  refine r_aload_n (pc := 0) (tb_at tkX1_standSomewhere 0 rfl) rfl rfl ?_
  refine r_get 1 1 (pc := 1) (tb_at tkX1_standSomewhere 1 rfl) (lyT0 ht) flX1_32 rfl ?_
  refine r_get 4 2 (pc := 4) (tb_at tkX1_standSomewhere 2 rfl) ly_19 flX1_94 rfl ?_
  refine r_iload_n (pc := 7) (tb_at tkX1_standSomewhere 3 rfl) rfl rfl ?_
  refine r_bipush (pc := 8) (tb_at tkX1_standSomewhere 4 rfl) ⟨by decide, by decide, by decide⟩ ?_
  refine r_imul (pc := 10) (tb_at tkX1_standSomewhere 5 rfl) ?_
  refine r_iload_n (pc := 11) (tb_at tkX1_standSomewhere 6 rfl) rfl rfl ?_
  refine r_iadd_l (pc := 12) (tb_at tkX1_standSomewhere 7 rfl) ?_
  refine r_iald_w (pc := 13) (tb_at tkX1_standSomewhere 8 rfl) ly_21 (by decide) h.1.1 h.1.2 ?_
  replace h := h.2
  refine q_if_ne (tgt := 19) (pc := 14) (tb_at tkX1_standSomewhere 9 rfl) (by decide) (fun c => ?_) (fun c => ?_)
  · replace h := h.1 c
    refine r_iconst (pc := 19) (tb_at tkX1_standSomewhere 12 rfl) ⟨by decide, by decide⟩ ?_
    refine r_istore_n (L' := [some (.inr (.inr (some t))), some (.inl v1), some (.inl v2), some (.inl 1)]) (pc := 20) (tb_at tkX1_standSomewhere 13 rfl) rfl (by decide) rfl ?_
    exact h
  · replace h := h.2 c
    refine r_iconst (pc := 17) (tb_at tkX1_standSomewhere 10 rfl) ⟨by decide, by decide⟩ ?_
    exact r_zret (pc := 18) (tb_at tkX1_standSomewhere 11 rfl) rfl (by decide) (Nat.le_refl _) (Nat.le_refl _) ⟨_, rfl, rfl, h⟩
set_option maxRecDepth 100000 in
set_option maxHeartbeats 4000000 in
theorem gX1_standSomewhere_21 {G : GE} {d : Nat} {K : Int → Mem → Prop} {M : Mem} {v1 v2 v3 : Int} {t : Nat} (ht : t = 28 ∨ t = 39) (h : CalI G miX5_allFlights d [.inr (.inr (some 1))] M (fun x2 M1 => ((x2 < v3 → K 0 M1) ∧ (v3 ≤ x2 → (0 ≤ v3 ∧ v3 < 128) ∧ (((M1 (t + 1) (v3).toNat) = 0 → OkI G miX1_standSomewhere (d + 1) K 21 [some (.inr (.inr (some t))), some (.inl v1), some (.inl v2), some (.inl (w32 (v3 + 1)))] [] M1) ∧ (¬ (M1 (t + 1) (v3).toNat) = 0 → CalI G miX4_isRightBehind d [.inr (.inr (some 19)), .inl v3, .inl v1, .inl v2] M1 (fun x4 M3 => ((x4 = 0 → OkI G miX1_standSomewhere (d + 1) K 21 [some (.inr (.inr (some t))), some (.inl v1), some (.inl v2), some (.inl (w32 (v3 + 1)))] [] M3) ∧ (¬ x4 = 0 → K 1 M3))))))))) : OkI G miX1_standSomewhere (d + 1) K 21 [some (.inr (.inr (some t))), some (.inl v1), some (.inl v2), some (.inl v3)] [] M := by
  refine r_iload_n (pc := 21) (tb_at tkX1_standSomewhere 14 rfl) rfl rfl ?_
  refine r_aload_n (pc := 22) (tb_at tkX1_standSomewhere 15 rfl) rfl rfl ?_
  refine r_get 1 0 (pc := 23) (tb_at tkX1_standSomewhere 16 rfl) (lyT0 ht) flX1_28 rfl ?_
  refine r_invV (mc' := 0) (ms' := 0) [] (S := [.inl v3]) (pc := 26) (tb_at tkX1_standSomewhere 17 rfl) rfl ly_1 rfl rfl clX1_42 (Nat.le_of_ble_eq_true rfl) (Nat.le_refl _) (Nat.le_refl _) ?_
  refine Cal.mono h ?_
  rintro _ _ M1 ⟨x2, rfl, rfl, h⟩
  show OkI G miX1_standSomewhere (d + 1) K 29 [some (.inr (.inr (some t))), some (.inl v1), some (.inl v2), some (.inl v3)] [.inl x2, .inl v3] M1
  refine q_icmp_gt (tgt := 62) (pc := 29) (tb_at tkX1_standSomewhere 18 rfl) (by decide) (fun c => ?_) (fun c => ?_)
  · replace h := h.1 c
    refine r_iconst (pc := 62) (tb_at tkX1_standSomewhere 35 rfl) ⟨by decide, by decide⟩ ?_
    exact r_zret (pc := 63) (tb_at tkX1_standSomewhere 36 rfl) rfl (by decide) (Nat.le_refl _) (Nat.le_refl _) ⟨_, rfl, rfl, h⟩
  · replace h := h.2 c
    refine r_aload_n (pc := 32) (tb_at tkX1_standSomewhere 19 rfl) rfl rfl ?_
    refine r_get 1 2 (pc := 33) (tb_at tkX1_standSomewhere 20 rfl) (lyT0 ht) flX1_9 rfl ?_
    refine r_iload_n (pc := 36) (tb_at tkX1_standSomewhere 21 rfl) rfl rfl ?_
    refine r_zald (pc := 37) (tb_at tkX1_standSomewhere 22 rfl) (lyT1 ht) h.1.1 h.1.2 ?_
    replace h := h.2
    refine q_if_eq (tgt := 56) (pc := 38) (tb_at tkX1_standSomewhere 23 rfl) (by decide) (fun c => ?_) (fun c => ?_)
    · replace h := h.1 c
      refine r_iinc (L' := [some (.inr (.inr (some t))), some (.inl v1), some (.inl v2), some (.inl (w32 (v3 + 1)))]) (pc := 56) (tb_at tkX1_standSomewhere 33 rfl) rfl (by decide) rfl ?_
      refine r_goto (tgt := 21) (pc := 59) (tb_at tkX1_standSomewhere 34 rfl) (by decide) ?_
      exact h
    · replace h := h.2 c
      refine r_aload_n (pc := 41) (tb_at tkX1_standSomewhere 24 rfl) rfl rfl ?_
      refine r_get 1 1 (pc := 42) (tb_at tkX1_standSomewhere 25 rfl) (lyT0 ht) flX1_32 rfl ?_
      refine r_iload_n (pc := 45) (tb_at tkX1_standSomewhere 26 rfl) rfl rfl ?_
      refine r_iload_n (pc := 46) (tb_at tkX1_standSomewhere 27 rfl) rfl rfl ?_
      refine r_iload_n (pc := 47) (tb_at tkX1_standSomewhere 28 rfl) rfl rfl ?_
      refine r_invV (mc' := 0) (ms' := 0) [.inl v3, .inl v1, .inl v2] (S := []) (pc := 48) (tb_at tkX1_standSomewhere 29 rfl) rfl ly_19 rfl rfl clX1_66 (Nat.le_of_ble_eq_true rfl) (Nat.le_refl _) (Nat.le_refl _) ?_
      refine Cal.mono h ?_
      rintro _ _ M3 ⟨x4, rfl, rfl, h⟩
      show OkI G miX1_standSomewhere (d + 1) K 51 [some (.inr (.inr (some t))), some (.inl v1), some (.inl v2), some (.inl v3)] [.inl x4] M3
      refine q_if_eq (tgt := 56) (pc := 51) (tb_at tkX1_standSomewhere 30 rfl) (by decide) (fun c => ?_) (fun c => ?_)
      · replace h := h.1 c
        refine r_iinc (L' := [some (.inr (.inr (some t))), some (.inl v1), some (.inl v2), some (.inl (w32 (v3 + 1)))]) (pc := 56) (tb_at tkX1_standSomewhere 33 rfl) rfl (by decide) rfl ?_
        refine r_goto (tgt := 21) (pc := 59) (tb_at tkX1_standSomewhere 34 rfl) (by decide) ?_
        exact h
      · replace h := h.2 c
        refine r_iconst (pc := 54) (tb_at tkX1_standSomewhere 31 rfl) ⟨by decide, by decide⟩ ?_
        exact r_zret (pc := 55) (tb_at tkX1_standSomewhere 32 rfl) rfl (by decide) (Nat.le_refl _) (Nat.le_refl _) ⟨_, rfl, rfl, h⟩
set_option maxRecDepth 100000 in
set_option maxHeartbeats 4000000 in
theorem gX2_learn_0 {G : GE} {d : Nat} {K : Mem → Prop} {M : Mem}  (h : CalV G miJ7_fill_53178 d [.inr (.inr (some 55)), .inl 0] M (fun M1 => CalI G miX5_allFlights d [.inr (.inr (some 1))] M1 (fun x3 M2 => OkV G miX2_learn (d + 1) K 18 [some (.inr (.inr (some 54))), some (.inr (.inr (some 28))), some (.inl x3), some (.inl 0), none] [] M2))) : OkV G miX2_learn (d + 1) K 0 [some (.inr (.inr (some 54))), some (.inr (.inr (some 28))), none, none, none] [] M := by
  refine r_aload_n (pc := 0) (tb_at tkX2_learn 0 rfl) rfl rfl ?_
  refine r_get 2 2 (pc := 1) (tb_at tkX2_learn 1 rfl) ly_54 flX2_9 rfl ?_
  refine r_iconst (pc := 4) (tb_at tkX2_learn 2 rfl) ⟨by decide, by decide⟩ ?_
  refine r_invS (mc' := 0) (ms' := 0) [.inr (.inr (some 55)), .inl 0] (S := []) (pc := 5) (tb_at tkX2_learn 3 rfl) rfl clX2_29 (Nat.le_of_ble_eq_true rfl) (Nat.le_refl _) (Nat.le_refl _) ?_
  refine Cal.mono h ?_
  rintro _ _ M1 ⟨rfl, rfl, h⟩
  show OkV G miX2_learn (d + 1) K 8 [some (.inr (.inr (some 54))), some (.inr (.inr (some 28))), none, none, none] [] M1
  refine r_aload_n (pc := 8) (tb_at tkX2_learn 4 rfl) rfl rfl ?_
  refine r_get 2 0 (pc := 9) (tb_at tkX2_learn 5 rfl) ly_54 flX2_21 rfl ?_
  refine r_invV (mc' := 0) (ms' := 0) [] (S := []) (pc := 12) (tb_at tkX2_learn 6 rfl) rfl ly_1 rfl rfl clX2_35 (Nat.le_of_ble_eq_true rfl) (Nat.le_refl _) (Nat.le_refl _) ?_
  refine Cal.mono h ?_
  rintro _ _ M2 ⟨x3, rfl, rfl, h⟩
  show OkV G miX2_learn (d + 1) K 15 [some (.inr (.inr (some 54))), some (.inr (.inr (some 28))), none, none, none] [.inl x3] M2
  refine r_istore_n (L' := [some (.inr (.inr (some 54))), some (.inr (.inr (some 28))), some (.inl x3), none, none]) (pc := 15) (tb_at tkX2_learn 7 rfl) rfl (by decide) rfl ?_
  refine r_iconst (pc := 16) (tb_at tkX2_learn 8 rfl) ⟨by decide, by decide⟩ ?_
  refine r_istore_n (L' := [some (.inr (.inr (some 54))), some (.inr (.inr (some 28))), some (.inl x3), some (.inl 0), none]) (pc := 17) (tb_at tkX2_learn 9 rfl) rfl (by decide) rfl ?_
  exact h
set_option maxRecDepth 100000 in
set_option maxHeartbeats 4000000 in
theorem gX2_learn_18 {G : GE} {d : Nat} {K : Mem → Prop} {M : Mem} {v2 v3 : Int}  (h : ((7 ≤ v3 → K M) ∧ (v3 < 7 → (0 ≤ v2 ∧ v2 < 128) ∧ (((M 32 (v2).toNat) = 0 → K M) ∧ (¬ (M 32 (v2).toNat) = 0 → (0 ≤ v2 ∧ v2 < 128) ∧ (0 ≤ M 32 (v2).toNat ∧ M 32 (v2).toNat < 128) ∧ CalV G miX2_learnPairing d [.inr (.inr (some 54)), .inl (M 31 (M 32 (v2).toNat).toNat)] M (fun M1 => OkV G miX2_learn (d + 1) K 18 [some (.inr (.inr (some 54))), some (.inr (.inr (some 28))), some (.inl (iand v2 (ixor (M 32 (v2).toNat) (-1)))), some (.inl (w32 (v3 + 1))), none] [] M1)))))) : OkV G miX2_learn (d + 1) K 18 [some (.inr (.inr (some 54))), some (.inr (.inr (some 28))), some (.inl v2), some (.inl v3), none] [] M := by
  refine r_iload_n (pc := 18) (tb_at tkX2_learn 10 rfl) rfl rfl ?_
  refine r_bipush (pc := 19) (tb_at tkX2_learn 11 rfl) ⟨by decide, by decide, by decide⟩ ?_
  refine q_icmp_ge (tgt := 65) (pc := 21) (tb_at tkX2_learn 12 rfl) (by decide) (fun c => ?_) (fun c => ?_)
  · replace h := h.1 c
    exact r_vret (pc := 65) (tb_at tkX2_learn 37 rfl) rfl (Nat.le_refl _) (Nat.le_refl _) ⟨rfl, rfl, h⟩
  · replace h := h.2 c
    refine r_aload_n (pc := 24) (tb_at tkX2_learn 13 rfl) rfl rfl ?_
    refine r_get 1 5 (pc := 25) (tb_at tkX2_learn 14 rfl) ly_28 flX2_41 rfl ?_
    refine r_iload_n (pc := 28) (tb_at tkX2_learn 15 rfl) rfl rfl ?_
    refine r_iald (pc := 29) (tb_at tkX2_learn 16 rfl) ly_32 h.1.1 h.1.2 ?_
    replace h := h.2
    refine q_if_eq (tgt := 65) (pc := 30) (tb_at tkX2_learn 17 rfl) (by decide) (fun c => ?_) (fun c => ?_)
    · replace h := h.1 c
      exact r_vret (pc := 65) (tb_at tkX2_learn 37 rfl) rfl (Nat.le_refl _) (Nat.le_refl _) ⟨rfl, rfl, h⟩
    · replace h := h.2 c
      refine r_aload_n (pc := 33) (tb_at tkX2_learn 18 rfl) rfl rfl ?_
      refine r_get 1 5 (pc := 34) (tb_at tkX2_learn 19 rfl) ly_28 flX2_41 rfl ?_
      refine r_iload_n (pc := 37) (tb_at tkX2_learn 20 rfl) rfl rfl ?_
      refine r_iald (pc := 38) (tb_at tkX2_learn 21 rfl) ly_32 h.1.1 h.1.2 ?_
      replace h := h.2
      refine r_istore (L' := [some (.inr (.inr (some 54))), some (.inr (.inr (some 28))), some (.inl v2), some (.inl v3), some (.inl (M 32 (v2).toNat))]) (pc := 39) (tb_at tkX2_learn 22 rfl) (by decide) rfl ?_
      refine r_aload_n (pc := 41) (tb_at tkX2_learn 23 rfl) rfl rfl ?_
      refine r_aload_n (pc := 42) (tb_at tkX2_learn 24 rfl) rfl rfl ?_
      refine r_get 1 4 (pc := 43) (tb_at tkX2_learn 25 rfl) ly_28 flX2_46 rfl ?_
      refine r_iload (pc := 46) (tb_at tkX2_learn 26 rfl) rfl ?_
      refine r_iald (pc := 48) (tb_at tkX2_learn 27 rfl) ly_31 h.1.1 h.1.2 ?_
      replace h := h.2
      refine r_invV (mc' := 0) (ms' := 0) [.inl (M 31 (M 32 (v2).toNat).toNat)] (S := []) (pc := 49) (tb_at tkX2_learn 28 rfl) rfl ly_54 rfl rfl clX2_49 (Nat.le_of_ble_eq_true rfl) (Nat.le_refl _) (Nat.le_refl _) ?_
      refine Cal.mono h ?_
      rintro _ _ M1 ⟨rfl, rfl, h⟩
      show OkV G miX2_learn (d + 1) K 52 [some (.inr (.inr (some 54))), some (.inr (.inr (some 28))), some (.inl v2), some (.inl v3), some (.inl (M 32 (v2).toNat))] [] M1
      refine r_iload_n (pc := 52) (tb_at tkX2_learn 29 rfl) rfl rfl ?_
      refine r_iload (pc := 53) (tb_at tkX2_learn 30 rfl) rfl ?_
      refine r_iconst (pc := 55) (tb_at tkX2_learn 31 rfl) ⟨by decide, by decide⟩ ?_
      refine r_ixor (pc := 56) (tb_at tkX2_learn 32 rfl) ?_
      refine r_iand (pc := 57) (tb_at tkX2_learn 33 rfl) ?_
      refine r_istore_n (L' := [some (.inr (.inr (some 54))), some (.inr (.inr (some 28))), some (.inl (iand v2 (ixor (M 32 (v2).toNat) (-1)))), some (.inl v3), some (.inl (M 32 (v2).toNat))]) (pc := 58) (tb_at tkX2_learn 34 rfl) rfl (by decide) rfl ?_
      refine r_iinc (L' := [some (.inr (.inr (some 54))), some (.inr (.inr (some 28))), some (.inl (iand v2 (ixor (M 32 (v2).toNat) (-1)))), some (.inl (w32 (v3 + 1))), some (.inl (M 32 (v2).toNat))]) (pc := 59) (tb_at tkX2_learn 35 rfl) rfl (by decide) rfl ?_
      refine r_goto (tgt := 18) (pc := 62) (tb_at tkX2_learn 36 rfl) (by decide) ?_
      exact Ok.forget h (And.intro rfl (And.intro rfl (And.intro rfl (And.intro rfl trivial))))
set_option maxRecDepth 100000 in
set_option maxHeartbeats 4000000 in
theorem gX2_learnPairing_0 {G : GE} {d : Nat} {K : Mem → Prop} {M : Mem} {v1 : Int}  (h : OkV G miX2_learnPairing d K 4 [some (.inr (.inr (some 54))), some (.inl v1), some (.inl (-1)), some (.inl 0), none] [] M) : OkV G miX2_learnPairing d K 0 [some (.inr (.inr (some 54))), some (.inl v1), none, none, none] [] M := by
  refine r_iconst (pc := 0) (tb_at tkX2_learnPairing 0 rfl) ⟨by decide, by decide⟩ ?_
  refine r_istore_n (L' := [some (.inr (.inr (some 54))), some (.inl v1), some (.inl (-1)), none, none]) (pc := 1) (tb_at tkX2_learnPairing 1 rfl) rfl (by decide) rfl ?_
  refine r_iconst (pc := 2) (tb_at tkX2_learnPairing 2 rfl) ⟨by decide, by decide⟩ ?_
  refine r_istore_n (L' := [some (.inr (.inr (some 54))), some (.inl v1), some (.inl (-1)), some (.inl 0), none]) (pc := 3) (tb_at tkX2_learnPairing 3 rfl) rfl (by decide) rfl ?_
  exact h
set_option maxRecDepth 100000 in
set_option maxHeartbeats 4000000 in
theorem gX2_learnPairing_4 {G : GE} {d : Nat} {K : Mem → Prop} {M : Mem} {v1 v2 v3 : Int}  (h : (((M 1 8) ≤ v3 → K M) ∧ (v3 < (M 1 8) → (0 ≤ v3 ∧ v3 < 7) ∧ ((¬ (iand (ishr v1 (M 20 (v3).toNat)) 1) = 0 → ((v2 = (-1) → OkV G miX2_learnPairing d K 4 [some (.inr (.inr (some 54))), some (.inl v1), some (.inl (M 20 (v3).toNat)), some (.inl (w32 (v3 + 1))), none] [] M) ∧ (¬ v2 = (-1) → (0 ≤ M 20 (v3).toNat ∧ M 20 (v3).toNat < 7) ∧ (0 ≤ M 20 (v3).toNat ∧ M 20 (v3).toNat < 7) ∧ OkV G miX2_learnPairing d K 4 [some (.inr (.inr (some 54))), some (.inl v1), some (.inl (M 20 (v3).toNat)), some (.inl (w32 (v3 + 1))), none] [] (mup M 55 (M 20 (v3).toNat).toNat (ior (M 55 (M 20 (v3).toNat).toNat) (ishl 1 v2)))))) ∧ ((iand (ishr v1 (M 20 (v3).toNat)) 1) = 0 → OkV G miX2_learnPairing d K 4 [some (.inr (.inr (some 54))), some (.inl v1), some (.inl v2), some (.inl (w32 (v3 + 1))), none] [] M))))) : OkV G miX2_learnPairing d K 4 [some (.inr (.inr (some 54))), some (.inl v1), some (.inl v2), some (.inl v3), none] [] M := by
  refine r_iload_n (pc := 4) (tb_at tkX2_learnPairing 4 rfl) rfl rfl ?_
  refine r_aload_n (pc := 5) (tb_at tkX2_learnPairing 5 rfl) rfl rfl ?_
  refine r_get 2 0 (pc := 6) (tb_at tkX2_learnPairing 6 rfl) ly_54 flX2_21 rfl ?_
  refine r_get 5 8 (pc := 9) (tb_at tkX2_learnPairing 7 rfl) ly_1 flX2_53 rfl ?_
  refine q_icmp_ge (tgt := 65) (pc := 12) (tb_at tkX2_learnPairing 8 rfl) (by decide) (fun c => ?_) (fun c => ?_)
  · replace h := h.1 c
    exact r_vret (pc := 65) (tb_at tkX2_learnPairing 39 rfl) rfl (Nat.le_refl _) (Nat.le_refl _) ⟨rfl, rfl, h⟩
  · replace h := h.2 c
    refine r_aload_n (pc := 15) (tb_at tkX2_learnPairing 9 rfl) rfl rfl ?_
    refine r_get 2 1 (pc := 16) (tb_at tkX2_learnPairing 10 rfl) ly_54 flX2_25 rfl ?_
    refine r_get 4 1 (pc := 19) (tb_at tkX2_learnPairing 11 rfl) ly_19 flX2_57 rfl ?_
    refine r_iload_n (pc := 22) (tb_at tkX2_learnPairing 12 rfl) rfl rfl ?_
    refine r_iald (pc := 23) (tb_at tkX2_learnPairing 13 rfl) ly_20 h.1.1 h.1.2 ?_
    replace h := h.2
    refine r_istore (L' := [some (.inr (.inr (some 54))), some (.inl v1), some (.inl v2), some (.inl v3), some (.inl (M 20 (v3).toNat))]) (pc := 24) (tb_at tkX2_learnPairing 14 rfl) (by decide) rfl ?_
    refine r_iload_n (pc := 26) (tb_at tkX2_learnPairing 15 rfl) rfl rfl ?_
    refine r_iload (pc := 27) (tb_at tkX2_learnPairing 16 rfl) rfl ?_
    refine r_ishr (pc := 29) (tb_at tkX2_learnPairing 17 rfl) ?_
    refine r_iconst (pc := 30) (tb_at tkX2_learnPairing 18 rfl) ⟨by decide, by decide⟩ ?_
    refine r_iand (pc := 31) (tb_at tkX2_learnPairing 19 rfl) ?_
    refine q_if_ne (tgt := 38) (pc := 32) (tb_at tkX2_learnPairing 20 rfl) (by decide) (fun c => ?_) (fun c => ?_)
    · replace h := h.1 c
      refine r_iload_n (pc := 38) (tb_at tkX2_learnPairing 22 rfl) rfl rfl ?_
      refine r_iconst (pc := 39) (tb_at tkX2_learnPairing 23 rfl) ⟨by decide, by decide⟩ ?_
      refine q_icmp_eq (tgt := 56) (pc := 40) (tb_at tkX2_learnPairing 24 rfl) (by decide) (fun c => ?_) (fun c => ?_)
      · replace h := h.1 c
        refine r_iload (pc := 56) (tb_at tkX2_learnPairing 35 rfl) rfl ?_
        refine r_istore_n (L' := [some (.inr (.inr (some 54))), some (.inl v1), some (.inl (M 20 (v3).toNat)), some (.inl v3), some (.inl (M 20 (v3).toNat))]) (pc := 58) (tb_at tkX2_learnPairing 36 rfl) rfl (by decide) rfl ?_
        refine r_iinc (L' := [some (.inr (.inr (some 54))), some (.inl v1), some (.inl (M 20 (v3).toNat)), some (.inl (w32 (v3 + 1))), some (.inl (M 20 (v3).toNat))]) (pc := 59) (tb_at tkX2_learnPairing 37 rfl) rfl (by decide) rfl ?_
        refine r_goto (tgt := 4) (pc := 62) (tb_at tkX2_learnPairing 38 rfl) (by decide) ?_
        exact Ok.forget h (And.intro rfl (And.intro rfl (And.intro rfl (And.intro rfl trivial))))
      · replace h := h.2 c
        refine r_aload_n (pc := 43) (tb_at tkX2_learnPairing 25 rfl) rfl rfl ?_
        refine r_get 2 2 (pc := 44) (tb_at tkX2_learnPairing 26 rfl) ly_54 flX2_9 rfl ?_
        refine r_iload (pc := 47) (tb_at tkX2_learnPairing 27 rfl) rfl ?_
        refine r_dup2 (pc := 49) (tb_at tkX2_learnPairing 28 rfl) ?_
        refine r_iald (pc := 50) (tb_at tkX2_learnPairing 29 rfl) ly_55 h.1.1 h.1.2 ?_
        replace h := h.2
        refine r_iconst (pc := 51) (tb_at tkX2_learnPairing 30 rfl) ⟨by decide, by decide⟩ ?_
        refine r_iload_n (pc := 52) (tb_at tkX2_learnPairing 31 rfl) rfl rfl ?_
        refine r_ishl (pc := 53) (tb_at tkX2_learnPairing 32 rfl) ?_
        refine r_ior (pc := 54) (tb_at tkX2_learnPairing 33 rfl) ?_
        refine r_iast (pc := 55) (tb_at tkX2_learnPairing 34 rfl) ly_55 h.1.1 h.1.2 rfl ?_
        replace h := h.2
        refine r_iload (pc := 56) (tb_at tkX2_learnPairing 35 rfl) rfl ?_
        refine r_istore_n (L' := [some (.inr (.inr (some 54))), some (.inl v1), some (.inl (M 20 (v3).toNat)), some (.inl v3), some (.inl (M 20 (v3).toNat))]) (pc := 58) (tb_at tkX2_learnPairing 36 rfl) rfl (by decide) rfl ?_
        refine r_iinc (L' := [some (.inr (.inr (some 54))), some (.inl v1), some (.inl (M 20 (v3).toNat)), some (.inl (w32 (v3 + 1))), some (.inl (M 20 (v3).toNat))]) (pc := 59) (tb_at tkX2_learnPairing 37 rfl) rfl (by decide) rfl ?_
        refine r_goto (tgt := 4) (pc := 62) (tb_at tkX2_learnPairing 38 rfl) (by decide) ?_
        exact Ok.forget h (And.intro rfl (And.intro rfl (And.intro rfl (And.intro rfl trivial))))
    · replace h := h.2 c
      refine r_goto (tgt := 59) (pc := 35) (tb_at tkX2_learnPairing 21 rfl) (by decide) ?_
      refine r_iinc (L' := [some (.inr (.inr (some 54))), some (.inl v1), some (.inl v2), some (.inl (w32 (v3 + 1))), some (.inl (M 20 (v3).toNat))]) (pc := 59) (tb_at tkX2_learnPairing 37 rfl) rfl (by decide) rfl ?_
      refine r_goto (tgt := 4) (pc := 62) (tb_at tkX2_learnPairing 38 rfl) (by decide) ?_
      exact Ok.forget h (And.intro rfl (And.intro rfl (And.intro rfl (And.intro rfl trivial))))
set_option maxRecDepth 100000 in
set_option maxHeartbeats 4000000 in
theorem gX2_byOne_0 {G : GE} {d : Nat} {K : Int → Mem → Prop} {M : Mem} {v1 v2 : Int}  (h : CalV G miJ7_fill_53178 d [.inr (.inr (some 56)), .inl 0] M (fun M1 => (0 ≤ v1 ∧ v1 < 7) ∧ CalI G miX2_spread d [.inr (.inr (some 54))] (mup M1 56 (v1).toNat v2) (fun x3 M2 => K x3 M2))) : OkI G miX2_byOne (d + 1) K 0 [some (.inr (.inr (some 54))), some (.inl v1), some (.inl v2)] [] M := by
  refine r_aload_n (pc := 0) (tb_at tkX2_byOne 0 rfl) rfl rfl ?_
  refine r_get 2 3 (pc := 1) (tb_at tkX2_byOne 1 rfl) ly_54 flX2_15 rfl ?_
  refine r_iconst (pc := 4) (tb_at tkX2_byOne 2 rfl) ⟨by decide, by decide⟩ ?_
  refine r_invS (mc' := 0) (ms' := 0) [.inr (.inr (some 56)), .inl 0] (S := []) (pc := 5) (tb_at tkX2_byOne 3 rfl) rfl clX2_29 (Nat.le_of_ble_eq_true rfl) (Nat.le_refl _) (Nat.le_refl _) ?_
  refine Cal.mono h ?_
  rintro _ _ M1 ⟨rfl, rfl, h⟩
  show OkI G miX2_byOne (d + 1) K 8 [some (.inr (.inr (some 54))), some (.inl v1), some (.inl v2)] [] M1
  refine r_aload_n (pc := 8) (tb_at tkX2_byOne 4 rfl) rfl rfl ?_
  refine r_get 2 3 (pc := 9) (tb_at tkX2_byOne 5 rfl) ly_54 flX2_15 rfl ?_
  refine r_iload_n (pc := 12) (tb_at tkX2_byOne 6 rfl) rfl rfl ?_
  refine r_iload_n (pc := 13) (tb_at tkX2_byOne 7 rfl) rfl rfl ?_
  refine r_iast (pc := 14) (tb_at tkX2_byOne 8 rfl) ly_56 h.1.1 h.1.2 rfl ?_
  replace h := h.2
  refine r_aload_n (pc := 15) (tb_at tkX2_byOne 9 rfl) rfl rfl ?_
  refine r_invV (mc' := 0) (ms' := 0) [] (S := []) (pc := 16) (tb_at tkX2_byOne 10 rfl) rfl ly_54 rfl rfl clX2_62 (Nat.le_of_ble_eq_true rfl) (Nat.le_refl _) (Nat.le_refl _) ?_
  refine Cal.mono h ?_
  rintro _ _ M2 ⟨x3, rfl, rfl, h⟩
  show OkI G miX2_byOne (d + 1) K 19 [some (.inr (.inr (some 54))), some (.inl v1), some (.inl v2)] [.inl x3] M2
  exact r_iret (pc := 19) (tb_at tkX2_byOne 11 rfl) rfl (Nat.le_refl _) (Nat.le_refl _) ⟨_, rfl, rfl, h⟩
set_option maxRecDepth 100000 in
set_option maxHeartbeats 4000000 in
theorem gX2_bySeed_0 {G : GE} {d : Nat} {K : Int → Mem → Prop} {M : Mem} {v1 v2 : Int}  (h : OkI G miX2_bySeed (d + 1) K 5 [some (.inr (.inr (some 54))), none, some (.inl v2), some (.inl v1), some (.inl 0)] [] M) : OkI G miX2_bySeed (d + 1) K 0 [some (.inr (.inr (some 54))), some (.inl v1), some (.inl v2), none, none] [] M := by
  refine r_iload_n (pc := 0) (tb_at tkX2_bySeed 0 rfl) rfl rfl ?_
  refine r_istore_n (L' := [some (.inr (.inr (some 54))), some (.inl v1), some (.inl v2), some (.inl v1), none]) (pc := 1) (tb_at tkX2_bySeed 1 rfl) rfl (by decide) rfl ?_
  refine r_iconst (pc := 2) (tb_at tkX2_bySeed 2 rfl) ⟨by decide, by decide⟩ ?_
  refine r_istore (L' := [some (.inr (.inr (some 54))), some (.inl v1), some (.inl v2), some (.inl v1), some (.inl 0)]) (pc := 3) (tb_at tkX2_bySeed 3 rfl) (by decide) rfl ?_
  exact Ok.forget h (And.intro rfl (And.intro rfl (And.intro rfl (And.intro rfl trivial))))
set_option maxRecDepth 100000 in
set_option maxHeartbeats 4000000 in
theorem gX2_bySeed_5 {G : GE} {d : Nat} {K : Int → Mem → Prop} {M : Mem} {v2 v3 v4 : Int}  (h : (((M 1 8) ≤ v4 → CalI G miX2_spread d [.inr (.inr (some 54))] M (fun x2 M1 => K x2 M1)) ∧ (v4 < (M 1 8) → ((v2 ≤ 0 → OkI G miX2_bySeed (d + 1) K 46 [some (.inr (.inr (some 54))), none, some (.inl v2), some (.inl (w32 ((v3 * 1103515245) + 12345))), some (.inl v4)] [.inl 0, .inl v4, .inr (.inr (some 56))] M) ∧ (0 < v2 → ¬ v2 = 0 ∧ OkI G miX2_bySeed (d + 1) K 46 [some (.inr (.inr (some 54))), none, some (.inl v2), some (.inl (w32 ((v3 * 1103515245) + 12345))), some (.inl v4)] [.inl (irem (iushr (w32 ((v3 * 1103515245) + 12345)) 9) v2), .inl v4, .inr (.inr (some 56))] M))))) : OkI G miX2_bySeed (d + 1) K 5 [some (.inr (.inr (some 54))), none, some (.inl v2), some (.inl v3), some (.inl v4)] [] M := by
  refine r_iload (pc := 5) (tb_at tkX2_bySeed 4 rfl) rfl ?_
  refine r_aload_n (pc := 7) (tb_at tkX2_bySeed 5 rfl) rfl rfl ?_
  refine r_get 2 0 (pc := 8) (tb_at tkX2_bySeed 6 rfl) ly_54 flX2_21 rfl ?_
  refine r_get 5 8 (pc := 11) (tb_at tkX2_bySeed 7 rfl) ly_1 flX2_53 rfl ?_
  refine q_icmp_ge (tgt := 53) (pc := 14) (tb_at tkX2_bySeed 8 rfl) (by decide) (fun c => ?_) (fun c => ?_)
  · replace h := h.1 c
    refine r_aload_n (pc := 53) (tb_at tkX2_bySeed 30 rfl) rfl rfl ?_
    refine r_invV (mc' := 0) (ms' := 0) [] (S := []) (pc := 54) (tb_at tkX2_bySeed 31 rfl) rfl ly_54 rfl rfl clX2_62 (Nat.le_of_ble_eq_true rfl) (Nat.le_refl _) (Nat.le_refl _) ?_
    refine Cal.mono h ?_
    rintro _ _ M1 ⟨x2, rfl, rfl, h⟩
    show OkI G miX2_bySeed (d + 1) K 57 [some (.inr (.inr (some 54))), none, some (.inl v2), some (.inl v3), some (.inl v4)] [.inl x2] M1
    exact r_iret (pc := 57) (tb_at tkX2_bySeed 32 rfl) rfl (Nat.le_refl _) (Nat.le_refl _) ⟨_, rfl, rfl, h⟩
  · replace h := h.2 c
    refine r_iload_n (pc := 17) (tb_at tkX2_bySeed 9 rfl) rfl rfl ?_
    refine r_ldc (n := 1103515245) (pc := 18) (tb_at tkX2_bySeed 10 rfl) kcX2_65 ⟨by decide, by decide⟩ ?_
    refine r_imul (pc := 20) (tb_at tkX2_bySeed 11 rfl) ?_
    refine r_sipush (pc := 21) (tb_at tkX2_bySeed 12 rfl) ⟨by decide, by decide, by decide⟩ ?_
    refine r_iadd_l (pc := 24) (tb_at tkX2_bySeed 13 rfl) ?_
    refine r_istore_n (L' := [some (.inr (.inr (some 54))), none, some (.inl v2), some (.inl (w32 ((v3 * 1103515245) + 12345))), some (.inl v4)]) (pc := 25) (tb_at tkX2_bySeed 14 rfl) rfl (by decide) rfl ?_
    refine r_aload_n (pc := 26) (tb_at tkX2_bySeed 15 rfl) rfl rfl ?_
    refine r_get 2 3 (pc := 27) (tb_at tkX2_bySeed 16 rfl) ly_54 flX2_15 rfl ?_
    refine r_iload (pc := 30) (tb_at tkX2_bySeed 17 rfl) rfl ?_
    refine r_iload_n (pc := 32) (tb_at tkX2_bySeed 18 rfl) rfl rfl ?_
    refine q_if_le (tgt := 45) (pc := 33) (tb_at tkX2_bySeed 19 rfl) (by decide) (fun c => ?_) (fun c => ?_)
    · replace h := h.1 c
      refine r_iconst (pc := 45) (tb_at tkX2_bySeed 26 rfl) ⟨by decide, by decide⟩ ?_
      exact h
    · replace h := h.2 c
      refine r_iload_n (pc := 36) (tb_at tkX2_bySeed 20 rfl) rfl rfl ?_
      refine r_bipush (pc := 37) (tb_at tkX2_bySeed 21 rfl) ⟨by decide, by decide, by decide⟩ ?_
      refine r_iushr (pc := 39) (tb_at tkX2_bySeed 22 rfl) ?_
      refine r_iload_n (pc := 40) (tb_at tkX2_bySeed 23 rfl) rfl rfl ?_
      refine r_irem (pc := 41) (tb_at tkX2_bySeed 24 rfl) h.1 ?_
      replace h := h.2
      refine r_goto (tgt := 46) (pc := 42) (tb_at tkX2_bySeed 25 rfl) (by decide) ?_
      exact h
set_option maxRecDepth 100000 in
set_option maxHeartbeats 4000000 in
theorem gX2_bySeed_46 {G : GE} {d : Nat} {K : Int → Mem → Prop} {M : Mem} {v2 v3 v4 s1 s2 : Int}  (h : (0 ≤ s1 ∧ s1 < 7) ∧ OkI G miX2_bySeed (d + 1) K 5 [some (.inr (.inr (some 54))), none, some (.inl v2), some (.inl v3), some (.inl (w32 (v4 + 1)))] [] (mup M 56 (s1).toNat s2)) : OkI G miX2_bySeed (d + 1) K 46 [some (.inr (.inr (some 54))), none, some (.inl v2), some (.inl v3), some (.inl v4)] [.inl s2, .inl s1, .inr (.inr (some 56))] M := by
  refine r_iast (pc := 46) (tb_at tkX2_bySeed 27 rfl) ly_56 h.1.1 h.1.2 rfl ?_
  replace h := h.2
  refine r_iinc (L' := [some (.inr (.inr (some 54))), none, some (.inl v2), some (.inl v3), some (.inl (w32 (v4 + 1)))]) (pc := 47) (tb_at tkX2_bySeed 28 rfl) rfl (by decide) rfl ?_
  refine r_goto (tgt := 5) (pc := 50) (tb_at tkX2_bySeed 29 rfl) (by decide) ?_
  exact h
set_option maxRecDepth 100000 in
set_option maxHeartbeats 4000000 in
theorem gX2_spread_0 {G : GE} {d : Nat} {K : Int → Mem → Prop} {M : Mem}  (h : OkI G miX2_spread (d + 1) K 4 [some (.inr (.inr (some 54))), some (.inl 0), some (.inl 0), none, none] [] M) : OkI G miX2_spread (d + 1) K 0 [some (.inr (.inr (some 54))), none, none, none, none] [] M := by
  refine r_iconst (pc := 0) (tb_at tkX2_spread 0 rfl) ⟨by decide, by decide⟩ ?_
  refine r_istore_n (L' := [some (.inr (.inr (some 54))), some (.inl 0), none, none, none]) (pc := 1) (tb_at tkX2_spread 1 rfl) rfl (by decide) rfl ?_
  refine r_iconst (pc := 2) (tb_at tkX2_spread 2 rfl) ⟨by decide, by decide⟩ ?_
  refine r_istore_n (L' := [some (.inr (.inr (some 54))), some (.inl 0), some (.inl 0), none, none]) (pc := 3) (tb_at tkX2_spread 3 rfl) rfl (by decide) rfl ?_
  exact h
set_option maxRecDepth 100000 in
set_option maxHeartbeats 4000000 in
theorem gX2_spread_4 {G : GE} {d : Nat} {K : Int → Mem → Prop} {M : Mem} {v1 v2 : Int}  (h : (((M 1 8) ≤ v2 → K v1 M) ∧ (v2 < (M 1 8) → (0 ≤ v2 ∧ v2 < 7) ∧ (0 ≤ M 20 (v2).toNat ∧ M 20 (v2).toNat < 7) ∧ (0 ≤ M 20 (v2).toNat ∧ M 20 (v2).toNat < 7) ∧ OkI G miX2_spread (d + 1) K 40 [some (.inr (.inr (some 54))), some (.inl v1), some (.inl v2), some (.inl (M 20 (v2).toNat)), some (.inl 0)] [] (mup M 57 (M 20 (v2).toNat).toNat (M 56 (M 20 (v2).toNat).toNat))))) : OkI G miX2_spread (d + 1) K 4 [some (.inr (.inr (some 54))), some (.inl v1), some (.inl v2), none, none] [] M := by
  refine r_iload_n (pc := 4) (tb_at tkX2_spread 4 rfl) rfl rfl ?_
  refine r_aload_n (pc := 5) (tb_at tkX2_spread 5 rfl) rfl rfl ?_
  refine r_get 2 0 (pc := 6) (tb_at tkX2_spread 6 rfl) ly_54 flX2_21 rfl ?_
  refine r_get 5 8 (pc := 9) (tb_at tkX2_spread 7 rfl) ly_1 flX2_53 rfl ?_
  refine q_icmp_ge (tgt := 125) (pc := 12) (tb_at tkX2_spread 8 rfl) (by decide) (fun c => ?_) (fun c => ?_)
  · replace h := h.1 c
    refine r_iload_n (pc := 125) (tb_at tkX2_spread 73 rfl) rfl rfl ?_
    exact r_iret (pc := 126) (tb_at tkX2_spread 74 rfl) rfl (Nat.le_refl _) (Nat.le_refl _) ⟨_, rfl, rfl, h⟩
  · replace h := h.2 c
    refine r_aload_n (pc := 15) (tb_at tkX2_spread 9 rfl) rfl rfl ?_
    refine r_get 2 1 (pc := 16) (tb_at tkX2_spread 10 rfl) ly_54 flX2_25 rfl ?_
    refine r_get 4 1 (pc := 19) (tb_at tkX2_spread 11 rfl) ly_19 flX2_57 rfl ?_
    refine r_iload_n (pc := 22) (tb_at tkX2_spread 12 rfl) rfl rfl ?_
    refine r_iald (pc := 23) (tb_at tkX2_spread 13 rfl) ly_20 h.1.1 h.1.2 ?_
    replace h := h.2
    refine r_istore_n (L' := [some (.inr (.inr (some 54))), some (.inl v1), some (.inl v2), some (.inl (M 20 (v2).toNat)), none]) (pc := 24) (tb_at tkX2_spread 14 rfl) rfl (by decide) rfl ?_
    refine r_aload_n (pc := 25) (tb_at tkX2_spread 15 rfl) rfl rfl ?_
    refine r_get 2 4 (pc := 26) (tb_at tkX2_spread 16 rfl) ly_54 flX2_18 rfl ?_
    refine r_iload_n (pc := 29) (tb_at tkX2_spread 17 rfl) rfl rfl ?_
    refine r_aload_n (pc := 30) (tb_at tkX2_spread 18 rfl) rfl rfl ?_
    refine r_get 2 3 (pc := 31) (tb_at tkX2_spread 19 rfl) ly_54 flX2_15 rfl ?_
    refine r_iload_n (pc := 34) (tb_at tkX2_spread 20 rfl) rfl rfl ?_
    refine r_iald (pc := 35) (tb_at tkX2_spread 21 rfl) ly_56 h.1.1 h.1.2 ?_
    replace h := h.2
    refine r_iast (pc := 36) (tb_at tkX2_spread 22 rfl) ly_57 h.1.1 h.1.2 rfl ?_
    replace h := h.2
    refine r_iconst (pc := 37) (tb_at tkX2_spread 23 rfl) ⟨by decide, by decide⟩ ?_
    refine r_istore (L' := [some (.inr (.inr (some 54))), some (.inl v1), some (.inl v2), some (.inl (M 20 (v2).toNat)), some (.inl 0)]) (pc := 38) (tb_at tkX2_spread 24 rfl) (by decide) rfl ?_
    exact h
set_option maxRecDepth 100000 in
set_option maxHeartbeats 4000000 in
theorem gX2_spread_40 {G : GE} {d : Nat} {K : Int → Mem → Prop} {M : Mem} {v1 v2 v3 v4 : Int}  (h : (((M 1 8) ≤ v4 → (0 ≤ v3 ∧ v3 < 7) ∧ OkI G miX2_spread (d + 1) K 4 [some (.inr (.inr (some 54))), some (.inl (w32 (v1 + (M 57 (v3).toNat)))), some (.inl (w32 (v2 + 1))), none, none] [] M) ∧ (v4 < (M 1 8) → (0 ≤ v3 ∧ v3 < 7) ∧ (((iand (ishr (M 55 (v3).toNat) v4) 1) = 0 → OkI G miX2_spread (d + 1) K 40 [some (.inr (.inr (some 54))), some (.inl v1), some (.inl v2), some (.inl v3), some (.inl (w32 (v4 + 1)))] [] M) ∧ (¬ (iand (ishr (M 55 (v3).toNat) v4) 1) = 0 → (0 ≤ v3 ∧ v3 < 7) ∧ (0 ≤ v4 ∧ v4 < 7) ∧ (0 ≤ (v4 * 7) + v3 ∧ (v4 * 7) + v3 < 49) ∧ CalI G miJ9_max_7cf53 d [.inl (M 57 (v3).toNat), .inl (w32 ((M 57 (v4).toNat) - (M 22 ((v4 * 7) + v3).toNat)))] M (fun x2 M1 => (0 ≤ v3 ∧ v3 < 7) ∧ OkI G miX2_spread (d + 1) K 40 [some (.inr (.inr (some 54))), some (.inl v1), some (.inl v2), some (.inl v3), some (.inl (w32 (v4 + 1)))] [] (mup M1 57 (v3).toNat x2))))))) : OkI G miX2_spread (d + 1) K 40 [some (.inr (.inr (some 54))), some (.inl v1), some (.inl v2), some (.inl v3), some (.inl v4)] [] M := by
  refine r_iload (pc := 40) (tb_at tkX2_spread 25 rfl) rfl ?_
  refine r_aload_n (pc := 42) (tb_at tkX2_spread 26 rfl) rfl rfl ?_
  refine r_get 2 0 (pc := 43) (tb_at tkX2_spread 27 rfl) ly_54 flX2_21 rfl ?_
  refine r_get 5 8 (pc := 46) (tb_at tkX2_spread 28 rfl) ly_1 flX2_53 rfl ?_
  refine q_icmp_ge (tgt := 110) (pc := 49) (tb_at tkX2_spread 29 rfl) (by decide) (fun c => ?_) (fun c => ?_)
  · replace h := h.1 c
    refine r_iload_n (pc := 110) (tb_at tkX2_spread 64 rfl) rfl rfl ?_
    refine r_aload_n (pc := 111) (tb_at tkX2_spread 65 rfl) rfl rfl ?_
    refine r_get 2 4 (pc := 112) (tb_at tkX2_spread 66 rfl) ly_54 flX2_18 rfl ?_
    refine r_iload_n (pc := 115) (tb_at tkX2_spread 67 rfl) rfl rfl ?_
    refine r_iald (pc := 116) (tb_at tkX2_spread 68 rfl) ly_57 h.1.1 h.1.2 ?_
    replace h := h.2
    refine r_iadd (pc := 117) (tb_at tkX2_spread 69 rfl) ?_
    refine r_istore_n (L' := [some (.inr (.inr (some 54))), some (.inl (w32 (v1 + (M 57 (v3).toNat)))), some (.inl v2), some (.inl v3), some (.inl v4)]) (pc := 118) (tb_at tkX2_spread 70 rfl) rfl (by decide) rfl ?_
    refine r_iinc (L' := [some (.inr (.inr (some 54))), some (.inl (w32 (v1 + (M 57 (v3).toNat)))), some (.inl (w32 (v2 + 1))), some (.inl v3), some (.inl v4)]) (pc := 119) (tb_at tkX2_spread 71 rfl) rfl (by decide) rfl ?_
    refine r_goto (tgt := 4) (pc := 122) (tb_at tkX2_spread 72 rfl) (by decide) ?_
    exact Ok.forget h (And.intro rfl (And.intro rfl (And.intro rfl trivial)))
  · replace h := h.2 c
    refine r_aload_n (pc := 52) (tb_at tkX2_spread 30 rfl) rfl rfl ?_
    refine r_get 2 2 (pc := 53) (tb_at tkX2_spread 31 rfl) ly_54 flX2_9 rfl ?_
    refine r_iload_n (pc := 56) (tb_at tkX2_spread 32 rfl) rfl rfl ?_
    refine r_iald (pc := 57) (tb_at tkX2_spread 33 rfl) ly_55 h.1.1 h.1.2 ?_
    replace h := h.2
    refine r_iload (pc := 58) (tb_at tkX2_spread 34 rfl) rfl ?_
    refine r_ishr (pc := 60) (tb_at tkX2_spread 35 rfl) ?_
    refine r_iconst (pc := 61) (tb_at tkX2_spread 36 rfl) ⟨by decide, by decide⟩ ?_
    refine r_iand (pc := 62) (tb_at tkX2_spread 37 rfl) ?_
    refine q_if_eq (tgt := 104) (pc := 63) (tb_at tkX2_spread 38 rfl) (by decide) (fun c => ?_) (fun c => ?_)
    · replace h := h.1 c
      refine r_iinc (L' := [some (.inr (.inr (some 54))), some (.inl v1), some (.inl v2), some (.inl v3), some (.inl (w32 (v4 + 1)))]) (pc := 104) (tb_at tkX2_spread 62 rfl) rfl (by decide) rfl ?_
      refine r_goto (tgt := 40) (pc := 107) (tb_at tkX2_spread 63 rfl) (by decide) ?_
      exact h
    · replace h := h.2 c
      refine r_aload_n (pc := 66) (tb_at tkX2_spread 39 rfl) rfl rfl ?_
      refine r_get 2 4 (pc := 67) (tb_at tkX2_spread 40 rfl) ly_54 flX2_18 rfl ?_
      refine r_iload_n (pc := 70) (tb_at tkX2_spread 41 rfl) rfl rfl ?_
      refine r_aload_n (pc := 71) (tb_at tkX2_spread 42 rfl) rfl rfl ?_
      refine r_get 2 4 (pc := 72) (tb_at tkX2_spread 43 rfl) ly_54 flX2_18 rfl ?_
      refine r_iload_n (pc := 75) (tb_at tkX2_spread 44 rfl) rfl rfl ?_
      refine r_iald (pc := 76) (tb_at tkX2_spread 45 rfl) ly_57 h.1.1 h.1.2 ?_
      replace h := h.2
      refine r_aload_n (pc := 77) (tb_at tkX2_spread 46 rfl) rfl rfl ?_
      refine r_get 2 4 (pc := 78) (tb_at tkX2_spread 47 rfl) ly_54 flX2_18 rfl ?_
      refine r_iload (pc := 81) (tb_at tkX2_spread 48 rfl) rfl ?_
      refine r_iald (pc := 83) (tb_at tkX2_spread 49 rfl) ly_57 h.1.1 h.1.2 ?_
      replace h := h.2
      refine r_aload_n (pc := 84) (tb_at tkX2_spread 50 rfl) rfl rfl ?_
      refine r_get 2 1 (pc := 85) (tb_at tkX2_spread 51 rfl) ly_54 flX2_25 rfl ?_
      refine r_get 4 3 (pc := 88) (tb_at tkX2_spread 52 rfl) ly_19 flX2_66 rfl ?_
      refine r_iload (pc := 91) (tb_at tkX2_spread 53 rfl) rfl ?_
      refine r_bipush (pc := 93) (tb_at tkX2_spread 54 rfl) ⟨by decide, by decide, by decide⟩ ?_
      refine r_imul (pc := 95) (tb_at tkX2_spread 55 rfl) ?_
      refine r_iload_n (pc := 96) (tb_at tkX2_spread 56 rfl) rfl rfl ?_
      refine r_iadd_l (pc := 97) (tb_at tkX2_spread 57 rfl) ?_
      refine r_iald_w (pc := 98) (tb_at tkX2_spread 58 rfl) ly_22 (by decide) h.1.1 h.1.2 ?_
      replace h := h.2
      refine r_isub (pc := 99) (tb_at tkX2_spread 59 rfl) ?_
      refine r_invS (mc' := 0) (ms' := 0) [.inl (M 57 (v3).toNat), .inl (w32 ((M 57 (v4).toNat) - (M 22 ((v4 * 7) + v3).toNat)))] (S := [.inl v3, .inr (.inr (some 57))]) (pc := 100) (tb_at tkX2_spread 60 rfl) rfl clX2_69 (Nat.le_of_ble_eq_true rfl) (Nat.le_refl _) (Nat.le_refl _) ?_
      refine Cal.mono h ?_
      rintro _ _ M1 ⟨x2, rfl, rfl, h⟩
      show OkI G miX2_spread (d + 1) K 103 [some (.inr (.inr (some 54))), some (.inl v1), some (.inl v2), some (.inl v3), some (.inl v4)] [.inl x2, .inl v3, .inr (.inr (some 57))] M1
      refine r_iast (pc := 103) (tb_at tkX2_spread 61 rfl) ly_57 h.1.1 h.1.2 rfl ?_
      replace h := h.2
      refine r_iinc (L' := [some (.inr (.inr (some 54))), some (.inl v1), some (.inl v2), some (.inl v3), some (.inl (w32 (v4 + 1)))]) (pc := 104) (tb_at tkX2_spread 62 rfl) rfl (by decide) rfl ?_
      refine r_goto (tgt := 40) (pc := 107) (tb_at tkX2_spread 63 rfl) (by decide) ?_
      exact h
set_option maxRecDepth 100000 in
set_option maxHeartbeats 4000000 in
theorem gX2_lateFlights_0 {G : GE} {d : Nat} {K : Int → Mem → Prop} {M : Mem}  (h : OkI G miX2_lateFlights d K 4 [some (.inr (.inr (some 54))), some (.inl 0), some (.inl 0)] [] M) : OkI G miX2_lateFlights d K 0 [some (.inr (.inr (some 54))), none, none] [] M := by
  refine r_iconst (pc := 0) (tb_at tkX2_lateFlights 0 rfl) ⟨by decide, by decide⟩ ?_
  refine r_istore_n (L' := [some (.inr (.inr (some 54))), some (.inl 0), none]) (pc := 1) (tb_at tkX2_lateFlights 1 rfl) rfl (by decide) rfl ?_
  refine r_iconst (pc := 2) (tb_at tkX2_lateFlights 2 rfl) ⟨by decide, by decide⟩ ?_
  refine r_istore_n (L' := [some (.inr (.inr (some 54))), some (.inl 0), some (.inl 0)]) (pc := 3) (tb_at tkX2_lateFlights 3 rfl) rfl (by decide) rfl ?_
  exact h
set_option maxRecDepth 100000 in
set_option maxHeartbeats 4000000 in
theorem gX2_lateFlights_4 {G : GE} {d : Nat} {K : Int → Mem → Prop} {M : Mem} {v1 v2 : Int}  (h : (((M 1 8) ≤ v2 → K v1 M) ∧ (v2 < (M 1 8) → (0 ≤ v2 ∧ v2 < 7) ∧ (((M 57 (v2).toNat) ≤ 0 → OkI G miX2_lateFlights d K 4 [some (.inr (.inr (some 54))), some (.inl v1), some (.inl (w32 (v2 + 1)))] [] M) ∧ (0 < (M 57 (v2).toNat) → OkI G miX2_lateFlights d K 4 [some (.inr (.inr (some 54))), some (.inl (ior v1 (ishl 1 v2))), some (.inl (w32 (v2 + 1)))] [] M))))) : OkI G miX2_lateFlights d K 4 [some (.inr (.inr (some 54))), some (.inl v1), some (.inl v2)] [] M := by
  refine r_iload_n (pc := 4) (tb_at tkX2_lateFlights 4 rfl) rfl rfl ?_
  refine r_aload_n (pc := 5) (tb_at tkX2_lateFlights 5 rfl) rfl rfl ?_
  refine r_get 2 0 (pc := 6) (tb_at tkX2_lateFlights 6 rfl) ly_54 flX2_21 rfl ?_
  refine r_get 5 8 (pc := 9) (tb_at tkX2_lateFlights 7 rfl) ly_1 flX2_53 rfl ?_
  refine q_icmp_ge (tgt := 36) (pc := 12) (tb_at tkX2_lateFlights 8 rfl) (by decide) (fun c => ?_) (fun c => ?_)
  · replace h := h.1 c
    refine r_iload_n (pc := 36) (tb_at tkX2_lateFlights 22 rfl) rfl rfl ?_
    exact r_iret (pc := 37) (tb_at tkX2_lateFlights 23 rfl) rfl (Nat.le_refl _) (Nat.le_refl _) ⟨_, rfl, rfl, h⟩
  · replace h := h.2 c
    refine r_aload_n (pc := 15) (tb_at tkX2_lateFlights 9 rfl) rfl rfl ?_
    refine r_get 2 4 (pc := 16) (tb_at tkX2_lateFlights 10 rfl) ly_54 flX2_18 rfl ?_
    refine r_iload_n (pc := 19) (tb_at tkX2_lateFlights 11 rfl) rfl rfl ?_
    refine r_iald (pc := 20) (tb_at tkX2_lateFlights 12 rfl) ly_57 h.1.1 h.1.2 ?_
    replace h := h.2
    refine q_if_le (tgt := 30) (pc := 21) (tb_at tkX2_lateFlights 13 rfl) (by decide) (fun c => ?_) (fun c => ?_)
    · replace h := h.1 c
      refine r_iinc (L' := [some (.inr (.inr (some 54))), some (.inl v1), some (.inl (w32 (v2 + 1)))]) (pc := 30) (tb_at tkX2_lateFlights 20 rfl) rfl (by decide) rfl ?_
      refine r_goto (tgt := 4) (pc := 33) (tb_at tkX2_lateFlights 21 rfl) (by decide) ?_
      exact h
    · replace h := h.2 c
      refine r_iload_n (pc := 24) (tb_at tkX2_lateFlights 14 rfl) rfl rfl ?_
      refine r_iconst (pc := 25) (tb_at tkX2_lateFlights 15 rfl) ⟨by decide, by decide⟩ ?_
      refine r_iload_n (pc := 26) (tb_at tkX2_lateFlights 16 rfl) rfl rfl ?_
      refine r_ishl (pc := 27) (tb_at tkX2_lateFlights 17 rfl) ?_
      refine r_ior (pc := 28) (tb_at tkX2_lateFlights 18 rfl) ?_
      refine r_istore_n (L' := [some (.inr (.inr (some 54))), some (.inl (ior v1 (ishl 1 v2))), some (.inl v2)]) (pc := 29) (tb_at tkX2_lateFlights 19 rfl) rfl (by decide) rfl ?_
      refine r_iinc (L' := [some (.inr (.inr (some 54))), some (.inl (ior v1 (ishl 1 v2))), some (.inl (w32 (v2 + 1)))]) (pc := 30) (tb_at tkX2_lateFlights 20 rfl) rfl (by decide) rfl ?_
      refine r_goto (tgt := 4) (pc := 33) (tb_at tkX2_lateFlights 21 rfl) (by decide) ?_
      exact h
set_option maxRecDepth 100000 in
set_option maxHeartbeats 4000000 in
theorem gX3_workOut_0 {G : GE} {d : Nat} {K : Mem → Prop} {M : Mem}  (h : OkV G miX3_workOut (d + 1) K 12 [some (.inr (.inr (some 46))), some (.inr (.inr (some 65))), some (.inl 0), none, none, none] [] (mup (mup M 46 9 0) 46 10 0)) : OkV G miX3_workOut (d + 1) K 0 [some (.inr (.inr (some 46))), some (.inr (.inr (some 65))), none, none, none, none] [] M := by
  refine r_aload_n (pc := 0) (tb_at tkX3_workOut 0 rfl) rfl rfl ?_
  refine r_iconst (pc := 1) (tb_at tkX3_workOut 1 rfl) ⟨by decide, by decide⟩ ?_
  refine r_put 3 9 0 (pc := 2) (tb_at tkX3_workOut 2 rfl) ly_46 flX3_35 (fun r h => by cases h; rfl) (.inl rfl) rfl (fun h => by cases h) rfl ?_
  refine r_aload_n (pc := 5) (tb_at tkX3_workOut 3 rfl) rfl rfl ?_
  refine r_iconst (pc := 6) (tb_at tkX3_workOut 4 rfl) ⟨by decide, by decide⟩ ?_
  refine r_put 3 10 0 (pc := 7) (tb_at tkX3_workOut 5 rfl) ly_46 flX3_39 (fun r h => by cases h; rfl) (.inl rfl) rfl (fun h => by cases h) rfl ?_
  refine r_iconst (pc := 10) (tb_at tkX3_workOut 6 rfl) ⟨by decide, by decide⟩ ?_
  refine r_istore_n (L' := [some (.inr (.inr (some 46))), some (.inr (.inr (some 65))), some (.inl 0), none, none, none]) (pc := 11) (tb_at tkX3_workOut 7 rfl) rfl (by decide) rfl ?_
  exact h
set_option maxRecDepth 100000 in
set_option maxHeartbeats 4000000 in
theorem gX3_workOut_12 {G : GE} {d : Nat} {K : Mem → Prop} {M : Mem} {v2 : Int}  (h : (((M 1 8) ≤ v2 → K M) ∧ (v2 < (M 1 8) → (0 ≤ v2 ∧ v2 < 7) ∧ (0 ≤ M 20 (v2).toNat ∧ M 20 (v2).toNat < 7) ∧ CalV G miX3_begin d [.inr (.inr (some 46)), .inl (M 20 (v2).toNat), .inr (.inl (M 65 (M 20 (v2).toNat).toNat))] M (fun M1 => OkV G miX3_workOut (d + 1) K 50 [some (.inr (.inr (some 46))), some (.inr (.inr (some 65))), some (.inl v2), some (.inl (M 20 (v2).toNat)), some (.inl (M1 46 9)), some (.inl 0)] [] M1)))) : OkV G miX3_workOut (d + 1) K 12 [some (.inr (.inr (some 46))), some (.inr (.inr (some 65))), some (.inl v2), none, none, none] [] M := by
  refine r_iload_n (pc := 12) (tb_at tkX3_workOut 8 rfl) rfl rfl ?_
  refine r_aload_n (pc := 13) (tb_at tkX3_workOut 9 rfl) rfl rfl ?_
  refine r_get 3 0 (pc := 14) (tb_at tkX3_workOut 10 rfl) ly_46 flX3_42 rfl ?_
  refine r_get 5 8 (pc := 17) (tb_at tkX3_workOut 11 rfl) ly_1 flX3_50 rfl ?_
  refine q_icmp_ge (tgt := 97) (pc := 20) (tb_at tkX3_workOut 12 rfl) (by decide) (fun c => ?_) (fun c => ?_)
  · replace h := h.1 c
    exact r_vret (pc := 97) (tb_at tkX3_workOut 52 rfl) rfl (Nat.le_refl _) (Nat.le_refl _) ⟨rfl, rfl, h⟩
  · replace h := h.2 c
    refine r_aload_n (pc := 23) (tb_at tkX3_workOut 13 rfl) rfl rfl ?_
    refine r_get 3 1 (pc := 24) (tb_at tkX3_workOut 14 rfl) ly_46 flX3_46 rfl ?_
    refine r_get 4 1 (pc := 27) (tb_at tkX3_workOut 15 rfl) ly_19 flX3_53 rfl ?_
    refine r_iload_n (pc := 30) (tb_at tkX3_workOut 16 rfl) rfl rfl ?_
    refine r_iald (pc := 31) (tb_at tkX3_workOut 17 rfl) ly_20 h.1.1 h.1.2 ?_
    replace h := h.2
    refine r_istore_n (L' := [some (.inr (.inr (some 46))), some (.inr (.inr (some 65))), some (.inl v2), some (.inl (M 20 (v2).toNat)), none, none]) (pc := 32) (tb_at tkX3_workOut 18 rfl) rfl (by decide) rfl ?_
    refine r_aload_n (pc := 33) (tb_at tkX3_workOut 19 rfl) rfl rfl ?_
    refine r_iload_n (pc := 34) (tb_at tkX3_workOut 20 rfl) rfl rfl ?_
    refine r_aload_n (pc := 35) (tb_at tkX3_workOut 21 rfl) rfl rfl ?_
    refine r_iload_n (pc := 36) (tb_at tkX3_workOut 22 rfl) rfl rfl ?_
    refine r_lald (pc := 37) (tb_at tkX3_workOut 23 rfl) ly_65 h.1.1 h.1.2 ?_
    replace h := h.2
    refine r_invV (mc' := 0) (ms' := 0) [.inl (M 20 (v2).toNat), .inr (.inl (M 65 (M 20 (v2).toNat).toNat))] (S := []) (pc := 38) (tb_at tkX3_workOut 24 rfl) rfl ly_46 rfl rfl clX3_58 (Nat.le_of_ble_eq_true rfl) (Nat.le_refl _) (Nat.le_refl _) ?_
    refine Cal.mono h ?_
    rintro _ _ M1 ⟨rfl, rfl, h⟩
    show OkV G miX3_workOut (d + 1) K 41 [some (.inr (.inr (some 46))), some (.inr (.inr (some 65))), some (.inl v2), some (.inl (M 20 (v2).toNat)), none, none] [] M1
    refine r_aload_n (pc := 41) (tb_at tkX3_workOut 25 rfl) rfl rfl ?_
    refine r_get 3 9 (pc := 42) (tb_at tkX3_workOut 26 rfl) ly_46 flX3_35 rfl ?_
    refine r_istore (L' := [some (.inr (.inr (some 46))), some (.inr (.inr (some 65))), some (.inl v2), some (.inl (M 20 (v2).toNat)), some (.inl (M1 46 9)), none]) (pc := 45) (tb_at tkX3_workOut 27 rfl) (by decide) rfl ?_
    refine r_iconst (pc := 47) (tb_at tkX3_workOut 28 rfl) ⟨by decide, by decide⟩ ?_
    refine r_istore (L' := [some (.inr (.inr (some 46))), some (.inr (.inr (some 65))), some (.inl v2), some (.inl (M 20 (v2).toNat)), some (.inl (M1 46 9)), some (.inl 0)]) (pc := 48) (tb_at tkX3_workOut 29 rfl) (by decide) rfl ?_
    exact h
set_option maxRecDepth 100000 in
set_option maxHeartbeats 4000000 in
theorem gX3_workOut_50 {G : GE} {d : Nat} {K : Mem → Prop} {M : Mem} {v2 v3 v4 v5 : Int}  (h : ((v4 ≤ v5 → OkV G miX3_workOut (d + 1) K 12 [some (.inr (.inr (some 46))), some (.inr (.inr (some 65))), some (.inl (w32 (v2 + 1))), none, none, none] [] M) ∧ (v5 < v4 → (0 ≤ v5 ∧ v5 < 128) ∧ ((¬ (M 47 (v5).toNat) = v3 → OkV G miX3_workOut (d + 1) K 50 [some (.inr (.inr (some 46))), some (.inr (.inr (some 65))), some (.inl v2), some (.inl v3), some (.inl v4), some (.inl (w32 (v5 + 1)))] [] M) ∧ ((M 47 (v5).toNat) = v3 → (0 ≤ v5 ∧ v5 < 128) ∧ ((¬ (M 53 (v5).toNat) = 0 → OkV G miX3_workOut (d + 1) K 50 [some (.inr (.inr (some 46))), some (.inr (.inr (some 65))), some (.inl v2), some (.inl v3), some (.inl v4), some (.inl (w32 (v5 + 1)))] [] M) ∧ ((M 53 (v5).toNat) = 0 → CalV G miX3_goOn d [.inr (.inr (some 46)), .inl v5, .inr (.inr (some 65))] M (fun M1 => OkV G miX3_workOut (d + 1) K 50 [some (.inr (.inr (some 46))), some (.inr (.inr (some 65))), some (.inl v2), some (.inl v3), some (.inl v4), some (.inl (w32 (v5 + 1)))] [] M1)))))))) : OkV G miX3_workOut (d + 1) K 50 [some (.inr (.inr (some 46))), some (.inr (.inr (some 65))), some (.inl v2), some (.inl v3), some (.inl v4), some (.inl v5)] [] M := by
  refine r_iload (pc := 50) (tb_at tkX3_workOut 30 rfl) rfl ?_
  refine r_iload (pc := 52) (tb_at tkX3_workOut 31 rfl) rfl ?_
  refine q_icmp_ge (tgt := 91) (pc := 54) (tb_at tkX3_workOut 32 rfl) (by decide) (fun c => ?_) (fun c => ?_)
  · replace h := h.1 c
    refine r_iinc (L' := [some (.inr (.inr (some 46))), some (.inr (.inr (some 65))), some (.inl (w32 (v2 + 1))), some (.inl v3), some (.inl v4), some (.inl v5)]) (pc := 91) (tb_at tkX3_workOut 50 rfl) rfl (by decide) rfl ?_
    refine r_goto (tgt := 12) (pc := 94) (tb_at tkX3_workOut 51 rfl) (by decide) ?_
    exact Ok.forget h (And.intro rfl (And.intro rfl (And.intro rfl trivial)))
  · replace h := h.2 c
    refine r_aload_n (pc := 57) (tb_at tkX3_workOut 33 rfl) rfl rfl ?_
    refine r_get 3 2 (pc := 58) (tb_at tkX3_workOut 34 rfl) ly_46 flX3_9 rfl ?_
    refine r_iload (pc := 61) (tb_at tkX3_workOut 35 rfl) rfl ?_
    refine r_iald (pc := 63) (tb_at tkX3_workOut 36 rfl) ly_47 h.1.1 h.1.2 ?_
    replace h := h.2
    refine r_iload_n (pc := 64) (tb_at tkX3_workOut 37 rfl) rfl rfl ?_
    refine q_icmp_ne (tgt := 85) (pc := 65) (tb_at tkX3_workOut 38 rfl) (by decide) (fun c => ?_) (fun c => ?_)
    · replace h := h.1 c
      refine r_iinc (L' := [some (.inr (.inr (some 46))), some (.inr (.inr (some 65))), some (.inl v2), some (.inl v3), some (.inl v4), some (.inl (w32 (v5 + 1)))]) (pc := 85) (tb_at tkX3_workOut 48 rfl) rfl (by decide) rfl ?_
      refine r_goto (tgt := 50) (pc := 88) (tb_at tkX3_workOut 49 rfl) (by decide) ?_
      exact h
    · replace h := h.2 c
      refine r_aload_n (pc := 68) (tb_at tkX3_workOut 39 rfl) rfl rfl ?_
      refine r_get 3 8 (pc := 69) (tb_at tkX3_workOut 40 rfl) ly_46 flX3_31 rfl ?_
      refine r_iload (pc := 72) (tb_at tkX3_workOut 41 rfl) rfl ?_
      refine r_zald (pc := 74) (tb_at tkX3_workOut 42 rfl) ly_53 h.1.1 h.1.2 ?_
      replace h := h.2
      refine q_if_ne (tgt := 85) (pc := 75) (tb_at tkX3_workOut 43 rfl) (by decide) (fun c => ?_) (fun c => ?_)
      · replace h := h.1 c
        refine r_iinc (L' := [some (.inr (.inr (some 46))), some (.inr (.inr (some 65))), some (.inl v2), some (.inl v3), some (.inl v4), some (.inl (w32 (v5 + 1)))]) (pc := 85) (tb_at tkX3_workOut 48 rfl) rfl (by decide) rfl ?_
        refine r_goto (tgt := 50) (pc := 88) (tb_at tkX3_workOut 49 rfl) (by decide) ?_
        exact h
      · replace h := h.2 c
        refine r_aload_n (pc := 78) (tb_at tkX3_workOut 44 rfl) rfl rfl ?_
        refine r_iload (pc := 79) (tb_at tkX3_workOut 45 rfl) rfl ?_
        refine r_aload_n (pc := 81) (tb_at tkX3_workOut 46 rfl) rfl rfl ?_
        refine r_invV (mc' := 0) (ms' := 0) [.inl v5, .inr (.inr (some 65))] (S := []) (pc := 82) (tb_at tkX3_workOut 47 rfl) rfl ly_46 rfl rfl clX3_62 (Nat.le_of_ble_eq_true rfl) (Nat.le_refl _) (Nat.le_refl _) ?_
        refine Cal.mono h ?_
        rintro _ _ M1 ⟨rfl, rfl, h⟩
        show OkV G miX3_workOut (d + 1) K 85 [some (.inr (.inr (some 46))), some (.inr (.inr (some 65))), some (.inl v2), some (.inl v3), some (.inl v4), some (.inl v5)] [] M1
        refine r_iinc (L' := [some (.inr (.inr (some 46))), some (.inr (.inr (some 65))), some (.inl v2), some (.inl v3), some (.inl v4), some (.inl (w32 (v5 + 1)))]) (pc := 85) (tb_at tkX3_workOut 48 rfl) rfl (by decide) rfl ?_
        refine r_goto (tgt := 50) (pc := 88) (tb_at tkX3_workOut 49 rfl) (by decide) ?_
        exact h
set_option maxRecDepth 100000 in
set_option maxHeartbeats 4000000 in
theorem gX3_begin_0 {G : GE} {d : Nat} {K : Mem → Prop} {M : Mem} {v1 v2 : Int}  (h : (0 ≤ v1 ∧ v1 < 7) ∧ (0 ≤ v1 ∧ v1 < 7) ∧ (0 ≤ v1 ∧ v1 < 7) ∧ (0 ≤ v1 ∧ v1 < 7) ∧ CalV G miX3_arrive d [.inr (.inr (some 46)), .inl v1, .inl (M 2 (v1).toNat), .inr (.inl (w64 (((M 8 0) + ((M 8 1) * (w32 ((M 5 (v1).toNat) - (M 4 (v1).toNat))))) - v2))), .inl 1, .inl 1, .inl (M 4 (v1).toNat)] M (fun M1 => K M1)) : OkV G miX3_begin (d + 1) K 0 [some (.inr (.inr (some 46))), some (.inl v1), some (.inr (.inl v2)), none, none, none] [] M := by
  refine r_aload_n (pc := 0) (tb_at tkX3_begin 0 rfl) rfl rfl ?_
  refine r_get 3 0 (pc := 1) (tb_at tkX3_begin 1 rfl) ly_46 flX3_42 rfl ?_
  refine r_get 5 6 (pc := 4) (tb_at tkX3_begin 2 rfl) ly_1 flX3_66 rfl ?_
  refine r_iconst (pc := 7) (tb_at tkX3_begin 3 rfl) ⟨by decide, by decide⟩ ?_
  refine r_iald_k (k0 := 0) (pc := 8) (tb_at tkX3_begin 4 rfl) ly_8 rfl (by decide) (by decide) ?_
  refine r_i2l (pc := 9) (tb_at tkX3_begin 5 rfl) ?_
  refine r_aload_n (pc := 10) (tb_at tkX3_begin 6 rfl) rfl rfl ?_
  refine r_get 3 0 (pc := 11) (tb_at tkX3_begin 7 rfl) ly_46 flX3_42 rfl ?_
  refine r_get 5 6 (pc := 14) (tb_at tkX3_begin 8 rfl) ly_1 flX3_66 rfl ?_
  refine r_iconst (pc := 17) (tb_at tkX3_begin 9 rfl) ⟨by decide, by decide⟩ ?_
  refine r_iald_k (k0 := 1) (pc := 18) (tb_at tkX3_begin 10 rfl) ly_8 rfl (by decide) (by decide) ?_
  refine r_i2l (pc := 19) (tb_at tkX3_begin 11 rfl) ?_
  refine r_aload_n (pc := 20) (tb_at tkX3_begin 12 rfl) rfl rfl ?_
  refine r_get 3 0 (pc := 21) (tb_at tkX3_begin 13 rfl) ly_46 flX3_42 rfl ?_
  refine r_get 5 3 (pc := 24) (tb_at tkX3_begin 14 rfl) ly_1 flX3_69 rfl ?_
  refine r_iload_n (pc := 27) (tb_at tkX3_begin 15 rfl) rfl rfl ?_
  refine r_iald (pc := 28) (tb_at tkX3_begin 16 rfl) ly_5 h.1.1 h.1.2 ?_
  replace h := h.2
  refine r_aload_n (pc := 29) (tb_at tkX3_begin 17 rfl) rfl rfl ?_
  refine r_get 3 0 (pc := 30) (tb_at tkX3_begin 18 rfl) ly_46 flX3_42 rfl ?_
  refine r_get 5 2 (pc := 33) (tb_at tkX3_begin 19 rfl) ly_1 flX3_72 rfl ?_
  refine r_iload_n (pc := 36) (tb_at tkX3_begin 20 rfl) rfl rfl ?_
  refine r_iald (pc := 37) (tb_at tkX3_begin 21 rfl) ly_4 h.1.1 h.1.2 ?_
  replace h := h.2
  refine r_isub (pc := 38) (tb_at tkX3_begin 22 rfl) ?_
  refine r_i2l (pc := 39) (tb_at tkX3_begin 23 rfl) ?_
  refine r_lmul (pc := 40) (tb_at tkX3_begin 24 rfl) ?_
  refine r_ladd_r (pc := 41) (tb_at tkX3_begin 25 rfl) ?_
  refine r_lstore (L' := [some (.inr (.inr (some 46))), some (.inl v1), some (.inr (.inl v2)), none, some (.inr (.inl (w64 ((M 8 0) + ((M 8 1) * (w32 ((M 5 (v1).toNat) - (M 4 (v1).toNat)))))))), none]) (pc := 42) (tb_at tkX3_begin 26 rfl) (by decide) rfl ?_
  refine r_aload_n (pc := 44) (tb_at tkX3_begin 27 rfl) rfl rfl ?_
  refine r_iload_n (pc := 45) (tb_at tkX3_begin 28 rfl) rfl rfl ?_
  refine r_aload_n (pc := 46) (tb_at tkX3_begin 29 rfl) rfl rfl ?_
  refine r_get 3 0 (pc := 47) (tb_at tkX3_begin 30 rfl) ly_46 flX3_42 rfl ?_
  refine r_get 5 0 (pc := 50) (tb_at tkX3_begin 31 rfl) ly_1 flX3_75 rfl ?_
  refine r_iload_n (pc := 53) (tb_at tkX3_begin 32 rfl) rfl rfl ?_
  refine r_iald (pc := 54) (tb_at tkX3_begin 33 rfl) ly_2 h.1.1 h.1.2 ?_
  replace h := h.2
  refine r_lload (pc := 55) (tb_at tkX3_begin 34 rfl) rfl ?_
  refine r_lload_n (pc := 57) (tb_at tkX3_begin 35 rfl) rfl rfl ?_
  refine r_lsub_l (pc := 58) (tb_at tkX3_begin 36 rfl) ?_
  refine r_iconst (pc := 59) (tb_at tkX3_begin 37 rfl) ⟨by decide, by decide⟩ ?_
  refine r_iconst (pc := 60) (tb_at tkX3_begin 38 rfl) ⟨by decide, by decide⟩ ?_
  refine r_aload_n (pc := 61) (tb_at tkX3_begin 39 rfl) rfl rfl ?_
  refine r_get 3 0 (pc := 62) (tb_at tkX3_begin 40 rfl) ly_46 flX3_42 rfl ?_
  refine r_get 5 2 (pc := 65) (tb_at tkX3_begin 41 rfl) ly_1 flX3_72 rfl ?_
  refine r_iload_n (pc := 68) (tb_at tkX3_begin 42 rfl) rfl rfl ?_
  refine r_iald (pc := 69) (tb_at tkX3_begin 43 rfl) ly_4 h.1.1 h.1.2 ?_
  replace h := h.2
  refine r_invV (mc' := 0) (ms' := 0) [.inl v1, .inl (M 2 (v1).toNat), .inr (.inl (w64 (((M 8 0) + ((M 8 1) * (w32 ((M 5 (v1).toNat) - (M 4 (v1).toNat))))) - v2))), .inl 1, .inl 1, .inl (M 4 (v1).toNat)] (S := []) (pc := 70) (tb_at tkX3_begin 44 rfl) rfl ly_46 rfl rfl clX3_78 (Nat.le_of_ble_eq_true rfl) (Nat.le_refl _) (Nat.le_refl _) ?_
  refine Cal.mono h ?_
  rintro _ _ M1 ⟨rfl, rfl, h⟩
  show OkV G miX3_begin (d + 1) K 73 [some (.inr (.inr (some 46))), some (.inl v1), some (.inr (.inl v2)), none, some (.inr (.inl (w64 ((M 8 0) + ((M 8 1) * (w32 ((M 5 (v1).toNat) - (M 4 (v1).toNat)))))))), none] [] M1
  exact r_vret (pc := 73) (tb_at tkX3_begin 45 rfl) rfl (Nat.le_refl _) (Nat.le_refl _) ⟨rfl, rfl, h⟩
set_option maxRecDepth 100000 in
set_option maxHeartbeats 4000000 in
theorem gX3_goOn_0 {G : GE} {d : Nat} {K : Mem → Prop} {M : Mem} {v1 : Int}  (h : (0 ≤ v1 ∧ v1 < 128) ∧ OkV G miX3_goOn (d + 1) K 10 [some (.inr (.inr (some 46))), some (.inl v1), some (.inr (.inr (some 65))), some (.inl (M 47 (v1).toNat)), some (.inl 0), none, none, none] [] M) : OkV G miX3_goOn (d + 1) K 0 [some (.inr (.inr (some 46))), some (.inl v1), some (.inr (.inr (some 65))), none, none, none, none, none] [] M := by
  refine r_aload_n (pc := 0) (tb_at tkX3_goOn 0 rfl) rfl rfl ?_
  refine r_get 3 2 (pc := 1) (tb_at tkX3_goOn 1 rfl) ly_46 flX3_9 rfl ?_
  refine r_iload_n (pc := 4) (tb_at tkX3_goOn 2 rfl) rfl rfl ?_
  refine r_iald (pc := 5) (tb_at tkX3_goOn 3 rfl) ly_47 h.1.1 h.1.2 ?_
  replace h := h.2
  refine r_istore_n (L' := [some (.inr (.inr (some 46))), some (.inl v1), some (.inr (.inr (some 65))), some (.inl (M 47 (v1).toNat)), none, none, none, none]) (pc := 6) (tb_at tkX3_goOn 4 rfl) rfl (by decide) rfl ?_
  refine r_iconst (pc := 7) (tb_at tkX3_goOn 5 rfl) ⟨by decide, by decide⟩ ?_
  refine r_istore (L' := [some (.inr (.inr (some 46))), some (.inl v1), some (.inr (.inr (some 65))), some (.inl (M 47 (v1).toNat)), some (.inl 0), none, none, none]) (pc := 8) (tb_at tkX3_goOn 6 rfl) (by decide) rfl ?_
  exact h
set_option maxRecDepth 100000 in
set_option maxHeartbeats 4000000 in
theorem gX3_goOn_10 {G : GE} {d : Nat} {K : Mem → Prop} {M : Mem} {v1 v3 v4 : Int}  (h : (((M 1 8) ≤ v4 → K M) ∧ (v4 < (M 1 8) → (0 ≤ (v3 * 7) + v4 ∧ (v3 * 7) + v4 < 49) ∧ ((¬ (M 21 ((v3 * 7) + v4).toNat) = 0 → (0 ≤ v1 ∧ v1 < 128) ∧ (0 ≤ v4 ∧ v4 < 7) ∧ (0 ≤ v4 ∧ v4 < 7) ∧ (0 ≤ v3 ∧ v3 < 7) ∧ ((¬ (M 21 ((v3 * 7) + v4).toNat) = 2 → CalI G miX4_isTight d [.inr (.inr (some 19)), .inl v3, .inl v4] M (fun x2 M1 => ((x2 = 0 → OkV G miX3_goOn (d + 1) K 179 [some (.inr (.inr (some 46))), some (.inl v1), some (.inr (.inr (some 65))), some (.inl v3), some (.inl v4), none, none, none] [.inr (.inl 0), .inr (.inl (w64 (((M 52 (v1).toNat) - (M 65 (v4).toNat)) + ((M 8 1) * (w32 ((M 5 (v4).toNat) - (M 5 (v3).toNat)))))))] M1) ∧ (¬ x2 = 0 → OkV G miX3_goOn (d + 1) K 179 [some (.inr (.inr (some 46))), some (.inl v1), some (.inr (.inr (some 65))), some (.inl v3), some (.inl v4), none, none, none] [.inr (.inl (M1 8 2)), .inr (.inl (w64 (((M 52 (v1).toNat) - (M 65 (v4).toNat)) + ((M 8 1) * (w32 ((M 5 (v4).toNat) - (M 5 (v3).toNat)))))))] M1)))) ∧ ((M 21 ((v3 * 7) + v4).toNat) = 2 → (0 ≤ v1 ∧ v1 < 128) ∧ (0 ≤ v1 ∧ v1 < 128) ∧ (0 ≤ v4 ∧ v4 < 7) ∧ CalV G miX3_arrive d [.inr (.inr (some 46)), .inl v4, .inl (M 48 (v1).toNat), .inr (.inl (w64 ((((M 52 (v1).toNat) - (M 65 (v4).toNat)) + ((M 8 1) * (w32 ((M 5 (v4).toNat) - (M 5 (v3).toNat))))) + (M 8 0)))), .inl (w32 ((M 49 (v1).toNat) + 1)), .inl 1, .inl (M 4 (v4).toNat)] M (fun M3 => OkV G miX3_goOn (d + 1) K 10 [some (.inr (.inr (some 46))), some (.inl v1), some (.inr (.inr (some 65))), some (.inl v3), some (.inl (w32 (v4 + 1))), none, none, none] [] M3)))) ∧ ((M 21 ((v3 * 7) + v4).toNat) = 0 → OkV G miX3_goOn (d + 1) K 10 [some (.inr (.inr (some 46))), some (.inl v1), some (.inr (.inr (some 65))), some (.inl v3), some (.inl (w32 (v4 + 1))), none, none, none] [] M))))) : OkV G miX3_goOn (d + 1) K 10 [some (.inr (.inr (some 46))), some (.inl v1), some (.inr (.inr (some 65))), some (.inl v3), some (.inl v4), none, none, none] [] M := by
  refine r_iload (pc := 10) (tb_at tkX3_goOn 7 rfl) rfl ?_
  refine r_aload_n (pc := 12) (tb_at tkX3_goOn 8 rfl) rfl rfl ?_
  refine r_get 3 0 (pc := 13) (tb_at tkX3_goOn 9 rfl) ly_46 flX3_42 rfl ?_
  refine r_get 5 8 (pc := 16) (tb_at tkX3_goOn 10 rfl) ly_1 flX3_50 rfl ?_
  refine q_icmp_ge (tgt := 222) (pc := 19) (tb_at tkX3_goOn 11 rfl) (by decide) (fun c => ?_) (fun c => ?_)
  · replace h := h.1 c
    exact r_vret (pc := 222) (tb_at tkX3_goOn 128 rfl) rfl (Nat.le_refl _) (Nat.le_refl _) ⟨rfl, rfl, h⟩
  · replace h := h.2 c
    refine r_aload_n (pc := 22) (tb_at tkX3_goOn 12 rfl) rfl rfl ?_
    refine r_get 3 1 (pc := 23) (tb_at tkX3_goOn 13 rfl) ly_46 flX3_46 rfl ?_
    refine r_get 4 2 (pc := 26) (tb_at tkX3_goOn 14 rfl) ly_19 flX3_82 rfl ?_
    refine r_iload_n (pc := 29) (tb_at tkX3_goOn 15 rfl) rfl rfl ?_
    refine r_bipush (pc := 30) (tb_at tkX3_goOn 16 rfl) ⟨by decide, by decide, by decide⟩ ?_
    refine r_imul (pc := 32) (tb_at tkX3_goOn 17 rfl) ?_
    refine r_iload (pc := 33) (tb_at tkX3_goOn 18 rfl) rfl ?_
    refine r_iadd_l (pc := 35) (tb_at tkX3_goOn 19 rfl) ?_
    refine r_iald_w (pc := 36) (tb_at tkX3_goOn 20 rfl) ly_21 (by decide) h.1.1 h.1.2 ?_
    replace h := h.2
    refine r_istore (L' := [some (.inr (.inr (some 46))), some (.inl v1), some (.inr (.inr (some 65))), some (.inl v3), some (.inl v4), some (.inl (M 21 ((v3 * 7) + v4).toNat)), none, none]) (pc := 37) (tb_at tkX3_goOn 21 rfl) (by decide) rfl ?_
    refine r_iload (pc := 39) (tb_at tkX3_goOn 22 rfl) rfl ?_
    refine q_if_ne (tgt := 47) (pc := 41) (tb_at tkX3_goOn 23 rfl) (by decide) (fun c => ?_) (fun c => ?_)
    · replace h := h.1 c
      refine r_aload_n (pc := 47) (tb_at tkX3_goOn 25 rfl) rfl rfl ?_
      refine r_get 3 7 (pc := 48) (tb_at tkX3_goOn 26 rfl) ly_46 flX3_27 rfl ?_
      refine r_iload_n (pc := 51) (tb_at tkX3_goOn 27 rfl) rfl rfl ?_
      refine r_lald (pc := 52) (tb_at tkX3_goOn 28 rfl) ly_52 h.1.1 h.1.2 ?_
      replace h := h.2
      refine r_aload_n (pc := 53) (tb_at tkX3_goOn 29 rfl) rfl rfl ?_
      refine r_iload (pc := 54) (tb_at tkX3_goOn 30 rfl) rfl ?_
      refine r_lald (pc := 56) (tb_at tkX3_goOn 31 rfl) ly_65 h.1.1 h.1.2 ?_
      replace h := h.2
      refine r_lsub (pc := 57) (tb_at tkX3_goOn 32 rfl) ?_
      refine r_aload_n (pc := 58) (tb_at tkX3_goOn 33 rfl) rfl rfl ?_
      refine r_get 3 0 (pc := 59) (tb_at tkX3_goOn 34 rfl) ly_46 flX3_42 rfl ?_
      refine r_get 5 6 (pc := 62) (tb_at tkX3_goOn 35 rfl) ly_1 flX3_66 rfl ?_
      refine r_iconst (pc := 65) (tb_at tkX3_goOn 36 rfl) ⟨by decide, by decide⟩ ?_
      refine r_iald_k (k0 := 1) (pc := 66) (tb_at tkX3_goOn 37 rfl) ly_8 rfl (by decide) (by decide) ?_
      refine r_i2l (pc := 67) (tb_at tkX3_goOn 38 rfl) ?_
      refine r_aload_n (pc := 68) (tb_at tkX3_goOn 39 rfl) rfl rfl ?_
      refine r_get 3 0 (pc := 69) (tb_at tkX3_goOn 40 rfl) ly_46 flX3_42 rfl ?_
      refine r_get 5 3 (pc := 72) (tb_at tkX3_goOn 41 rfl) ly_1 flX3_69 rfl ?_
      refine r_iload (pc := 75) (tb_at tkX3_goOn 42 rfl) rfl ?_
      refine r_iald (pc := 77) (tb_at tkX3_goOn 43 rfl) ly_5 h.1.1 h.1.2 ?_
      replace h := h.2
      refine r_aload_n (pc := 78) (tb_at tkX3_goOn 44 rfl) rfl rfl ?_
      refine r_get 3 0 (pc := 79) (tb_at tkX3_goOn 45 rfl) ly_46 flX3_42 rfl ?_
      refine r_get 5 3 (pc := 82) (tb_at tkX3_goOn 46 rfl) ly_1 flX3_69 rfl ?_
      refine r_iload_n (pc := 85) (tb_at tkX3_goOn 47 rfl) rfl rfl ?_
      refine r_iald (pc := 86) (tb_at tkX3_goOn 48 rfl) ly_5 h.1.1 h.1.2 ?_
      replace h := h.2
      refine r_isub (pc := 87) (tb_at tkX3_goOn 49 rfl) ?_
      refine r_i2l (pc := 88) (tb_at tkX3_goOn 50 rfl) ?_
      refine r_lmul (pc := 89) (tb_at tkX3_goOn 51 rfl) ?_
      refine r_ladd_lr (pc := 90) (tb_at tkX3_goOn 52 rfl) ?_
      refine r_lstore (L' := [some (.inr (.inr (some 46))), some (.inl v1), some (.inr (.inr (some 65))), some (.inl v3), some (.inl v4), some (.inl (M 21 ((v3 * 7) + v4).toNat)), some (.inr (.inl (w64 (((M 52 (v1).toNat) - (M 65 (v4).toNat)) + ((M 8 1) * (w32 ((M 5 (v4).toNat) - (M 5 (v3).toNat)))))))), none]) (pc := 91) (tb_at tkX3_goOn 53 rfl) (by decide) rfl ?_
      refine r_iload (pc := 93) (tb_at tkX3_goOn 54 rfl) rfl ?_
      refine r_iconst (pc := 95) (tb_at tkX3_goOn 55 rfl) ⟨by decide, by decide⟩ ?_
      refine q_icmp_ne (tgt := 150) (pc := 96) (tb_at tkX3_goOn 56 rfl) (by decide) (fun c => ?_) (fun c => ?_)
      · replace h := h.1 c
        refine r_lload (pc := 150) (tb_at tkX3_goOn 87 rfl) rfl ?_
        refine r_aload_n (pc := 152) (tb_at tkX3_goOn 88 rfl) rfl rfl ?_
        refine r_get 3 1 (pc := 153) (tb_at tkX3_goOn 89 rfl) ly_46 flX3_46 rfl ?_
        refine r_iload_n (pc := 156) (tb_at tkX3_goOn 90 rfl) rfl rfl ?_
        refine r_iload (pc := 157) (tb_at tkX3_goOn 91 rfl) rfl ?_
        refine r_invV (mc' := 0) (ms' := 0) [.inl v3, .inl v4] (S := [.inr (.inl (w64 (((M 52 (v1).toNat) - (M 65 (v4).toNat)) + ((M 8 1) * (w32 ((M 5 (v4).toNat) - (M 5 (v3).toNat)))))))]) (pc := 159) (tb_at tkX3_goOn 92 rfl) rfl ly_19 rfl rfl clX3_85 (Nat.le_of_ble_eq_true rfl) (Nat.le_refl _) (Nat.le_refl _) ?_
        refine Cal.mono h ?_
        rintro _ _ M1 ⟨x2, rfl, rfl, h⟩
        show OkV G miX3_goOn (d + 1) K 162 [some (.inr (.inr (some 46))), some (.inl v1), some (.inr (.inr (some 65))), some (.inl v3), some (.inl v4), some (.inl (M 21 ((v3 * 7) + v4).toNat)), some (.inr (.inl (w64 (((M 52 (v1).toNat) - (M 65 (v4).toNat)) + ((M 8 1) * (w32 ((M 5 (v4).toNat) - (M 5 (v3).toNat)))))))), none] [.inl x2, .inr (.inl (w64 (((M 52 (v1).toNat) - (M 65 (v4).toNat)) + ((M 8 1) * (w32 ((M 5 (v4).toNat) - (M 5 (v3).toNat)))))))] M1
        refine q_if_eq (tgt := 178) (pc := 162) (tb_at tkX3_goOn 93 rfl) (by decide) (fun c => ?_) (fun c => ?_)
        · replace h := h.1 c
          refine r_lconst (v := 0) (pc := 178) (tb_at tkX3_goOn 101 rfl) ⟨by decide, by decide, by decide⟩ ?_
          exact Ok.forget h (And.intro rfl (And.intro rfl (And.intro rfl (And.intro rfl (And.intro rfl trivial)))))
        · replace h := h.2 c
          refine r_aload_n (pc := 165) (tb_at tkX3_goOn 94 rfl) rfl rfl ?_
          refine r_get 3 0 (pc := 166) (tb_at tkX3_goOn 95 rfl) ly_46 flX3_42 rfl ?_
          refine r_get 5 6 (pc := 169) (tb_at tkX3_goOn 96 rfl) ly_1 flX3_66 rfl ?_
          refine r_iconst (pc := 172) (tb_at tkX3_goOn 97 rfl) ⟨by decide, by decide⟩ ?_
          refine r_iald_k (k0 := 2) (pc := 173) (tb_at tkX3_goOn 98 rfl) ly_8 rfl (by decide) (by decide) ?_
          refine r_i2l (pc := 174) (tb_at tkX3_goOn 99 rfl) ?_
          refine r_goto (tgt := 179) (pc := 175) (tb_at tkX3_goOn 100 rfl) (by decide) ?_
          exact Ok.forget h (And.intro rfl (And.intro rfl (And.intro rfl (And.intro rfl (And.intro rfl trivial)))))
      · replace h := h.2 c
        refine r_lload (pc := 99) (tb_at tkX3_goOn 57 rfl) rfl ?_
        refine r_aload_n (pc := 101) (tb_at tkX3_goOn 58 rfl) rfl rfl ?_
        refine r_get 3 0 (pc := 102) (tb_at tkX3_goOn 59 rfl) ly_46 flX3_42 rfl ?_
        refine r_get 5 6 (pc := 105) (tb_at tkX3_goOn 60 rfl) ly_1 flX3_66 rfl ?_
        refine r_iconst (pc := 108) (tb_at tkX3_goOn 61 rfl) ⟨by decide, by decide⟩ ?_
        refine r_iald_k (k0 := 0) (pc := 109) (tb_at tkX3_goOn 62 rfl) ly_8 rfl (by decide) (by decide) ?_
        refine r_i2l (pc := 110) (tb_at tkX3_goOn 63 rfl) ?_
        refine r_ladd_l (pc := 111) (tb_at tkX3_goOn 64 rfl) ?_
        refine r_lstore (L' := [some (.inr (.inr (some 46))), some (.inl v1), some (.inr (.inr (some 65))), some (.inl v3), some (.inl v4), some (.inl (M 21 ((v3 * 7) + v4).toNat)), some (.inr (.inl (w64 ((((M 52 (v1).toNat) - (M 65 (v4).toNat)) + ((M 8 1) * (w32 ((M 5 (v4).toNat) - (M 5 (v3).toNat))))) + (M 8 0))))), none]) (pc := 112) (tb_at tkX3_goOn 65 rfl) (by decide) rfl ?_
        refine r_aload_n (pc := 114) (tb_at tkX3_goOn 66 rfl) rfl rfl ?_
        refine r_iload (pc := 115) (tb_at tkX3_goOn 67 rfl) rfl ?_
        refine r_aload_n (pc := 117) (tb_at tkX3_goOn 68 rfl) rfl rfl ?_
        refine r_get 3 3 (pc := 118) (tb_at tkX3_goOn 69 rfl) ly_46 flX3_15 rfl ?_
        refine r_iload_n (pc := 121) (tb_at tkX3_goOn 70 rfl) rfl rfl ?_
        refine r_iald (pc := 122) (tb_at tkX3_goOn 71 rfl) ly_48 h.1.1 h.1.2 ?_
        replace h := h.2
        refine r_lload (pc := 123) (tb_at tkX3_goOn 72 rfl) rfl ?_
        refine r_aload_n (pc := 125) (tb_at tkX3_goOn 73 rfl) rfl rfl ?_
        refine r_get 3 4 (pc := 126) (tb_at tkX3_goOn 74 rfl) ly_46 flX3_18 rfl ?_
        refine r_iload_n (pc := 129) (tb_at tkX3_goOn 75 rfl) rfl rfl ?_
        refine r_iald (pc := 130) (tb_at tkX3_goOn 76 rfl) ly_49 h.1.1 h.1.2 ?_
        replace h := h.2
        refine r_iconst (pc := 131) (tb_at tkX3_goOn 77 rfl) ⟨by decide, by decide⟩ ?_
        refine r_iadd (pc := 132) (tb_at tkX3_goOn 78 rfl) ?_
        refine r_iconst (pc := 133) (tb_at tkX3_goOn 79 rfl) ⟨by decide, by decide⟩ ?_
        refine r_aload_n (pc := 134) (tb_at tkX3_goOn 80 rfl) rfl rfl ?_
        refine r_get 3 0 (pc := 135) (tb_at tkX3_goOn 81 rfl) ly_46 flX3_42 rfl ?_
        refine r_get 5 2 (pc := 138) (tb_at tkX3_goOn 82 rfl) ly_1 flX3_72 rfl ?_
        refine r_iload (pc := 141) (tb_at tkX3_goOn 83 rfl) rfl ?_
        refine r_iald (pc := 143) (tb_at tkX3_goOn 84 rfl) ly_4 h.1.1 h.1.2 ?_
        replace h := h.2
        refine r_invV (mc' := 0) (ms' := 0) [.inl v4, .inl (M 48 (v1).toNat), .inr (.inl (w64 ((((M 52 (v1).toNat) - (M 65 (v4).toNat)) + ((M 8 1) * (w32 ((M 5 (v4).toNat) - (M 5 (v3).toNat))))) + (M 8 0)))), .inl (w32 ((M 49 (v1).toNat) + 1)), .inl 1, .inl (M 4 (v4).toNat)] (S := []) (pc := 144) (tb_at tkX3_goOn 85 rfl) rfl ly_46 rfl rfl clX3_78 (Nat.le_of_ble_eq_true rfl) (Nat.le_refl _) (Nat.le_refl _) ?_
        refine Cal.mono h ?_
        rintro _ _ M3 ⟨rfl, rfl, h⟩
        show OkV G miX3_goOn (d + 1) K 147 [some (.inr (.inr (some 46))), some (.inl v1), some (.inr (.inr (some 65))), some (.inl v3), some (.inl v4), some (.inl (M 21 ((v3 * 7) + v4).toNat)), some (.inr (.inl (w64 ((((M 52 (v1).toNat) - (M 65 (v4).toNat)) + ((M 8 1) * (w32 ((M 5 (v4).toNat) - (M 5 (v3).toNat))))) + (M 8 0))))), none] [] M3
        refine r_goto (tgt := 216) (pc := 147) (tb_at tkX3_goOn 86 rfl) (by decide) ?_
        refine r_iinc (L' := [some (.inr (.inr (some 46))), some (.inl v1), some (.inr (.inr (some 65))), some (.inl v3), some (.inl (w32 (v4 + 1))), some (.inl (M 21 ((v3 * 7) + v4).toNat)), some (.inr (.inl (w64 ((((M 52 (v1).toNat) - (M 65 (v4).toNat)) + ((M 8 1) * (w32 ((M 5 (v4).toNat) - (M 5 (v3).toNat))))) + (M 8 0))))), none]) (pc := 216) (tb_at tkX3_goOn 126 rfl) rfl (by decide) rfl ?_
        refine r_goto (tgt := 10) (pc := 219) (tb_at tkX3_goOn 127 rfl) (by decide) ?_
        exact Ok.forget h (And.intro rfl (And.intro rfl (And.intro rfl (And.intro rfl (And.intro rfl trivial)))))
    · replace h := h.2 c
      refine r_goto (tgt := 216) (pc := 44) (tb_at tkX3_goOn 24 rfl) (by decide) ?_
      refine r_iinc (L' := [some (.inr (.inr (some 46))), some (.inl v1), some (.inr (.inr (some 65))), some (.inl v3), some (.inl (w32 (v4 + 1))), some (.inl (M 21 ((v3 * 7) + v4).toNat)), none, none]) (pc := 216) (tb_at tkX3_goOn 126 rfl) rfl (by decide) rfl ?_
      refine r_goto (tgt := 10) (pc := 219) (tb_at tkX3_goOn 127 rfl) (by decide) ?_
      exact Ok.forget h (And.intro rfl (And.intro rfl (And.intro rfl (And.intro rfl (And.intro rfl trivial)))))
set_option maxRecDepth 100000 in
set_option maxHeartbeats 4000000 in
theorem gX3_goOn_179 {G : GE} {d : Nat} {K : Mem → Prop} {M : Mem} {v1 v3 v4 s0 s1 : Int}  (h : (0 ≤ v1 ∧ v1 < 128) ∧ (0 ≤ v1 ∧ v1 < 128) ∧ (0 ≤ v1 ∧ v1 < 128) ∧ (0 ≤ v1 ∧ v1 < 128) ∧ CalV G miX3_arrive d [.inr (.inr (some 46)), .inl v4, .inl (M 48 (v1).toNat), .inr (.inl (w64 (s0 + s1))), .inl (M 49 (v1).toNat), .inl (w32 ((M 50 (v1).toNat) + 1)), .inl (M 51 (v1).toNat)] M (fun M1 => OkV G miX3_goOn (d + 1) K 10 [some (.inr (.inr (some 46))), some (.inl v1), some (.inr (.inr (some 65))), some (.inl v3), some (.inl (w32 (v4 + 1))), none, none, none] [] M1)) : OkV G miX3_goOn (d + 1) K 179 [some (.inr (.inr (some 46))), some (.inl v1), some (.inr (.inr (some 65))), some (.inl v3), some (.inl v4), none, none, none] [.inr (.inl s1), .inr (.inl s0)] M := by
  refine r_ladd (pc := 179) (tb_at tkX3_goOn 102 rfl) ?_
  refine r_lstore (L' := [some (.inr (.inr (some 46))), some (.inl v1), some (.inr (.inr (some 65))), some (.inl v3), some (.inl v4), none, some (.inr (.inl (w64 (s0 + s1)))), none]) (pc := 180) (tb_at tkX3_goOn 103 rfl) (by decide) rfl ?_
  refine r_aload_n (pc := 182) (tb_at tkX3_goOn 104 rfl) rfl rfl ?_
  refine r_iload (pc := 183) (tb_at tkX3_goOn 105 rfl) rfl ?_
  refine r_aload_n (pc := 185) (tb_at tkX3_goOn 106 rfl) rfl rfl ?_
  refine r_get 3 3 (pc := 186) (tb_at tkX3_goOn 107 rfl) ly_46 flX3_15 rfl ?_
  refine r_iload_n (pc := 189) (tb_at tkX3_goOn 108 rfl) rfl rfl ?_
  refine r_iald (pc := 190) (tb_at tkX3_goOn 109 rfl) ly_48 h.1.1 h.1.2 ?_
  replace h := h.2
  refine r_lload (pc := 191) (tb_at tkX3_goOn 110 rfl) rfl ?_
  refine r_aload_n (pc := 193) (tb_at tkX3_goOn 111 rfl) rfl rfl ?_
  refine r_get 3 4 (pc := 194) (tb_at tkX3_goOn 112 rfl) ly_46 flX3_18 rfl ?_
  refine r_iload_n (pc := 197) (tb_at tkX3_goOn 113 rfl) rfl rfl ?_
  refine r_iald (pc := 198) (tb_at tkX3_goOn 114 rfl) ly_49 h.1.1 h.1.2 ?_
  replace h := h.2
  refine r_aload_n (pc := 199) (tb_at tkX3_goOn 115 rfl) rfl rfl ?_
  refine r_get 3 5 (pc := 200) (tb_at tkX3_goOn 116 rfl) ly_46 flX3_21 rfl ?_
  refine r_iload_n (pc := 203) (tb_at tkX3_goOn 117 rfl) rfl rfl ?_
  refine r_iald (pc := 204) (tb_at tkX3_goOn 118 rfl) ly_50 h.1.1 h.1.2 ?_
  replace h := h.2
  refine r_iconst (pc := 205) (tb_at tkX3_goOn 119 rfl) ⟨by decide, by decide⟩ ?_
  refine r_iadd (pc := 206) (tb_at tkX3_goOn 120 rfl) ?_
  refine r_aload_n (pc := 207) (tb_at tkX3_goOn 121 rfl) rfl rfl ?_
  refine r_get 3 6 (pc := 208) (tb_at tkX3_goOn 122 rfl) ly_46 flX3_24 rfl ?_
  refine r_iload_n (pc := 211) (tb_at tkX3_goOn 123 rfl) rfl rfl ?_
  refine r_iald (pc := 212) (tb_at tkX3_goOn 124 rfl) ly_51 h.1.1 h.1.2 ?_
  replace h := h.2
  refine r_invV (mc' := 0) (ms' := 0) [.inl v4, .inl (M 48 (v1).toNat), .inr (.inl (w64 (s0 + s1))), .inl (M 49 (v1).toNat), .inl (w32 ((M 50 (v1).toNat) + 1)), .inl (M 51 (v1).toNat)] (S := []) (pc := 213) (tb_at tkX3_goOn 125 rfl) rfl ly_46 rfl rfl clX3_78 (Nat.le_of_ble_eq_true rfl) (Nat.le_refl _) (Nat.le_refl _) ?_
  refine Cal.mono h ?_
  rintro _ _ M1 ⟨rfl, rfl, h⟩
  show OkV G miX3_goOn (d + 1) K 216 [some (.inr (.inr (some 46))), some (.inl v1), some (.inr (.inr (some 65))), some (.inl v3), some (.inl v4), none, some (.inr (.inl (w64 (s0 + s1)))), none] [] M1
  refine r_iinc (L' := [some (.inr (.inr (some 46))), some (.inl v1), some (.inr (.inr (some 65))), some (.inl v3), some (.inl (w32 (v4 + 1))), none, some (.inr (.inl (w64 (s0 + s1)))), none]) (pc := 216) (tb_at tkX3_goOn 126 rfl) rfl (by decide) rfl ?_
  refine r_goto (tgt := 10) (pc := 219) (tb_at tkX3_goOn 127 rfl) (by decide) ?_
  exact Ok.forget h (And.intro rfl (And.intro rfl (And.intro rfl (And.intro rfl (And.intro rfl trivial)))))
set_option maxRecDepth 100000 in
set_option maxHeartbeats 4000000 in
theorem gX3_arrive_0 {G : GE} {d : Nat} {K : Mem → Prop} {M : Mem} {v1 v2 v3 v5 v6 v7 : Int}  (h : ((128 ≤ (M 46 9) → K M) ∧ ((M 46 9) < 128 → (0 ≤ v1 ∧ v1 < 7) ∧ CalI G miX4_isLawful d [.inr (.inr (some 19)), .inl v2, .inl v5, .inl v6, .inl (w32 ((M 5 (v1).toNat) - v7))] M (fun x2 M1 => ((¬ x2 = 0 → (0 ≤ M1 46 9 ∧ M1 46 9 < 128) ∧ (0 ≤ (mup M1 47 (M1 46 9).toNat v1) 46 9 ∧ (mup M1 47 (M1 46 9).toNat v1) 46 9 < 128) ∧ (0 ≤ (mup (mup M1 47 (M1 46 9).toNat v1) 48 ((mup M1 47 (M1 46 9).toNat v1) 46 9).toNat v2) 46 9 ∧ (mup (mup M1 47 (M1 46 9).toNat v1) 48 ((mup M1 47 (M1 46 9).toNat v1) 46 9).toNat v2) 46 9 < 128) ∧ (0 ≤ (mup (mup (mup M1 47 (M1 46 9).toNat v1) 48 ((mup M1 47 (M1 46 9).toNat v1) 46 9).toNat v2) 52 ((mup (mup M1 47 (M1 46 9).toNat v1) 48 ((mup M1 47 (M1 46 9).toNat v1) 46 9).toNat v2) 46 9).toNat v3) 46 9 ∧ (mup (mup (mup M1 47 (M1 46 9).toNat v1) 48 ((mup M1 47 (M1 46 9).toNat v1) 46 9).toNat v2) 52 ((mup (mup M1 47 (M1 46 9).toNat v1) 48 ((mup M1 47 (M1 46 9).toNat v1) 46 9).toNat v2) 46 9).toNat v3) 46 9 < 128) ∧ (0 ≤ (mup (mup (mup (mup M1 47 (M1 46 9).toNat v1) 48 ((mup M1 47 (M1 46 9).toNat v1) 46 9).toNat v2) 52 ((mup (mup M1 47 (M1 46 9).toNat v1) 48 ((mup M1 47 (M1 46 9).toNat v1) 46 9).toNat v2) 46 9).toNat v3) 49 ((mup (mup (mup M1 47 (M1 46 9).toNat v1) 48 ((mup M1 47 (M1 46 9).toNat v1) 46 9).toNat v2) 52 ((mup (mup M1 47 (M1 46 9).toNat v1) 48 ((mup M1 47 (M1 46 9).toNat v1) 46 9).toNat v2) 46 9).toNat v3) 46 9).toNat v5) 46 9 ∧ (mup (mup (mup (mup M1 47 (M1 46 9).toNat v1) 48 ((mup M1 47 (M1 46 9).toNat v1) 46 9).toNat v2) 52 ((mup (mup M1 47 (M1 46 9).toNat v1) 48 ((mup M1 47 (M1 46 9).toNat v1) 46 9).toNat v2) 46 9).toNat v3) 49 ((mup (mup (mup M1 47 (M1 46 9).toNat v1) 48 ((mup M1 47 (M1 46 9).toNat v1) 46 9).toNat v2) 52 ((mup (mup M1 47 (M1 46 9).toNat v1) 48 ((mup M1 47 (M1 46 9).toNat v1) 46 9).toNat v2) 46 9).toNat v3) 46 9).toNat v5) 46 9 < 128) ∧ (0 ≤ (mup (mup (mup (mup (mup M1 47 (M1 46 9).toNat v1) 48 ((mup M1 47 (M1 46 9).toNat v1) 46 9).toNat v2) 52 ((mup (mup M1 47 (M1 46 9).toNat v1) 48 ((mup M1 47 (M1 46 9).toNat v1) 46 9).toNat v2) 46 9).toNat v3) 49 ((mup (mup (mup M1 47 (M1 46 9).toNat v1) 48 ((mup M1 47 (M1 46 9).toNat v1) 46 9).toNat v2) 52 ((mup (mup M1 47 (M1 46 9).toNat v1) 48 ((mup M1 47 (M1 46 9).toNat v1) 46 9).toNat v2) 46 9).toNat v3) 46 9).toNat v5) 50 ((mup (mup (mup (mup M1 47 (M1 46 9).toNat v1) 48 ((mup M1 47 (M1 46 9).toNat v1) 46 9).toNat v2) 52 ((mup (mup M1 47 (M1 46 9).toNat v1) 48 ((mup M1 47 (M1 46 9).toNat v1) 46 9).toNat v2) 46 9).toNat v3) 49 ((mup (mup (mup M1 47 (M1 46 9).toNat v1) 48 ((mup M1 47 (M1 46 9).toNat v1) 46 9).toNat v2) 52 ((mup (mup M1 47 (M1 46 9).toNat v1) 48 ((mup M1 47 (M1 46 9).toNat v1) 46 9).toNat v2) 46 9).toNat v3) 46 9).toNat v5) 46 9).toNat v6) 46 9 ∧ (mup (mup (mup (mup (mup M1 47 (M1 46 9).toNat v1) 48 ((mup M1 47 (M1 46 9).toNat v1) 46 9).toNat v2) 52 ((mup (mup M1 47 (M1 46 9).toNat v1) 48 ((mup M1 47 (M1 46 9).toNat v1) 46 9).toNat v2) 46 9).toNat v3) 49 ((mup (mup (mup M1 47 (M1 46 9).toNat v1) 48 ((mup M1 47 (M1 46 9).toNat v1) 46 9).toNat v2) 52 ((mup (mup M1 47 (M1 46 9).toNat v1) 48 ((mup M1 47 (M1 46 9).toNat v1) 46 9).toNat v2) 46 9).toNat v3) 46 9).toNat v5) 50 ((mup (mup (mup (mup M1 47 (M1 46 9).toNat v1) 48 ((mup M1 47 (M1 46 9).toNat v1) 46 9).toNat v2) 52 ((mup (mup M1 47 (M1 46 9).toNat v1) 48 ((mup M1 47 (M1 46 9).toNat v1) 46 9).toNat v2) 46 9).toNat v3) 49 ((mup (mup (mup M1 47 (M1 46 9).toNat v1) 48 ((mup M1 47 (M1 46 9).toNat v1) 46 9).toNat v2) 52 ((mup (mup M1 47 (M1 46 9).toNat v1) 48 ((mup M1 47 (M1 46 9).toNat v1) 46 9).toNat v2) 46 9).toNat v3) 46 9).toNat v5) 46 9).toNat v6) 46 9 < 128) ∧ (0 ≤ (mup (mup (mup (mup (mup (mup M1 47 (M1 46 9).toNat v1) 48 ((mup M1 47 (M1 46 9).toNat v1) 46 9).toNat v2) 52 ((mup (mup M1 47 (M1 46 9).toNat v1) 48 ((mup M1 47 (M1 46 9).toNat v1) 46 9).toNat v2) 46 9).toNat v3) 49 ((mup (mup (mup M1 47 (M1 46 9).toNat v1) 48 ((mup M1 47 (M1 46 9).toNat v1) 46 9).toNat v2) 52 ((mup (mup M1 47 (M1 46 9).toNat v1) 48 ((mup M1 47 (M1 46 9).toNat v1) 46 9).toNat v2) 46 9).toNat v3) 46 9).toNat v5) 50 ((mup (mup (mup (mup M1 47 (M1 46 9).toNat v1) 48 ((mup M1 47 (M1 46 9).toNat v1) 46 9).toNat v2) 52 ((mup (mup M1 47 (M1 46 9).toNat v1) 48 ((mup M1 47 (M1 46 9).toNat v1) 46 9).toNat v2) 46 9).toNat v3) 49 ((mup (mup (mup M1 47 (M1 46 9).toNat v1) 48 ((mup M1 47 (M1 46 9).toNat v1) 46 9).toNat v2) 52 ((mup (mup M1 47 (M1 46 9).toNat v1) 48 ((mup M1 47 (M1 46 9).toNat v1) 46 9).toNat v2) 46 9).toNat v3) 46 9).toNat v5) 46 9).toNat v6) 51 ((mup (mup (mup (mup (mup M1 47 (M1 46 9).toNat v1) 48 ((mup M1 47 (M1 46 9).toNat v1) 46 9).toNat v2) 52 ((mup (mup M1 47 (M1 46 9).toNat v1) 48 ((mup M1 47 (M1 46 9).toNat v1) 46 9).toNat v2) 46 9).toNat v3) 49 ((mup (mup (mup M1 47 (M1 46 9).toNat v1) 48 ((mup M1 47 (M1 46 9).toNat v1) 46 9).toNat v2) 52 ((mup (mup M1 47 (M1 46 9).toNat v1) 48 ((mup M1 47 (M1 46 9).toNat v1) 46 9).toNat v2) 46 9).toNat v3) 46 9).toNat v5) 50 ((mup (mup (mup (mup M1 47 (M1 46 9).toNat v1) 48 ((mup M1 47 (M1 46 9).toNat v1) 46 9).toNat v2) 52 ((mup (mup M1 47 (M1 46 9).toNat v1) 48 ((mup M1 47 (M1 46 9).toNat v1) 46 9).toNat v2) 46 9).toNat v3) 49 ((mup (mup (mup M1 47 (M1 46 9).toNat v1) 48 ((mup M1 47 (M1 46 9).toNat v1) 46 9).toNat v2) 52 ((mup (mup M1 47 (M1 46 9).toNat v1) 48 ((mup M1 47 (M1 46 9).toNat v1) 46 9).toNat v2) 46 9).toNat v3) 46 9).toNat v5) 46 9).toNat v6) 46 9).toNat v7) 46 9 ∧ (mup (mup (mup (mup (mup (mup M1 47 (M1 46 9).toNat v1) 48 ((mup M1 47 (M1 46 9).toNat v1) 46 9).toNat v2) 52 ((mup (mup M1 47 (M1 46 9).toNat v1) 48 ((mup M1 47 (M1 46 9).toNat v1) 46 9).toNat v2) 46 9).toNat v3) 49 ((mup (mup (mup M1 47 (M1 46 9).toNat v1) 48 ((mup M1 47 (M1 46 9).toNat v1) 46 9).toNat v2) 52 ((mup (mup M1 47 (M1 46 9).toNat v1) 48 ((mup M1 47 (M1 46 9).toNat v1) 46 9).toNat v2) 46 9).toNat v3) 46 9).toNat v5) 50 ((mup (mup (mup (mup M1 47 (M1 46 9).toNat v1) 48 ((mup M1 47 (M1 46 9).toNat v1) 46 9).toNat v2) 52 ((mup (mup M1 47 (M1 46 9).toNat v1) 48 ((mup M1 47 (M1 46 9).toNat v1) 46 9).toNat v2) 46 9).toNat v3) 49 ((mup (mup (mup M1 47 (M1 46 9).toNat v1) 48 ((mup M1 47 (M1 46 9).toNat v1) 46 9).toNat v2) 52 ((mup (mup M1 47 (M1 46 9).toNat v1) 48 ((mup M1 47 (M1 46 9).toNat v1) 46 9).toNat v2) 46 9).toNat v3) 46 9).toNat v5) 46 9).toNat v6) 51 ((mup (mup (mup (mup (mup M1 47 (M1 46 9).toNat v1) 48 ((mup M1 47 (M1 46 9).toNat v1) 46 9).toNat v2) 52 ((mup (mup M1 47 (M1 46 9).toNat v1) 48 ((mup M1 47 (M1 46 9).toNat v1) 46 9).toNat v2) 46 9).toNat v3) 49 ((mup (mup (mup M1 47 (M1 46 9).toNat v1) 48 ((mup M1 47 (M1 46 9).toNat v1) 46 9).toNat v2) 52 ((mup (mup M1 47 (M1 46 9).toNat v1) 48 ((mup M1 47 (M1 46 9).toNat v1) 46 9).toNat v2) 46 9).toNat v3) 46 9).toNat v5) 50 ((mup (mup (mup (mup M1 47 (M1 46 9).toNat v1) 48 ((mup M1 47 (M1 46 9).toNat v1) 46 9).toNat v2) 52 ((mup (mup M1 47 (M1 46 9).toNat v1) 48 ((mup M1 47 (M1 46 9).toNat v1) 46 9).toNat v2) 46 9).toNat v3) 49 ((mup (mup (mup M1 47 (M1 46 9).toNat v1) 48 ((mup M1 47 (M1 46 9).toNat v1) 46 9).toNat v2) 52 ((mup (mup M1 47 (M1 46 9).toNat v1) 48 ((mup M1 47 (M1 46 9).toNat v1) 46 9).toNat v2) 46 9).toNat v3) 46 9).toNat v5) 46 9).toNat v6) 46 9).toNat v7) 46 9 < 128) ∧ CalV G miX3_compareLatest d [.inr (.inr (some 46))] (mup (mup (mup (mup (mup (mup (mup (mup M1 47 (M1 46 9).toNat v1) 48 ((mup M1 47 (M1 46 9).toNat v1) 46 9).toNat v2) 52 ((mup (mup M1 47 (M1 46 9).toNat v1) 48 ((mup M1 47 (M1 46 9).toNat v1) 46 9).toNat v2) 46 9).toNat v3) 49 ((mup (mup (mup M1 47 (M1 46 9).toNat v1) 48 ((mup M1 47 (M1 46 9).toNat v1) 46 9).toNat v2) 52 ((mup (mup M1 47 (M1 46 9).toNat v1) 48 ((mup M1 47 (M1 46 9).toNat v1) 46 9).toNat v2) 46 9).toNat v3) 46 9).toNat v5) 50 ((mup (mup (mup (mup M1 47 (M1 46 9).toNat v1) 48 ((mup M1 47 (M1 46 9).toNat v1) 46 9).toNat v2) 52 ((mup (mup M1 47 (M1 46 9).toNat v1) 48 ((mup M1 47 (M1 46 9).toNat v1) 46 9).toNat v2) 46 9).toNat v3) 49 ((mup (mup (mup M1 47 (M1 46 9).toNat v1) 48 ((mup M1 47 (M1 46 9).toNat v1) 46 9).toNat v2) 52 ((mup (mup M1 47 (M1 46 9).toNat v1) 48 ((mup M1 47 (M1 46 9).toNat v1) 46 9).toNat v2) 46 9).toNat v3) 46 9).toNat v5) 46 9).toNat v6) 51 ((mup (mup (mup (mup (mup M1 47 (M1 46 9).toNat v1) 48 ((mup M1 47 (M1 46 9).toNat v1) 46 9).toNat v2) 52 ((mup (mup M1 47 (M1 46 9).toNat v1) 48 ((mup M1 47 (M1 46 9).toNat v1) 46 9).toNat v2) 46 9).toNat v3) 49 ((mup (mup (mup M1 47 (M1 46 9).toNat v1) 48 ((mup M1 47 (M1 46 9).toNat v1) 46 9).toNat v2) 52 ((mup (mup M1 47 (M1 46 9).toNat v1) 48 ((mup M1 47 (M1 46 9).toNat v1) 46 9).toNat v2) 46 9).toNat v3) 46 9).toNat v5) 50 ((mup (mup (mup (mup M1 47 (M1 46 9).toNat v1) 48 ((mup M1 47 (M1 46 9).toNat v1) 46 9).toNat v2) 52 ((mup (mup M1 47 (M1 46 9).toNat v1) 48 ((mup M1 47 (M1 46 9).toNat v1) 46 9).toNat v2) 46 9).toNat v3) 49 ((mup (mup (mup M1 47 (M1 46 9).toNat v1) 48 ((mup M1 47 (M1 46 9).toNat v1) 46 9).toNat v2) 52 ((mup (mup M1 47 (M1 46 9).toNat v1) 48 ((mup M1 47 (M1 46 9).toNat v1) 46 9).toNat v2) 46 9).toNat v3) 46 9).toNat v5) 46 9).toNat v6) 46 9).toNat v7) 53 ((mup (mup (mup (mup (mup (mup M1 47 (M1 46 9).toNat v1) 48 ((mup M1 47 (M1 46 9).toNat v1) 46 9).toNat v2) 52 ((mup (mup M1 47 (M1 46 9).toNat v1) 48 ((mup M1 47 (M1 46 9).toNat v1) 46 9).toNat v2) 46 9).toNat v3) 49 ((mup (mup (mup M1 47 (M1 46 9).toNat v1) 48 ((mup M1 47 (M1 46 9).toNat v1) 46 9).toNat v2) 52 ((mup (mup M1 47 (M1 46 9).toNat v1) 48 ((mup M1 47 (M1 46 9).toNat v1) 46 9).toNat v2) 46 9).toNat v3) 46 9).toNat v5) 50 ((mup (mup (mup (mup M1 47 (M1 46 9).toNat v1) 48 ((mup M1 47 (M1 46 9).toNat v1) 46 9).toNat v2) 52 ((mup (mup M1 47 (M1 46 9).toNat v1) 48 ((mup M1 47 (M1 46 9).toNat v1) 46 9).toNat v2) 46 9).toNat v3) 49 ((mup (mup (mup M1 47 (M1 46 9).toNat v1) 48 ((mup M1 47 (M1 46 9).toNat v1) 46 9).toNat v2) 52 ((mup (mup M1 47 (M1 46 9).toNat v1) 48 ((mup M1 47 (M1 46 9).toNat v1) 46 9).toNat v2) 46 9).toNat v3) 46 9).toNat v5) 46 9).toNat v6) 51 ((mup (mup (mup (mup (mup M1 47 (M1 46 9).toNat v1) 48 ((mup M1 47 (M1 46 9).toNat v1) 46 9).toNat v2) 52 ((mup (mup M1 47 (M1 46 9).toNat v1) 48 ((mup M1 47 (M1 46 9).toNat v1) 46 9).toNat v2) 46 9).toNat v3) 49 ((mup (mup (mup M1 47 (M1 46 9).toNat v1) 48 ((mup M1 47 (M1 46 9).toNat v1) 46 9).toNat v2) 52 ((mup (mup M1 47 (M1 46 9).toNat v1) 48 ((mup M1 47 (M1 46 9).toNat v1) 46 9).toNat v2) 46 9).toNat v3) 46 9).toNat v5) 50 ((mup (mup (mup (mup M1 47 (M1 46 9).toNat v1) 48 ((mup M1 47 (M1 46 9).toNat v1) 46 9).toNat v2) 52 ((mup (mup M1 47 (M1 46 9).toNat v1) 48 ((mup M1 47 (M1 46 9).toNat v1) 46 9).toNat v2) 46 9).toNat v3) 49 ((mup (mup (mup M1 47 (M1 46 9).toNat v1) 48 ((mup M1 47 (M1 46 9).toNat v1) 46 9).toNat v2) 52 ((mup (mup M1 47 (M1 46 9).toNat v1) 48 ((mup M1 47 (M1 46 9).toNat v1) 46 9).toNat v2) 46 9).toNat v3) 46 9).toNat v5) 46 9).toNat v6) 46 9).toNat v7) 46 9).toNat 0) 46 9 (w32 (((mup (mup (mup (mup (mup (mup (mup M1 47 (M1 46 9).toNat v1) 48 ((mup M1 47 (M1 46 9).toNat v1) 46 9).toNat v2) 52 ((mup (mup M1 47 (M1 46 9).toNat v1) 48 ((mup M1 47 (M1 46 9).toNat v1) 46 9).toNat v2) 46 9).toNat v3) 49 ((mup (mup (mup M1 47 (M1 46 9).toNat v1) 48 ((mup M1 47 (M1 46 9).toNat v1) 46 9).toNat v2) 52 ((mup (mup M1 47 (M1 46 9).toNat v1) 48 ((mup M1 47 (M1 46 9).toNat v1) 46 9).toNat v2) 46 9).toNat v3) 46 9).toNat v5) 50 ((mup (mup (mup (mup M1 47 (M1 46 9).toNat v1) 48 ((mup M1 47 (M1 46 9).toNat v1) 46 9).toNat v2) 52 ((mup (mup M1 47 (M1 46 9).toNat v1) 48 ((mup M1 47 (M1 46 9).toNat v1) 46 9).toNat v2) 46 9).toNat v3) 49 ((mup (mup (mup M1 47 (M1 46 9).toNat v1) 48 ((mup M1 47 (M1 46 9).toNat v1) 46 9).toNat v2) 52 ((mup (mup M1 47 (M1 46 9).toNat v1) 48 ((mup M1 47 (M1 46 9).toNat v1) 46 9).toNat v2) 46 9).toNat v3) 46 9).toNat v5) 46 9).toNat v6) 51 ((mup (mup (mup (mup (mup M1 47 (M1 46 9).toNat v1) 48 ((mup M1 47 (M1 46 9).toNat v1) 46 9).toNat v2) 52 ((mup (mup M1 47 (M1 46 9).toNat v1) 48 ((mup M1 47 (M1 46 9).toNat v1) 46 9).toNat v2) 46 9).toNat v3) 49 ((mup (mup (mup M1 47 (M1 46 9).toNat v1) 48 ((mup M1 47 (M1 46 9).toNat v1) 46 9).toNat v2) 52 ((mup (mup M1 47 (M1 46 9).toNat v1) 48 ((mup M1 47 (M1 46 9).toNat v1) 46 9).toNat v2) 46 9).toNat v3) 46 9).toNat v5) 50 ((mup (mup (mup (mup M1 47 (M1 46 9).toNat v1) 48 ((mup M1 47 (M1 46 9).toNat v1) 46 9).toNat v2) 52 ((mup (mup M1 47 (M1 46 9).toNat v1) 48 ((mup M1 47 (M1 46 9).toNat v1) 46 9).toNat v2) 46 9).toNat v3) 49 ((mup (mup (mup M1 47 (M1 46 9).toNat v1) 48 ((mup M1 47 (M1 46 9).toNat v1) 46 9).toNat v2) 52 ((mup (mup M1 47 (M1 46 9).toNat v1) 48 ((mup M1 47 (M1 46 9).toNat v1) 46 9).toNat v2) 46 9).toNat v3) 46 9).toNat v5) 46 9).toNat v6) 46 9).toNat v7) 53 ((mup (mup (mup (mup (mup (mup M1 47 (M1 46 9).toNat v1) 48 ((mup M1 47 (M1 46 9).toNat v1) 46 9).toNat v2) 52 ((mup (mup M1 47 (M1 46 9).toNat v1) 48 ((mup M1 47 (M1 46 9).toNat v1) 46 9).toNat v2) 46 9).toNat v3) 49 ((mup (mup (mup M1 47 (M1 46 9).toNat v1) 48 ((mup M1 47 (M1 46 9).toNat v1) 46 9).toNat v2) 52 ((mup (mup M1 47 (M1 46 9).toNat v1) 48 ((mup M1 47 (M1 46 9).toNat v1) 46 9).toNat v2) 46 9).toNat v3) 46 9).toNat v5) 50 ((mup (mup (mup (mup M1 47 (M1 46 9).toNat v1) 48 ((mup M1 47 (M1 46 9).toNat v1) 46 9).toNat v2) 52 ((mup (mup M1 47 (M1 46 9).toNat v1) 48 ((mup M1 47 (M1 46 9).toNat v1) 46 9).toNat v2) 46 9).toNat v3) 49 ((mup (mup (mup M1 47 (M1 46 9).toNat v1) 48 ((mup M1 47 (M1 46 9).toNat v1) 46 9).toNat v2) 52 ((mup (mup M1 47 (M1 46 9).toNat v1) 48 ((mup M1 47 (M1 46 9).toNat v1) 46 9).toNat v2) 46 9).toNat v3) 46 9).toNat v5) 46 9).toNat v6) 51 ((mup (mup (mup (mup (mup M1 47 (M1 46 9).toNat v1) 48 ((mup M1 47 (M1 46 9).toNat v1) 46 9).toNat v2) 52 ((mup (mup M1 47 (M1 46 9).toNat v1) 48 ((mup M1 47 (M1 46 9).toNat v1) 46 9).toNat v2) 46 9).toNat v3) 49 ((mup (mup (mup M1 47 (M1 46 9).toNat v1) 48 ((mup M1 47 (M1 46 9).toNat v1) 46 9).toNat v2) 52 ((mup (mup M1 47 (M1 46 9).toNat v1) 48 ((mup M1 47 (M1 46 9).toNat v1) 46 9).toNat v2) 46 9).toNat v3) 46 9).toNat v5) 50 ((mup (mup (mup (mup M1 47 (M1 46 9).toNat v1) 48 ((mup M1 47 (M1 46 9).toNat v1) 46 9).toNat v2) 52 ((mup (mup M1 47 (M1 46 9).toNat v1) 48 ((mup M1 47 (M1 46 9).toNat v1) 46 9).toNat v2) 46 9).toNat v3) 49 ((mup (mup (mup M1 47 (M1 46 9).toNat v1) 48 ((mup M1 47 (M1 46 9).toNat v1) 46 9).toNat v2) 52 ((mup (mup M1 47 (M1 46 9).toNat v1) 48 ((mup M1 47 (M1 46 9).toNat v1) 46 9).toNat v2) 46 9).toNat v3) 46 9).toNat v5) 46 9).toNat v6) 46 9).toNat v7) 46 9).toNat 0) 46 9) + 1))) (fun M3 => K M3)) ∧ (x2 = 0 → K M1)))))) : OkV G miX3_arrive (d + 1) K 0 [some (.inr (.inr (some 46))), some (.inl v1), some (.inl v2), some (.inr (.inl v3)), none, some (.inl v5), some (.inl v6), some (.inl v7)] [] M := by
  refine r_aload_n (pc := 0) (tb_at tkX3_arrive 0 rfl) rfl rfl ?_
  refine r_get 3 9 (pc := 1) (tb_at tkX3_arrive 1 rfl) ly_46 flX3_35 rfl ?_
  refine r_sipush (pc := 4) (tb_at tkX3_arrive 2 rfl) ⟨by decide, by decide, by decide⟩ ?_
  refine q_icmp_ge (tgt := 37) (pc := 7) (tb_at tkX3_arrive 3 rfl) (by decide) (fun c => ?_) (fun c => ?_)
  · replace h := h.1 c
    exact r_vret (pc := 37) (tb_at tkX3_arrive 18 rfl) rfl (Nat.le_refl _) (Nat.le_refl _) ⟨rfl, rfl, h⟩
  · replace h := h.2 c
    refine r_aload_n (pc := 10) (tb_at tkX3_arrive 4 rfl) rfl rfl ?_
    refine r_get 3 1 (pc := 11) (tb_at tkX3_arrive 5 rfl) ly_46 flX3_46 rfl ?_
    refine r_iload_n (pc := 14) (tb_at tkX3_arrive 6 rfl) rfl rfl ?_
    refine r_iload (pc := 15) (tb_at tkX3_arrive 7 rfl) rfl ?_
    refine r_iload (pc := 17) (tb_at tkX3_arrive 8 rfl) rfl ?_
    refine r_aload_n (pc := 19) (tb_at tkX3_arrive 9 rfl) rfl rfl ?_
    refine r_get 3 0 (pc := 20) (tb_at tkX3_arrive 10 rfl) ly_46 flX3_42 rfl ?_
    refine r_get 5 3 (pc := 23) (tb_at tkX3_arrive 11 rfl) ly_1 flX3_69 rfl ?_
    refine r_iload_n (pc := 26) (tb_at tkX3_arrive 12 rfl) rfl rfl ?_
    refine r_iald (pc := 27) (tb_at tkX3_arrive 13 rfl) ly_5 h.1.1 h.1.2 ?_
    replace h := h.2
    refine r_iload (pc := 28) (tb_at tkX3_arrive 14 rfl) rfl ?_
    refine r_isub (pc := 30) (tb_at tkX3_arrive 15 rfl) ?_
    refine r_invV (mc' := 0) (ms' := 0) [.inl v2, .inl v5, .inl v6, .inl (w32 ((M 5 (v1).toNat) - v7))] (S := []) (pc := 31) (tb_at tkX3_arrive 16 rfl) rfl ly_19 rfl rfl clX3_89 (Nat.le_of_ble_eq_true rfl) (Nat.le_refl _) (Nat.le_refl _) ?_
    refine Cal.mono h ?_
    rintro _ _ M1 ⟨x2, rfl, rfl, h⟩
    show OkV G miX3_arrive (d + 1) K 34 [some (.inr (.inr (some 46))), some (.inl v1), some (.inl v2), some (.inr (.inl v3)), none, some (.inl v5), some (.inl v6), some (.inl v7)] [.inl x2] M1
    refine q_if_ne (tgt := 38) (pc := 34) (tb_at tkX3_arrive 17 rfl) (by decide) (fun c => ?_) (fun c => ?_)
    · replace h := h.1 c
      refine r_aload_n (pc := 38) (tb_at tkX3_arrive 19 rfl) rfl rfl ?_
      refine r_get 3 2 (pc := 39) (tb_at tkX3_arrive 20 rfl) ly_46 flX3_9 rfl ?_
      refine r_aload_n (pc := 42) (tb_at tkX3_arrive 21 rfl) rfl rfl ?_
      refine r_get 3 9 (pc := 43) (tb_at tkX3_arrive 22 rfl) ly_46 flX3_35 rfl ?_
      refine r_iload_n (pc := 46) (tb_at tkX3_arrive 23 rfl) rfl rfl ?_
      refine r_iast (pc := 47) (tb_at tkX3_arrive 24 rfl) ly_47 h.1.1 h.1.2 rfl ?_
      replace h := h.2
      refine r_aload_n (pc := 48) (tb_at tkX3_arrive 25 rfl) rfl rfl ?_
      refine r_get 3 3 (pc := 49) (tb_at tkX3_arrive 26 rfl) ly_46 flX3_15 rfl ?_
      refine r_aload_n (pc := 52) (tb_at tkX3_arrive 27 rfl) rfl rfl ?_
      refine r_get 3 9 (pc := 53) (tb_at tkX3_arrive 28 rfl) ly_46 flX3_35 rfl ?_
      refine r_iload_n (pc := 56) (tb_at tkX3_arrive 29 rfl) rfl rfl ?_
      refine r_iast (pc := 57) (tb_at tkX3_arrive 30 rfl) ly_48 h.1.1 h.1.2 rfl ?_
      replace h := h.2
      refine r_aload_n (pc := 58) (tb_at tkX3_arrive 31 rfl) rfl rfl ?_
      refine r_get 3 7 (pc := 59) (tb_at tkX3_arrive 32 rfl) ly_46 flX3_27 rfl ?_
      refine r_aload_n (pc := 62) (tb_at tkX3_arrive 33 rfl) rfl rfl ?_
      refine r_get 3 9 (pc := 63) (tb_at tkX3_arrive 34 rfl) ly_46 flX3_35 rfl ?_
      refine r_lload_n (pc := 66) (tb_at tkX3_arrive 35 rfl) rfl rfl ?_
      refine r_last (pc := 67) (tb_at tkX3_arrive 36 rfl) ly_52 h.1.1 h.1.2 rfl ?_
      replace h := h.2
      refine r_aload_n (pc := 68) (tb_at tkX3_arrive 37 rfl) rfl rfl ?_
      refine r_get 3 4 (pc := 69) (tb_at tkX3_arrive 38 rfl) ly_46 flX3_18 rfl ?_
      refine r_aload_n (pc := 72) (tb_at tkX3_arrive 39 rfl) rfl rfl ?_
      refine r_get 3 9 (pc := 73) (tb_at tkX3_arrive 40 rfl) ly_46 flX3_35 rfl ?_
      refine r_iload (pc := 76) (tb_at tkX3_arrive 41 rfl) rfl ?_
      refine r_iast (pc := 78) (tb_at tkX3_arrive 42 rfl) ly_49 h.1.1 h.1.2 rfl ?_
      replace h := h.2
      refine r_aload_n (pc := 79) (tb_at tkX3_arrive 43 rfl) rfl rfl ?_
      refine r_get 3 5 (pc := 80) (tb_at tkX3_arrive 44 rfl) ly_46 flX3_21 rfl ?_
      refine r_aload_n (pc := 83) (tb_at tkX3_arrive 45 rfl) rfl rfl ?_
      refine r_get 3 9 (pc := 84) (tb_at tkX3_arrive 46 rfl) ly_46 flX3_35 rfl ?_
      refine r_iload (pc := 87) (tb_at tkX3_arrive 47 rfl) rfl ?_
      refine r_iast (pc := 89) (tb_at tkX3_arrive 48 rfl) ly_50 h.1.1 h.1.2 rfl ?_
      replace h := h.2
      refine r_aload_n (pc := 90) (tb_at tkX3_arrive 49 rfl) rfl rfl ?_
      refine r_get 3 6 (pc := 91) (tb_at tkX3_arrive 50 rfl) ly_46 flX3_24 rfl ?_
      refine r_aload_n (pc := 94) (tb_at tkX3_arrive 51 rfl) rfl rfl ?_
      refine r_get 3 9 (pc := 95) (tb_at tkX3_arrive 52 rfl) ly_46 flX3_35 rfl ?_
      refine r_iload (pc := 98) (tb_at tkX3_arrive 53 rfl) rfl ?_
      refine r_iast (pc := 100) (tb_at tkX3_arrive 54 rfl) ly_51 h.1.1 h.1.2 rfl ?_
      replace h := h.2
      refine r_aload_n (pc := 101) (tb_at tkX3_arrive 55 rfl) rfl rfl ?_
      refine r_get 3 8 (pc := 102) (tb_at tkX3_arrive 56 rfl) ly_46 flX3_31 rfl ?_
      refine r_aload_n (pc := 105) (tb_at tkX3_arrive 57 rfl) rfl rfl ?_
      refine r_get 3 9 (pc := 106) (tb_at tkX3_arrive 58 rfl) ly_46 flX3_35 rfl ?_
      refine r_iconst (pc := 109) (tb_at tkX3_arrive 59 rfl) ⟨by decide, by decide⟩ ?_
      refine r_zast (pc := 110) (tb_at tkX3_arrive 60 rfl) ly_53 h.1.1 h.1.2 (by decide) rfl ?_
      replace h := h.2
      refine r_aload_n (pc := 111) (tb_at tkX3_arrive 61 rfl) rfl rfl ?_
      refine r_dup (pc := 112) (tb_at tkX3_arrive 62 rfl) (fun _ h => by cases h) ?_
      refine r_get 3 9 (pc := 113) (tb_at tkX3_arrive 63 rfl) ly_46 flX3_35 rfl ?_
      refine r_iconst (pc := 116) (tb_at tkX3_arrive 64 rfl) ⟨by decide, by decide⟩ ?_
      refine r_iadd (pc := 117) (tb_at tkX3_arrive 65 rfl) ?_
      refine r_put 3 9 (w32 (((mup (mup (mup (mup (mup (mup (mup M1 47 (M1 46 9).toNat v1) 48 ((mup M1 47 (M1 46 9).toNat v1) 46 9).toNat v2) 52 ((mup (mup M1 47 (M1 46 9).toNat v1) 48 ((mup M1 47 (M1 46 9).toNat v1) 46 9).toNat v2) 46 9).toNat v3) 49 ((mup (mup (mup M1 47 (M1 46 9).toNat v1) 48 ((mup M1 47 (M1 46 9).toNat v1) 46 9).toNat v2) 52 ((mup (mup M1 47 (M1 46 9).toNat v1) 48 ((mup M1 47 (M1 46 9).toNat v1) 46 9).toNat v2) 46 9).toNat v3) 46 9).toNat v5) 50 ((mup (mup (mup (mup M1 47 (M1 46 9).toNat v1) 48 ((mup M1 47 (M1 46 9).toNat v1) 46 9).toNat v2) 52 ((mup (mup M1 47 (M1 46 9).toNat v1) 48 ((mup M1 47 (M1 46 9).toNat v1) 46 9).toNat v2) 46 9).toNat v3) 49 ((mup (mup (mup M1 47 (M1 46 9).toNat v1) 48 ((mup M1 47 (M1 46 9).toNat v1) 46 9).toNat v2) 52 ((mup (mup M1 47 (M1 46 9).toNat v1) 48 ((mup M1 47 (M1 46 9).toNat v1) 46 9).toNat v2) 46 9).toNat v3) 46 9).toNat v5) 46 9).toNat v6) 51 ((mup (mup (mup (mup (mup M1 47 (M1 46 9).toNat v1) 48 ((mup M1 47 (M1 46 9).toNat v1) 46 9).toNat v2) 52 ((mup (mup M1 47 (M1 46 9).toNat v1) 48 ((mup M1 47 (M1 46 9).toNat v1) 46 9).toNat v2) 46 9).toNat v3) 49 ((mup (mup (mup M1 47 (M1 46 9).toNat v1) 48 ((mup M1 47 (M1 46 9).toNat v1) 46 9).toNat v2) 52 ((mup (mup M1 47 (M1 46 9).toNat v1) 48 ((mup M1 47 (M1 46 9).toNat v1) 46 9).toNat v2) 46 9).toNat v3) 46 9).toNat v5) 50 ((mup (mup (mup (mup M1 47 (M1 46 9).toNat v1) 48 ((mup M1 47 (M1 46 9).toNat v1) 46 9).toNat v2) 52 ((mup (mup M1 47 (M1 46 9).toNat v1) 48 ((mup M1 47 (M1 46 9).toNat v1) 46 9).toNat v2) 46 9).toNat v3) 49 ((mup (mup (mup M1 47 (M1 46 9).toNat v1) 48 ((mup M1 47 (M1 46 9).toNat v1) 46 9).toNat v2) 52 ((mup (mup M1 47 (M1 46 9).toNat v1) 48 ((mup M1 47 (M1 46 9).toNat v1) 46 9).toNat v2) 46 9).toNat v3) 46 9).toNat v5) 46 9).toNat v6) 46 9).toNat v7) 53 ((mup (mup (mup (mup (mup (mup M1 47 (M1 46 9).toNat v1) 48 ((mup M1 47 (M1 46 9).toNat v1) 46 9).toNat v2) 52 ((mup (mup M1 47 (M1 46 9).toNat v1) 48 ((mup M1 47 (M1 46 9).toNat v1) 46 9).toNat v2) 46 9).toNat v3) 49 ((mup (mup (mup M1 47 (M1 46 9).toNat v1) 48 ((mup M1 47 (M1 46 9).toNat v1) 46 9).toNat v2) 52 ((mup (mup M1 47 (M1 46 9).toNat v1) 48 ((mup M1 47 (M1 46 9).toNat v1) 46 9).toNat v2) 46 9).toNat v3) 46 9).toNat v5) 50 ((mup (mup (mup (mup M1 47 (M1 46 9).toNat v1) 48 ((mup M1 47 (M1 46 9).toNat v1) 46 9).toNat v2) 52 ((mup (mup M1 47 (M1 46 9).toNat v1) 48 ((mup M1 47 (M1 46 9).toNat v1) 46 9).toNat v2) 46 9).toNat v3) 49 ((mup (mup (mup M1 47 (M1 46 9).toNat v1) 48 ((mup M1 47 (M1 46 9).toNat v1) 46 9).toNat v2) 52 ((mup (mup M1 47 (M1 46 9).toNat v1) 48 ((mup M1 47 (M1 46 9).toNat v1) 46 9).toNat v2) 46 9).toNat v3) 46 9).toNat v5) 46 9).toNat v6) 51 ((mup (mup (mup (mup (mup M1 47 (M1 46 9).toNat v1) 48 ((mup M1 47 (M1 46 9).toNat v1) 46 9).toNat v2) 52 ((mup (mup M1 47 (M1 46 9).toNat v1) 48 ((mup M1 47 (M1 46 9).toNat v1) 46 9).toNat v2) 46 9).toNat v3) 49 ((mup (mup (mup M1 47 (M1 46 9).toNat v1) 48 ((mup M1 47 (M1 46 9).toNat v1) 46 9).toNat v2) 52 ((mup (mup M1 47 (M1 46 9).toNat v1) 48 ((mup M1 47 (M1 46 9).toNat v1) 46 9).toNat v2) 46 9).toNat v3) 46 9).toNat v5) 50 ((mup (mup (mup (mup M1 47 (M1 46 9).toNat v1) 48 ((mup M1 47 (M1 46 9).toNat v1) 46 9).toNat v2) 52 ((mup (mup M1 47 (M1 46 9).toNat v1) 48 ((mup M1 47 (M1 46 9).toNat v1) 46 9).toNat v2) 46 9).toNat v3) 49 ((mup (mup (mup M1 47 (M1 46 9).toNat v1) 48 ((mup M1 47 (M1 46 9).toNat v1) 46 9).toNat v2) 52 ((mup (mup M1 47 (M1 46 9).toNat v1) 48 ((mup M1 47 (M1 46 9).toNat v1) 46 9).toNat v2) 46 9).toNat v3) 46 9).toNat v5) 46 9).toNat v6) 46 9).toNat v7) 46 9).toNat 0) 46 9) + 1)) (pc := 118) (tb_at tkX3_arrive 66 rfl) ly_46 flX3_35 (fun r h => by cases h; rfl) (.inl rfl) rfl (fun h => by cases h) rfl ?_
      refine r_aload_n (pc := 121) (tb_at tkX3_arrive 67 rfl) rfl rfl ?_
      refine r_invV (mc' := 0) (ms' := 0) [] (S := []) (pc := 122) (tb_at tkX3_arrive 68 rfl) rfl ly_46 rfl rfl clX3_93 (Nat.le_of_ble_eq_true rfl) (Nat.le_refl _) (Nat.le_refl _) ?_
      refine Cal.mono h ?_
      rintro _ _ M3 ⟨rfl, rfl, h⟩
      show OkV G miX3_arrive (d + 1) K 125 [some (.inr (.inr (some 46))), some (.inl v1), some (.inl v2), some (.inr (.inl v3)), none, some (.inl v5), some (.inl v6), some (.inl v7)] [] M3
      exact r_vret (pc := 125) (tb_at tkX3_arrive 69 rfl) rfl (Nat.le_refl _) (Nat.le_refl _) ⟨rfl, rfl, h⟩
    · replace h := h.2 c
      exact r_vret (pc := 37) (tb_at tkX3_arrive 18 rfl) rfl (Nat.le_refl _) (Nat.le_refl _) ⟨rfl, rfl, h⟩
set_option maxRecDepth 100000 in
set_option maxHeartbeats 4000000 in
theorem gX3_compareLatest_0 {G : GE} {d : Nat} {K : Mem → Prop} {M : Mem}  (h : OkV G miX3_compareLatest (d + 1) K 9 [some (.inr (.inr (some 46))), some (.inl (w32 ((M 46 9) - 1))), some (.inl 0)] [] M) : OkV G miX3_compareLatest (d + 1) K 0 [some (.inr (.inr (some 46))), none, none] [] M := by
  refine r_aload_n (pc := 0) (tb_at tkX3_compareLatest 0 rfl) rfl rfl ?_
  refine r_get 3 9 (pc := 1) (tb_at tkX3_compareLatest 1 rfl) ly_46 flX3_35 rfl ?_
  refine r_iconst (pc := 4) (tb_at tkX3_compareLatest 2 rfl) ⟨by decide, by decide⟩ ?_
  refine r_isub (pc := 5) (tb_at tkX3_compareLatest 3 rfl) ?_
  refine r_istore_n (L' := [some (.inr (.inr (some 46))), some (.inl (w32 ((M 46 9) - 1))), none]) (pc := 6) (tb_at tkX3_compareLatest 4 rfl) rfl (by decide) rfl ?_
  refine r_iconst (pc := 7) (tb_at tkX3_compareLatest 5 rfl) ⟨by decide, by decide⟩ ?_
  refine r_istore_n (L' := [some (.inr (.inr (some 46))), some (.inl (w32 ((M 46 9) - 1))), some (.inl 0)]) (pc := 8) (tb_at tkX3_compareLatest 6 rfl) rfl (by decide) rfl ?_
  exact h
set_option maxRecDepth 100000 in
set_option maxHeartbeats 4000000 in
theorem gX3_compareLatest_9 {G : GE} {d : Nat} {K : Mem → Prop} {M : Mem} {v1 v2 : Int}  (h : ((v1 ≤ v2 → K M) ∧ (v2 < v1 → (0 ≤ v2 ∧ v2 < 128) ∧ (((M 53 (v2).toNat) = 0 → CalI G miX3_outdoes d [.inr (.inr (some 46)), .inl v2, .inl v1] M (fun x2 M1 => ((x2 = 0 → CalI G miX3_outdoes d [.inr (.inr (some 46)), .inl v1, .inl v2] M1 (fun x4 M3 => ((x4 = 0 → OkV G miX3_compareLatest (d + 1) K 9 [some (.inr (.inr (some 46))), some (.inl v1), some (.inl (w32 (v2 + 1)))] [] M3) ∧ (¬ x4 = 0 → (0 ≤ v2 ∧ v2 < 128) ∧ OkV G miX3_compareLatest (d + 1) K 9 [some (.inr (.inr (some 46))), some (.inl v1), some (.inl (w32 (v2 + 1)))] [] (mup (mup M3 53 (v2).toNat 1) 46 10 (w32 (((mup M3 53 (v2).toNat 1) 46 10) + 1))))))) ∧ (¬ x2 = 0 → (0 ≤ v1 ∧ v1 < 128) ∧ K (mup (mup M1 53 (v1).toNat 1) 46 10 (w32 (((mup M1 53 (v1).toNat 1) 46 10) + 1))))))) ∧ (¬ (M 53 (v2).toNat) = 0 → OkV G miX3_compareLatest (d + 1) K 9 [some (.inr (.inr (some 46))), some (.inl v1), some (.inl (w32 (v2 + 1)))] [] M))))) : OkV G miX3_compareLatest (d + 1) K 9 [some (.inr (.inr (some 46))), some (.inl v1), some (.inl v2)] [] M := by
  refine r_iload_n (pc := 9) (tb_at tkX3_compareLatest 7 rfl) rfl rfl ?_
  refine r_iload_n (pc := 10) (tb_at tkX3_compareLatest 8 rfl) rfl rfl ?_
  refine q_icmp_ge (tgt := 85) (pc := 11) (tb_at tkX3_compareLatest 9 rfl) (by decide) (fun c => ?_) (fun c => ?_)
  · replace h := h.1 c
    exact r_vret (pc := 85) (tb_at tkX3_compareLatest 51 rfl) rfl (Nat.le_refl _) (Nat.le_refl _) ⟨rfl, rfl, h⟩
  · replace h := h.2 c
    refine r_aload_n (pc := 14) (tb_at tkX3_compareLatest 10 rfl) rfl rfl ?_
    refine r_get 3 8 (pc := 15) (tb_at tkX3_compareLatest 11 rfl) ly_46 flX3_31 rfl ?_
    refine r_iload_n (pc := 18) (tb_at tkX3_compareLatest 12 rfl) rfl rfl ?_
    refine r_zald (pc := 19) (tb_at tkX3_compareLatest 13 rfl) ly_53 h.1.1 h.1.2 ?_
    replace h := h.2
    refine q_if_eq (tgt := 26) (pc := 20) (tb_at tkX3_compareLatest 14 rfl) (by decide) (fun c => ?_) (fun c => ?_)
    · replace h := h.1 c
      refine r_aload_n (pc := 26) (tb_at tkX3_compareLatest 16 rfl) rfl rfl ?_
      refine r_iload_n (pc := 27) (tb_at tkX3_compareLatest 17 rfl) rfl rfl ?_
      refine r_iload_n (pc := 28) (tb_at tkX3_compareLatest 18 rfl) rfl rfl ?_
      refine r_invV (mc' := 0) (ms' := 0) [.inl v2, .inl v1] (S := []) (pc := 29) (tb_at tkX3_compareLatest 19 rfl) rfl ly_46 rfl rfl clX3_96 (Nat.le_of_ble_eq_true rfl) (Nat.le_refl _) (Nat.le_refl _) ?_
      refine Cal.mono h ?_
      rintro _ _ M1 ⟨x2, rfl, rfl, h⟩
      show OkV G miX3_compareLatest (d + 1) K 32 [some (.inr (.inr (some 46))), some (.inl v1), some (.inl v2)] [.inl x2] M1
      refine q_if_eq (tgt := 53) (pc := 32) (tb_at tkX3_compareLatest 20 rfl) (by decide) (fun c => ?_) (fun c => ?_)
      · replace h := h.1 c
        refine r_aload_n (pc := 53) (tb_at tkX3_compareLatest 33 rfl) rfl rfl ?_
        refine r_iload_n (pc := 54) (tb_at tkX3_compareLatest 34 rfl) rfl rfl ?_
        refine r_iload_n (pc := 55) (tb_at tkX3_compareLatest 35 rfl) rfl rfl ?_
        refine r_invV (mc' := 0) (ms' := 0) [.inl v1, .inl v2] (S := []) (pc := 56) (tb_at tkX3_compareLatest 36 rfl) rfl ly_46 rfl rfl clX3_96 (Nat.le_of_ble_eq_true rfl) (Nat.le_refl _) (Nat.le_refl _) ?_
        refine Cal.mono h ?_
        rintro _ _ M3 ⟨x4, rfl, rfl, h⟩
        show OkV G miX3_compareLatest (d + 1) K 59 [some (.inr (.inr (some 46))), some (.inl v1), some (.inl v2)] [.inl x4] M3
        refine q_if_eq (tgt := 79) (pc := 59) (tb_at tkX3_compareLatest 37 rfl) (by decide) (fun c => ?_) (fun c => ?_)
        · replace h := h.1 c
          refine r_iinc (L' := [some (.inr (.inr (some 46))), some (.inl v1), some (.inl (w32 (v2 + 1)))]) (pc := 79) (tb_at tkX3_compareLatest 49 rfl) rfl (by decide) rfl ?_
          refine r_goto (tgt := 9) (pc := 82) (tb_at tkX3_compareLatest 50 rfl) (by decide) ?_
          exact h
        · replace h := h.2 c
          refine r_aload_n (pc := 62) (tb_at tkX3_compareLatest 38 rfl) rfl rfl ?_
          refine r_get 3 8 (pc := 63) (tb_at tkX3_compareLatest 39 rfl) ly_46 flX3_31 rfl ?_
          refine r_iload_n (pc := 66) (tb_at tkX3_compareLatest 40 rfl) rfl rfl ?_
          refine r_iconst (pc := 67) (tb_at tkX3_compareLatest 41 rfl) ⟨by decide, by decide⟩ ?_
          refine r_zast (pc := 68) (tb_at tkX3_compareLatest 42 rfl) ly_53 h.1.1 h.1.2 (by decide) rfl ?_
          replace h := h.2
          refine r_aload_n (pc := 69) (tb_at tkX3_compareLatest 43 rfl) rfl rfl ?_
          refine r_dup (pc := 70) (tb_at tkX3_compareLatest 44 rfl) (fun _ h => by cases h) ?_
          refine r_get 3 10 (pc := 71) (tb_at tkX3_compareLatest 45 rfl) ly_46 flX3_39 rfl ?_
          refine r_iconst (pc := 74) (tb_at tkX3_compareLatest 46 rfl) ⟨by decide, by decide⟩ ?_
          refine r_iadd (pc := 75) (tb_at tkX3_compareLatest 47 rfl) ?_
          refine r_put 3 10 (w32 (((mup M3 53 (v2).toNat 1) 46 10) + 1)) (pc := 76) (tb_at tkX3_compareLatest 48 rfl) ly_46 flX3_39 (fun r h => by cases h; rfl) (.inl rfl) rfl (fun h => by cases h) rfl ?_
          refine r_iinc (L' := [some (.inr (.inr (some 46))), some (.inl v1), some (.inl (w32 (v2 + 1)))]) (pc := 79) (tb_at tkX3_compareLatest 49 rfl) rfl (by decide) rfl ?_
          refine r_goto (tgt := 9) (pc := 82) (tb_at tkX3_compareLatest 50 rfl) (by decide) ?_
          exact h
      · replace h := h.2 c
        refine r_aload_n (pc := 35) (tb_at tkX3_compareLatest 21 rfl) rfl rfl ?_
        refine r_get 3 8 (pc := 36) (tb_at tkX3_compareLatest 22 rfl) ly_46 flX3_31 rfl ?_
        refine r_iload_n (pc := 39) (tb_at tkX3_compareLatest 23 rfl) rfl rfl ?_
        refine r_iconst (pc := 40) (tb_at tkX3_compareLatest 24 rfl) ⟨by decide, by decide⟩ ?_
        refine r_zast (pc := 41) (tb_at tkX3_compareLatest 25 rfl) ly_53 h.1.1 h.1.2 (by decide) rfl ?_
        replace h := h.2
        refine r_aload_n (pc := 42) (tb_at tkX3_compareLatest 26 rfl) rfl rfl ?_
        refine r_dup (pc := 43) (tb_at tkX3_compareLatest 27 rfl) (fun _ h => by cases h) ?_
        refine r_get 3 10 (pc := 44) (tb_at tkX3_compareLatest 28 rfl) ly_46 flX3_39 rfl ?_
        refine r_iconst (pc := 47) (tb_at tkX3_compareLatest 29 rfl) ⟨by decide, by decide⟩ ?_
        refine r_iadd (pc := 48) (tb_at tkX3_compareLatest 30 rfl) ?_
        refine r_put 3 10 (w32 (((mup M1 53 (v1).toNat 1) 46 10) + 1)) (pc := 49) (tb_at tkX3_compareLatest 31 rfl) ly_46 flX3_39 (fun r h => by cases h; rfl) (.inl rfl) rfl (fun h => by cases h) rfl ?_
        exact r_vret (pc := 52) (tb_at tkX3_compareLatest 32 rfl) rfl (Nat.le_refl _) (Nat.le_refl _) ⟨rfl, rfl, h⟩
    · replace h := h.2 c
      refine r_goto (tgt := 79) (pc := 23) (tb_at tkX3_compareLatest 15 rfl) (by decide) ?_
      refine r_iinc (L' := [some (.inr (.inr (some 46))), some (.inl v1), some (.inl (w32 (v2 + 1)))]) (pc := 79) (tb_at tkX3_compareLatest 49 rfl) rfl (by decide) rfl ?_
      refine r_goto (tgt := 9) (pc := 82) (tb_at tkX3_compareLatest 50 rfl) (by decide) ?_
      exact h
set_option maxRecDepth 100000 in
set_option maxHeartbeats 4000000 in
theorem gX3_outdoes_0 {G : GE} {d : Nat} {K : Int → Mem → Prop} {M : Mem} {v1 v2 : Int}  (h : (0 ≤ v1 ∧ v1 < 128) ∧ (0 ≤ v2 ∧ v2 < 128) ∧ ((¬ (M 47 (v1).toNat) = (M 47 (v2).toNat) → K 0 M) ∧ ((M 47 (v1).toNat) = (M 47 (v2).toNat) → (0 ≤ v1 ∧ v1 < 128) ∧ (0 ≤ v2 ∧ v2 < 128) ∧ ((¬ (M 48 (v1).toNat) = (M 48 (v2).toNat) → K 0 M) ∧ ((M 48 (v1).toNat) = (M 48 (v2).toNat) → (0 ≤ v1 ∧ v1 < 128) ∧ (0 ≤ v2 ∧ v2 < 128) ∧ (((M 52 (v2).toNat) < (M 52 (v1).toNat) → K 0 M) ∧ ((M 52 (v1).toNat) ≤ (M 52 (v2).toNat) → (0 ≤ v1 ∧ v1 < 128) ∧ (0 ≤ v2 ∧ v2 < 128) ∧ (((M 49 (v2).toNat) < (M 49 (v1).toNat) → K 0 M) ∧ ((M 49 (v1).toNat) ≤ (M 49 (v2).toNat) → (0 ≤ v1 ∧ v1 < 128) ∧ (0 ≤ v2 ∧ v2 < 128) ∧ (((M 50 (v2).toNat) < (M 50 (v1).toNat) → K 0 M) ∧ ((M 50 (v1).toNat) ≤ (M 50 (v2).toNat) → (0 ≤ v1 ∧ v1 < 128) ∧ (0 ≤ v2 ∧ v2 < 128) ∧ (((M 51 (v1).toNat) < (M 51 (v2).toNat) → K 0 M) ∧ ((M 51 (v2).toNat) ≤ (M 51 (v1).toNat) → K 1 M))))))))))))) : OkI G miX3_outdoes d K 0 [some (.inr (.inr (some 46))), some (.inl v1), some (.inl v2)] [] M := by
  refine r_aload_n (pc := 0) (tb_at tkX3_outdoes 0 rfl) rfl rfl ?_
  refine r_get 3 2 (pc := 1) (tb_at tkX3_outdoes 1 rfl) ly_46 flX3_9 rfl ?_
  refine r_iload_n (pc := 4) (tb_at tkX3_outdoes 2 rfl) rfl rfl ?_
  refine r_iald (pc := 5) (tb_at tkX3_outdoes 3 rfl) ly_47 h.1.1 h.1.2 ?_
  replace h := h.2
  refine r_aload_n (pc := 6) (tb_at tkX3_outdoes 4 rfl) rfl rfl ?_
  refine r_get 3 2 (pc := 7) (tb_at tkX3_outdoes 5 rfl) ly_46 flX3_9 rfl ?_
  refine r_iload_n (pc := 10) (tb_at tkX3_outdoes 6 rfl) rfl rfl ?_
  refine r_iald (pc := 11) (tb_at tkX3_outdoes 7 rfl) ly_47 h.1.1 h.1.2 ?_
  replace h := h.2
  refine q_icmp_ne (tgt := 95) (pc := 12) (tb_at tkX3_outdoes 8 rfl) (by decide) (fun c => ?_) (fun c => ?_)
  · replace h := h.1 c
    refine r_iconst (pc := 95) (tb_at tkX3_outdoes 57 rfl) ⟨by decide, by decide⟩ ?_
    exact r_zret (pc := 96) (tb_at tkX3_outdoes 58 rfl) rfl (by decide) (Nat.le_refl _) (Nat.le_refl _) ⟨_, rfl, rfl, h⟩
  · replace h := h.2 c
    refine r_aload_n (pc := 15) (tb_at tkX3_outdoes 9 rfl) rfl rfl ?_
    refine r_get 3 3 (pc := 16) (tb_at tkX3_outdoes 10 rfl) ly_46 flX3_15 rfl ?_
    refine r_iload_n (pc := 19) (tb_at tkX3_outdoes 11 rfl) rfl rfl ?_
    refine r_iald (pc := 20) (tb_at tkX3_outdoes 12 rfl) ly_48 h.1.1 h.1.2 ?_
    replace h := h.2
    refine r_aload_n (pc := 21) (tb_at tkX3_outdoes 13 rfl) rfl rfl ?_
    refine r_get 3 3 (pc := 22) (tb_at tkX3_outdoes 14 rfl) ly_46 flX3_15 rfl ?_
    refine r_iload_n (pc := 25) (tb_at tkX3_outdoes 15 rfl) rfl rfl ?_
    refine r_iald (pc := 26) (tb_at tkX3_outdoes 16 rfl) ly_48 h.1.1 h.1.2 ?_
    replace h := h.2
    refine q_icmp_ne (tgt := 95) (pc := 27) (tb_at tkX3_outdoes 17 rfl) (by decide) (fun c => ?_) (fun c => ?_)
    · replace h := h.1 c
      refine r_iconst (pc := 95) (tb_at tkX3_outdoes 57 rfl) ⟨by decide, by decide⟩ ?_
      exact r_zret (pc := 96) (tb_at tkX3_outdoes 58 rfl) rfl (by decide) (Nat.le_refl _) (Nat.le_refl _) ⟨_, rfl, rfl, h⟩
    · replace h := h.2 c
      refine r_aload_n (pc := 30) (tb_at tkX3_outdoes 18 rfl) rfl rfl ?_
      refine r_get 3 7 (pc := 31) (tb_at tkX3_outdoes 19 rfl) ly_46 flX3_27 rfl ?_
      refine r_iload_n (pc := 34) (tb_at tkX3_outdoes 20 rfl) rfl rfl ?_
      refine r_lald (pc := 35) (tb_at tkX3_outdoes 21 rfl) ly_52 h.1.1 h.1.2 ?_
      replace h := h.2
      refine r_aload_n (pc := 36) (tb_at tkX3_outdoes 22 rfl) rfl rfl ?_
      refine r_get 3 7 (pc := 37) (tb_at tkX3_outdoes 23 rfl) ly_46 flX3_27 rfl ?_
      refine r_iload_n (pc := 40) (tb_at tkX3_outdoes 24 rfl) rfl rfl ?_
      refine r_lald (pc := 41) (tb_at tkX3_outdoes 25 rfl) ly_52 h.1.1 h.1.2 ?_
      replace h := h.2
      refine r_lcmp (pc := 42) (tb_at tkX3_outdoes 26 rfl) ?_
      refine q_lif_gt (tgt := 95) (pc := 43) (tb_at tkX3_outdoes 27 rfl) (by decide) (fun c => ?_) (fun c => ?_)
      · replace h := h.1 c
        refine r_iconst (pc := 95) (tb_at tkX3_outdoes 57 rfl) ⟨by decide, by decide⟩ ?_
        exact r_zret (pc := 96) (tb_at tkX3_outdoes 58 rfl) rfl (by decide) (Nat.le_refl _) (Nat.le_refl _) ⟨_, rfl, rfl, h⟩
      · replace h := h.2 c
        refine r_aload_n (pc := 46) (tb_at tkX3_outdoes 28 rfl) rfl rfl ?_
        refine r_get 3 4 (pc := 47) (tb_at tkX3_outdoes 29 rfl) ly_46 flX3_18 rfl ?_
        refine r_iload_n (pc := 50) (tb_at tkX3_outdoes 30 rfl) rfl rfl ?_
        refine r_iald (pc := 51) (tb_at tkX3_outdoes 31 rfl) ly_49 h.1.1 h.1.2 ?_
        replace h := h.2
        refine r_aload_n (pc := 52) (tb_at tkX3_outdoes 32 rfl) rfl rfl ?_
        refine r_get 3 4 (pc := 53) (tb_at tkX3_outdoes 33 rfl) ly_46 flX3_18 rfl ?_
        refine r_iload_n (pc := 56) (tb_at tkX3_outdoes 34 rfl) rfl rfl ?_
        refine r_iald (pc := 57) (tb_at tkX3_outdoes 35 rfl) ly_49 h.1.1 h.1.2 ?_
        replace h := h.2
        refine q_icmp_gt (tgt := 95) (pc := 58) (tb_at tkX3_outdoes 36 rfl) (by decide) (fun c => ?_) (fun c => ?_)
        · replace h := h.1 c
          refine r_iconst (pc := 95) (tb_at tkX3_outdoes 57 rfl) ⟨by decide, by decide⟩ ?_
          exact r_zret (pc := 96) (tb_at tkX3_outdoes 58 rfl) rfl (by decide) (Nat.le_refl _) (Nat.le_refl _) ⟨_, rfl, rfl, h⟩
        · replace h := h.2 c
          refine r_aload_n (pc := 61) (tb_at tkX3_outdoes 37 rfl) rfl rfl ?_
          refine r_get 3 5 (pc := 62) (tb_at tkX3_outdoes 38 rfl) ly_46 flX3_21 rfl ?_
          refine r_iload_n (pc := 65) (tb_at tkX3_outdoes 39 rfl) rfl rfl ?_
          refine r_iald (pc := 66) (tb_at tkX3_outdoes 40 rfl) ly_50 h.1.1 h.1.2 ?_
          replace h := h.2
          refine r_aload_n (pc := 67) (tb_at tkX3_outdoes 41 rfl) rfl rfl ?_
          refine r_get 3 5 (pc := 68) (tb_at tkX3_outdoes 42 rfl) ly_46 flX3_21 rfl ?_
          refine r_iload_n (pc := 71) (tb_at tkX3_outdoes 43 rfl) rfl rfl ?_
          refine r_iald (pc := 72) (tb_at tkX3_outdoes 44 rfl) ly_50 h.1.1 h.1.2 ?_
          replace h := h.2
          refine q_icmp_gt (tgt := 95) (pc := 73) (tb_at tkX3_outdoes 45 rfl) (by decide) (fun c => ?_) (fun c => ?_)
          · replace h := h.1 c
            refine r_iconst (pc := 95) (tb_at tkX3_outdoes 57 rfl) ⟨by decide, by decide⟩ ?_
            exact r_zret (pc := 96) (tb_at tkX3_outdoes 58 rfl) rfl (by decide) (Nat.le_refl _) (Nat.le_refl _) ⟨_, rfl, rfl, h⟩
          · replace h := h.2 c
            refine r_aload_n (pc := 76) (tb_at tkX3_outdoes 46 rfl) rfl rfl ?_
            refine r_get 3 6 (pc := 77) (tb_at tkX3_outdoes 47 rfl) ly_46 flX3_24 rfl ?_
            refine r_iload_n (pc := 80) (tb_at tkX3_outdoes 48 rfl) rfl rfl ?_
            refine r_iald (pc := 81) (tb_at tkX3_outdoes 49 rfl) ly_51 h.1.1 h.1.2 ?_
            replace h := h.2
            refine r_aload_n (pc := 82) (tb_at tkX3_outdoes 50 rfl) rfl rfl ?_
            refine r_get 3 6 (pc := 83) (tb_at tkX3_outdoes 51 rfl) ly_46 flX3_24 rfl ?_
            refine r_iload_n (pc := 86) (tb_at tkX3_outdoes 52 rfl) rfl rfl ?_
            refine r_iald (pc := 87) (tb_at tkX3_outdoes 53 rfl) ly_51 h.1.1 h.1.2 ?_
            replace h := h.2
            refine q_icmp_lt (tgt := 95) (pc := 88) (tb_at tkX3_outdoes 54 rfl) (by decide) (fun c => ?_) (fun c => ?_)
            · replace h := h.1 c
              refine r_iconst (pc := 95) (tb_at tkX3_outdoes 57 rfl) ⟨by decide, by decide⟩ ?_
              exact r_zret (pc := 96) (tb_at tkX3_outdoes 58 rfl) rfl (by decide) (Nat.le_refl _) (Nat.le_refl _) ⟨_, rfl, rfl, h⟩
            · replace h := h.2 c
              refine r_iconst (pc := 91) (tb_at tkX3_outdoes 55 rfl) ⟨by decide, by decide⟩ ?_
              refine r_goto (tgt := 96) (pc := 92) (tb_at tkX3_outdoes 56 rfl) (by decide) ?_
              exact r_zret (pc := 96) (tb_at tkX3_outdoes 58 rfl) rfl (by decide) (Nat.le_refl _) (Nat.le_refl _) ⟨_, rfl, rfl, h⟩
set_option maxRecDepth 100000 in
set_option maxHeartbeats 4000000 in
theorem gX3_keptCount_0 {G : GE} {d : Nat} {K : Int → Mem → Prop} {M : Mem}  (h : K (w32 ((M 46 9) - (M 46 10))) M) : OkI G miX3_keptCount d K 0 [some (.inr (.inr (some 46)))] [] M := by
  refine r_aload_n (pc := 0) (tb_at tkX3_keptCount 0 rfl) rfl rfl ?_
  refine r_get 3 9 (pc := 1) (tb_at tkX3_keptCount 1 rfl) ly_46 flX3_35 rfl ?_
  refine r_aload_n (pc := 4) (tb_at tkX3_keptCount 2 rfl) rfl rfl ?_
  refine r_get 3 10 (pc := 5) (tb_at tkX3_keptCount 3 rfl) ly_46 flX3_39 rfl ?_
  refine r_isub (pc := 8) (tb_at tkX3_keptCount 4 rfl) ?_
  exact r_iret (pc := 9) (tb_at tkX3_keptCount 5 rfl) rfl (Nat.le_refl _) (Nat.le_refl _) ⟨_, rfl, rfl, h⟩
set_option maxRecDepth 100000 in
set_option maxHeartbeats 4000000 in
theorem gX3_leastHome_0 {G : GE} {d : Nat} {K : Int → Mem → Prop} {M : Mem}  (h : OkL G miX3_leastHome d K 6 [some (.inr (.inr (some 46))), some (.inr (.inl (-9223372036854775808))), none, some (.inl 0), none] [] M) : OkL G miX3_leastHome d K 0 [some (.inr (.inr (some 46))), none, none, none, none] [] M := by
  refine r_ldc2 (n := -9223372036854775808) (pc := 0) (tb_at tkX3_leastHome 0 rfl) kcX3_99 ⟨by decide, by decide⟩ ?_
  refine r_lstore_n (L' := [some (.inr (.inr (some 46))), some (.inr (.inl (-9223372036854775808))), none, none, none]) (pc := 3) (tb_at tkX3_leastHome 1 rfl) rfl (by decide) rfl ?_
  refine r_iconst (pc := 4) (tb_at tkX3_leastHome 2 rfl) ⟨by decide, by decide⟩ ?_
  refine r_istore_n (L' := [some (.inr (.inr (some 46))), some (.inr (.inl (-9223372036854775808))), none, some (.inl 0), none]) (pc := 5) (tb_at tkX3_leastHome 3 rfl) rfl (by decide) rfl ?_
  exact h
set_option maxRecDepth 100000 in
set_option maxHeartbeats 4000000 in
theorem gX3_leastHome_6 {G : GE} {d : Nat} {K : Int → Mem → Prop} {M : Mem} {v1 v3 : Int}  (h : (((M 46 9) ≤ v3 → K v1 M) ∧ (v3 < (M 46 9) → (0 ≤ v3 ∧ v3 < 128) ∧ (0 ≤ M 47 (v3).toNat ∧ M 47 (v3).toNat < 7) ∧ (0 ≤ v3 ∧ v3 < 128) ∧ ((¬ ((M 3 (M 47 (v3).toNat).toNat) = (M 48 (v3).toNat)) → OkL G miX3_leastHome d K 6 [some (.inr (.inr (some 46))), some (.inr (.inl v1)), none, some (.inl (w32 (v3 + 1))), none] [] M) ∧ ((M 3 (M 47 (v3).toNat).toNat) = (M 48 (v3).toNat) → ((v1 = (-9223372036854775808) → OkL G miX3_leastHome d K 68 [some (.inr (.inr (some 46))), none, none, some (.inl v3), none] [] M) ∧ (¬ v1 = (-9223372036854775808) → (0 ≤ v3 ∧ v3 < 128) ∧ ((v1 ≤ (M 52 (v3).toNat) → OkL G miX3_leastHome d K 6 [some (.inr (.inr (some 46))), some (.inr (.inl v1)), none, some (.inl (w32 (v3 + 1))), none] [] M) ∧ ((M 52 (v3).toNat) < v1 → OkL G miX3_leastHome d K 68 [some (.inr (.inr (some 46))), none, none, some (.inl v3), none] [] M))))))))) : OkL G miX3_leastHome d K 6 [some (.inr (.inr (some 46))), some (.inr (.inl v1)), none, some (.inl v3), none] [] M := by
  refine r_iload_n (pc := 6) (tb_at tkX3_leastHome 4 rfl) rfl rfl ?_
  refine r_aload_n (pc := 7) (tb_at tkX3_leastHome 5 rfl) rfl rfl ?_
  refine r_get 3 9 (pc := 8) (tb_at tkX3_leastHome 6 rfl) ly_46 flX3_35 rfl ?_
  refine q_icmp_ge (tgt := 81) (pc := 11) (tb_at tkX3_leastHome 7 rfl) (by decide) (fun c => ?_) (fun c => ?_)
  · replace h := h.1 c
    refine r_lload_n (pc := 81) (tb_at tkX3_leastHome 45 rfl) rfl rfl ?_
    exact r_lret (pc := 82) (tb_at tkX3_leastHome 46 rfl) rfl (Nat.le_refl _) (Nat.le_refl _) ⟨_, rfl, rfl, h⟩
  · replace h := h.2 c
    refine r_aload_n (pc := 14) (tb_at tkX3_leastHome 8 rfl) rfl rfl ?_
    refine r_get 3 0 (pc := 15) (tb_at tkX3_leastHome 9 rfl) ly_46 flX3_42 rfl ?_
    refine r_get 5 1 (pc := 18) (tb_at tkX3_leastHome 10 rfl) ly_1 flX3_101 rfl ?_
    refine r_aload_n (pc := 21) (tb_at tkX3_leastHome 11 rfl) rfl rfl ?_
    refine r_get 3 2 (pc := 22) (tb_at tkX3_leastHome 12 rfl) ly_46 flX3_9 rfl ?_
    refine r_iload_n (pc := 25) (tb_at tkX3_leastHome 13 rfl) rfl rfl ?_
    refine r_iald (pc := 26) (tb_at tkX3_leastHome 14 rfl) ly_47 h.1.1 h.1.2 ?_
    replace h := h.2
    refine r_iald (pc := 27) (tb_at tkX3_leastHome 15 rfl) ly_3 h.1.1 h.1.2 ?_
    replace h := h.2
    refine r_aload_n (pc := 28) (tb_at tkX3_leastHome 16 rfl) rfl rfl ?_
    refine r_get 3 3 (pc := 29) (tb_at tkX3_leastHome 17 rfl) ly_46 flX3_15 rfl ?_
    refine r_iload_n (pc := 32) (tb_at tkX3_leastHome 18 rfl) rfl rfl ?_
    refine r_iald (pc := 33) (tb_at tkX3_leastHome 19 rfl) ly_48 h.1.1 h.1.2 ?_
    replace h := h.2
    have hJ1 : ∀ t0 : Int, t0 = (if (M 3 (M 47 (v3).toNat).toNat) = (M 48 (v3).toNat) then (1 : Int) else 0) → OkL G miX3_leastHome d K 42 [some (.inr (.inr (some 46))), some (.inr (.inl v1)), none, some (.inl v3), none] [.inl t0] M := by
      rintro _ rfl
      refine r_istore (L' := [some (.inr (.inr (some 46))), some (.inr (.inl v1)), none, some (.inl v3), some (.inl (if (M 3 (M 47 (v3).toNat).toNat) = (M 48 (v3).toNat) then (1 : Int) else 0))]) (pc := 42) (tb_at tkX3_leastHome 24 rfl) (by decide) rfl ?_
      refine r_iload (pc := 44) (tb_at tkX3_leastHome 25 rfl) rfl ?_
      refine q_bif_eq (tgt := 75) (pc := 46) (tb_at tkX3_leastHome 26 rfl) (by decide) (fun c => ?_) (fun c => ?_)
      · replace h := h.1 c
        refine r_iinc (L' := [some (.inr (.inr (some 46))), some (.inr (.inl v1)), none, some (.inl (w32 (v3 + 1))), some (.inl (if (M 3 (M 47 (v3).toNat).toNat) = (M 48 (v3).toNat) then (1 : Int) else 0))]) (pc := 75) (tb_at tkX3_leastHome 43 rfl) rfl (by decide) rfl ?_
        refine r_goto (tgt := 6) (pc := 78) (tb_at tkX3_leastHome 44 rfl) (by decide) ?_
        exact Ok.forget h (And.intro rfl (And.intro rfl (And.intro rfl trivial)))
      · replace h := h.2 c
        refine r_lload_n (pc := 49) (tb_at tkX3_leastHome 27 rfl) rfl rfl ?_
        refine r_ldc2 (n := -9223372036854775808) (pc := 50) (tb_at tkX3_leastHome 28 rfl) kcX3_99 ⟨by decide, by decide⟩ ?_
        refine r_lcmp (pc := 53) (tb_at tkX3_leastHome 29 rfl) ?_
        refine q_lif_eq (tgt := 68) (pc := 54) (tb_at tkX3_leastHome 30 rfl) (by decide) (fun c => ?_) (fun c => ?_)
        · replace h := h.1 c
          exact Ok.forget h (And.intro rfl (And.intro rfl trivial))
        · replace h := h.2 c
          refine r_aload_n (pc := 57) (tb_at tkX3_leastHome 31 rfl) rfl rfl ?_
          refine r_get 3 7 (pc := 58) (tb_at tkX3_leastHome 32 rfl) ly_46 flX3_27 rfl ?_
          refine r_iload_n (pc := 61) (tb_at tkX3_leastHome 33 rfl) rfl rfl ?_
          refine r_lald (pc := 62) (tb_at tkX3_leastHome 34 rfl) ly_52 h.1.1 h.1.2 ?_
          replace h := h.2
          refine r_lload_n (pc := 63) (tb_at tkX3_leastHome 35 rfl) rfl rfl ?_
          refine r_lcmp (pc := 64) (tb_at tkX3_leastHome 36 rfl) ?_
          refine q_lif_ge (tgt := 75) (pc := 65) (tb_at tkX3_leastHome 37 rfl) (by decide) (fun c => ?_) (fun c => ?_)
          · replace h := h.1 c
            refine r_iinc (L' := [some (.inr (.inr (some 46))), some (.inr (.inl v1)), none, some (.inl (w32 (v3 + 1))), some (.inl (if (M 3 (M 47 (v3).toNat).toNat) = (M 48 (v3).toNat) then (1 : Int) else 0))]) (pc := 75) (tb_at tkX3_leastHome 43 rfl) rfl (by decide) rfl ?_
            refine r_goto (tgt := 6) (pc := 78) (tb_at tkX3_leastHome 44 rfl) (by decide) ?_
            exact Ok.forget h (And.intro rfl (And.intro rfl (And.intro rfl trivial)))
          · replace h := h.2 c
            exact Ok.forget h (And.intro rfl (And.intro rfl trivial))
    refine q_icmp_ne (tgt := 41) (pc := 34) (tb_at tkX3_leastHome 20 rfl) (by decide) (fun c2 => ?_) (fun c2 => ?_)
    · refine r_iconst (pc := 41) (tb_at tkX3_leastHome 23 rfl) ⟨by decide, by decide⟩ ?_
      exact hJ1 _ (by simp only [if_neg c2])
    · refine r_iconst (pc := 37) (tb_at tkX3_leastHome 21 rfl) ⟨by decide, by decide⟩ ?_
      refine r_goto (tgt := 42) (pc := 38) (tb_at tkX3_leastHome 22 rfl) (by decide) ?_
      exact hJ1 _ (by simp only [if_pos c2])
set_option maxRecDepth 100000 in
set_option maxHeartbeats 4000000 in
theorem gX3_leastHome_68 {G : GE} {d : Nat} {K : Int → Mem → Prop} {M : Mem} {v3 : Int}  (h : (0 ≤ v3 ∧ v3 < 128) ∧ OkL G miX3_leastHome d K 6 [some (.inr (.inr (some 46))), some (.inr (.inl (M 52 (v3).toNat))), none, some (.inl (w32 (v3 + 1))), none] [] M) : OkL G miX3_leastHome d K 68 [some (.inr (.inr (some 46))), none, none, some (.inl v3), none] [] M := by
  refine r_aload_n (pc := 68) (tb_at tkX3_leastHome 38 rfl) rfl rfl ?_
  refine r_get 3 7 (pc := 69) (tb_at tkX3_leastHome 39 rfl) ly_46 flX3_27 rfl ?_
  refine r_iload_n (pc := 72) (tb_at tkX3_leastHome 40 rfl) rfl rfl ?_
  refine r_lald (pc := 73) (tb_at tkX3_leastHome 41 rfl) ly_52 h.1.1 h.1.2 ?_
  replace h := h.2
  refine r_lstore_n (L' := [some (.inr (.inr (some 46))), some (.inr (.inl (M 52 (v3).toNat))), none, some (.inl v3), none]) (pc := 74) (tb_at tkX3_leastHome 42 rfl) rfl (by decide) rfl ?_
  refine r_iinc (L' := [some (.inr (.inr (some 46))), some (.inr (.inl (M 52 (v3).toNat))), none, some (.inl (w32 (v3 + 1))), none]) (pc := 75) (tb_at tkX3_leastHome 43 rfl) rfl (by decide) rfl ?_
  refine r_goto (tgt := 6) (pc := 78) (tb_at tkX3_leastHome 44 rfl) (by decide) ?_
  exact h
set_option maxRecDepth 100000 in
set_option maxHeartbeats 4000000 in
theorem gX4_workOut_0 {G : GE} {d : Nat} {K : Mem → Prop} {M : Mem}  (h : CalV G miX4_sortByDep d [.inr (.inr (some 19))] M (fun M1 => OkV G miX4_workOut (d + 1) K 6 [some (.inr (.inr (some 19))), some (.inl 0), none] [] M1)) : OkV G miX4_workOut (d + 1) K 0 [some (.inr (.inr (some 19))), none, none] [] M := by
  refine r_aload_n (pc := 0) (tb_at tkX4_workOut 0 rfl) rfl rfl ?_
  refine r_invV (mc' := 0) (ms' := 0) [] (S := []) (pc := 1) (tb_at tkX4_workOut 1 rfl) rfl ly_19 rfl rfl clX4_40 (Nat.le_of_ble_eq_true rfl) (Nat.le_refl _) (Nat.le_refl _) ?_
  refine Cal.mono h ?_
  rintro _ _ M1 ⟨rfl, rfl, h⟩
  show OkV G miX4_workOut (d + 1) K 4 [some (.inr (.inr (some 19))), none, none] [] M1
  refine r_iconst (pc := 4) (tb_at tkX4_workOut 2 rfl) ⟨by decide, by decide⟩ ?_
  refine r_istore_n (L' := [some (.inr (.inr (some 19))), some (.inl 0), none]) (pc := 5) (tb_at tkX4_workOut 3 rfl) rfl (by decide) rfl ?_
  exact h
set_option maxRecDepth 100000 in
set_option maxHeartbeats 4000000 in
theorem gX4_workOut_6 {G : GE} {d : Nat} {K : Mem → Prop} {M : Mem} {v1 : Int}  (h : (((M 1 8) ≤ v1 → CalV G miX4_findBetween d [.inr (.inr (some 19))] M (fun M1 => OkV G miX4_workOut (d + 1) K 54 [some (.inr (.inr (some 19))), some (.inl 1), none] [] M1)) ∧ (v1 < (M 1 8) → OkV G miX4_workOut (d + 1) K 19 [some (.inr (.inr (some 19))), some (.inl v1), some (.inl 0)] [] M))) : OkV G miX4_workOut (d + 1) K 6 [some (.inr (.inr (some 19))), some (.inl v1), none] [] M := by
  refine r_iload_n (pc := 6) (tb_at tkX4_workOut 4 rfl) rfl rfl ?_
  refine r_aload_n (pc := 7) (tb_at tkX4_workOut 5 rfl) rfl rfl ?_
  refine r_get 4 0 (pc := 8) (tb_at tkX4_workOut 6 rfl) ly_19 flX4_36 rfl ?_
  refine r_get 5 8 (pc := 11) (tb_at tkX4_workOut 7 rfl) ly_1 flX4_43 rfl ?_
  refine q_icmp_ge (tgt := 48) (pc := 14) (tb_at tkX4_workOut 8 rfl) (by decide) (fun c => ?_) (fun c => ?_)
  · replace h := h.1 c
    refine r_aload_n (pc := 48) (tb_at tkX4_workOut 24 rfl) rfl rfl ?_
    refine r_invV (mc' := 0) (ms' := 0) [] (S := []) (pc := 49) (tb_at tkX4_workOut 25 rfl) rfl ly_19 rfl rfl clX4_53 (Nat.le_of_ble_eq_true rfl) (Nat.le_refl _) (Nat.le_refl _) ?_
    refine Cal.mono h ?_
    rintro _ _ M1 ⟨rfl, rfl, h⟩
    show OkV G miX4_workOut (d + 1) K 52 [some (.inr (.inr (some 19))), some (.inl v1), none] [] M1
    refine r_iconst (pc := 52) (tb_at tkX4_workOut 26 rfl) ⟨by decide, by decide⟩ ?_
    refine r_istore_n (L' := [some (.inr (.inr (some 19))), some (.inl 1), none]) (pc := 53) (tb_at tkX4_workOut 27 rfl) rfl (by decide) rfl ?_
    exact h
  · replace h := h.2 c
    refine r_iconst (pc := 17) (tb_at tkX4_workOut 9 rfl) ⟨by decide, by decide⟩ ?_
    refine r_istore_n (L' := [some (.inr (.inr (some 19))), some (.inl v1), some (.inl 0)]) (pc := 18) (tb_at tkX4_workOut 10 rfl) rfl (by decide) rfl ?_
    exact h
set_option maxRecDepth 100000 in
set_option maxHeartbeats 4000000 in
theorem gX4_workOut_54 {G : GE} {d : Nat} {K : Mem → Prop} {M : Mem} {v1 : Int}  (h : CalI G miX5_allFlights d [.inr (.inr (some 1))] M (fun x2 M1 => ((x2 < v1 → K M1) ∧ (v1 ≤ x2 → CalV G miX4_weigh d [.inr (.inr (some 19)), .inl v1] M1 (fun M3 => OkV G miX4_workOut (d + 1) K 54 [some (.inr (.inr (some 19))), some (.inl (w32 (v1 + 1))), none] [] M3))))) : OkV G miX4_workOut (d + 1) K 54 [some (.inr (.inr (some 19))), some (.inl v1), none] [] M := by
  refine r_iload_n (pc := 54) (tb_at tkX4_workOut 28 rfl) rfl rfl ?_
  refine r_aload_n (pc := 55) (tb_at tkX4_workOut 29 rfl) rfl rfl ?_
  refine r_get 4 0 (pc := 56) (tb_at tkX4_workOut 30 rfl) ly_19 flX4_36 rfl ?_
  refine r_invV (mc' := 0) (ms' := 0) [] (S := [.inl v1]) (pc := 59) (tb_at tkX4_workOut 31 rfl) rfl ly_1 rfl rfl clX4_56 (Nat.le_of_ble_eq_true rfl) (Nat.le_refl _) (Nat.le_refl _) ?_
  refine Cal.mono h ?_
  rintro _ _ M1 ⟨x2, rfl, rfl, h⟩
  show OkV G miX4_workOut (d + 1) K 62 [some (.inr (.inr (some 19))), some (.inl v1), none] [.inl x2, .inl v1] M1
  refine q_icmp_gt (tgt := 76) (pc := 62) (tb_at tkX4_workOut 32 rfl) (by decide) (fun c => ?_) (fun c => ?_)
  · replace h := h.1 c
    exact r_vret (pc := 76) (tb_at tkX4_workOut 38 rfl) rfl (Nat.le_refl _) (Nat.le_refl _) ⟨rfl, rfl, h⟩
  · replace h := h.2 c
    refine r_aload_n (pc := 65) (tb_at tkX4_workOut 33 rfl) rfl rfl ?_
    refine r_iload_n (pc := 66) (tb_at tkX4_workOut 34 rfl) rfl rfl ?_
    refine r_invV (mc' := 0) (ms' := 0) [.inl v1] (S := []) (pc := 67) (tb_at tkX4_workOut 35 rfl) rfl ly_19 rfl rfl clX4_60 (Nat.le_of_ble_eq_true rfl) (Nat.le_refl _) (Nat.le_refl _) ?_
    refine Cal.mono h ?_
    rintro _ _ M3 ⟨rfl, rfl, h⟩
    show OkV G miX4_workOut (d + 1) K 70 [some (.inr (.inr (some 19))), some (.inl v1), none] [] M3
    refine r_iinc (L' := [some (.inr (.inr (some 19))), some (.inl (w32 (v1 + 1))), none]) (pc := 70) (tb_at tkX4_workOut 36 rfl) rfl (by decide) rfl ?_
    refine r_goto (tgt := 54) (pc := 73) (tb_at tkX4_workOut 37 rfl) (by decide) ?_
    exact h
set_option maxRecDepth 100000 in
set_option maxHeartbeats 4000000 in
theorem gX4_workOut_19 {G : GE} {d : Nat} {K : Mem → Prop} {M : Mem} {v1 v2 : Int}  (h : (((M 1 8) ≤ v2 → OkV G miX4_workOut (d + 1) K 6 [some (.inr (.inr (some 19))), some (.inl (w32 (v1 + 1))), none] [] M) ∧ (v2 < (M 1 8) → CalV G miX4_join d [.inr (.inr (some 19)), .inl v1, .inl v2] M (fun M1 => OkV G miX4_workOut (d + 1) K 19 [some (.inr (.inr (some 19))), some (.inl v1), some (.inl (w32 (v2 + 1)))] [] M1)))) : OkV G miX4_workOut (d + 1) K 19 [some (.inr (.inr (some 19))), some (.inl v1), some (.inl v2)] [] M := by
  refine r_iload_n (pc := 19) (tb_at tkX4_workOut 11 rfl) rfl rfl ?_
  refine r_aload_n (pc := 20) (tb_at tkX4_workOut 12 rfl) rfl rfl ?_
  refine r_get 4 0 (pc := 21) (tb_at tkX4_workOut 13 rfl) ly_19 flX4_36 rfl ?_
  refine r_get 5 8 (pc := 24) (tb_at tkX4_workOut 14 rfl) ly_1 flX4_43 rfl ?_
  refine q_icmp_ge (tgt := 42) (pc := 27) (tb_at tkX4_workOut 15 rfl) (by decide) (fun c => ?_) (fun c => ?_)
  · replace h := h.1 c
    refine r_iinc (L' := [some (.inr (.inr (some 19))), some (.inl (w32 (v1 + 1))), some (.inl v2)]) (pc := 42) (tb_at tkX4_workOut 22 rfl) rfl (by decide) rfl ?_
    refine r_goto (tgt := 6) (pc := 45) (tb_at tkX4_workOut 23 rfl) (by decide) ?_
    exact Ok.forget h (And.intro rfl (And.intro rfl trivial))
  · replace h := h.2 c
    refine r_aload_n (pc := 30) (tb_at tkX4_workOut 16 rfl) rfl rfl ?_
    refine r_iload_n (pc := 31) (tb_at tkX4_workOut 17 rfl) rfl rfl ?_
    refine r_iload_n (pc := 32) (tb_at tkX4_workOut 18 rfl) rfl rfl ?_
    refine r_invV (mc' := 0) (ms' := 0) [.inl v1, .inl v2] (S := []) (pc := 33) (tb_at tkX4_workOut 19 rfl) rfl ly_19 rfl rfl clX4_49 (Nat.le_of_ble_eq_true rfl) (Nat.le_refl _) (Nat.le_refl _) ?_
    refine Cal.mono h ?_
    rintro _ _ M1 ⟨rfl, rfl, h⟩
    show OkV G miX4_workOut (d + 1) K 36 [some (.inr (.inr (some 19))), some (.inl v1), some (.inl v2)] [] M1
    refine r_iinc (L' := [some (.inr (.inr (some 19))), some (.inl v1), some (.inl (w32 (v2 + 1)))]) (pc := 36) (tb_at tkX4_workOut 20 rfl) rfl (by decide) rfl ?_
    refine r_goto (tgt := 19) (pc := 39) (tb_at tkX4_workOut 21 rfl) (by decide) ?_
    exact h
set_option maxRecDepth 100000 in
set_option maxHeartbeats 4000000 in
theorem gX4_sortByDep_0 {G : GE} {d : Nat} {K : Mem → Prop} {M : Mem}  (h : OkV G miX4_sortByDep d K 2 [some (.inr (.inr (some 19))), some (.inl 0), none] [] M) : OkV G miX4_sortByDep d K 0 [some (.inr (.inr (some 19))), none, none] [] M := by
  refine r_iconst (pc := 0) (tb_at tkX4_sortByDep 0 rfl) ⟨by decide, by decide⟩ ?_
  refine r_istore_n (L' := [some (.inr (.inr (some 19))), some (.inl 0), none]) (pc := 1) (tb_at tkX4_sortByDep 1 rfl) rfl (by decide) rfl ?_
  exact h
set_option maxRecDepth 100000 in
set_option maxHeartbeats 4000000 in
theorem gX4_sortByDep_2 {G : GE} {d : Nat} {K : Mem → Prop} {M : Mem} {v1 : Int}  (h : (((M 1 8) ≤ v1 → K M) ∧ (v1 < (M 1 8) → OkV G miX4_sortByDep d K 15 [some (.inr (.inr (some 19))), some (.inl v1), some (.inl v1)] [] M))) : OkV G miX4_sortByDep d K 2 [some (.inr (.inr (some 19))), some (.inl v1), none] [] M := by
  refine r_iload_n (pc := 2) (tb_at tkX4_sortByDep 2 rfl) rfl rfl ?_
  refine r_aload_n (pc := 3) (tb_at tkX4_sortByDep 3 rfl) rfl rfl ?_
  refine r_get 4 0 (pc := 4) (tb_at tkX4_sortByDep 4 rfl) ly_19 flX4_36 rfl ?_
  refine r_get 5 8 (pc := 7) (tb_at tkX4_sortByDep 5 rfl) ly_1 flX4_43 rfl ?_
  refine q_icmp_ge (tgt := 80) (pc := 10) (tb_at tkX4_sortByDep 6 rfl) (by decide) (fun c => ?_) (fun c => ?_)
  · replace h := h.1 c
    exact r_vret (pc := 80) (tb_at tkX4_sortByDep 46 rfl) rfl (Nat.le_refl _) (Nat.le_refl _) ⟨rfl, rfl, h⟩
  · replace h := h.2 c
    refine r_iload_n (pc := 13) (tb_at tkX4_sortByDep 7 rfl) rfl rfl ?_
    refine r_istore_n (L' := [some (.inr (.inr (some 19))), some (.inl v1), some (.inl v1)]) (pc := 14) (tb_at tkX4_sortByDep 8 rfl) rfl (by decide) rfl ?_
    exact h
set_option maxRecDepth 100000 in
set_option maxHeartbeats 4000000 in
theorem gX4_sortByDep_15 {G : GE} {d : Nat} {K : Mem → Prop} {M : Mem} {v1 v2 : Int}  (h : ((v2 ≤ 0 → OkV G miX4_sortByDep d K 67 [some (.inr (.inr (some 19))), some (.inl v1), some (.inl v2)] [] M) ∧ (0 < v2 → (0 ≤ v2 - 1 ∧ v2 - 1 < 7) ∧ (0 ≤ M 20 (v2 - 1).toNat ∧ M 20 (v2 - 1).toNat < 7) ∧ (0 ≤ v1 ∧ v1 < 7) ∧ (((M 4 (M 20 (v2 - 1).toNat).toNat) ≤ (M 4 (v1).toNat) → OkV G miX4_sortByDep d K 67 [some (.inr (.inr (some 19))), some (.inl v1), some (.inl v2)] [] M) ∧ ((M 4 (v1).toNat) < (M 4 (M 20 (v2 - 1).toNat).toNat) → (0 ≤ v2 - 1 ∧ v2 - 1 < 7) ∧ (0 ≤ v2 ∧ v2 < 7) ∧ OkV G miX4_sortByDep d K 15 [some (.inr (.inr (some 19))), some (.inl v1), some (.inl (w32 (v2 + (-1))))] [] (mup M 20 (v2).toNat (M 20 (v2 - 1).toNat))))))) : OkV G miX4_sortByDep d K 15 [some (.inr (.inr (some 19))), some (.inl v1), some (.inl v2)] [] M := by
  refine r_iload_n (pc := 15) (tb_at tkX4_sortByDep 9 rfl) rfl rfl ?_
  refine q_if_le (tgt := 67) (pc := 16) (tb_at tkX4_sortByDep 10 rfl) (by decide) (fun c => ?_) (fun c => ?_)
  · replace h := h.1 c
    exact h
  · replace h := h.2 c
    refine r_aload_n (pc := 19) (tb_at tkX4_sortByDep 11 rfl) rfl rfl ?_
    refine r_get 4 0 (pc := 20) (tb_at tkX4_sortByDep 12 rfl) ly_19 flX4_36 rfl ?_
    refine r_get 5 2 (pc := 23) (tb_at tkX4_sortByDep 13 rfl) ly_1 flX4_64 rfl ?_
    refine r_aload_n (pc := 26) (tb_at tkX4_sortByDep 14 rfl) rfl rfl ?_
    refine r_get 4 1 (pc := 27) (tb_at tkX4_sortByDep 15 rfl) ly_19 flX4_9 rfl ?_
    refine r_iload_n (pc := 30) (tb_at tkX4_sortByDep 16 rfl) rfl rfl ?_
    refine r_iconst (pc := 31) (tb_at tkX4_sortByDep 17 rfl) ⟨by decide, by decide⟩ ?_
    refine r_isub (pc := 32) (tb_at tkX4_sortByDep 18 rfl) ?_
    refine r_iald_w (pc := 33) (tb_at tkX4_sortByDep 19 rfl) ly_20 (by decide) h.1.1 h.1.2 ?_
    replace h := h.2
    refine r_iald (pc := 34) (tb_at tkX4_sortByDep 20 rfl) ly_4 h.1.1 h.1.2 ?_
    replace h := h.2
    refine r_aload_n (pc := 35) (tb_at tkX4_sortByDep 21 rfl) rfl rfl ?_
    refine r_get 4 0 (pc := 36) (tb_at tkX4_sortByDep 22 rfl) ly_19 flX4_36 rfl ?_
    refine r_get 5 2 (pc := 39) (tb_at tkX4_sortByDep 23 rfl) ly_1 flX4_64 rfl ?_
    refine r_iload_n (pc := 42) (tb_at tkX4_sortByDep 24 rfl) rfl rfl ?_
    refine r_iald (pc := 43) (tb_at tkX4_sortByDep 25 rfl) ly_4 h.1.1 h.1.2 ?_
    replace h := h.2
    refine q_icmp_le (tgt := 67) (pc := 44) (tb_at tkX4_sortByDep 26 rfl) (by decide) (fun c => ?_) (fun c => ?_)
    · replace h := h.1 c
      exact h
    · replace h := h.2 c
      refine r_aload_n (pc := 47) (tb_at tkX4_sortByDep 27 rfl) rfl rfl ?_
      refine r_get 4 1 (pc := 48) (tb_at tkX4_sortByDep 28 rfl) ly_19 flX4_9 rfl ?_
      refine r_iload_n (pc := 51) (tb_at tkX4_sortByDep 29 rfl) rfl rfl ?_
      refine r_aload_n (pc := 52) (tb_at tkX4_sortByDep 30 rfl) rfl rfl ?_
      refine r_get 4 1 (pc := 53) (tb_at tkX4_sortByDep 31 rfl) ly_19 flX4_9 rfl ?_
      refine r_iload_n (pc := 56) (tb_at tkX4_sortByDep 32 rfl) rfl rfl ?_
      refine r_iconst (pc := 57) (tb_at tkX4_sortByDep 33 rfl) ⟨by decide, by decide⟩ ?_
      refine r_isub (pc := 58) (tb_at tkX4_sortByDep 34 rfl) ?_
      refine r_iald_w (pc := 59) (tb_at tkX4_sortByDep 35 rfl) ly_20 (by decide) h.1.1 h.1.2 ?_
      replace h := h.2
      refine r_iast (pc := 60) (tb_at tkX4_sortByDep 36 rfl) ly_20 h.1.1 h.1.2 rfl ?_
      replace h := h.2
      refine r_iinc (L' := [some (.inr (.inr (some 19))), some (.inl v1), some (.inl (w32 (v2 + (-1))))]) (pc := 61) (tb_at tkX4_sortByDep 37 rfl) rfl (by decide) rfl ?_
      refine r_goto (tgt := 15) (pc := 64) (tb_at tkX4_sortByDep 38 rfl) (by decide) ?_
      exact h
set_option maxRecDepth 100000 in
set_option maxHeartbeats 4000000 in
theorem gX4_sortByDep_67 {G : GE} {d : Nat} {K : Mem → Prop} {M : Mem} {v1 v2 : Int}  (h : (0 ≤ v2 ∧ v2 < 7) ∧ OkV G miX4_sortByDep d K 2 [some (.inr (.inr (some 19))), some (.inl (w32 (v1 + 1))), none] [] (mup M 20 (v2).toNat v1)) : OkV G miX4_sortByDep d K 67 [some (.inr (.inr (some 19))), some (.inl v1), some (.inl v2)] [] M := by
  refine r_aload_n (pc := 67) (tb_at tkX4_sortByDep 39 rfl) rfl rfl ?_
  refine r_get 4 1 (pc := 68) (tb_at tkX4_sortByDep 40 rfl) ly_19 flX4_9 rfl ?_
  refine r_iload_n (pc := 71) (tb_at tkX4_sortByDep 41 rfl) rfl rfl ?_
  refine r_iload_n (pc := 72) (tb_at tkX4_sortByDep 42 rfl) rfl rfl ?_
  refine r_iast (pc := 73) (tb_at tkX4_sortByDep 43 rfl) ly_20 h.1.1 h.1.2 rfl ?_
  replace h := h.2
  refine r_iinc (L' := [some (.inr (.inr (some 19))), some (.inl (w32 (v1 + 1))), some (.inl v2)]) (pc := 74) (tb_at tkX4_sortByDep 44 rfl) rfl (by decide) rfl ?_
  refine r_goto (tgt := 2) (pc := 77) (tb_at tkX4_sortByDep 45 rfl) (by decide) ?_
  exact Ok.forget h (And.intro rfl (And.intro rfl trivial))
set_option maxRecDepth 100000 in
set_option maxHeartbeats 4000000 in
theorem gX4_join_0 {G : GE} {d : Nat} {K : Mem → Prop} {M : Mem} {v1 v2 : Int}  (h : (0 ≤ (v1 * 7) + v2 ∧ (v1 * 7) + v2 < 49) ∧ (0 ≤ (v1 * 7) + v2 ∧ (v1 * 7) + v2 < 49) ∧ (0 ≤ v1 ∧ v1 < 7) ∧ (0 ≤ v2 ∧ v2 < 7) ∧ ((((mup (mup M 21 ((v1 * 7) + v2).toNat 0) 22 ((v1 * 7) + v2).toNat 0) 2 (v2).toNat) = ((mup (mup M 21 ((v1 * 7) + v2).toNat 0) 22 ((v1 * 7) + v2).toNat 0) 3 (v1).toNat) → (0 ≤ v2 ∧ v2 < 7) ∧ (0 ≤ v1 ∧ v1 < 7) ∧ CalI G miX5_sitAt d [.inr (.inr (some 1)), .inl ((mup (mup M 21 ((v1 * 7) + v2).toNat 0) 22 ((v1 * 7) + v2).toNat 0) 3 (v1).toNat)] (mup (mup M 21 ((v1 * 7) + v2).toNat 0) 22 ((v1 * 7) + v2).toNat 0) (fun x2 M1 => CalI G miX5_restAt d [.inr (.inr (some 1)), .inl ((mup (mup M 21 ((v1 * 7) + v2).toNat 0) 22 ((v1 * 7) + v2).toNat 0) 3 (v1).toNat)] M1 (fun x4 M3 => (((w32 (((mup (mup M 21 ((v1 * 7) + v2).toNat 0) 22 ((v1 * 7) + v2).toNat 0) 4 (v2).toNat) - ((mup (mup M 21 ((v1 * 7) + v2).toNat 0) 22 ((v1 * 7) + v2).toNat 0) 5 (v1).toNat))) < x4 → (((w32 (((mup (mup M 21 ((v1 * 7) + v2).toNat 0) 22 ((v1 * 7) + v2).toNat 0) 4 (v2).toNat) - ((mup (mup M 21 ((v1 * 7) + v2).toNat 0) 22 ((v1 * 7) + v2).toNat 0) 5 (v1).toNat))) < x2 → K M3) ∧ (x2 ≤ (w32 (((mup (mup M 21 ((v1 * 7) + v2).toNat 0) 22 ((v1 * 7) + v2).toNat 0) 4 (v2).toNat) - ((mup (mup M 21 ((v1 * 7) + v2).toNat 0) 22 ((v1 * 7) + v2).toNat 0) 5 (v1).toNat))) → (0 ≤ (v1 * 7) + v2 ∧ (v1 * 7) + v2 < 49) ∧ (0 ≤ (v1 * 7) + v2 ∧ (v1 * 7) + v2 < 49) ∧ K (mup (mup M3 21 ((v1 * 7) + v2).toNat 1) 22 ((v1 * 7) + v2).toNat (w32 ((((mup (mup M 21 ((v1 * 7) + v2).toNat 0) 22 ((v1 * 7) + v2).toNat 0) 4 (v2).toNat) - ((mup (mup M 21 ((v1 * 7) + v2).toNat 0) 22 ((v1 * 7) + v2).toNat 0) 5 (v1).toNat)) - x2)))))) ∧ (x4 ≤ (w32 (((mup (mup M 21 ((v1 * 7) + v2).toNat 0) 22 ((v1 * 7) + v2).toNat 0) 4 (v2).toNat) - ((mup (mup M 21 ((v1 * 7) + v2).toNat 0) 22 ((v1 * 7) + v2).toNat 0) 5 (v1).toNat))) → (0 ≤ (v1 * 7) + v2 ∧ (v1 * 7) + v2 < 49) ∧ (0 ≤ (v1 * 7) + v2 ∧ (v1 * 7) + v2 < 49) ∧ K (mup (mup M3 21 ((v1 * 7) + v2).toNat 2) 22 ((v1 * 7) + v2).toNat (w32 ((((mup (mup M 21 ((v1 * 7) + v2).toNat 0) 22 ((v1 * 7) + v2).toNat 0) 4 (v2).toNat) - ((mup (mup M 21 ((v1 * 7) + v2).toNat 0) 22 ((v1 * 7) + v2).toNat 0) 5 (v1).toNat)) - x4)))))))) ∧ (¬ ((mup (mup M 21 ((v1 * 7) + v2).toNat 0) 22 ((v1 * 7) + v2).toNat 0) 2 (v2).toNat) = ((mup (mup M 21 ((v1 * 7) + v2).toNat 0) 22 ((v1 * 7) + v2).toNat 0) 3 (v1).toNat) → K (mup (mup M 21 ((v1 * 7) + v2).toNat 0) 22 ((v1 * 7) + v2).toNat 0)))) : OkV G miX4_join (d + 1) K 0 [some (.inr (.inr (some 19))), some (.inl v1), some (.inl v2), none, none, none, none, none] [] M := by
  refine r_iload_n (pc := 0) (tb_at tkX4_join 0 rfl) rfl rfl ?_
  refine r_bipush (pc := 1) (tb_at tkX4_join 1 rfl) ⟨by decide, by decide, by decide⟩ ?_
  refine r_imul (pc := 3) (tb_at tkX4_join 2 rfl) ?_
  refine r_iload_n (pc := 4) (tb_at tkX4_join 3 rfl) rfl rfl ?_
  refine r_iadd_l (pc := 5) (tb_at tkX4_join 4 rfl) ?_
  refine r_istore_n (L' := [some (.inr (.inr (some 19))), some (.inl v1), some (.inl v2), some (.inl (w32 ((v1 * 7) + v2))), none, none, none, none]) (pc := 6) (tb_at tkX4_join 5 rfl) rfl (by decide) rfl ?_
  refine r_aload_n (pc := 7) (tb_at tkX4_join 6 rfl) rfl rfl ?_
  refine r_get 4 2 (pc := 8) (tb_at tkX4_join 7 rfl) ly_19 flX4_15 rfl ?_
  refine r_iload_n (pc := 11) (tb_at tkX4_join 8 rfl) rfl rfl ?_
  refine r_iconst (pc := 12) (tb_at tkX4_join 9 rfl) ⟨by decide, by decide⟩ ?_
  refine r_iast_w (pc := 13) (tb_at tkX4_join 10 rfl) ly_21 (by decide) h.1.1 h.1.2 rfl ?_
  replace h := h.2
  refine r_aload_n (pc := 14) (tb_at tkX4_join 11 rfl) rfl rfl ?_
  refine r_get 4 3 (pc := 15) (tb_at tkX4_join 12 rfl) ly_19 flX4_18 rfl ?_
  refine r_iload_n (pc := 18) (tb_at tkX4_join 13 rfl) rfl rfl ?_
  refine r_iconst (pc := 19) (tb_at tkX4_join 14 rfl) ⟨by decide, by decide⟩ ?_
  refine r_iast_w (pc := 20) (tb_at tkX4_join 15 rfl) ly_22 (by decide) h.1.1 h.1.2 rfl ?_
  replace h := h.2
  refine r_aload_n (pc := 21) (tb_at tkX4_join 16 rfl) rfl rfl ?_
  refine r_get 4 0 (pc := 22) (tb_at tkX4_join 17 rfl) ly_19 flX4_36 rfl ?_
  refine r_get 5 1 (pc := 25) (tb_at tkX4_join 18 rfl) ly_1 flX4_67 rfl ?_
  refine r_iload_n (pc := 28) (tb_at tkX4_join 19 rfl) rfl rfl ?_
  refine r_iald (pc := 29) (tb_at tkX4_join 20 rfl) ly_3 h.1.1 h.1.2 ?_
  replace h := h.2
  refine r_istore (L' := [some (.inr (.inr (some 19))), some (.inl v1), some (.inl v2), some (.inl (w32 ((v1 * 7) + v2))), some (.inl ((mup (mup M 21 ((v1 * 7) + v2).toNat 0) 22 ((v1 * 7) + v2).toNat 0) 3 (v1).toNat)), none, none, none]) (pc := 30) (tb_at tkX4_join 21 rfl) (by decide) rfl ?_
  refine r_aload_n (pc := 32) (tb_at tkX4_join 22 rfl) rfl rfl ?_
  refine r_get 4 0 (pc := 33) (tb_at tkX4_join 23 rfl) ly_19 flX4_36 rfl ?_
  refine r_get 5 0 (pc := 36) (tb_at tkX4_join 24 rfl) ly_1 flX4_70 rfl ?_
  refine r_iload_n (pc := 39) (tb_at tkX4_join 25 rfl) rfl rfl ?_
  refine r_iald (pc := 40) (tb_at tkX4_join 26 rfl) ly_2 h.1.1 h.1.2 ?_
  replace h := h.2
  refine r_iload (pc := 41) (tb_at tkX4_join 27 rfl) rfl ?_
  refine q_icmp_eq (tgt := 47) (pc := 43) (tb_at tkX4_join 28 rfl) (by decide) (fun c => ?_) (fun c => ?_)
  · replace h := h.1 c
    refine r_aload_n (pc := 47) (tb_at tkX4_join 30 rfl) rfl rfl ?_
    refine r_get 4 0 (pc := 48) (tb_at tkX4_join 31 rfl) ly_19 flX4_36 rfl ?_
    refine r_get 5 2 (pc := 51) (tb_at tkX4_join 32 rfl) ly_1 flX4_64 rfl ?_
    refine r_iload_n (pc := 54) (tb_at tkX4_join 33 rfl) rfl rfl ?_
    refine r_iald (pc := 55) (tb_at tkX4_join 34 rfl) ly_4 h.1.1 h.1.2 ?_
    replace h := h.2
    refine r_aload_n (pc := 56) (tb_at tkX4_join 35 rfl) rfl rfl ?_
    refine r_get 4 0 (pc := 57) (tb_at tkX4_join 36 rfl) ly_19 flX4_36 rfl ?_
    refine r_get 5 3 (pc := 60) (tb_at tkX4_join 37 rfl) ly_1 flX4_73 rfl ?_
    refine r_iload_n (pc := 63) (tb_at tkX4_join 38 rfl) rfl rfl ?_
    refine r_iald (pc := 64) (tb_at tkX4_join 39 rfl) ly_5 h.1.1 h.1.2 ?_
    replace h := h.2
    refine r_isub (pc := 65) (tb_at tkX4_join 40 rfl) ?_
    refine r_istore (L' := [some (.inr (.inr (some 19))), some (.inl v1), some (.inl v2), some (.inl (w32 ((v1 * 7) + v2))), some (.inl ((mup (mup M 21 ((v1 * 7) + v2).toNat 0) 22 ((v1 * 7) + v2).toNat 0) 3 (v1).toNat)), some (.inl (w32 (((mup (mup M 21 ((v1 * 7) + v2).toNat 0) 22 ((v1 * 7) + v2).toNat 0) 4 (v2).toNat) - ((mup (mup M 21 ((v1 * 7) + v2).toNat 0) 22 ((v1 * 7) + v2).toNat 0) 5 (v1).toNat)))), none, none]) (pc := 66) (tb_at tkX4_join 41 rfl) (by decide) rfl ?_
    refine r_aload_n (pc := 68) (tb_at tkX4_join 42 rfl) rfl rfl ?_
    refine r_get 4 0 (pc := 69) (tb_at tkX4_join 43 rfl) ly_19 flX4_36 rfl ?_
    refine r_iload (pc := 72) (tb_at tkX4_join 44 rfl) rfl ?_
    refine r_invV (mc' := 0) (ms' := 0) [.inl ((mup (mup M 21 ((v1 * 7) + v2).toNat 0) 22 ((v1 * 7) + v2).toNat 0) 3 (v1).toNat)] (S := []) (pc := 74) (tb_at tkX4_join 45 rfl) rfl ly_1 rfl rfl clX4_76 (Nat.le_of_ble_eq_true rfl) (Nat.le_refl _) (Nat.le_refl _) ?_
    refine Cal.mono h ?_
    rintro _ _ M1 ⟨x2, rfl, rfl, h⟩
    show OkV G miX4_join (d + 1) K 77 [some (.inr (.inr (some 19))), some (.inl v1), some (.inl v2), some (.inl (w32 ((v1 * 7) + v2))), some (.inl ((mup (mup M 21 ((v1 * 7) + v2).toNat 0) 22 ((v1 * 7) + v2).toNat 0) 3 (v1).toNat)), some (.inl (w32 (((mup (mup M 21 ((v1 * 7) + v2).toNat 0) 22 ((v1 * 7) + v2).toNat 0) 4 (v2).toNat) - ((mup (mup M 21 ((v1 * 7) + v2).toNat 0) 22 ((v1 * 7) + v2).toNat 0) 5 (v1).toNat)))), none, none] [.inl x2] M1
    refine r_istore (L' := [some (.inr (.inr (some 19))), some (.inl v1), some (.inl v2), some (.inl (w32 ((v1 * 7) + v2))), some (.inl ((mup (mup M 21 ((v1 * 7) + v2).toNat 0) 22 ((v1 * 7) + v2).toNat 0) 3 (v1).toNat)), some (.inl (w32 (((mup (mup M 21 ((v1 * 7) + v2).toNat 0) 22 ((v1 * 7) + v2).toNat 0) 4 (v2).toNat) - ((mup (mup M 21 ((v1 * 7) + v2).toNat 0) 22 ((v1 * 7) + v2).toNat 0) 5 (v1).toNat)))), some (.inl x2), none]) (pc := 77) (tb_at tkX4_join 46 rfl) (by decide) rfl ?_
    refine r_aload_n (pc := 79) (tb_at tkX4_join 47 rfl) rfl rfl ?_
    refine r_get 4 0 (pc := 80) (tb_at tkX4_join 48 rfl) ly_19 flX4_36 rfl ?_
    refine r_iload (pc := 83) (tb_at tkX4_join 49 rfl) rfl ?_
    refine r_invV (mc' := 0) (ms' := 0) [.inl ((mup (mup M 21 ((v1 * 7) + v2).toNat 0) 22 ((v1 * 7) + v2).toNat 0) 3 (v1).toNat)] (S := []) (pc := 85) (tb_at tkX4_join 50 rfl) rfl ly_1 rfl rfl clX4_80 (Nat.le_of_ble_eq_true rfl) (Nat.le_refl _) (Nat.le_refl _) ?_
    refine Cal.mono h ?_
    rintro _ _ M3 ⟨x4, rfl, rfl, h⟩
    show OkV G miX4_join (d + 1) K 88 [some (.inr (.inr (some 19))), some (.inl v1), some (.inl v2), some (.inl (w32 ((v1 * 7) + v2))), some (.inl ((mup (mup M 21 ((v1 * 7) + v2).toNat 0) 22 ((v1 * 7) + v2).toNat 0) 3 (v1).toNat)), some (.inl (w32 (((mup (mup M 21 ((v1 * 7) + v2).toNat 0) 22 ((v1 * 7) + v2).toNat 0) 4 (v2).toNat) - ((mup (mup M 21 ((v1 * 7) + v2).toNat 0) 22 ((v1 * 7) + v2).toNat 0) 5 (v1).toNat)))), some (.inl x2), none] [.inl x4] M3
    refine r_istore (L' := [some (.inr (.inr (some 19))), some (.inl v1), some (.inl v2), some (.inl (w32 ((v1 * 7) + v2))), some (.inl ((mup (mup M 21 ((v1 * 7) + v2).toNat 0) 22 ((v1 * 7) + v2).toNat 0) 3 (v1).toNat)), some (.inl (w32 (((mup (mup M 21 ((v1 * 7) + v2).toNat 0) 22 ((v1 * 7) + v2).toNat 0) 4 (v2).toNat) - ((mup (mup M 21 ((v1 * 7) + v2).toNat 0) 22 ((v1 * 7) + v2).toNat 0) 5 (v1).toNat)))), some (.inl x2), some (.inl x4)]) (pc := 88) (tb_at tkX4_join 51 rfl) (by decide) rfl ?_
    refine r_iload (pc := 90) (tb_at tkX4_join 52 rfl) rfl ?_
    refine r_iload (pc := 92) (tb_at tkX4_join 53 rfl) rfl ?_
    refine q_icmp_lt (tgt := 118) (pc := 94) (tb_at tkX4_join 54 rfl) (by decide) (fun c => ?_) (fun c => ?_)
    · replace h := h.1 c
      refine r_iload (pc := 118) (tb_at tkX4_join 68 rfl) rfl ?_
      refine r_iload (pc := 120) (tb_at tkX4_join 69 rfl) rfl ?_
      refine q_icmp_lt (tgt := 143) (pc := 122) (tb_at tkX4_join 70 rfl) (by decide) (fun c => ?_) (fun c => ?_)
      · replace h := h.1 c
        exact r_vret (pc := 143) (tb_at tkX4_join 83 rfl) rfl (Nat.le_refl _) (Nat.le_refl _) ⟨rfl, rfl, h⟩
      · replace h := h.2 c
        refine r_aload_n (pc := 125) (tb_at tkX4_join 71 rfl) rfl rfl ?_
        refine r_get 4 2 (pc := 126) (tb_at tkX4_join 72 rfl) ly_19 flX4_15 rfl ?_
        refine r_iload_n (pc := 129) (tb_at tkX4_join 73 rfl) rfl rfl ?_
        refine r_iconst (pc := 130) (tb_at tkX4_join 74 rfl) ⟨by decide, by decide⟩ ?_
        refine r_iast_w (pc := 131) (tb_at tkX4_join 75 rfl) ly_21 (by decide) h.1.1 h.1.2 rfl ?_
        replace h := h.2
        refine r_aload_n (pc := 132) (tb_at tkX4_join 76 rfl) rfl rfl ?_
        refine r_get 4 3 (pc := 133) (tb_at tkX4_join 77 rfl) ly_19 flX4_18 rfl ?_
        refine r_iload_n (pc := 136) (tb_at tkX4_join 78 rfl) rfl rfl ?_
        refine r_iload (pc := 137) (tb_at tkX4_join 79 rfl) rfl ?_
        refine r_iload (pc := 139) (tb_at tkX4_join 80 rfl) rfl ?_
        refine r_isub_l (pc := 141) (tb_at tkX4_join 81 rfl) ?_
        refine r_iast_w (pc := 142) (tb_at tkX4_join 82 rfl) ly_22 (by decide) h.1.1 h.1.2 rfl ?_
        replace h := h.2
        exact r_vret (pc := 143) (tb_at tkX4_join 83 rfl) rfl (Nat.le_refl _) (Nat.le_refl _) ⟨rfl, rfl, h⟩
    · replace h := h.2 c
      refine r_aload_n (pc := 97) (tb_at tkX4_join 55 rfl) rfl rfl ?_
      refine r_get 4 2 (pc := 98) (tb_at tkX4_join 56 rfl) ly_19 flX4_15 rfl ?_
      refine r_iload_n (pc := 101) (tb_at tkX4_join 57 rfl) rfl rfl ?_
      refine r_iconst (pc := 102) (tb_at tkX4_join 58 rfl) ⟨by decide, by decide⟩ ?_
      refine r_iast_w (pc := 103) (tb_at tkX4_join 59 rfl) ly_21 (by decide) h.1.1 h.1.2 rfl ?_
      replace h := h.2
      refine r_aload_n (pc := 104) (tb_at tkX4_join 60 rfl) rfl rfl ?_
      refine r_get 4 3 (pc := 105) (tb_at tkX4_join 61 rfl) ly_19 flX4_18 rfl ?_
      refine r_iload_n (pc := 108) (tb_at tkX4_join 62 rfl) rfl rfl ?_
      refine r_iload (pc := 109) (tb_at tkX4_join 63 rfl) rfl ?_
      refine r_iload (pc := 111) (tb_at tkX4_join 64 rfl) rfl ?_
      refine r_isub_l (pc := 113) (tb_at tkX4_join 65 rfl) ?_
      refine r_iast_w (pc := 114) (tb_at tkX4_join 66 rfl) ly_22 (by decide) h.1.1 h.1.2 rfl ?_
      replace h := h.2
      refine r_goto (tgt := 143) (pc := 115) (tb_at tkX4_join 67 rfl) (by decide) ?_
      exact r_vret (pc := 143) (tb_at tkX4_join 83 rfl) rfl (Nat.le_refl _) (Nat.le_refl _) ⟨rfl, rfl, h⟩
  · replace h := h.2 c
    exact r_vret (pc := 46) (tb_at tkX4_join 29 rfl) rfl (Nat.le_refl _) (Nat.le_refl _) ⟨rfl, rfl, h⟩
set_option maxRecDepth 100000 in
set_option maxHeartbeats 4000000 in
theorem gX4_findBetween_0 {G : GE} {d : Nat} {K : Mem → Prop} {M : Mem}  (h : CalV G miJ7_fill_53178 d [.inr (.inr (some 23)), .inl (-1)] M (fun M1 => OkV G miX4_findBetween (d + 1) K 10 [some (.inr (.inr (some 19))), some (.inl 0), none, none] [] M1)) : OkV G miX4_findBetween (d + 1) K 0 [some (.inr (.inr (some 19))), none, none, none] [] M := by
  refine r_aload_n (pc := 0) (tb_at tkX4_findBetween 0 rfl) rfl rfl ?_
  refine r_get 4 4 (pc := 1) (tb_at tkX4_findBetween 1 rfl) ly_19 flX4_21 rfl ?_
  refine r_iconst (pc := 4) (tb_at tkX4_findBetween 2 rfl) ⟨by decide, by decide⟩ ?_
  refine r_invS (mc' := 0) (ms' := 0) [.inr (.inr (some 23)), .inl (-1)] (S := []) (pc := 5) (tb_at tkX4_findBetween 3 rfl) rfl clX4_83 (Nat.le_of_ble_eq_true rfl) (Nat.le_refl _) (Nat.le_refl _) ?_
  refine Cal.mono h ?_
  rintro _ _ M1 ⟨rfl, rfl, h⟩
  show OkV G miX4_findBetween (d + 1) K 8 [some (.inr (.inr (some 19))), none, none, none] [] M1
  refine r_iconst (pc := 8) (tb_at tkX4_findBetween 4 rfl) ⟨by decide, by decide⟩ ?_
  refine r_istore_n (L' := [some (.inr (.inr (some 19))), some (.inl 0), none, none]) (pc := 9) (tb_at tkX4_findBetween 5 rfl) rfl (by decide) rfl ?_
  exact h
set_option maxRecDepth 100000 in
set_option maxHeartbeats 4000000 in
theorem gX4_findBetween_10 {G : GE} {d : Nat} {K : Mem → Prop} {M : Mem} {v1 : Int}  (h : (((M 1 8) ≤ v1 → K M) ∧ (v1 < (M 1 8) → OkV G miX4_findBetween (d + 1) K 27 [some (.inr (.inr (some 19))), some (.inl v1), some (.inl 0), some (.inl (w32 (v1 + 1)))] [] M))) : OkV G miX4_findBetween (d + 1) K 10 [some (.inr (.inr (some 19))), some (.inl v1), none, none] [] M := by
  refine r_iload_n (pc := 10) (tb_at tkX4_findBetween 6 rfl) rfl rfl ?_
  refine r_aload_n (pc := 11) (tb_at tkX4_findBetween 7 rfl) rfl rfl ?_
  refine r_get 4 0 (pc := 12) (tb_at tkX4_findBetween 8 rfl) ly_19 flX4_36 rfl ?_
  refine r_get 5 8 (pc := 15) (tb_at tkX4_findBetween 9 rfl) ly_1 flX4_43 rfl ?_
  refine q_icmp_ge (tgt := 83) (pc := 18) (tb_at tkX4_findBetween 10 rfl) (by decide) (fun c => ?_) (fun c => ?_)
  · replace h := h.1 c
    exact r_vret (pc := 83) (tb_at tkX4_findBetween 50 rfl) rfl (Nat.le_refl _) (Nat.le_refl _) ⟨rfl, rfl, h⟩
  · replace h := h.2 c
    refine r_iconst (pc := 21) (tb_at tkX4_findBetween 11 rfl) ⟨by decide, by decide⟩ ?_
    refine r_istore_n (L' := [some (.inr (.inr (some 19))), some (.inl v1), some (.inl 0), none]) (pc := 22) (tb_at tkX4_findBetween 12 rfl) rfl (by decide) rfl ?_
    refine r_iload_n (pc := 23) (tb_at tkX4_findBetween 13 rfl) rfl rfl ?_
    refine r_iconst (pc := 24) (tb_at tkX4_findBetween 14 rfl) ⟨by decide, by decide⟩ ?_
    refine r_iadd (pc := 25) (tb_at tkX4_findBetween 15 rfl) ?_
    refine r_istore_n (L' := [some (.inr (.inr (some 19))), some (.inl v1), some (.inl 0), some (.inl (w32 (v1 + 1)))]) (pc := 26) (tb_at tkX4_findBetween 16 rfl) rfl (by decide) rfl ?_
    exact h
set_option maxRecDepth 100000 in
set_option maxHeartbeats 4000000 in
theorem gX4_findBetween_27 {G : GE} {d : Nat} {K : Mem → Prop} {M : Mem} {v1 v2 v3 : Int}  (h : (((M 1 8) ≤ v3 → OkV G miX4_findBetween (d + 1) K 10 [some (.inr (.inr (some 19))), some (.inl (w32 (v1 + 1))), none, none] [] M) ∧ (v3 < (M 1 8) → (0 ≤ v1 ∧ v1 < 7) ∧ (0 ≤ v3 ∧ v3 < 7) ∧ (0 ≤ ((M 20 (v1).toNat) * 7) + (M 20 (v3).toNat) ∧ ((M 20 (v1).toNat) * 7) + (M 20 (v3).toNat) < 49) ∧ (0 ≤ v3 ∧ v3 < 7) ∧ OkV G miX4_findBetween (d + 1) K 27 [some (.inr (.inr (some 19))), some (.inl v1), some (.inl (ior v2 (ishl 1 ((mup M 23 (((M 20 (v1).toNat) * 7) + (M 20 (v3).toNat)).toNat v2) 20 (v3).toNat)))), some (.inl (w32 (v3 + 1)))] [] (mup M 23 (((M 20 (v1).toNat) * 7) + (M 20 (v3).toNat)).toNat v2)))) : OkV G miX4_findBetween (d + 1) K 27 [some (.inr (.inr (some 19))), some (.inl v1), some (.inl v2), some (.inl v3)] [] M := by
  refine r_iload_n (pc := 27) (tb_at tkX4_findBetween 17 rfl) rfl rfl ?_
  refine r_aload_n (pc := 28) (tb_at tkX4_findBetween 18 rfl) rfl rfl ?_
  refine r_get 4 0 (pc := 29) (tb_at tkX4_findBetween 19 rfl) ly_19 flX4_36 rfl ?_
  refine r_get 5 8 (pc := 32) (tb_at tkX4_findBetween 20 rfl) ly_1 flX4_43 rfl ?_
  refine q_icmp_ge (tgt := 77) (pc := 35) (tb_at tkX4_findBetween 21 rfl) (by decide) (fun c => ?_) (fun c => ?_)
  · replace h := h.1 c
    refine r_iinc (L' := [some (.inr (.inr (some 19))), some (.inl (w32 (v1 + 1))), some (.inl v2), some (.inl v3)]) (pc := 77) (tb_at tkX4_findBetween 48 rfl) rfl (by decide) rfl ?_
    refine r_goto (tgt := 10) (pc := 80) (tb_at tkX4_findBetween 49 rfl) (by decide) ?_
    exact Ok.forget h (And.intro rfl (And.intro rfl trivial))
  · replace h := h.2 c
    refine r_aload_n (pc := 38) (tb_at tkX4_findBetween 22 rfl) rfl rfl ?_
    refine r_get 4 4 (pc := 39) (tb_at tkX4_findBetween 23 rfl) ly_19 flX4_21 rfl ?_
    refine r_aload_n (pc := 42) (tb_at tkX4_findBetween 24 rfl) rfl rfl ?_
    refine r_get 4 1 (pc := 43) (tb_at tkX4_findBetween 25 rfl) ly_19 flX4_9 rfl ?_
    refine r_iload_n (pc := 46) (tb_at tkX4_findBetween 26 rfl) rfl rfl ?_
    refine r_iald (pc := 47) (tb_at tkX4_findBetween 27 rfl) ly_20 h.1.1 h.1.2 ?_
    replace h := h.2
    refine r_bipush (pc := 48) (tb_at tkX4_findBetween 28 rfl) ⟨by decide, by decide, by decide⟩ ?_
    refine r_imul (pc := 50) (tb_at tkX4_findBetween 29 rfl) ?_
    refine r_aload_n (pc := 51) (tb_at tkX4_findBetween 30 rfl) rfl rfl ?_
    refine r_get 4 1 (pc := 52) (tb_at tkX4_findBetween 31 rfl) ly_19 flX4_9 rfl ?_
    refine r_iload_n (pc := 55) (tb_at tkX4_findBetween 32 rfl) rfl rfl ?_
    refine r_iald (pc := 56) (tb_at tkX4_findBetween 33 rfl) ly_20 h.1.1 h.1.2 ?_
    replace h := h.2
    refine r_iadd_l (pc := 57) (tb_at tkX4_findBetween 34 rfl) ?_
    refine r_iload_n (pc := 58) (tb_at tkX4_findBetween 35 rfl) rfl rfl ?_
    refine r_iast_w (pc := 59) (tb_at tkX4_findBetween 36 rfl) ly_23 (by decide) h.1.1 h.1.2 rfl ?_
    replace h := h.2
    refine r_iload_n (pc := 60) (tb_at tkX4_findBetween 37 rfl) rfl rfl ?_
    refine r_iconst (pc := 61) (tb_at tkX4_findBetween 38 rfl) ⟨by decide, by decide⟩ ?_
    refine r_aload_n (pc := 62) (tb_at tkX4_findBetween 39 rfl) rfl rfl ?_
    refine r_get 4 1 (pc := 63) (tb_at tkX4_findBetween 40 rfl) ly_19 flX4_9 rfl ?_
    refine r_iload_n (pc := 66) (tb_at tkX4_findBetween 41 rfl) rfl rfl ?_
    refine r_iald (pc := 67) (tb_at tkX4_findBetween 42 rfl) ly_20 h.1.1 h.1.2 ?_
    replace h := h.2
    refine r_ishl (pc := 68) (tb_at tkX4_findBetween 43 rfl) ?_
    refine r_ior (pc := 69) (tb_at tkX4_findBetween 44 rfl) ?_
    refine r_istore_n (L' := [some (.inr (.inr (some 19))), some (.inl v1), some (.inl (ior v2 (ishl 1 ((mup M 23 (((M 20 (v1).toNat) * 7) + (M 20 (v3).toNat)).toNat v2) 20 (v3).toNat)))), some (.inl v3)]) (pc := 70) (tb_at tkX4_findBetween 45 rfl) rfl (by decide) rfl ?_
    refine r_iinc (L' := [some (.inr (.inr (some 19))), some (.inl v1), some (.inl (ior v2 (ishl 1 ((mup M 23 (((M 20 (v1).toNat) * 7) + (M 20 (v3).toNat)).toNat v2) 20 (v3).toNat)))), some (.inl (w32 (v3 + 1)))]) (pc := 71) (tb_at tkX4_findBetween 46 rfl) rfl (by decide) rfl ?_
    refine r_goto (tgt := 27) (pc := 74) (tb_at tkX4_findBetween 47 rfl) (by decide) ?_
    exact h
set_option maxRecDepth 100000 in
set_option maxHeartbeats 4000000 in
theorem gX4_isTight_0 {G : GE} {d : Nat} {K : Int → Mem → Prop} {M : Mem} {v1 v2 : Int}  (h : (0 ≤ (v1 * 7) + v2 ∧ (v1 * 7) + v2 < 49) ∧ ((¬ (M 21 ((v1 * 7) + v2).toNat) = 1 → K 0 M) ∧ ((M 21 ((v1 * 7) + v2).toNat) = 1 → (0 ≤ (v1 * 7) + v2 ∧ (v1 * 7) + v2 < 49) ∧ (((M 8 4) ≤ (M 22 ((v1 * 7) + v2).toNat) → K 0 M) ∧ ((M 22 ((v1 * 7) + v2).toNat) < (M 8 4) → K 1 M))))) : OkI G miX4_isTight d K 0 [some (.inr (.inr (some 19))), some (.inl v1), some (.inl v2), none] [] M := by
  refine r_iload_n (pc := 0) (tb_at tkX4_isTight 0 rfl) rfl rfl ?_
  refine r_bipush (pc := 1) (tb_at tkX4_isTight 1 rfl) ⟨by decide, by decide, by decide⟩ ?_
  refine r_imul (pc := 3) (tb_at tkX4_isTight 2 rfl) ?_
  refine r_iload_n (pc := 4) (tb_at tkX4_isTight 3 rfl) rfl rfl ?_
  refine r_iadd_l (pc := 5) (tb_at tkX4_isTight 4 rfl) ?_
  refine r_istore_n (L' := [some (.inr (.inr (some 19))), some (.inl v1), some (.inl v2), some (.inl (w32 ((v1 * 7) + v2)))]) (pc := 6) (tb_at tkX4_isTight 5 rfl) rfl (by decide) rfl ?_
  refine r_aload_n (pc := 7) (tb_at tkX4_isTight 6 rfl) rfl rfl ?_
  refine r_get 4 2 (pc := 8) (tb_at tkX4_isTight 7 rfl) ly_19 flX4_15 rfl ?_
  refine r_iload_n (pc := 11) (tb_at tkX4_isTight 8 rfl) rfl rfl ?_
  refine r_iald_w (pc := 12) (tb_at tkX4_isTight 9 rfl) ly_21 (by decide) h.1.1 h.1.2 ?_
  replace h := h.2
  refine r_iconst (pc := 13) (tb_at tkX4_isTight 10 rfl) ⟨by decide, by decide⟩ ?_
  refine q_icmp_ne (tgt := 39) (pc := 14) (tb_at tkX4_isTight 11 rfl) (by decide) (fun c => ?_) (fun c => ?_)
  · replace h := h.1 c
    refine r_iconst (pc := 39) (tb_at tkX4_isTight 24 rfl) ⟨by decide, by decide⟩ ?_
    exact r_zret (pc := 40) (tb_at tkX4_isTight 25 rfl) rfl (by decide) (Nat.le_refl _) (Nat.le_refl _) ⟨_, rfl, rfl, h⟩
  · replace h := h.2 c
    refine r_aload_n (pc := 17) (tb_at tkX4_isTight 12 rfl) rfl rfl ?_
    refine r_get 4 3 (pc := 18) (tb_at tkX4_isTight 13 rfl) ly_19 flX4_18 rfl ?_
    refine r_iload_n (pc := 21) (tb_at tkX4_isTight 14 rfl) rfl rfl ?_
    refine r_iald_w (pc := 22) (tb_at tkX4_isTight 15 rfl) ly_22 (by decide) h.1.1 h.1.2 ?_
    replace h := h.2
    refine r_aload_n (pc := 23) (tb_at tkX4_isTight 16 rfl) rfl rfl ?_
    refine r_get 4 0 (pc := 24) (tb_at tkX4_isTight 17 rfl) ly_19 flX4_36 rfl ?_
    refine r_get 5 6 (pc := 27) (tb_at tkX4_isTight 18 rfl) ly_1 flX4_89 rfl ?_
    refine r_iconst (pc := 30) (tb_at tkX4_isTight 19 rfl) ⟨by decide, by decide⟩ ?_
    refine r_iald_k (k0 := 4) (pc := 31) (tb_at tkX4_isTight 20 rfl) ly_8 rfl (by decide) (by decide) ?_
    refine q_icmp_ge (tgt := 39) (pc := 32) (tb_at tkX4_isTight 21 rfl) (by decide) (fun c => ?_) (fun c => ?_)
    · replace h := h.1 c
      refine r_iconst (pc := 39) (tb_at tkX4_isTight 24 rfl) ⟨by decide, by decide⟩ ?_
      exact r_zret (pc := 40) (tb_at tkX4_isTight 25 rfl) rfl (by decide) (Nat.le_refl _) (Nat.le_refl _) ⟨_, rfl, rfl, h⟩
    · replace h := h.2 c
      refine r_iconst (pc := 35) (tb_at tkX4_isTight 22 rfl) ⟨by decide, by decide⟩ ?_
      refine r_goto (tgt := 40) (pc := 36) (tb_at tkX4_isTight 23 rfl) (by decide) ?_
      exact r_zret (pc := 40) (tb_at tkX4_isTight 25 rfl) rfl (by decide) (Nat.le_refl _) (Nat.le_refl _) ⟨_, rfl, rfl, h⟩
set_option maxRecDepth 100000 in
set_option maxHeartbeats 4000000 in
theorem gX4_isRightBehind_0 {G : GE} {d : Nat} {K : Int → Mem → Prop} {M : Mem} {v1 v2 v3 : Int}  (h : (0 ≤ (v2 * 7) + v3 ∧ (v2 * 7) + v3 < 49) ∧ (((M 23 ((v2 * 7) + v3).toNat) = (-1) → K 0 M) ∧ (¬ (M 23 ((v2 * 7) + v3).toNat) = (-1) → ((¬ (iand v1 (ior (ishl 1 v2) (ishl 1 v3))) = (ior (ishl 1 v2) (ishl 1 v3)) → K 0 M) ∧ ((iand v1 (ior (ishl 1 v2) (ishl 1 v3))) = (ior (ishl 1 v2) (ishl 1 v3)) → ((¬ (iand v1 (M 23 ((v2 * 7) + v3).toNat)) = 0 → K 0 M) ∧ ((iand v1 (M 23 ((v2 * 7) + v3).toNat)) = 0 → K 1 M))))))) : OkI G miX4_isRightBehind d K 0 [some (.inr (.inr (some 19))), some (.inl v1), some (.inl v2), some (.inl v3), none, none] [] M := by
  refine r_aload_n (pc := 0) (tb_at tkX4_isRightBehind 0 rfl) rfl rfl ?_
  refine r_get 4 4 (pc := 1) (tb_at tkX4_isRightBehind 1 rfl) ly_19 flX4_21 rfl ?_
  refine r_iload_n (pc := 4) (tb_at tkX4_isRightBehind 2 rfl) rfl rfl ?_
  refine r_bipush (pc := 5) (tb_at tkX4_isRightBehind 3 rfl) ⟨by decide, by decide, by decide⟩ ?_
  refine r_imul (pc := 7) (tb_at tkX4_isRightBehind 4 rfl) ?_
  refine r_iload_n (pc := 8) (tb_at tkX4_isRightBehind 5 rfl) rfl rfl ?_
  refine r_iadd_l (pc := 9) (tb_at tkX4_isRightBehind 6 rfl) ?_
  refine r_iald_w (pc := 10) (tb_at tkX4_isRightBehind 7 rfl) ly_23 (by decide) h.1.1 h.1.2 ?_
  replace h := h.2
  refine r_istore (L' := [some (.inr (.inr (some 19))), some (.inl v1), some (.inl v2), some (.inl v3), some (.inl (M 23 ((v2 * 7) + v3).toNat)), none]) (pc := 11) (tb_at tkX4_isRightBehind 8 rfl) (by decide) rfl ?_
  refine r_iconst (pc := 13) (tb_at tkX4_isRightBehind 9 rfl) ⟨by decide, by decide⟩ ?_
  refine r_iload_n (pc := 14) (tb_at tkX4_isRightBehind 10 rfl) rfl rfl ?_
  refine r_ishl (pc := 15) (tb_at tkX4_isRightBehind 11 rfl) ?_
  refine r_iconst (pc := 16) (tb_at tkX4_isRightBehind 12 rfl) ⟨by decide, by decide⟩ ?_
  refine r_iload_n (pc := 17) (tb_at tkX4_isRightBehind 13 rfl) rfl rfl ?_
  refine r_ishl (pc := 18) (tb_at tkX4_isRightBehind 14 rfl) ?_
  refine r_ior (pc := 19) (tb_at tkX4_isRightBehind 15 rfl) ?_
  refine r_istore (L' := [some (.inr (.inr (some 19))), some (.inl v1), some (.inl v2), some (.inl v3), some (.inl (M 23 ((v2 * 7) + v3).toNat)), some (.inl (ior (ishl 1 v2) (ishl 1 v3)))]) (pc := 20) (tb_at tkX4_isRightBehind 16 rfl) (by decide) rfl ?_
  refine r_iload (pc := 22) (tb_at tkX4_isRightBehind 17 rfl) rfl ?_
  refine r_iconst (pc := 24) (tb_at tkX4_isRightBehind 18 rfl) ⟨by decide, by decide⟩ ?_
  refine q_icmp_eq (tgt := 48) (pc := 25) (tb_at tkX4_isRightBehind 19 rfl) (by decide) (fun c => ?_) (fun c => ?_)
  · replace h := h.1 c
    refine r_iconst (pc := 48) (tb_at tkX4_isRightBehind 31 rfl) ⟨by decide, by decide⟩ ?_
    exact r_zret (pc := 49) (tb_at tkX4_isRightBehind 32 rfl) rfl (by decide) (Nat.le_refl _) (Nat.le_refl _) ⟨_, rfl, rfl, h⟩
  · replace h := h.2 c
    refine r_iload_n (pc := 28) (tb_at tkX4_isRightBehind 20 rfl) rfl rfl ?_
    refine r_iload (pc := 29) (tb_at tkX4_isRightBehind 21 rfl) rfl ?_
    refine r_iand (pc := 31) (tb_at tkX4_isRightBehind 22 rfl) ?_
    refine r_iload (pc := 32) (tb_at tkX4_isRightBehind 23 rfl) rfl ?_
    refine q_icmp_ne (tgt := 48) (pc := 34) (tb_at tkX4_isRightBehind 24 rfl) (by decide) (fun c => ?_) (fun c => ?_)
    · replace h := h.1 c
      refine r_iconst (pc := 48) (tb_at tkX4_isRightBehind 31 rfl) ⟨by decide, by decide⟩ ?_
      exact r_zret (pc := 49) (tb_at tkX4_isRightBehind 32 rfl) rfl (by decide) (Nat.le_refl _) (Nat.le_refl _) ⟨_, rfl, rfl, h⟩
    · replace h := h.2 c
      refine r_iload_n (pc := 37) (tb_at tkX4_isRightBehind 25 rfl) rfl rfl ?_
      refine r_iload (pc := 38) (tb_at tkX4_isRightBehind 26 rfl) rfl ?_
      refine r_iand (pc := 40) (tb_at tkX4_isRightBehind 27 rfl) ?_
      refine q_if_ne (tgt := 48) (pc := 41) (tb_at tkX4_isRightBehind 28 rfl) (by decide) (fun c => ?_) (fun c => ?_)
      · replace h := h.1 c
        refine r_iconst (pc := 48) (tb_at tkX4_isRightBehind 31 rfl) ⟨by decide, by decide⟩ ?_
        exact r_zret (pc := 49) (tb_at tkX4_isRightBehind 32 rfl) rfl (by decide) (Nat.le_refl _) (Nat.le_refl _) ⟨_, rfl, rfl, h⟩
      · replace h := h.2 c
        refine r_iconst (pc := 44) (tb_at tkX4_isRightBehind 29 rfl) ⟨by decide, by decide⟩ ?_
        refine r_goto (tgt := 49) (pc := 45) (tb_at tkX4_isRightBehind 30 rfl) (by decide) ?_
        exact r_zret (pc := 49) (tb_at tkX4_isRightBehind 32 rfl) rfl (by decide) (Nat.le_refl _) (Nat.le_refl _) ⟨_, rfl, rfl, h⟩
set_option maxRecDepth 100000 in
set_option maxHeartbeats 4000000 in
theorem gX4_weigh_0 {G : GE} {d : Nat} {K : Mem → Prop} {M : Mem} {v1 : Int}  (h : (0 ≤ v1 ∧ v1 < 128) ∧ OkV G miX4_weigh (d + 1) K 26 [some (.inr (.inr (some 19))), some (.inl v1), some (.inl (-1)), some (.inl (-1)), some (.inl 0), some (.inl 0), some (.inl 1), some (.inl 0), some (.inl 0), none, none] [] (mup M 24 (v1).toNat (-1))) : OkV G miX4_weigh (d + 1) K 0 [some (.inr (.inr (some 19))), some (.inl v1), none, none, none, none, none, none, none, none, none] [] M := by
  refine r_aload_n (pc := 0) (tb_at tkX4_weigh 0 rfl) rfl rfl ?_
  refine r_get 4 5 (pc := 1) (tb_at tkX4_weigh 1 rfl) ly_19 flX4_24 rfl ?_
  refine r_iload_n (pc := 4) (tb_at tkX4_weigh 2 rfl) rfl rfl ?_
  refine r_iconst (pc := 5) (tb_at tkX4_weigh 3 rfl) ⟨by decide, by decide⟩ ?_
  refine r_iast (pc := 6) (tb_at tkX4_weigh 4 rfl) ly_24 h.1.1 h.1.2 rfl ?_
  replace h := h.2
  refine r_iconst (pc := 7) (tb_at tkX4_weigh 5 rfl) ⟨by decide, by decide⟩ ?_
  refine r_istore_n (L' := [some (.inr (.inr (some 19))), some (.inl v1), some (.inl (-1)), none, none, none, none, none, none, none, none]) (pc := 8) (tb_at tkX4_weigh 6 rfl) rfl (by decide) rfl ?_
  refine r_iconst (pc := 9) (tb_at tkX4_weigh 7 rfl) ⟨by decide, by decide⟩ ?_
  refine r_istore_n (L' := [some (.inr (.inr (some 19))), some (.inl v1), some (.inl (-1)), some (.inl (-1)), none, none, none, none, none, none, none]) (pc := 10) (tb_at tkX4_weigh 8 rfl) rfl (by decide) rfl ?_
  refine r_iconst (pc := 11) (tb_at tkX4_weigh 9 rfl) ⟨by decide, by decide⟩ ?_
  refine r_istore (L' := [some (.inr (.inr (some 19))), some (.inl v1), some (.inl (-1)), some (.inl (-1)), some (.inl 0), none, none, none, none, none, none]) (pc := 12) (tb_at tkX4_weigh 10 rfl) (by decide) rfl ?_
  refine r_iconst (pc := 14) (tb_at tkX4_weigh 11 rfl) ⟨by decide, by decide⟩ ?_
  refine r_istore (L' := [some (.inr (.inr (some 19))), some (.inl v1), some (.inl (-1)), some (.inl (-1)), some (.inl 0), some (.inl 0), none, none, none, none, none]) (pc := 15) (tb_at tkX4_weigh 12 rfl) (by decide) rfl ?_
  refine r_iconst (pc := 17) (tb_at tkX4_weigh 13 rfl) ⟨by decide, by decide⟩ ?_
  refine r_istore (L' := [some (.inr (.inr (some 19))), some (.inl v1), some (.inl (-1)), some (.inl (-1)), some (.inl 0), some (.inl 0), some (.inl 1), none, none, none, none]) (pc := 18) (tb_at tkX4_weigh 14 rfl) (by decide) rfl ?_
  refine r_iconst (pc := 20) (tb_at tkX4_weigh 15 rfl) ⟨by decide, by decide⟩ ?_
  refine r_istore (L' := [some (.inr (.inr (some 19))), some (.inl v1), some (.inl (-1)), some (.inl (-1)), some (.inl 0), some (.inl 0), some (.inl 1), some (.inl 0), none, none, none]) (pc := 21) (tb_at tkX4_weigh 16 rfl) (by decide) rfl ?_
  refine r_iconst (pc := 23) (tb_at tkX4_weigh 17 rfl) ⟨by decide, by decide⟩ ?_
  refine r_istore (L' := [some (.inr (.inr (some 19))), some (.inl v1), some (.inl (-1)), some (.inl (-1)), some (.inl 0), some (.inl 0), some (.inl 1), some (.inl 0), some (.inl 0), none, none]) (pc := 24) (tb_at tkX4_weigh 18 rfl) (by decide) rfl ?_
  exact h
set_option maxRecDepth 100000 in
set_option maxHeartbeats 4000000 in
theorem gX4_weigh_26 {G : GE} {d : Nat} {K : Mem → Prop} {M : Mem} {v1 v2 v3 v4 v5 v6 v7 v8 : Int}  (h : (((M 1 8) ≤ v8 → ((v3 = (-1) → K M) ∧ (¬ v3 = (-1) → (0 ≤ v3 ∧ v3 < 7) ∧ (0 ≤ v2 ∧ v2 < 7) ∧ ((¬ (M 3 (v3).toNat) = (M 2 (v2).toNat) → K M) ∧ ((M 3 (v3).toNat) = (M 2 (v2).toNat) → (0 ≤ v1 ∧ v1 < 128) ∧ (0 ≤ v1 ∧ v1 < 128) ∧ (0 ≤ v2 ∧ v2 < 7) ∧ (0 ≤ v1 ∧ v1 < 128) ∧ (0 ≤ v3 ∧ v3 < 7) ∧ (0 ≤ v2 ∧ v2 < 7) ∧ (0 ≤ v1 ∧ v1 < 128) ∧ K (mup (mup (mup (mup M 25 (v1).toNat v6) 26 (v1).toNat v7) 27 (v1).toNat ((mup (mup M 25 (v1).toNat v6) 26 (v1).toNat v7) 2 (v2).toNat)) 24 (v1).toNat (w32 (((v6 * ((mup (mup (mup M 25 (v1).toNat v6) 26 (v1).toNat v7) 27 (v1).toNat ((mup (mup M 25 (v1).toNat v6) 26 (v1).toNat v7) 2 (v2).toNat)) 8 0)) + (v7 * ((mup (mup (mup M 25 (v1).toNat v6) 26 (v1).toNat v7) 27 (v1).toNat ((mup (mup M 25 (v1).toNat v6) 26 (v1).toNat v7) 2 (v2).toNat)) 8 2))) + (((mup (mup (mup M 25 (v1).toNat v6) 26 (v1).toNat v7) 27 (v1).toNat ((mup (mup M 25 (v1).toNat v6) 26 (v1).toNat v7) 2 (v2).toNat)) 8 1) * (((mup (mup (mup M 25 (v1).toNat v6) 26 (v1).toNat v7) 27 (v1).toNat ((mup (mup M 25 (v1).toNat v6) 26 (v1).toNat v7) 2 (v2).toNat)) 5 (v3).toNat) - ((mup (mup (mup M 25 (v1).toNat v6) 26 (v1).toNat v7) 27 (v1).toNat ((mup (mup M 25 (v1).toNat v6) 26 (v1).toNat v7) 2 (v2).toNat)) 4 (v2).toNat))))))))))) ∧ (v8 < (M 1 8) → (0 ≤ v8 ∧ v8 < 7) ∧ ((¬ (iand (ishr v1 (M 20 (v8).toNat)) 1) = 0 → ((¬ v3 = (-1) → (0 ≤ (v3 * 7) + (M 20 (v8).toNat) ∧ (v3 * 7) + (M 20 (v8).toNat) < 49) ∧ OkV G miX4_weigh (d + 1) K 80 [some (.inr (.inr (some 19))), some (.inl v1), some (.inl v2), some (.inl v3), some (.inl v4), some (.inl v5), some (.inl v6), some (.inl v7), some (.inl v8), some (.inl (M 20 (v8).toNat)), none] [.inl (M 21 ((v3 * 7) + (M 20 (v8).toNat)).toNat)] M) ∧ (v3 = (-1) → OkV G miX4_weigh (d + 1) K 80 [some (.inr (.inr (some 19))), some (.inl v1), some (.inl v2), some (.inl v3), some (.inl v4), some (.inl v5), some (.inl v6), some (.inl v7), some (.inl v8), some (.inl (M 20 (v8).toNat)), none] [.inl 0] M))) ∧ ((iand (ishr v1 (M 20 (v8).toNat)) 1) = 0 → OkV G miX4_weigh (d + 1) K 26 [some (.inr (.inr (some 19))), some (.inl v1), some (.inl v2), some (.inl v3), some (.inl v4), some (.inl v5), some (.inl v6), some (.inl v7), some (.inl (w32 (v8 + 1))), none, none] [] M))))) : OkV G miX4_weigh (d + 1) K 26 [some (.inr (.inr (some 19))), some (.inl v1), some (.inl v2), some (.inl v3), some (.inl v4), some (.inl v5), some (.inl v6), some (.inl v7), some (.inl v8), none, none] [] M := by
  refine r_iload (pc := 26) (tb_at tkX4_weigh 19 rfl) rfl ?_
  refine r_aload_n (pc := 28) (tb_at tkX4_weigh 20 rfl) rfl rfl ?_
  refine r_get 4 0 (pc := 29) (tb_at tkX4_weigh 21 rfl) ly_19 flX4_36 rfl ?_
  refine r_get 5 8 (pc := 32) (tb_at tkX4_weigh 22 rfl) ly_1 flX4_43 rfl ?_
  refine q_icmp_ge (tgt := 197) (pc := 35) (tb_at tkX4_weigh 23 rfl) (by decide) (fun c => ?_) (fun c => ?_)
  · replace h := h.1 c
    refine r_iload_n (pc := 197) (tb_at tkX4_weigh 107 rfl) rfl rfl ?_
    refine r_iconst (pc := 198) (tb_at tkX4_weigh 108 rfl) ⟨by decide, by decide⟩ ?_
    refine q_icmp_eq (tgt := 315) (pc := 199) (tb_at tkX4_weigh 109 rfl) (by decide) (fun c => ?_) (fun c => ?_)
    · replace h := h.1 c
      exact r_vret (pc := 315) (tb_at tkX4_weigh 177 rfl) rfl (Nat.le_refl _) (Nat.le_refl _) ⟨rfl, rfl, h⟩
    · replace h := h.2 c
      refine r_aload_n (pc := 202) (tb_at tkX4_weigh 110 rfl) rfl rfl ?_
      refine r_get 4 0 (pc := 203) (tb_at tkX4_weigh 111 rfl) ly_19 flX4_36 rfl ?_
      refine r_get 5 1 (pc := 206) (tb_at tkX4_weigh 112 rfl) ly_1 flX4_67 rfl ?_
      refine r_iload_n (pc := 209) (tb_at tkX4_weigh 113 rfl) rfl rfl ?_
      refine r_iald (pc := 210) (tb_at tkX4_weigh 114 rfl) ly_3 h.1.1 h.1.2 ?_
      replace h := h.2
      refine r_aload_n (pc := 211) (tb_at tkX4_weigh 115 rfl) rfl rfl ?_
      refine r_get 4 0 (pc := 212) (tb_at tkX4_weigh 116 rfl) ly_19 flX4_36 rfl ?_
      refine r_get 5 0 (pc := 215) (tb_at tkX4_weigh 117 rfl) ly_1 flX4_70 rfl ?_
      refine r_iload_n (pc := 218) (tb_at tkX4_weigh 118 rfl) rfl rfl ?_
      refine r_iald (pc := 219) (tb_at tkX4_weigh 119 rfl) ly_2 h.1.1 h.1.2 ?_
      replace h := h.2
      refine q_icmp_ne (tgt := 315) (pc := 220) (tb_at tkX4_weigh 120 rfl) (by decide) (fun c => ?_) (fun c => ?_)
      · replace h := h.1 c
        exact r_vret (pc := 315) (tb_at tkX4_weigh 177 rfl) rfl (Nat.le_refl _) (Nat.le_refl _) ⟨rfl, rfl, h⟩
      · replace h := h.2 c
        refine r_aload_n (pc := 223) (tb_at tkX4_weigh 121 rfl) rfl rfl ?_
        refine r_get 4 6 (pc := 224) (tb_at tkX4_weigh 122 rfl) ly_19 flX4_27 rfl ?_
        refine r_iload_n (pc := 227) (tb_at tkX4_weigh 123 rfl) rfl rfl ?_
        refine r_iload (pc := 228) (tb_at tkX4_weigh 124 rfl) rfl ?_
        refine r_iast (pc := 230) (tb_at tkX4_weigh 125 rfl) ly_25 h.1.1 h.1.2 rfl ?_
        replace h := h.2
        refine r_aload_n (pc := 231) (tb_at tkX4_weigh 126 rfl) rfl rfl ?_
        refine r_get 4 7 (pc := 232) (tb_at tkX4_weigh 127 rfl) ly_19 flX4_30 rfl ?_
        refine r_iload_n (pc := 235) (tb_at tkX4_weigh 128 rfl) rfl rfl ?_
        refine r_iload (pc := 236) (tb_at tkX4_weigh 129 rfl) rfl ?_
        refine r_iast (pc := 238) (tb_at tkX4_weigh 130 rfl) ly_26 h.1.1 h.1.2 rfl ?_
        replace h := h.2
        refine r_aload_n (pc := 239) (tb_at tkX4_weigh 131 rfl) rfl rfl ?_
        refine r_get 4 8 (pc := 240) (tb_at tkX4_weigh 132 rfl) ly_19 flX4_33 rfl ?_
        refine r_iload_n (pc := 243) (tb_at tkX4_weigh 133 rfl) rfl rfl ?_
        refine r_aload_n (pc := 244) (tb_at tkX4_weigh 134 rfl) rfl rfl ?_
        refine r_get 4 0 (pc := 245) (tb_at tkX4_weigh 135 rfl) ly_19 flX4_36 rfl ?_
        refine r_get 5 0 (pc := 248) (tb_at tkX4_weigh 136 rfl) ly_1 flX4_70 rfl ?_
        refine r_iload_n (pc := 251) (tb_at tkX4_weigh 137 rfl) rfl rfl ?_
        refine r_iald (pc := 252) (tb_at tkX4_weigh 138 rfl) ly_2 h.1.1 h.1.2 ?_
        replace h := h.2
        refine r_iast (pc := 253) (tb_at tkX4_weigh 139 rfl) ly_27 h.1.1 h.1.2 rfl ?_
        replace h := h.2
        refine r_aload_n (pc := 254) (tb_at tkX4_weigh 140 rfl) rfl rfl ?_
        refine r_get 4 5 (pc := 255) (tb_at tkX4_weigh 141 rfl) ly_19 flX4_24 rfl ?_
        refine r_iload_n (pc := 258) (tb_at tkX4_weigh 142 rfl) rfl rfl ?_
        refine r_iload (pc := 259) (tb_at tkX4_weigh 143 rfl) rfl ?_
        refine r_aload_n (pc := 261) (tb_at tkX4_weigh 144 rfl) rfl rfl ?_
        refine r_get 4 0 (pc := 262) (tb_at tkX4_weigh 145 rfl) ly_19 flX4_36 rfl ?_
        refine r_get 5 6 (pc := 265) (tb_at tkX4_weigh 146 rfl) ly_1 flX4_89 rfl ?_
        refine r_iconst (pc := 268) (tb_at tkX4_weigh 147 rfl) ⟨by decide, by decide⟩ ?_
        refine r_iald_k (k0 := 0) (pc := 269) (tb_at tkX4_weigh 148 rfl) ly_8 rfl (by decide) (by decide) ?_
        refine r_imul (pc := 270) (tb_at tkX4_weigh 149 rfl) ?_
        refine r_iload (pc := 271) (tb_at tkX4_weigh 150 rfl) rfl ?_
        refine r_aload_n (pc := 273) (tb_at tkX4_weigh 151 rfl) rfl rfl ?_
        refine r_get 4 0 (pc := 274) (tb_at tkX4_weigh 152 rfl) ly_19 flX4_36 rfl ?_
        refine r_get 5 6 (pc := 277) (tb_at tkX4_weigh 153 rfl) ly_1 flX4_89 rfl ?_
        refine r_iconst (pc := 280) (tb_at tkX4_weigh 154 rfl) ⟨by decide, by decide⟩ ?_
        refine r_iald_k (k0 := 2) (pc := 281) (tb_at tkX4_weigh 155 rfl) ly_8 rfl (by decide) (by decide) ?_
        refine r_imul (pc := 282) (tb_at tkX4_weigh 156 rfl) ?_
        refine r_iadd_lr (pc := 283) (tb_at tkX4_weigh 157 rfl) ?_
        refine r_aload_n (pc := 284) (tb_at tkX4_weigh 158 rfl) rfl rfl ?_
        refine r_get 4 0 (pc := 285) (tb_at tkX4_weigh 159 rfl) ly_19 flX4_36 rfl ?_
        refine r_get 5 6 (pc := 288) (tb_at tkX4_weigh 160 rfl) ly_1 flX4_89 rfl ?_
        refine r_iconst (pc := 291) (tb_at tkX4_weigh 161 rfl) ⟨by decide, by decide⟩ ?_
        refine r_iald_k (k0 := 1) (pc := 292) (tb_at tkX4_weigh 162 rfl) ly_8 rfl (by decide) (by decide) ?_
        refine r_aload_n (pc := 293) (tb_at tkX4_weigh 163 rfl) rfl rfl ?_
        refine r_get 4 0 (pc := 294) (tb_at tkX4_weigh 164 rfl) ly_19 flX4_36 rfl ?_
        refine r_get 5 3 (pc := 297) (tb_at tkX4_weigh 165 rfl) ly_1 flX4_73 rfl ?_
        refine r_iload_n (pc := 300) (tb_at tkX4_weigh 166 rfl) rfl rfl ?_
        refine r_iald (pc := 301) (tb_at tkX4_weigh 167 rfl) ly_5 h.1.1 h.1.2 ?_
        replace h := h.2
        refine r_aload_n (pc := 302) (tb_at tkX4_weigh 168 rfl) rfl rfl ?_
        refine r_get 4 0 (pc := 303) (tb_at tkX4_weigh 169 rfl) ly_19 flX4_36 rfl ?_
        refine r_get 5 2 (pc := 306) (tb_at tkX4_weigh 170 rfl) ly_1 flX4_64 rfl ?_
        refine r_iload_n (pc := 309) (tb_at tkX4_weigh 171 rfl) rfl rfl ?_
        refine r_iald (pc := 310) (tb_at tkX4_weigh 172 rfl) ly_4 h.1.1 h.1.2 ?_
        replace h := h.2
        refine r_isub (pc := 311) (tb_at tkX4_weigh 173 rfl) ?_
        refine r_imul_r (pc := 312) (tb_at tkX4_weigh 174 rfl) ?_
        refine r_iadd_lr (pc := 313) (tb_at tkX4_weigh 175 rfl) ?_
        refine r_iast (pc := 314) (tb_at tkX4_weigh 176 rfl) ly_24 h.1.1 h.1.2 rfl ?_
        replace h := h.2
        exact r_vret (pc := 315) (tb_at tkX4_weigh 177 rfl) rfl (Nat.le_refl _) (Nat.le_refl _) ⟨rfl, rfl, h⟩
  · replace h := h.2 c
    refine r_aload_n (pc := 38) (tb_at tkX4_weigh 24 rfl) rfl rfl ?_
    refine r_get 4 1 (pc := 39) (tb_at tkX4_weigh 25 rfl) ly_19 flX4_9 rfl ?_
    refine r_iload (pc := 42) (tb_at tkX4_weigh 26 rfl) rfl ?_
    refine r_iald (pc := 44) (tb_at tkX4_weigh 27 rfl) ly_20 h.1.1 h.1.2 ?_
    replace h := h.2
    refine r_istore (L' := [some (.inr (.inr (some 19))), some (.inl v1), some (.inl v2), some (.inl v3), some (.inl v4), some (.inl v5), some (.inl v6), some (.inl v7), some (.inl v8), some (.inl (M 20 (v8).toNat)), none]) (pc := 45) (tb_at tkX4_weigh 28 rfl) (by decide) rfl ?_
    refine r_iload_n (pc := 47) (tb_at tkX4_weigh 29 rfl) rfl rfl ?_
    refine r_iload (pc := 48) (tb_at tkX4_weigh 30 rfl) rfl ?_
    refine r_ishr (pc := 50) (tb_at tkX4_weigh 31 rfl) ?_
    refine r_iconst (pc := 51) (tb_at tkX4_weigh 32 rfl) ⟨by decide, by decide⟩ ?_
    refine r_iand (pc := 52) (tb_at tkX4_weigh 33 rfl) ?_
    refine q_if_ne (tgt := 59) (pc := 53) (tb_at tkX4_weigh 34 rfl) (by decide) (fun c => ?_) (fun c => ?_)
    · replace h := h.1 c
      refine r_iload_n (pc := 59) (tb_at tkX4_weigh 36 rfl) rfl rfl ?_
      refine r_iconst (pc := 60) (tb_at tkX4_weigh 37 rfl) ⟨by decide, by decide⟩ ?_
      refine q_icmp_ne (tgt := 68) (pc := 61) (tb_at tkX4_weigh 38 rfl) (by decide) (fun c => ?_) (fun c => ?_)
      · replace h := h.1 c
        refine r_aload_n (pc := 68) (tb_at tkX4_weigh 41 rfl) rfl rfl ?_
        refine r_get 4 2 (pc := 69) (tb_at tkX4_weigh 42 rfl) ly_19 flX4_15 rfl ?_
        refine r_iload_n (pc := 72) (tb_at tkX4_weigh 43 rfl) rfl rfl ?_
        refine r_bipush (pc := 73) (tb_at tkX4_weigh 44 rfl) ⟨by decide, by decide, by decide⟩ ?_
        refine r_imul (pc := 75) (tb_at tkX4_weigh 45 rfl) ?_
        refine r_iload (pc := 76) (tb_at tkX4_weigh 46 rfl) rfl ?_
        refine r_iadd_l (pc := 78) (tb_at tkX4_weigh 47 rfl) ?_
        refine r_iald_w (pc := 79) (tb_at tkX4_weigh 48 rfl) ly_21 (by decide) h.1.1 h.1.2 ?_
        replace h := h.2
        exact h
      · replace h := h.2 c
        refine r_iconst (pc := 64) (tb_at tkX4_weigh 39 rfl) ⟨by decide, by decide⟩ ?_
        refine r_goto (tgt := 80) (pc := 65) (tb_at tkX4_weigh 40 rfl) (by decide) ?_
        exact h
    · replace h := h.2 c
      refine r_goto (tgt := 191) (pc := 56) (tb_at tkX4_weigh 35 rfl) (by decide) ?_
      refine r_iinc (L' := [some (.inr (.inr (some 19))), some (.inl v1), some (.inl v2), some (.inl v3), some (.inl v4), some (.inl v5), some (.inl v6), some (.inl v7), some (.inl (w32 (v8 + 1))), some (.inl (M 20 (v8).toNat)), none]) (pc := 191) (tb_at tkX4_weigh 105 rfl) rfl (by decide) rfl ?_
      refine r_goto (tgt := 26) (pc := 194) (tb_at tkX4_weigh 106 rfl) (by decide) ?_
      exact Ok.forget h (And.intro rfl (And.intro rfl (And.intro rfl (And.intro rfl (And.intro rfl (And.intro rfl (And.intro rfl (And.intro rfl (And.intro rfl trivial)))))))))
set_option maxRecDepth 100000 in
set_option maxHeartbeats 4000000 in
theorem gX4_weigh_80 {G : GE} {d : Nat} {K : Mem → Prop} {M : Mem} {v1 v2 v3 v4 v5 v6 v7 v8 v9 s0 : Int}  (h : ((¬ v3 = (-1) → ((¬ s0 = 0 → ((¬ s0 = 2 → CalI G miX4_isTight d [.inr (.inr (some 19)), .inl v3, .inl v9] M (fun x2 M1 => ((x2 = 0 → OkV G miX4_weigh (d + 1) K 151 [some (.inr (.inr (some 19))), some (.inl v1), some (.inl v2), none, some (.inl v4), some (.inl v5), some (.inl v6), some (.inl v7), some (.inl v8), some (.inl v9), none] [] M1) ∧ (¬ x2 = 0 → OkV G miX4_weigh (d + 1) K 151 [some (.inr (.inr (some 19))), some (.inl v1), some (.inl v2), none, some (.inl v4), some (.inl v5), some (.inl v6), some (.inl (w32 (v7 + 1))), some (.inl v8), some (.inl v9), none] [] M1)))) ∧ (s0 = 2 → (0 ≤ v9 ∧ v9 < 7) ∧ OkV G miX4_weigh (d + 1) K 151 [some (.inr (.inr (some 19))), some (.inl v1), some (.inl v2), none, some (.inl (M 4 (v9).toNat)), some (.inl 0), some (.inl (w32 (v6 + 1))), some (.inl v7), some (.inl v8), some (.inl v9), none] [] M))) ∧ (s0 = 0 → K M))) ∧ (v3 = (-1) → (0 ≤ v9 ∧ v9 < 7) ∧ OkV G miX4_weigh (d + 1) K 151 [some (.inr (.inr (some 19))), some (.inl v1), some (.inl v9), none, some (.inl (M 4 (v9).toNat)), some (.inl v5), some (.inl v6), some (.inl v7), some (.inl v8), some (.inl v9), none] [] M))) : OkV G miX4_weigh (d + 1) K 80 [some (.inr (.inr (some 19))), some (.inl v1), some (.inl v2), some (.inl v3), some (.inl v4), some (.inl v5), some (.inl v6), some (.inl v7), some (.inl v8), some (.inl v9), none] [.inl s0] M := by
  refine r_istore (L' := [some (.inr (.inr (some 19))), some (.inl v1), some (.inl v2), some (.inl v3), some (.inl v4), some (.inl v5), some (.inl v6), some (.inl v7), some (.inl v8), some (.inl v9), some (.inl s0)]) (pc := 80) (tb_at tkX4_weigh 49 rfl) (by decide) rfl ?_
  refine r_iload_n (pc := 82) (tb_at tkX4_weigh 50 rfl) rfl rfl ?_
  refine r_iconst (pc := 83) (tb_at tkX4_weigh 51 rfl) ⟨by decide, by decide⟩ ?_
  refine q_icmp_ne (tgt := 105) (pc := 84) (tb_at tkX4_weigh 52 rfl) (by decide) (fun c => ?_) (fun c => ?_)
  · replace h := h.1 c
    refine r_iload (pc := 105) (tb_at tkX4_weigh 62 rfl) rfl ?_
    refine q_if_ne (tgt := 111) (pc := 107) (tb_at tkX4_weigh 63 rfl) (by decide) (fun c => ?_) (fun c => ?_)
    · replace h := h.1 c
      refine r_iload (pc := 111) (tb_at tkX4_weigh 65 rfl) rfl ?_
      refine r_iconst (pc := 113) (tb_at tkX4_weigh 66 rfl) ⟨by decide, by decide⟩ ?_
      refine q_icmp_ne (tgt := 138) (pc := 114) (tb_at tkX4_weigh 67 rfl) (by decide) (fun c => ?_) (fun c => ?_)
      · replace h := h.1 c
        refine r_aload_n (pc := 138) (tb_at tkX4_weigh 78 rfl) rfl rfl ?_
        refine r_iload_n (pc := 139) (tb_at tkX4_weigh 79 rfl) rfl rfl ?_
        refine r_iload (pc := 140) (tb_at tkX4_weigh 80 rfl) rfl ?_
        refine r_invV (mc' := 0) (ms' := 0) [.inl v3, .inl v9] (S := []) (pc := 142) (tb_at tkX4_weigh 81 rfl) rfl ly_19 rfl rfl clX4_92 (Nat.le_of_ble_eq_true rfl) (Nat.le_refl _) (Nat.le_refl _) ?_
        refine Cal.mono h ?_
        rintro _ _ M1 ⟨x2, rfl, rfl, h⟩
        show OkV G miX4_weigh (d + 1) K 145 [some (.inr (.inr (some 19))), some (.inl v1), some (.inl v2), some (.inl v3), some (.inl v4), some (.inl v5), some (.inl v6), some (.inl v7), some (.inl v8), some (.inl v9), some (.inl s0)] [.inl x2] M1
        refine q_if_eq (tgt := 151) (pc := 145) (tb_at tkX4_weigh 82 rfl) (by decide) (fun c => ?_) (fun c => ?_)
        · replace h := h.1 c
          exact Ok.forget h (And.intro rfl (And.intro rfl (And.intro rfl (And.intro rfl (And.intro rfl (And.intro rfl (And.intro rfl (And.intro rfl (And.intro rfl trivial)))))))))
        · replace h := h.2 c
          refine r_iinc (L' := [some (.inr (.inr (some 19))), some (.inl v1), some (.inl v2), some (.inl v3), some (.inl v4), some (.inl v5), some (.inl v6), some (.inl (w32 (v7 + 1))), some (.inl v8), some (.inl v9), some (.inl s0)]) (pc := 148) (tb_at tkX4_weigh 83 rfl) rfl (by decide) rfl ?_
          exact Ok.forget h (And.intro rfl (And.intro rfl (And.intro rfl (And.intro rfl (And.intro rfl (And.intro rfl (And.intro rfl (And.intro rfl (And.intro rfl trivial)))))))))
      · replace h := h.2 c
        refine r_iinc (L' := [some (.inr (.inr (some 19))), some (.inl v1), some (.inl v2), some (.inl v3), some (.inl v4), some (.inl v5), some (.inl (w32 (v6 + 1))), some (.inl v7), some (.inl v8), some (.inl v9), some (.inl s0)]) (pc := 117) (tb_at tkX4_weigh 68 rfl) rfl (by decide) rfl ?_
        refine r_iconst (pc := 120) (tb_at tkX4_weigh 69 rfl) ⟨by decide, by decide⟩ ?_
        refine r_istore (L' := [some (.inr (.inr (some 19))), some (.inl v1), some (.inl v2), some (.inl v3), some (.inl v4), some (.inl 0), some (.inl (w32 (v6 + 1))), some (.inl v7), some (.inl v8), some (.inl v9), some (.inl s0)]) (pc := 121) (tb_at tkX4_weigh 70 rfl) (by decide) rfl ?_
        refine r_aload_n (pc := 123) (tb_at tkX4_weigh 71 rfl) rfl rfl ?_
        refine r_get 4 0 (pc := 124) (tb_at tkX4_weigh 72 rfl) ly_19 flX4_36 rfl ?_
        refine r_get 5 2 (pc := 127) (tb_at tkX4_weigh 73 rfl) ly_1 flX4_64 rfl ?_
        refine r_iload (pc := 130) (tb_at tkX4_weigh 74 rfl) rfl ?_
        refine r_iald (pc := 132) (tb_at tkX4_weigh 75 rfl) ly_4 h.1.1 h.1.2 ?_
        replace h := h.2
        refine r_istore (L' := [some (.inr (.inr (some 19))), some (.inl v1), some (.inl v2), some (.inl v3), some (.inl (M 4 (v9).toNat)), some (.inl 0), some (.inl (w32 (v6 + 1))), some (.inl v7), some (.inl v8), some (.inl v9), some (.inl s0)]) (pc := 133) (tb_at tkX4_weigh 76 rfl) (by decide) rfl ?_
        refine r_goto (tgt := 151) (pc := 135) (tb_at tkX4_weigh 77 rfl) (by decide) ?_
        exact Ok.forget h (And.intro rfl (And.intro rfl (And.intro rfl (And.intro rfl (And.intro rfl (And.intro rfl (And.intro rfl (And.intro rfl (And.intro rfl trivial)))))))))
    · replace h := h.2 c
      exact r_vret (pc := 110) (tb_at tkX4_weigh 64 rfl) rfl (Nat.le_refl _) (Nat.le_refl _) ⟨rfl, rfl, h⟩
  · replace h := h.2 c
    refine r_iload (pc := 87) (tb_at tkX4_weigh 53 rfl) rfl ?_
    refine r_istore_n (L' := [some (.inr (.inr (some 19))), some (.inl v1), some (.inl v9), some (.inl v3), some (.inl v4), some (.inl v5), some (.inl v6), some (.inl v7), some (.inl v8), some (.inl v9), some (.inl s0)]) (pc := 89) (tb_at tkX4_weigh 54 rfl) rfl (by decide) rfl ?_
    refine r_aload_n (pc := 90) (tb_at tkX4_weigh 55 rfl) rfl rfl ?_
    refine r_get 4 0 (pc := 91) (tb_at tkX4_weigh 56 rfl) ly_19 flX4_36 rfl ?_
    refine r_get 5 2 (pc := 94) (tb_at tkX4_weigh 57 rfl) ly_1 flX4_64 rfl ?_
    refine r_iload (pc := 97) (tb_at tkX4_weigh 58 rfl) rfl ?_
    refine r_iald (pc := 99) (tb_at tkX4_weigh 59 rfl) ly_4 h.1.1 h.1.2 ?_
    replace h := h.2
    refine r_istore (L' := [some (.inr (.inr (some 19))), some (.inl v1), some (.inl v9), some (.inl v3), some (.inl (M 4 (v9).toNat)), some (.inl v5), some (.inl v6), some (.inl v7), some (.inl v8), some (.inl v9), some (.inl s0)]) (pc := 100) (tb_at tkX4_weigh 60 rfl) (by decide) rfl ?_
    refine r_goto (tgt := 151) (pc := 102) (tb_at tkX4_weigh 61 rfl) (by decide) ?_
    exact Ok.forget h (And.intro rfl (And.intro rfl (And.intro rfl (And.intro rfl (And.intro rfl (And.intro rfl (And.intro rfl (And.intro rfl (And.intro rfl trivial)))))))))
set_option maxRecDepth 100000 in
set_option maxHeartbeats 4000000 in
theorem gX4_weigh_151 {G : GE} {d : Nat} {K : Mem → Prop} {M : Mem} {v1 v2 v4 v5 v6 v7 v8 v9 : Int}  (h : (0 ≤ v2 ∧ v2 < 7) ∧ (0 ≤ v9 ∧ v9 < 7) ∧ CalI G miX4_isLawful d [.inr (.inr (some 19)), .inl (M 2 (v2).toNat), .inl v6, .inl (w32 (v5 + 1)), .inl (w32 ((M 5 (v9).toNat) - v4))] M (fun x2 M1 => ((¬ x2 = 0 → OkV G miX4_weigh (d + 1) K 26 [some (.inr (.inr (some 19))), some (.inl v1), some (.inl v2), some (.inl v9), some (.inl v4), some (.inl (w32 (v5 + 1))), some (.inl v6), some (.inl v7), some (.inl (w32 (v8 + 1))), none, none] [] M1) ∧ (x2 = 0 → K M1)))) : OkV G miX4_weigh (d + 1) K 151 [some (.inr (.inr (some 19))), some (.inl v1), some (.inl v2), none, some (.inl v4), some (.inl v5), some (.inl v6), some (.inl v7), some (.inl v8), some (.inl v9), none] [] M := by
  refine r_iinc (L' := [some (.inr (.inr (some 19))), some (.inl v1), some (.inl v2), none, some (.inl v4), some (.inl (w32 (v5 + 1))), some (.inl v6), some (.inl v7), some (.inl v8), some (.inl v9), none]) (pc := 151) (tb_at tkX4_weigh 84 rfl) rfl (by decide) rfl ?_
  refine r_aload_n (pc := 154) (tb_at tkX4_weigh 85 rfl) rfl rfl ?_
  refine r_aload_n (pc := 155) (tb_at tkX4_weigh 86 rfl) rfl rfl ?_
  refine r_get 4 0 (pc := 156) (tb_at tkX4_weigh 87 rfl) ly_19 flX4_36 rfl ?_
  refine r_get 5 0 (pc := 159) (tb_at tkX4_weigh 88 rfl) ly_1 flX4_70 rfl ?_
  refine r_iload_n (pc := 162) (tb_at tkX4_weigh 89 rfl) rfl rfl ?_
  refine r_iald (pc := 163) (tb_at tkX4_weigh 90 rfl) ly_2 h.1.1 h.1.2 ?_
  replace h := h.2
  refine r_iload (pc := 164) (tb_at tkX4_weigh 91 rfl) rfl ?_
  refine r_iload (pc := 166) (tb_at tkX4_weigh 92 rfl) rfl ?_
  refine r_aload_n (pc := 168) (tb_at tkX4_weigh 93 rfl) rfl rfl ?_
  refine r_get 4 0 (pc := 169) (tb_at tkX4_weigh 94 rfl) ly_19 flX4_36 rfl ?_
  refine r_get 5 3 (pc := 172) (tb_at tkX4_weigh 95 rfl) ly_1 flX4_73 rfl ?_
  refine r_iload (pc := 175) (tb_at tkX4_weigh 96 rfl) rfl ?_
  refine r_iald (pc := 177) (tb_at tkX4_weigh 97 rfl) ly_5 h.1.1 h.1.2 ?_
  replace h := h.2
  refine r_iload (pc := 178) (tb_at tkX4_weigh 98 rfl) rfl ?_
  refine r_isub (pc := 180) (tb_at tkX4_weigh 99 rfl) ?_
  refine r_invV (mc' := 0) (ms' := 0) [.inl (M 2 (v2).toNat), .inl v6, .inl (w32 (v5 + 1)), .inl (w32 ((M 5 (v9).toNat) - v4))] (S := []) (pc := 181) (tb_at tkX4_weigh 100 rfl) rfl ly_19 rfl rfl clX4_96 (Nat.le_of_ble_eq_true rfl) (Nat.le_refl _) (Nat.le_refl _) ?_
  refine Cal.mono h ?_
  rintro _ _ M1 ⟨x2, rfl, rfl, h⟩
  show OkV G miX4_weigh (d + 1) K 184 [some (.inr (.inr (some 19))), some (.inl v1), some (.inl v2), none, some (.inl v4), some (.inl (w32 (v5 + 1))), some (.inl v6), some (.inl v7), some (.inl v8), some (.inl v9), none] [.inl x2] M1
  refine q_if_ne (tgt := 188) (pc := 184) (tb_at tkX4_weigh 101 rfl) (by decide) (fun c => ?_) (fun c => ?_)
  · replace h := h.1 c
    refine r_iload (pc := 188) (tb_at tkX4_weigh 103 rfl) rfl ?_
    refine r_istore_n (L' := [some (.inr (.inr (some 19))), some (.inl v1), some (.inl v2), some (.inl v9), some (.inl v4), some (.inl (w32 (v5 + 1))), some (.inl v6), some (.inl v7), some (.inl v8), some (.inl v9), none]) (pc := 190) (tb_at tkX4_weigh 104 rfl) rfl (by decide) rfl ?_
    refine r_iinc (L' := [some (.inr (.inr (some 19))), some (.inl v1), some (.inl v2), some (.inl v9), some (.inl v4), some (.inl (w32 (v5 + 1))), some (.inl v6), some (.inl v7), some (.inl (w32 (v8 + 1))), some (.inl v9), none]) (pc := 191) (tb_at tkX4_weigh 105 rfl) rfl (by decide) rfl ?_
    refine r_goto (tgt := 26) (pc := 194) (tb_at tkX4_weigh 106 rfl) (by decide) ?_
    exact Ok.forget h (And.intro rfl (And.intro rfl (And.intro rfl (And.intro rfl (And.intro rfl (And.intro rfl (And.intro rfl (And.intro rfl (And.intro rfl trivial)))))))))
  · replace h := h.2 c
    exact r_vret (pc := 187) (tb_at tkX4_weigh 102 rfl) rfl (Nat.le_refl _) (Nat.le_refl _) ⟨rfl, rfl, h⟩
set_option maxRecDepth 100000 in
set_option maxHeartbeats 4000000 in
theorem gX4_isLawful_0 {G : GE} {d : Nat} {K : Int → Mem → Prop} {M : Mem} {v1 v2 v3 v4 : Int}  (h : CalI G miX5_isBase d [.inr (.inr (some 1)), .inl v1] M (fun x2 M1 => ((x2 = 0 → K 0 M1) ∧ (¬ x2 = 0 → CalI G miX5_dutiesOf d [.inr (.inr (some 1)), .inl v1] M1 (fun x4 M3 => ((x4 < v2 → K 0 M3) ∧ (v2 ≤ x4 → CalI G miX5_legsOf d [.inr (.inr (some 1)), .inl v1] M3 (fun x6 M5 => ((x6 < v3 → K 0 M5) ∧ (v3 ≤ x6 → CalI G miX5_spanOf d [.inr (.inr (some 1)), .inl v1] M5 (fun x8 M7 => ((x8 < v4 → K 0 M7) ∧ (v4 ≤ x8 → K 1 M7))))))))))))) : OkI G miX4_isLawful (d + 1) K 0 [some (.inr (.inr (some 19))), some (.inl v1), some (.inl v2), some (.inl v3), some (.inl v4)] [] M := by
  refine r_aload_n (pc := 0) (tb_at tkX4_isLawful 0 rfl) rfl rfl ?_
  refine r_get 4 0 (pc := 1) (tb_at tkX4_isLawful 1 rfl) ly_19 flX4_36 rfl ?_
  refine r_iload_n (pc := 4) (tb_at tkX4_isLawful 2 rfl) rfl rfl ?_
  refine r_invV (mc' := 0) (ms' := 0) [.inl v1] (S := []) (pc := 5) (tb_at tkX4_isLawful 3 rfl) rfl ly_1 rfl rfl clX4_100 (Nat.le_of_ble_eq_true rfl) (Nat.le_refl _) (Nat.le_refl _) ?_
  refine Cal.mono h ?_
  rintro _ _ M1 ⟨x2, rfl, rfl, h⟩
  show OkI G miX4_isLawful (d + 1) K 8 [some (.inr (.inr (some 19))), some (.inl v1), some (.inl v2), some (.inl v3), some (.inl v4)] [.inl x2] M1
  refine q_if_eq (tgt := 52) (pc := 8) (tb_at tkX4_isLawful 4 rfl) (by decide) (fun c => ?_) (fun c => ?_)
  · replace h := h.1 c
    refine r_iconst (pc := 52) (tb_at tkX4_isLawful 25 rfl) ⟨by decide, by decide⟩ ?_
    exact r_zret (pc := 53) (tb_at tkX4_isLawful 26 rfl) rfl (by decide) (Nat.le_refl _) (Nat.le_refl _) ⟨_, rfl, rfl, h⟩
  · replace h := h.2 c
    refine r_iload_n (pc := 11) (tb_at tkX4_isLawful 5 rfl) rfl rfl ?_
    refine r_aload_n (pc := 12) (tb_at tkX4_isLawful 6 rfl) rfl rfl ?_
    refine r_get 4 0 (pc := 13) (tb_at tkX4_isLawful 7 rfl) ly_19 flX4_36 rfl ?_
    refine r_iload_n (pc := 16) (tb_at tkX4_isLawful 8 rfl) rfl rfl ?_
    refine r_invV (mc' := 0) (ms' := 0) [.inl v1] (S := [.inl v2]) (pc := 17) (tb_at tkX4_isLawful 9 rfl) rfl ly_1 rfl rfl clX4_104 (Nat.le_of_ble_eq_true rfl) (Nat.le_refl _) (Nat.le_refl _) ?_
    refine Cal.mono h ?_
    rintro _ _ M3 ⟨x4, rfl, rfl, h⟩
    show OkI G miX4_isLawful (d + 1) K 20 [some (.inr (.inr (some 19))), some (.inl v1), some (.inl v2), some (.inl v3), some (.inl v4)] [.inl x4, .inl v2] M3
    refine q_icmp_gt (tgt := 52) (pc := 20) (tb_at tkX4_isLawful 10 rfl) (by decide) (fun c => ?_) (fun c => ?_)
    · replace h := h.1 c
      refine r_iconst (pc := 52) (tb_at tkX4_isLawful 25 rfl) ⟨by decide, by decide⟩ ?_
      exact r_zret (pc := 53) (tb_at tkX4_isLawful 26 rfl) rfl (by decide) (Nat.le_refl _) (Nat.le_refl _) ⟨_, rfl, rfl, h⟩
    · replace h := h.2 c
      refine r_iload_n (pc := 23) (tb_at tkX4_isLawful 11 rfl) rfl rfl ?_
      refine r_aload_n (pc := 24) (tb_at tkX4_isLawful 12 rfl) rfl rfl ?_
      refine r_get 4 0 (pc := 25) (tb_at tkX4_isLawful 13 rfl) ly_19 flX4_36 rfl ?_
      refine r_iload_n (pc := 28) (tb_at tkX4_isLawful 14 rfl) rfl rfl ?_
      refine r_invV (mc' := 0) (ms' := 0) [.inl v1] (S := [.inl v3]) (pc := 29) (tb_at tkX4_isLawful 15 rfl) rfl ly_1 rfl rfl clX4_107 (Nat.le_of_ble_eq_true rfl) (Nat.le_refl _) (Nat.le_refl _) ?_
      refine Cal.mono h ?_
      rintro _ _ M5 ⟨x6, rfl, rfl, h⟩
      show OkI G miX4_isLawful (d + 1) K 32 [some (.inr (.inr (some 19))), some (.inl v1), some (.inl v2), some (.inl v3), some (.inl v4)] [.inl x6, .inl v3] M5
      refine q_icmp_gt (tgt := 52) (pc := 32) (tb_at tkX4_isLawful 16 rfl) (by decide) (fun c => ?_) (fun c => ?_)
      · replace h := h.1 c
        refine r_iconst (pc := 52) (tb_at tkX4_isLawful 25 rfl) ⟨by decide, by decide⟩ ?_
        exact r_zret (pc := 53) (tb_at tkX4_isLawful 26 rfl) rfl (by decide) (Nat.le_refl _) (Nat.le_refl _) ⟨_, rfl, rfl, h⟩
      · replace h := h.2 c
        refine r_iload (pc := 35) (tb_at tkX4_isLawful 17 rfl) rfl ?_
        refine r_aload_n (pc := 37) (tb_at tkX4_isLawful 18 rfl) rfl rfl ?_
        refine r_get 4 0 (pc := 38) (tb_at tkX4_isLawful 19 rfl) ly_19 flX4_36 rfl ?_
        refine r_iload_n (pc := 41) (tb_at tkX4_isLawful 20 rfl) rfl rfl ?_
        refine r_invV (mc' := 0) (ms' := 0) [.inl v1] (S := [.inl v4]) (pc := 42) (tb_at tkX4_isLawful 21 rfl) rfl ly_1 rfl rfl clX4_110 (Nat.le_of_ble_eq_true rfl) (Nat.le_refl _) (Nat.le_refl _) ?_
        refine Cal.mono h ?_
        rintro _ _ M7 ⟨x8, rfl, rfl, h⟩
        show OkI G miX4_isLawful (d + 1) K 45 [some (.inr (.inr (some 19))), some (.inl v1), some (.inl v2), some (.inl v3), some (.inl v4)] [.inl x8, .inl v4] M7
        refine q_icmp_gt (tgt := 52) (pc := 45) (tb_at tkX4_isLawful 22 rfl) (by decide) (fun c => ?_) (fun c => ?_)
        · replace h := h.1 c
          refine r_iconst (pc := 52) (tb_at tkX4_isLawful 25 rfl) ⟨by decide, by decide⟩ ?_
          exact r_zret (pc := 53) (tb_at tkX4_isLawful 26 rfl) rfl (by decide) (Nat.le_refl _) (Nat.le_refl _) ⟨_, rfl, rfl, h⟩
        · replace h := h.2 c
          refine r_iconst (pc := 48) (tb_at tkX4_isLawful 23 rfl) ⟨by decide, by decide⟩ ?_
          refine r_goto (tgt := 53) (pc := 49) (tb_at tkX4_isLawful 24 rfl) (by decide) ?_
          exact r_zret (pc := 53) (tb_at tkX4_isLawful 26 rfl) rfl (by decide) (Nat.le_refl _) (Nat.le_refl _) ⟨_, rfl, rfl, h⟩
set_option maxRecDepth 100000 in
set_option maxHeartbeats 4000000 in
theorem gX4_followers_0 {G : GE} {d : Nat} {K : Int → Mem → Prop} {M : Mem} {v1 v2 : Int}  (h : OkI G miX4_followers d K 5 [some (.inr (.inr (some 19))), some (.inl v1), some (.inl v2), some (.inl 0), some (.inl 0)] [] M) : OkI G miX4_followers d K 0 [some (.inr (.inr (some 19))), some (.inl v1), some (.inl v2), none, none] [] M := by
  refine r_iconst (pc := 0) (tb_at tkX4_followers 0 rfl) ⟨by decide, by decide⟩ ?_
  refine r_istore_n (L' := [some (.inr (.inr (some 19))), some (.inl v1), some (.inl v2), some (.inl 0), none]) (pc := 1) (tb_at tkX4_followers 1 rfl) rfl (by decide) rfl ?_
  refine r_iconst (pc := 2) (tb_at tkX4_followers 2 rfl) ⟨by decide, by decide⟩ ?_
  refine r_istore (L' := [some (.inr (.inr (some 19))), some (.inl v1), some (.inl v2), some (.inl 0), some (.inl 0)]) (pc := 3) (tb_at tkX4_followers 3 rfl) (by decide) rfl ?_
  exact h
set_option maxRecDepth 100000 in
set_option maxHeartbeats 4000000 in
theorem gX4_followers_5 {G : GE} {d : Nat} {K : Int → Mem → Prop} {M : Mem} {v1 v2 v3 v4 : Int}  (h : (((M 1 8) ≤ v4 → K v3 M) ∧ (v4 < (M 1 8) → (0 ≤ (v1 * 7) + v4 ∧ (v1 * 7) + v4 < 49) ∧ ((¬ (M 21 ((v1 * 7) + v4).toNat) = v2 → OkI G miX4_followers d K 5 [some (.inr (.inr (some 19))), some (.inl v1), some (.inl v2), some (.inl v3), some (.inl (w32 (v4 + 1)))] [] M) ∧ ((M 21 ((v1 * 7) + v4).toNat) = v2 → OkI G miX4_followers d K 5 [some (.inr (.inr (some 19))), some (.inl v1), some (.inl v2), some (.inl (ior v3 (ishl 1 v4))), some (.inl (w32 (v4 + 1)))] [] M))))) : OkI G miX4_followers d K 5 [some (.inr (.inr (some 19))), some (.inl v1), some (.inl v2), some (.inl v3), some (.inl v4)] [] M := by
  refine r_iload (pc := 5) (tb_at tkX4_followers 4 rfl) rfl ?_
  refine r_aload_n (pc := 7) (tb_at tkX4_followers 5 rfl) rfl rfl ?_
  refine r_get 4 0 (pc := 8) (tb_at tkX4_followers 6 rfl) ly_19 flX4_36 rfl ?_
  refine r_get 5 8 (pc := 11) (tb_at tkX4_followers 7 rfl) ly_1 flX4_43 rfl ?_
  refine q_icmp_ge (tgt := 46) (pc := 14) (tb_at tkX4_followers 8 rfl) (by decide) (fun c => ?_) (fun c => ?_)
  · replace h := h.1 c
    refine r_iload_n (pc := 46) (tb_at tkX4_followers 27 rfl) rfl rfl ?_
    exact r_iret (pc := 47) (tb_at tkX4_followers 28 rfl) rfl (Nat.le_refl _) (Nat.le_refl _) ⟨_, rfl, rfl, h⟩
  · replace h := h.2 c
    refine r_aload_n (pc := 17) (tb_at tkX4_followers 9 rfl) rfl rfl ?_
    refine r_get 4 2 (pc := 18) (tb_at tkX4_followers 10 rfl) ly_19 flX4_15 rfl ?_
    refine r_iload_n (pc := 21) (tb_at tkX4_followers 11 rfl) rfl rfl ?_
    refine r_bipush (pc := 22) (tb_at tkX4_followers 12 rfl) ⟨by decide, by decide, by decide⟩ ?_
    refine r_imul (pc := 24) (tb_at tkX4_followers 13 rfl) ?_
    refine r_iload (pc := 25) (tb_at tkX4_followers 14 rfl) rfl ?_
    refine r_iadd_l (pc := 27) (tb_at tkX4_followers 15 rfl) ?_
    refine r_iald_w (pc := 28) (tb_at tkX4_followers 16 rfl) ly_21 (by decide) h.1.1 h.1.2 ?_
    replace h := h.2
    refine r_iload_n (pc := 29) (tb_at tkX4_followers 17 rfl) rfl rfl ?_
    refine q_icmp_ne (tgt := 40) (pc := 30) (tb_at tkX4_followers 18 rfl) (by decide) (fun c => ?_) (fun c => ?_)
    · replace h := h.1 c
      refine r_iinc (L' := [some (.inr (.inr (some 19))), some (.inl v1), some (.inl v2), some (.inl v3), some (.inl (w32 (v4 + 1)))]) (pc := 40) (tb_at tkX4_followers 25 rfl) rfl (by decide) rfl ?_
      refine r_goto (tgt := 5) (pc := 43) (tb_at tkX4_followers 26 rfl) (by decide) ?_
      exact h
    · replace h := h.2 c
      refine r_iload_n (pc := 33) (tb_at tkX4_followers 19 rfl) rfl rfl ?_
      refine r_iconst (pc := 34) (tb_at tkX4_followers 20 rfl) ⟨by decide, by decide⟩ ?_
      refine r_iload (pc := 35) (tb_at tkX4_followers 21 rfl) rfl ?_
      refine r_ishl (pc := 37) (tb_at tkX4_followers 22 rfl) ?_
      refine r_ior (pc := 38) (tb_at tkX4_followers 23 rfl) ?_
      refine r_istore_n (L' := [some (.inr (.inr (some 19))), some (.inl v1), some (.inl v2), some (.inl (ior v3 (ishl 1 v4))), some (.inl v4)]) (pc := 39) (tb_at tkX4_followers 24 rfl) rfl (by decide) rfl ?_
      refine r_iinc (L' := [some (.inr (.inr (some 19))), some (.inl v1), some (.inl v2), some (.inl (ior v3 (ishl 1 v4))), some (.inl (w32 (v4 + 1)))]) (pc := 40) (tb_at tkX4_followers 25 rfl) rfl (by decide) rfl ?_
      refine r_goto (tgt := 5) (pc := 43) (tb_at tkX4_followers 26 rfl) (by decide) ?_
      exact h
set_option maxRecDepth 100000 in
set_option maxHeartbeats 4000000 in
theorem gX4_tightFollowers_0 {G : GE} {d : Nat} {K : Int → Mem → Prop} {M : Mem} {v1 : Int}  (h : OkI G miX4_tightFollowers (d + 1) K 4 [some (.inr (.inr (some 19))), some (.inl v1), some (.inl 0), some (.inl 0)] [] M) : OkI G miX4_tightFollowers (d + 1) K 0 [some (.inr (.inr (some 19))), some (.inl v1), none, none] [] M := by
  refine r_iconst (pc := 0) (tb_at tkX4_tightFollowers 0 rfl) ⟨by decide, by decide⟩ ?_
  refine r_istore_n (L' := [some (.inr (.inr (some 19))), some (.inl v1), some (.inl 0), none]) (pc := 1) (tb_at tkX4_tightFollowers 1 rfl) rfl (by decide) rfl ?_
  refine r_iconst (pc := 2) (tb_at tkX4_tightFollowers 2 rfl) ⟨by decide, by decide⟩ ?_
  refine r_istore_n (L' := [some (.inr (.inr (some 19))), some (.inl v1), some (.inl 0), some (.inl 0)]) (pc := 3) (tb_at tkX4_tightFollowers 3 rfl) rfl (by decide) rfl ?_
  exact h
set_option maxRecDepth 100000 in
set_option maxHeartbeats 4000000 in
theorem gX4_tightFollowers_4 {G : GE} {d : Nat} {K : Int → Mem → Prop} {M : Mem} {v1 v2 v3 : Int}  (h : (((M 1 8) ≤ v3 → K v2 M) ∧ (v3 < (M 1 8) → CalI G miX4_isTight d [.inr (.inr (some 19)), .inl v1, .inl v3] M (fun x2 M1 => ((x2 = 0 → OkI G miX4_tightFollowers (d + 1) K 4 [some (.inr (.inr (some 19))), some (.inl v1), some (.inl v2), some (.inl (w32 (v3 + 1)))] [] M1) ∧ (¬ x2 = 0 → OkI G miX4_tightFollowers (d + 1) K 4 [some (.inr (.inr (some 19))), some (.inl v1), some (.inl (ior v2 (ishl 1 v3))), some (.inl (w32 (v3 + 1)))] [] M1)))))) : OkI G miX4_tightFollowers (d + 1) K 4 [some (.inr (.inr (some 19))), some (.inl v1), some (.inl v2), some (.inl v3)] [] M := by
  refine r_iload_n (pc := 4) (tb_at tkX4_tightFollowers 4 rfl) rfl rfl ?_
  refine r_aload_n (pc := 5) (tb_at tkX4_tightFollowers 5 rfl) rfl rfl ?_
  refine r_get 4 0 (pc := 6) (tb_at tkX4_tightFollowers 6 rfl) ly_19 flX4_36 rfl ?_
  refine r_get 5 8 (pc := 9) (tb_at tkX4_tightFollowers 7 rfl) ly_1 flX4_43 rfl ?_
  refine q_icmp_ge (tgt := 36) (pc := 12) (tb_at tkX4_tightFollowers 8 rfl) (by decide) (fun c => ?_) (fun c => ?_)
  · replace h := h.1 c
    refine r_iload_n (pc := 36) (tb_at tkX4_tightFollowers 22 rfl) rfl rfl ?_
    exact r_iret (pc := 37) (tb_at tkX4_tightFollowers 23 rfl) rfl (Nat.le_refl _) (Nat.le_refl _) ⟨_, rfl, rfl, h⟩
  · replace h := h.2 c
    refine r_aload_n (pc := 15) (tb_at tkX4_tightFollowers 9 rfl) rfl rfl ?_
    refine r_iload_n (pc := 16) (tb_at tkX4_tightFollowers 10 rfl) rfl rfl ?_
    refine r_iload_n (pc := 17) (tb_at tkX4_tightFollowers 11 rfl) rfl rfl ?_
    refine r_invV (mc' := 0) (ms' := 0) [.inl v1, .inl v3] (S := []) (pc := 18) (tb_at tkX4_tightFollowers 12 rfl) rfl ly_19 rfl rfl clX4_92 (Nat.le_of_ble_eq_true rfl) (Nat.le_refl _) (Nat.le_refl _) ?_
    refine Cal.mono h ?_
    rintro _ _ M1 ⟨x2, rfl, rfl, h⟩
    show OkI G miX4_tightFollowers (d + 1) K 21 [some (.inr (.inr (some 19))), some (.inl v1), some (.inl v2), some (.inl v3)] [.inl x2] M1
    refine q_if_eq (tgt := 30) (pc := 21) (tb_at tkX4_tightFollowers 13 rfl) (by decide) (fun c => ?_) (fun c => ?_)
    · replace h := h.1 c
      refine r_iinc (L' := [some (.inr (.inr (some 19))), some (.inl v1), some (.inl v2), some (.inl (w32 (v3 + 1)))]) (pc := 30) (tb_at tkX4_tightFollowers 20 rfl) rfl (by decide) rfl ?_
      refine r_goto (tgt := 4) (pc := 33) (tb_at tkX4_tightFollowers 21 rfl) (by decide) ?_
      exact h
    · replace h := h.2 c
      refine r_iload_n (pc := 24) (tb_at tkX4_tightFollowers 14 rfl) rfl rfl ?_
      refine r_iconst (pc := 25) (tb_at tkX4_tightFollowers 15 rfl) ⟨by decide, by decide⟩ ?_
      refine r_iload_n (pc := 26) (tb_at tkX4_tightFollowers 16 rfl) rfl rfl ?_
      refine r_ishl (pc := 27) (tb_at tkX4_tightFollowers 17 rfl) ?_
      refine r_ior (pc := 28) (tb_at tkX4_tightFollowers 18 rfl) ?_
      refine r_istore_n (L' := [some (.inr (.inr (some 19))), some (.inl v1), some (.inl (ior v2 (ishl 1 v3))), some (.inl v3)]) (pc := 29) (tb_at tkX4_tightFollowers 19 rfl) rfl (by decide) rfl ?_
      refine r_iinc (L' := [some (.inr (.inr (some 19))), some (.inl v1), some (.inl (ior v2 (ishl 1 v3))), some (.inl (w32 (v3 + 1)))]) (pc := 30) (tb_at tkX4_tightFollowers 20 rfl) rfl (by decide) rfl ?_
      refine r_goto (tgt := 4) (pc := 33) (tb_at tkX4_tightFollowers 21 rfl) (by decide) ?_
      exact h
set_option maxRecDepth 100000 in
set_option maxHeartbeats 4000000 in
theorem gX4_followCount_0 {G : GE} {d : Nat} {K : Int → Mem → Prop} {M : Mem}  (h : OkI G miX4_followCount (d + 1) K 4 [some (.inr (.inr (some 19))), some (.inl 0), some (.inl 0)] [] M) : OkI G miX4_followCount (d + 1) K 0 [some (.inr (.inr (some 19))), none, none] [] M := by
  refine r_iconst (pc := 0) (tb_at tkX4_followCount 0 rfl) ⟨by decide, by decide⟩ ?_
  refine r_istore_n (L' := [some (.inr (.inr (some 19))), some (.inl 0), none]) (pc := 1) (tb_at tkX4_followCount 1 rfl) rfl (by decide) rfl ?_
  refine r_iconst (pc := 2) (tb_at tkX4_followCount 2 rfl) ⟨by decide, by decide⟩ ?_
  refine r_istore_n (L' := [some (.inr (.inr (some 19))), some (.inl 0), some (.inl 0)]) (pc := 3) (tb_at tkX4_followCount 3 rfl) rfl (by decide) rfl ?_
  exact h
set_option maxRecDepth 100000 in
set_option maxHeartbeats 4000000 in
theorem gX4_followCount_4 {G : GE} {d : Nat} {K : Int → Mem → Prop} {M : Mem} {v1 v2 : Int}  (h : (((M 1 8) ≤ v2 → K v1 M) ∧ (v2 < (M 1 8) → CalI G miX4_followers d [.inr (.inr (some 19)), .inl v2, .inl 1] M (fun x2 M1 => CalI G miX4_followers d [.inr (.inr (some 19)), .inl v2, .inl 2] M1 (fun x4 M3 => CalI G miJ6_bitCount_0f7a4 d [.inl (ior x2 x4)] M3 (fun x6 M5 => OkI G miX4_followCount (d + 1) K 4 [some (.inr (.inr (some 19))), some (.inl (w32 (v1 + x6))), some (.inl (w32 (v2 + 1)))] [] M5)))))) : OkI G miX4_followCount (d + 1) K 4 [some (.inr (.inr (some 19))), some (.inl v1), some (.inl v2)] [] M := by
  refine r_iload_n (pc := 4) (tb_at tkX4_followCount 4 rfl) rfl rfl ?_
  refine r_aload_n (pc := 5) (tb_at tkX4_followCount 5 rfl) rfl rfl ?_
  refine r_get 4 0 (pc := 6) (tb_at tkX4_followCount 6 rfl) ly_19 flX4_36 rfl ?_
  refine r_get 5 8 (pc := 9) (tb_at tkX4_followCount 7 rfl) ly_1 flX4_43 rfl ?_
  refine q_icmp_ge (tgt := 40) (pc := 12) (tb_at tkX4_followCount 8 rfl) (by decide) (fun c => ?_) (fun c => ?_)
  · replace h := h.1 c
    refine r_iload_n (pc := 40) (tb_at tkX4_followCount 24 rfl) rfl rfl ?_
    exact r_iret (pc := 41) (tb_at tkX4_followCount 25 rfl) rfl (Nat.le_refl _) (Nat.le_refl _) ⟨_, rfl, rfl, h⟩
  · replace h := h.2 c
    refine r_iload_n (pc := 15) (tb_at tkX4_followCount 9 rfl) rfl rfl ?_
    refine r_aload_n (pc := 16) (tb_at tkX4_followCount 10 rfl) rfl rfl ?_
    refine r_iload_n (pc := 17) (tb_at tkX4_followCount 11 rfl) rfl rfl ?_
    refine r_iconst (pc := 18) (tb_at tkX4_followCount 12 rfl) ⟨by decide, by decide⟩ ?_
    refine r_invV (mc' := 0) (ms' := 0) [.inl v2, .inl 1] (S := [.inl v1]) (pc := 19) (tb_at tkX4_followCount 13 rfl) rfl ly_19 rfl rfl clX4_113 (Nat.le_of_ble_eq_true rfl) (Nat.le_refl _) (Nat.le_refl _) ?_
    refine Cal.mono h ?_
    rintro _ _ M1 ⟨x2, rfl, rfl, h⟩
    show OkI G miX4_followCount (d + 1) K 22 [some (.inr (.inr (some 19))), some (.inl v1), some (.inl v2)] [.inl x2, .inl v1] M1
    refine r_aload_n (pc := 22) (tb_at tkX4_followCount 14 rfl) rfl rfl ?_
    refine r_iload_n (pc := 23) (tb_at tkX4_followCount 15 rfl) rfl rfl ?_
    refine r_iconst (pc := 24) (tb_at tkX4_followCount 16 rfl) ⟨by decide, by decide⟩ ?_
    refine r_invV (mc' := 0) (ms' := 0) [.inl v2, .inl 2] (S := [.inl x2, .inl v1]) (pc := 25) (tb_at tkX4_followCount 17 rfl) rfl ly_19 rfl rfl clX4_113 (Nat.le_of_ble_eq_true rfl) (Nat.le_refl _) (Nat.le_refl _) ?_
    refine Cal.mono h ?_
    rintro _ _ M3 ⟨x4, rfl, rfl, h⟩
    show OkI G miX4_followCount (d + 1) K 28 [some (.inr (.inr (some 19))), some (.inl v1), some (.inl v2)] [.inl x4, .inl x2, .inl v1] M3
    refine r_ior (pc := 28) (tb_at tkX4_followCount 18 rfl) ?_
    refine r_invS (mc' := 0) (ms' := 0) [.inl (ior x2 x4)] (S := [.inl v1]) (pc := 29) (tb_at tkX4_followCount 19 rfl) rfl clX4_117 (Nat.le_of_ble_eq_true rfl) (Nat.le_refl _) (Nat.le_refl _) ?_
    refine Cal.mono h ?_
    rintro _ _ M5 ⟨x6, rfl, rfl, h⟩
    show OkI G miX4_followCount (d + 1) K 32 [some (.inr (.inr (some 19))), some (.inl v1), some (.inl v2)] [.inl x6, .inl v1] M5
    refine r_iadd (pc := 32) (tb_at tkX4_followCount 20 rfl) ?_
    refine r_istore_n (L' := [some (.inr (.inr (some 19))), some (.inl (w32 (v1 + x6))), some (.inl v2)]) (pc := 33) (tb_at tkX4_followCount 21 rfl) rfl (by decide) rfl ?_
    refine r_iinc (L' := [some (.inr (.inr (some 19))), some (.inl (w32 (v1 + x6))), some (.inl (w32 (v2 + 1)))]) (pc := 34) (tb_at tkX4_followCount 22 rfl) rfl (by decide) rfl ?_
    refine r_goto (tgt := 4) (pc := 37) (tb_at tkX4_followCount 23 rfl) (by decide) ?_
    exact h
