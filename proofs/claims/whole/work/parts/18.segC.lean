-- seg lemmas (by wip/gen/mk_seg.py 18.segC)
set_option maxRecDepth 100000 in
set_option maxHeartbeats 4000000 in
theorem gX5_hasFlight_0 {G : GE} {d : Nat} {K : Int → Mem → Prop} {M : Mem} {v1 : Int}  (h : ((v1 < 0 → K 0 M) ∧ (0 ≤ v1 → (((M 1 8) ≤ v1 → K 0 M) ∧ (v1 < (M 1 8) → K 1 M))))) : OkI G miX5_hasFlight d K 0 [some (.inr (.inr (some 1))), some (.inl v1)] [] M := by
  refine r_iload_n (pc := 0) (tb_at tkX5_hasFlight 0 rfl) rfl rfl ?_
  refine q_if_lt (tgt := 16) (pc := 1) (tb_at tkX5_hasFlight 1 rfl) (by decide) (fun c => ?_) (fun c => ?_)
  · replace h := h.1 c
    refine r_iconst (pc := 16) (tb_at tkX5_hasFlight 8 rfl) ⟨by decide, by decide⟩ ?_
    exact r_zret (pc := 17) (tb_at tkX5_hasFlight 9 rfl) rfl (by decide) (Nat.le_refl _) (Nat.le_refl _) ⟨_, rfl, rfl, h⟩
  · replace h := h.2 c
    refine r_iload_n (pc := 4) (tb_at tkX5_hasFlight 2 rfl) rfl rfl ?_
    refine r_aload_n (pc := 5) (tb_at tkX5_hasFlight 3 rfl) rfl rfl ?_
    refine r_get 5 8 (pc := 6) (tb_at tkX5_hasFlight 4 rfl) ly_1 flX5_36 rfl ?_
    refine q_icmp_ge (tgt := 16) (pc := 9) (tb_at tkX5_hasFlight 5 rfl) (by decide) (fun c => ?_) (fun c => ?_)
    · replace h := h.1 c
      refine r_iconst (pc := 16) (tb_at tkX5_hasFlight 8 rfl) ⟨by decide, by decide⟩ ?_
      exact r_zret (pc := 17) (tb_at tkX5_hasFlight 9 rfl) rfl (by decide) (Nat.le_refl _) (Nat.le_refl _) ⟨_, rfl, rfl, h⟩
    · replace h := h.2 c
      refine r_iconst (pc := 12) (tb_at tkX5_hasFlight 6 rfl) ⟨by decide, by decide⟩ ?_
      refine r_goto (tgt := 17) (pc := 13) (tb_at tkX5_hasFlight 7 rfl) (by decide) ?_
      exact r_zret (pc := 17) (tb_at tkX5_hasFlight 9 rfl) rfl (by decide) (Nat.le_refl _) (Nat.le_refl _) ⟨_, rfl, rfl, h⟩
set_option maxRecDepth 100000 in
set_option maxHeartbeats 4000000 in
theorem gX5_areTwo_0 {G : GE} {d : Nat} {K : Int → Mem → Prop} {M : Mem} {v1 v2 : Int}  (h : CalI G miX5_hasFlight d [.inr (.inr (some 1)), .inl v1] M (fun x2 M1 => ((x2 = 0 → K 0 M1) ∧ (¬ x2 = 0 → CalI G miX5_hasFlight d [.inr (.inr (some 1)), .inl v2] M1 (fun x4 M3 => ((x4 = 0 → K 0 M3) ∧ (¬ x4 = 0 → ((v1 = v2 → K 0 M3) ∧ (¬ v1 = v2 → K 1 M3))))))))) : OkI G miX5_areTwo (d + 1) K 0 [some (.inr (.inr (some 1))), some (.inl v1), some (.inl v2)] [] M := by
  refine r_aload_n (pc := 0) (tb_at tkX5_areTwo 0 rfl) rfl rfl ?_
  refine r_iload_n (pc := 1) (tb_at tkX5_areTwo 1 rfl) rfl rfl ?_
  refine r_invV (mc' := 0) (ms' := 0) [.inl v1] (S := []) (pc := 2) (tb_at tkX5_areTwo 2 rfl) rfl ly_1 rfl rfl clX5_46 (Nat.le_of_ble_eq_true rfl) (Nat.le_refl _) (Nat.le_refl _) ?_
  refine Cal.mono h ?_
  rintro _ _ M1 ⟨x2, rfl, rfl, h⟩
  show OkI G miX5_areTwo (d + 1) K 5 [some (.inr (.inr (some 1))), some (.inl v1), some (.inl v2)] [.inl x2] M1
  refine q_if_eq (tgt := 25) (pc := 5) (tb_at tkX5_areTwo 3 rfl) (by decide) (fun c => ?_) (fun c => ?_)
  · replace h := h.1 c
    refine r_iconst (pc := 25) (tb_at tkX5_areTwo 13 rfl) ⟨by decide, by decide⟩ ?_
    exact r_zret (pc := 26) (tb_at tkX5_areTwo 14 rfl) rfl (by decide) (Nat.le_refl _) (Nat.le_refl _) ⟨_, rfl, rfl, h⟩
  · replace h := h.2 c
    refine r_aload_n (pc := 8) (tb_at tkX5_areTwo 4 rfl) rfl rfl ?_
    refine r_iload_n (pc := 9) (tb_at tkX5_areTwo 5 rfl) rfl rfl ?_
    refine r_invV (mc' := 0) (ms' := 0) [.inl v2] (S := []) (pc := 10) (tb_at tkX5_areTwo 6 rfl) rfl ly_1 rfl rfl clX5_46 (Nat.le_of_ble_eq_true rfl) (Nat.le_refl _) (Nat.le_refl _) ?_
    refine Cal.mono h ?_
    rintro _ _ M3 ⟨x4, rfl, rfl, h⟩
    show OkI G miX5_areTwo (d + 1) K 13 [some (.inr (.inr (some 1))), some (.inl v1), some (.inl v2)] [.inl x4] M3
    refine q_if_eq (tgt := 25) (pc := 13) (tb_at tkX5_areTwo 7 rfl) (by decide) (fun c => ?_) (fun c => ?_)
    · replace h := h.1 c
      refine r_iconst (pc := 25) (tb_at tkX5_areTwo 13 rfl) ⟨by decide, by decide⟩ ?_
      exact r_zret (pc := 26) (tb_at tkX5_areTwo 14 rfl) rfl (by decide) (Nat.le_refl _) (Nat.le_refl _) ⟨_, rfl, rfl, h⟩
    · replace h := h.2 c
      refine r_iload_n (pc := 16) (tb_at tkX5_areTwo 8 rfl) rfl rfl ?_
      refine r_iload_n (pc := 17) (tb_at tkX5_areTwo 9 rfl) rfl rfl ?_
      refine q_icmp_eq (tgt := 25) (pc := 18) (tb_at tkX5_areTwo 10 rfl) (by decide) (fun c => ?_) (fun c => ?_)
      · replace h := h.1 c
        refine r_iconst (pc := 25) (tb_at tkX5_areTwo 13 rfl) ⟨by decide, by decide⟩ ?_
        exact r_zret (pc := 26) (tb_at tkX5_areTwo 14 rfl) rfl (by decide) (Nat.le_refl _) (Nat.le_refl _) ⟨_, rfl, rfl, h⟩
      · replace h := h.2 c
        refine r_iconst (pc := 21) (tb_at tkX5_areTwo 11 rfl) ⟨by decide, by decide⟩ ?_
        refine r_goto (tgt := 26) (pc := 22) (tb_at tkX5_areTwo 12 rfl) (by decide) ?_
        exact r_zret (pc := 26) (tb_at tkX5_areTwo 14 rfl) rfl (by decide) (Nat.le_refl _) (Nat.le_refl _) ⟨_, rfl, rfl, h⟩
set_option maxRecDepth 100000 in
set_option maxHeartbeats 4000000 in
theorem gX5_isSet_0 {G : GE} {d : Nat} {K : Int → Mem → Prop} {M : Mem} {v1 : Int}  (h : ((v1 ≤ 0 → K 0 M) ∧ (0 < v1 → CalI G miX5_allFlights d [.inr (.inr (some 1))] M (fun x2 M1 => ((x2 < v1 → K 0 M1) ∧ (v1 ≤ x2 → K 1 M1)))))) : OkI G miX5_isSet (d + 1) K 0 [some (.inr (.inr (some 1))), some (.inl v1)] [] M := by
  refine r_iload_n (pc := 0) (tb_at tkX5_isSet 0 rfl) rfl rfl ?_
  refine q_if_le (tgt := 16) (pc := 1) (tb_at tkX5_isSet 1 rfl) (by decide) (fun c => ?_) (fun c => ?_)
  · replace h := h.1 c
    refine r_iconst (pc := 16) (tb_at tkX5_isSet 8 rfl) ⟨by decide, by decide⟩ ?_
    exact r_zret (pc := 17) (tb_at tkX5_isSet 9 rfl) rfl (by decide) (Nat.le_refl _) (Nat.le_refl _) ⟨_, rfl, rfl, h⟩
  · replace h := h.2 c
    refine r_iload_n (pc := 4) (tb_at tkX5_isSet 2 rfl) rfl rfl ?_
    refine r_aload_n (pc := 5) (tb_at tkX5_isSet 3 rfl) rfl rfl ?_
    refine r_invV (mc' := 0) (ms' := 0) [] (S := [.inl v1]) (pc := 6) (tb_at tkX5_isSet 4 rfl) rfl ly_1 rfl rfl clX5_50 (Nat.le_of_ble_eq_true rfl) (Nat.le_refl _) (Nat.le_refl _) ?_
    refine Cal.mono h ?_
    rintro _ _ M1 ⟨x2, rfl, rfl, h⟩
    show OkI G miX5_isSet (d + 1) K 9 [some (.inr (.inr (some 1))), some (.inl v1)] [.inl x2, .inl v1] M1
    refine q_icmp_gt (tgt := 16) (pc := 9) (tb_at tkX5_isSet 5 rfl) (by decide) (fun c => ?_) (fun c => ?_)
    · replace h := h.1 c
      refine r_iconst (pc := 16) (tb_at tkX5_isSet 8 rfl) ⟨by decide, by decide⟩ ?_
      exact r_zret (pc := 17) (tb_at tkX5_isSet 9 rfl) rfl (by decide) (Nat.le_refl _) (Nat.le_refl _) ⟨_, rfl, rfl, h⟩
    · replace h := h.2 c
      refine r_iconst (pc := 12) (tb_at tkX5_isSet 6 rfl) ⟨by decide, by decide⟩ ?_
      refine r_goto (tgt := 17) (pc := 13) (tb_at tkX5_isSet 7 rfl) (by decide) ?_
      exact r_zret (pc := 17) (tb_at tkX5_isSet 9 rfl) rfl (by decide) (Nat.le_refl _) (Nat.le_refl _) ⟨_, rfl, rfl, h⟩
set_option maxRecDepth 100000 in
set_option maxHeartbeats 4000000 in
theorem gX5_allFlights_0 {G : GE} {d : Nat} {K : Int → Mem → Prop} {M : Mem}  (h : K (w32 ((ishl 1 (M 1 8)) - 1)) M) : OkI G miX5_allFlights d K 0 [some (.inr (.inr (some 1)))] [] M := by
  refine r_iconst (pc := 0) (tb_at tkX5_allFlights 0 rfl) ⟨by decide, by decide⟩ ?_
  refine r_aload_n (pc := 1) (tb_at tkX5_allFlights 1 rfl) rfl rfl ?_
  refine r_get 5 8 (pc := 2) (tb_at tkX5_allFlights 2 rfl) ly_1 flX5_36 rfl ?_
  refine r_ishl (pc := 5) (tb_at tkX5_allFlights 3 rfl) ?_
  refine r_iconst (pc := 6) (tb_at tkX5_allFlights 4 rfl) ⟨by decide, by decide⟩ ?_
  refine r_isub (pc := 7) (tb_at tkX5_allFlights 5 rfl) ?_
  exact r_iret (pc := 8) (tb_at tkX5_allFlights 6 rfl) rfl (Nat.le_refl _) (Nat.le_refl _) ⟨_, rfl, rfl, h⟩
set_option maxRecDepth 100000 in
set_option maxHeartbeats 4000000 in
theorem gX5_isBase_0 {G : GE} {d : Nat} {K : Int → Mem → Prop} {M : Mem} {v1 : Int}  (h : (((iand (ishr (M 1 9) v1) 1) = 0 → K 0 M) ∧ (¬ (iand (ishr (M 1 9) v1) 1) = 0 → K 1 M))) : OkI G miX5_isBase d K 0 [some (.inr (.inr (some 1))), some (.inl v1)] [] M := by
  refine r_aload_n (pc := 0) (tb_at tkX5_isBase 0 rfl) rfl rfl ?_
  refine r_get 5 9 (pc := 1) (tb_at tkX5_isBase 1 rfl) ly_1 flX5_40 rfl ?_
  refine r_iload_n (pc := 4) (tb_at tkX5_isBase 2 rfl) rfl rfl ?_
  refine r_ishr (pc := 5) (tb_at tkX5_isBase 3 rfl) ?_
  refine r_iconst (pc := 6) (tb_at tkX5_isBase 4 rfl) ⟨by decide, by decide⟩ ?_
  refine r_iand (pc := 7) (tb_at tkX5_isBase 5 rfl) ?_
  refine q_if_eq (tgt := 15) (pc := 8) (tb_at tkX5_isBase 6 rfl) (by decide) (fun c => ?_) (fun c => ?_)
  · replace h := h.1 c
    refine r_iconst (pc := 15) (tb_at tkX5_isBase 9 rfl) ⟨by decide, by decide⟩ ?_
    exact r_zret (pc := 16) (tb_at tkX5_isBase 10 rfl) rfl (by decide) (Nat.le_refl _) (Nat.le_refl _) ⟨_, rfl, rfl, h⟩
  · replace h := h.2 c
    refine r_iconst (pc := 11) (tb_at tkX5_isBase 7 rfl) ⟨by decide, by decide⟩ ?_
    refine r_goto (tgt := 16) (pc := 12) (tb_at tkX5_isBase 8 rfl) (by decide) ?_
    exact r_zret (pc := 16) (tb_at tkX5_isBase 10 rfl) rfl (by decide) (Nat.le_refl _) (Nat.le_refl _) ⟨_, rfl, rfl, h⟩
set_option maxRecDepth 100000 in
set_option maxHeartbeats 4000000 in
theorem gX5_addFlight_0 {G : GE} {d : Nat} {K : Int → Mem → Prop} {M : Mem} {v1 v2 v3 v4 : Int}  (h : (0 ≤ M 1 8 ∧ M 1 8 < 7) ∧ (0 ≤ M 1 8 ∧ M 1 8 < 7) ∧ CalV G miX5_setTimes d [.inr (.inr (some 1)), .inl (M 1 8), .inl v3, .inl v4] (mup (mup (mup M 2 (M 1 8).toNat v1) 3 (M 1 8).toNat v2) 1 8 (w32 (((mup (mup M 2 (M 1 8).toNat v1) 3 (M 1 8).toNat v2) 1 8) + 1))) (fun M1 => K (M 1 8) M1)) : OkI G miX5_addFlight (d + 1) K 0 [some (.inr (.inr (some 1))), some (.inl v1), some (.inl v2), some (.inl v3), some (.inl v4), none] [] M := by
  refine r_aload_n (pc := 0) (tb_at tkX5_addFlight 0 rfl) rfl rfl ?_
  refine r_get 5 8 (pc := 1) (tb_at tkX5_addFlight 1 rfl) ly_1 flX5_36 rfl ?_
  refine r_istore (L' := [some (.inr (.inr (some 1))), some (.inl v1), some (.inl v2), some (.inl v3), some (.inl v4), some (.inl (M 1 8))]) (pc := 4) (tb_at tkX5_addFlight 2 rfl) (by decide) rfl ?_
  refine r_aload_n (pc := 6) (tb_at tkX5_addFlight 3 rfl) rfl rfl ?_
  refine r_get 5 0 (pc := 7) (tb_at tkX5_addFlight 4 rfl) ly_1 flX5_9 rfl ?_
  refine r_iload (pc := 10) (tb_at tkX5_addFlight 5 rfl) rfl ?_
  refine r_iload_n (pc := 12) (tb_at tkX5_addFlight 6 rfl) rfl rfl ?_
  refine r_iast (pc := 13) (tb_at tkX5_addFlight 7 rfl) ly_2 h.1.1 h.1.2 rfl ?_
  replace h := h.2
  refine r_aload_n (pc := 14) (tb_at tkX5_addFlight 8 rfl) rfl rfl ?_
  refine r_get 5 1 (pc := 15) (tb_at tkX5_addFlight 9 rfl) ly_1 flX5_15 rfl ?_
  refine r_iload (pc := 18) (tb_at tkX5_addFlight 10 rfl) rfl ?_
  refine r_iload_n (pc := 20) (tb_at tkX5_addFlight 11 rfl) rfl rfl ?_
  refine r_iast (pc := 21) (tb_at tkX5_addFlight 12 rfl) ly_3 h.1.1 h.1.2 rfl ?_
  replace h := h.2
  refine r_aload_n (pc := 22) (tb_at tkX5_addFlight 13 rfl) rfl rfl ?_
  refine r_dup (pc := 23) (tb_at tkX5_addFlight 14 rfl) (fun _ h => by cases h) ?_
  refine r_get 5 8 (pc := 24) (tb_at tkX5_addFlight 15 rfl) ly_1 flX5_36 rfl ?_
  refine r_iconst (pc := 27) (tb_at tkX5_addFlight 16 rfl) ⟨by decide, by decide⟩ ?_
  refine r_iadd (pc := 28) (tb_at tkX5_addFlight 17 rfl) ?_
  refine r_put 5 8 (w32 (((mup (mup M 2 (M 1 8).toNat v1) 3 (M 1 8).toNat v2) 1 8) + 1)) (pc := 29) (tb_at tkX5_addFlight 18 rfl) ly_1 flX5_36 (fun r h => by cases h; rfl) (.inl rfl) rfl (fun h => by cases h) rfl ?_
  refine r_aload_n (pc := 32) (tb_at tkX5_addFlight 19 rfl) rfl rfl ?_
  refine r_iload (pc := 33) (tb_at tkX5_addFlight 20 rfl) rfl ?_
  refine r_iload_n (pc := 35) (tb_at tkX5_addFlight 21 rfl) rfl rfl ?_
  refine r_iload (pc := 36) (tb_at tkX5_addFlight 22 rfl) rfl ?_
  refine r_invV (mc' := 0) (ms' := 0) [.inl (M 1 8), .inl v3, .inl v4] (S := []) (pc := 38) (tb_at tkX5_addFlight 23 rfl) rfl ly_1 rfl rfl clX5_54 (Nat.le_of_ble_eq_true rfl) (Nat.le_refl _) (Nat.le_refl _) ?_
  refine Cal.mono h ?_
  rintro _ _ M1 ⟨rfl, rfl, h⟩
  show OkI G miX5_addFlight (d + 1) K 41 [some (.inr (.inr (some 1))), some (.inl v1), some (.inl v2), some (.inl v3), some (.inl v4), some (.inl (M 1 8))] [] M1
  refine r_iload (pc := 41) (tb_at tkX5_addFlight 24 rfl) rfl ?_
  exact r_iret (pc := 43) (tb_at tkX5_addFlight 25 rfl) rfl (Nat.le_refl _) (Nat.le_refl _) ⟨_, rfl, rfl, h⟩
set_option maxRecDepth 100000 in
set_option maxHeartbeats 4000000 in
theorem gX5_dropLatest_0 {G : GE} {d : Nat} {K : Int → Mem → Prop} {M : Mem}  (h : OkI G miX5_dropLatest d K 12 [some (.inr (.inr (some 1))), some (.inl 0)] [] (mup M 1 8 (w32 ((M 1 8) - 1)))) : OkI G miX5_dropLatest d K 0 [some (.inr (.inr (some 1))), none] [] M := by
  refine r_aload_n (pc := 0) (tb_at tkX5_dropLatest 0 rfl) rfl rfl ?_
  refine r_dup (pc := 1) (tb_at tkX5_dropLatest 1 rfl) (fun _ h => by cases h) ?_
  refine r_get 5 8 (pc := 2) (tb_at tkX5_dropLatest 2 rfl) ly_1 flX5_36 rfl ?_
  refine r_iconst (pc := 5) (tb_at tkX5_dropLatest 3 rfl) ⟨by decide, by decide⟩ ?_
  refine r_isub (pc := 6) (tb_at tkX5_dropLatest 4 rfl) ?_
  refine r_put 5 8 (w32 ((M 1 8) - 1)) (pc := 7) (tb_at tkX5_dropLatest 5 rfl) ly_1 flX5_36 (fun r h => by cases h; rfl) (.inl rfl) rfl (fun h => by cases h) rfl ?_
  refine r_iconst (pc := 10) (tb_at tkX5_dropLatest 6 rfl) ⟨by decide, by decide⟩ ?_
  refine r_istore_n (L' := [some (.inr (.inr (some 1))), some (.inl 0)]) (pc := 11) (tb_at tkX5_dropLatest 7 rfl) rfl (by decide) rfl ?_
  exact h
set_option maxRecDepth 100000 in
set_option maxHeartbeats 4000000 in
theorem gX5_dropLatest_12 {G : GE} {d : Nat} {K : Int → Mem → Prop} {M : Mem} {v1 : Int}  (h : ((7 ≤ v1 → K ((mup M 1 10 (w32 ((M 1 10) + 1))) 1 8) (mup M 1 10 (w32 ((M 1 10) + 1)))) ∧ (v1 < 7 → (0 ≤ ((M 1 8) * 7) + v1 ∧ ((M 1 8) * 7) + v1 < 49) ∧ (0 ≤ (v1 * 7) + ((mup M 9 (((M 1 8) * 7) + v1).toNat 0) 1 8) ∧ (v1 * 7) + ((mup M 9 (((M 1 8) * 7) + v1).toNat 0) 1 8) < 49) ∧ OkI G miX5_dropLatest d K 12 [some (.inr (.inr (some 1))), some (.inl (w32 (v1 + 1)))] [] (mup (mup M 9 (((M 1 8) * 7) + v1).toNat 0) 9 ((v1 * 7) + ((mup M 9 (((M 1 8) * 7) + v1).toNat 0) 1 8)).toNat 0)))) : OkI G miX5_dropLatest d K 12 [some (.inr (.inr (some 1))), some (.inl v1)] [] M := by
  refine r_iload_n (pc := 12) (tb_at tkX5_dropLatest 8 rfl) rfl rfl ?_
  refine r_bipush (pc := 13) (tb_at tkX5_dropLatest 9 rfl) ⟨by decide, by decide, by decide⟩ ?_
  refine q_icmp_ge (tgt := 54) (pc := 15) (tb_at tkX5_dropLatest 10 rfl) (by decide) (fun c => ?_) (fun c => ?_)
  · replace h := h.1 c
    refine r_aload_n (pc := 54) (tb_at tkX5_dropLatest 33 rfl) rfl rfl ?_
    refine r_dup (pc := 55) (tb_at tkX5_dropLatest 34 rfl) (fun _ h => by cases h) ?_
    refine r_get 5 10 (pc := 56) (tb_at tkX5_dropLatest 35 rfl) ly_1 flX5_43 rfl ?_
    refine r_iconst (pc := 59) (tb_at tkX5_dropLatest 36 rfl) ⟨by decide, by decide⟩ ?_
    refine r_iadd (pc := 60) (tb_at tkX5_dropLatest 37 rfl) ?_
    refine r_put 5 10 (w32 ((M 1 10) + 1)) (pc := 61) (tb_at tkX5_dropLatest 38 rfl) ly_1 flX5_43 (fun r h => by cases h; rfl) (.inl rfl) rfl (fun h => by cases h) rfl ?_
    refine r_aload_n (pc := 64) (tb_at tkX5_dropLatest 39 rfl) rfl rfl ?_
    refine r_get 5 8 (pc := 65) (tb_at tkX5_dropLatest 40 rfl) ly_1 flX5_36 rfl ?_
    exact r_iret (pc := 68) (tb_at tkX5_dropLatest 41 rfl) rfl (Nat.le_refl _) (Nat.le_refl _) ⟨_, rfl, rfl, h⟩
  · replace h := h.2 c
    refine r_aload_n (pc := 18) (tb_at tkX5_dropLatest 11 rfl) rfl rfl ?_
    refine r_get 5 7 (pc := 19) (tb_at tkX5_dropLatest 12 rfl) ly_1 flX5_33 rfl ?_
    refine r_aload_n (pc := 22) (tb_at tkX5_dropLatest 13 rfl) rfl rfl ?_
    refine r_get 5 8 (pc := 23) (tb_at tkX5_dropLatest 14 rfl) ly_1 flX5_36 rfl ?_
    refine r_bipush (pc := 26) (tb_at tkX5_dropLatest 15 rfl) ⟨by decide, by decide, by decide⟩ ?_
    refine r_imul (pc := 28) (tb_at tkX5_dropLatest 16 rfl) ?_
    refine r_iload_n (pc := 29) (tb_at tkX5_dropLatest 17 rfl) rfl rfl ?_
    refine r_iadd_l (pc := 30) (tb_at tkX5_dropLatest 18 rfl) ?_
    refine r_iconst (pc := 31) (tb_at tkX5_dropLatest 19 rfl) ⟨by decide, by decide⟩ ?_
    refine r_iast_w (pc := 32) (tb_at tkX5_dropLatest 20 rfl) ly_9 (by decide) h.1.1 h.1.2 rfl ?_
    replace h := h.2
    refine r_aload_n (pc := 33) (tb_at tkX5_dropLatest 21 rfl) rfl rfl ?_
    refine r_get 5 7 (pc := 34) (tb_at tkX5_dropLatest 22 rfl) ly_1 flX5_33 rfl ?_
    refine r_iload_n (pc := 37) (tb_at tkX5_dropLatest 23 rfl) rfl rfl ?_
    refine r_bipush (pc := 38) (tb_at tkX5_dropLatest 24 rfl) ⟨by decide, by decide, by decide⟩ ?_
    refine r_imul (pc := 40) (tb_at tkX5_dropLatest 25 rfl) ?_
    refine r_aload_n (pc := 41) (tb_at tkX5_dropLatest 26 rfl) rfl rfl ?_
    refine r_get 5 8 (pc := 42) (tb_at tkX5_dropLatest 27 rfl) ly_1 flX5_36 rfl ?_
    refine r_iadd_l (pc := 45) (tb_at tkX5_dropLatest 28 rfl) ?_
    refine r_iconst (pc := 46) (tb_at tkX5_dropLatest 29 rfl) ⟨by decide, by decide⟩ ?_
    refine r_iast_w (pc := 47) (tb_at tkX5_dropLatest 30 rfl) ly_9 (by decide) h.1.1 h.1.2 rfl ?_
    replace h := h.2
    refine r_iinc (L' := [some (.inr (.inr (some 1))), some (.inl (w32 (v1 + 1)))]) (pc := 48) (tb_at tkX5_dropLatest 31 rfl) rfl (by decide) rfl ?_
    refine r_goto (tgt := 12) (pc := 51) (tb_at tkX5_dropLatest 32 rfl) (by decide) ?_
    exact h
set_option maxRecDepth 100000 in
set_option maxHeartbeats 4000000 in
theorem gX5_setTimes_0 {G : GE} {d : Nat} {K : Mem → Prop} {M : Mem} {v1 v2 v3 : Int}  (h : (0 ≤ v1 ∧ v1 < 7) ∧ (0 ≤ v1 ∧ v1 < 7) ∧ K (mup (mup (mup M 4 (v1).toNat v2) 5 (v1).toNat v3) 1 10 (w32 (((mup (mup M 4 (v1).toNat v2) 5 (v1).toNat v3) 1 10) + 1)))) : OkV G miX5_setTimes d K 0 [some (.inr (.inr (some 1))), some (.inl v1), some (.inl v2), some (.inl v3)] [] M := by
  refine r_aload_n (pc := 0) (tb_at tkX5_setTimes 0 rfl) rfl rfl ?_
  refine r_get 5 2 (pc := 1) (tb_at tkX5_setTimes 1 rfl) ly_1 flX5_18 rfl ?_
  refine r_iload_n (pc := 4) (tb_at tkX5_setTimes 2 rfl) rfl rfl ?_
  refine r_iload_n (pc := 5) (tb_at tkX5_setTimes 3 rfl) rfl rfl ?_
  refine r_iast (pc := 6) (tb_at tkX5_setTimes 4 rfl) ly_4 h.1.1 h.1.2 rfl ?_
  replace h := h.2
  refine r_aload_n (pc := 7) (tb_at tkX5_setTimes 5 rfl) rfl rfl ?_
  refine r_get 5 3 (pc := 8) (tb_at tkX5_setTimes 6 rfl) ly_1 flX5_21 rfl ?_
  refine r_iload_n (pc := 11) (tb_at tkX5_setTimes 7 rfl) rfl rfl ?_
  refine r_iload_n (pc := 12) (tb_at tkX5_setTimes 8 rfl) rfl rfl ?_
  refine r_iast (pc := 13) (tb_at tkX5_setTimes 9 rfl) ly_5 h.1.1 h.1.2 rfl ?_
  replace h := h.2
  refine r_aload_n (pc := 14) (tb_at tkX5_setTimes 10 rfl) rfl rfl ?_
  refine r_dup (pc := 15) (tb_at tkX5_setTimes 11 rfl) (fun _ h => by cases h) ?_
  refine r_get 5 10 (pc := 16) (tb_at tkX5_setTimes 12 rfl) ly_1 flX5_43 rfl ?_
  refine r_iconst (pc := 19) (tb_at tkX5_setTimes 13 rfl) ⟨by decide, by decide⟩ ?_
  refine r_iadd (pc := 20) (tb_at tkX5_setTimes 14 rfl) ?_
  refine r_put 5 10 (w32 (((mup (mup M 4 (v1).toNat v2) 5 (v1).toNat v3) 1 10) + 1)) (pc := 21) (tb_at tkX5_setTimes 15 rfl) ly_1 flX5_43 (fun r h => by cases h; rfl) (.inl rfl) rfl (fun h => by cases h) rfl ?_
  exact r_vret (pc := 24) (tb_at tkX5_setTimes 16 rfl) rfl (Nat.le_refl _) (Nat.le_refl _) ⟨rfl, rfl, h⟩
set_option maxRecDepth 100000 in
set_option maxHeartbeats 4000000 in
theorem gX5_setKind_0 {G : GE} {d : Nat} {K : Mem → Prop} {M : Mem} {v1 v2 v3 : Int}  (h : (0 ≤ v1 ∧ v1 < 4) ∧ (0 ≤ v1 ∧ v1 < 4) ∧ K (mup (mup (mup M 6 (v1).toNat v2) 7 (v1).toNat v3) 1 10 (w32 (((mup (mup M 6 (v1).toNat v2) 7 (v1).toNat v3) 1 10) + 1)))) : OkV G miX5_setKind d K 0 [some (.inr (.inr (some 1))), some (.inl v1), some (.inl v2), some (.inl v3)] [] M := by
  refine r_aload_n (pc := 0) (tb_at tkX5_setKind 0 rfl) rfl rfl ?_
  refine r_get 5 4 (pc := 1) (tb_at tkX5_setKind 1 rfl) ly_1 flX5_24 rfl ?_
  refine r_iload_n (pc := 4) (tb_at tkX5_setKind 2 rfl) rfl rfl ?_
  refine r_iload_n (pc := 5) (tb_at tkX5_setKind 3 rfl) rfl rfl ?_
  refine r_iast (pc := 6) (tb_at tkX5_setKind 4 rfl) ly_6 h.1.1 h.1.2 rfl ?_
  replace h := h.2
  refine r_aload_n (pc := 7) (tb_at tkX5_setKind 5 rfl) rfl rfl ?_
  refine r_get 5 5 (pc := 8) (tb_at tkX5_setKind 6 rfl) ly_1 flX5_27 rfl ?_
  refine r_iload_n (pc := 11) (tb_at tkX5_setKind 7 rfl) rfl rfl ?_
  refine r_iload_n (pc := 12) (tb_at tkX5_setKind 8 rfl) rfl rfl ?_
  refine r_iast (pc := 13) (tb_at tkX5_setKind 9 rfl) ly_7 h.1.1 h.1.2 rfl ?_
  replace h := h.2
  refine r_aload_n (pc := 14) (tb_at tkX5_setKind 10 rfl) rfl rfl ?_
  refine r_dup (pc := 15) (tb_at tkX5_setKind 11 rfl) (fun _ h => by cases h) ?_
  refine r_get 5 10 (pc := 16) (tb_at tkX5_setKind 12 rfl) ly_1 flX5_43 rfl ?_
  refine r_iconst (pc := 19) (tb_at tkX5_setKind 13 rfl) ⟨by decide, by decide⟩ ?_
  refine r_iadd (pc := 20) (tb_at tkX5_setKind 14 rfl) ?_
  refine r_put 5 10 (w32 (((mup (mup M 6 (v1).toNat v2) 7 (v1).toNat v3) 1 10) + 1)) (pc := 21) (tb_at tkX5_setKind 15 rfl) ly_1 flX5_43 (fun r h => by cases h; rfl) (.inl rfl) rfl (fun h => by cases h) rfl ?_
  exact r_vret (pc := 24) (tb_at tkX5_setKind 16 rfl) rfl (Nat.le_refl _) (Nat.le_refl _) ⟨rfl, rfl, h⟩
set_option maxRecDepth 100000 in
set_option maxHeartbeats 4000000 in
theorem gX5_setBases_0 {G : GE} {d : Nat} {K : Mem → Prop} {M : Mem} {v1 : Int}  (h : K (mup (mup M 1 9 v1) 1 10 (w32 (((mup M 1 9 v1) 1 10) + 1)))) : OkV G miX5_setBases d K 0 [some (.inr (.inr (some 1))), some (.inl v1)] [] M := by
  refine r_aload_n (pc := 0) (tb_at tkX5_setBases 0 rfl) rfl rfl ?_
  refine r_iload_n (pc := 1) (tb_at tkX5_setBases 1 rfl) rfl rfl ?_
  refine r_put 5 9 v1 (pc := 2) (tb_at tkX5_setBases 2 rfl) ly_1 flX5_40 (fun r h => by cases h; rfl) (.inl rfl) rfl (fun h => by cases h) rfl ?_
  refine r_aload_n (pc := 5) (tb_at tkX5_setBases 3 rfl) rfl rfl ?_
  refine r_dup (pc := 6) (tb_at tkX5_setBases 4 rfl) (fun _ h => by cases h) ?_
  refine r_get 5 10 (pc := 7) (tb_at tkX5_setBases 5 rfl) ly_1 flX5_43 rfl ?_
  refine r_iconst (pc := 10) (tb_at tkX5_setBases 6 rfl) ⟨by decide, by decide⟩ ?_
  refine r_iadd (pc := 11) (tb_at tkX5_setBases 7 rfl) ?_
  refine r_put 5 10 (w32 (((mup M 1 9 v1) 1 10) + 1)) (pc := 12) (tb_at tkX5_setBases 8 rfl) ly_1 flX5_43 (fun r h => by cases h; rfl) (.inl rfl) rfl (fun h => by cases h) rfl ?_
  exact r_vret (pc := 15) (tb_at tkX5_setBases 9 rfl) rfl (Nat.le_refl _) (Nat.le_refl _) ⟨rfl, rfl, h⟩
set_option maxRecDepth 100000 in
set_option maxHeartbeats 4000000 in
theorem gX5_setFee_0 {G : GE} {d : Nat} {K : Mem → Prop} {M : Mem} {v1 v2 : Int}  (h : (0 ≤ v1 ∧ v1 < 5) ∧ K (mup (mup M 8 (v1).toNat v2) 1 10 (w32 (((mup M 8 (v1).toNat v2) 1 10) + 1)))) : OkV G miX5_setFee d K 0 [some (.inr (.inr (some 1))), some (.inl v1), some (.inl v2)] [] M := by
  refine r_aload_n (pc := 0) (tb_at tkX5_setFee 0 rfl) rfl rfl ?_
  refine r_get 5 6 (pc := 1) (tb_at tkX5_setFee 1 rfl) ly_1 flX5_30 rfl ?_
  refine r_iload_n (pc := 4) (tb_at tkX5_setFee 2 rfl) rfl rfl ?_
  refine r_iload_n (pc := 5) (tb_at tkX5_setFee 3 rfl) rfl rfl ?_
  refine r_iast (pc := 6) (tb_at tkX5_setFee 4 rfl) ly_8 h.1.1 h.1.2 rfl ?_
  replace h := h.2
  refine r_aload_n (pc := 7) (tb_at tkX5_setFee 5 rfl) rfl rfl ?_
  refine r_dup (pc := 8) (tb_at tkX5_setFee 6 rfl) (fun _ h => by cases h) ?_
  refine r_get 5 10 (pc := 9) (tb_at tkX5_setFee 7 rfl) ly_1 flX5_43 rfl ?_
  refine r_iconst (pc := 12) (tb_at tkX5_setFee 8 rfl) ⟨by decide, by decide⟩ ?_
  refine r_iadd (pc := 13) (tb_at tkX5_setFee 9 rfl) ?_
  refine r_put 5 10 (w32 (((mup M 8 (v1).toNat v2) 1 10) + 1)) (pc := 14) (tb_at tkX5_setFee 10 rfl) ly_1 flX5_43 (fun r h => by cases h; rfl) (.inl rfl) rfl (fun h => by cases h) rfl ?_
  exact r_vret (pc := 17) (tb_at tkX5_setFee 11 rfl) rfl (Nat.le_refl _) (Nat.le_refl _) ⟨rfl, rfl, h⟩
set_option maxRecDepth 100000 in
set_option maxHeartbeats 4000000 in
theorem gX5_setMark_0 {G : GE} {d : Nat} {K : Mem → Prop} {M : Mem} {v1 v2 v3 : Int}  (h : (0 ≤ (v1 * 7) + v2 ∧ (v1 * 7) + v2 < 49) ∧ K (mup (mup M 9 ((v1 * 7) + v2).toNat v3) 1 10 (w32 (((mup M 9 ((v1 * 7) + v2).toNat v3) 1 10) + 1)))) : OkV G miX5_setMark d K 0 [some (.inr (.inr (some 1))), some (.inl v1), some (.inl v2), some (.inl v3)] [] M := by
  refine r_aload_n (pc := 0) (tb_at tkX5_setMark 0 rfl) rfl rfl ?_
  refine r_get 5 7 (pc := 1) (tb_at tkX5_setMark 1 rfl) ly_1 flX5_33 rfl ?_
  refine r_iload_n (pc := 4) (tb_at tkX5_setMark 2 rfl) rfl rfl ?_
  refine r_bipush (pc := 5) (tb_at tkX5_setMark 3 rfl) ⟨by decide, by decide, by decide⟩ ?_
  refine r_imul (pc := 7) (tb_at tkX5_setMark 4 rfl) ?_
  refine r_iload_n (pc := 8) (tb_at tkX5_setMark 5 rfl) rfl rfl ?_
  refine r_iadd_l (pc := 9) (tb_at tkX5_setMark 6 rfl) ?_
  refine r_iload_n (pc := 10) (tb_at tkX5_setMark 7 rfl) rfl rfl ?_
  refine r_iast_w (pc := 11) (tb_at tkX5_setMark 8 rfl) ly_9 (by decide) h.1.1 h.1.2 rfl ?_
  replace h := h.2
  refine r_aload_n (pc := 12) (tb_at tkX5_setMark 9 rfl) rfl rfl ?_
  refine r_dup (pc := 13) (tb_at tkX5_setMark 10 rfl) (fun _ h => by cases h) ?_
  refine r_get 5 10 (pc := 14) (tb_at tkX5_setMark 11 rfl) ly_1 flX5_43 rfl ?_
  refine r_iconst (pc := 17) (tb_at tkX5_setMark 12 rfl) ⟨by decide, by decide⟩ ?_
  refine r_iadd (pc := 18) (tb_at tkX5_setMark 13 rfl) ?_
  refine r_put 5 10 (w32 (((mup M 9 ((v1 * 7) + v2).toNat v3) 1 10) + 1)) (pc := 19) (tb_at tkX5_setMark 14 rfl) ly_1 flX5_43 (fun r h => by cases h; rfl) (.inl rfl) rfl (fun h => by cases h) rfl ?_
  exact r_vret (pc := 22) (tb_at tkX5_setMark 15 rfl) rfl (Nat.le_refl _) (Nat.le_refl _) ⟨rfl, rfl, h⟩
set_option maxRecDepth 100000 in
set_option maxHeartbeats 4000000 in
theorem gX5_markCount_0 {G : GE} {d : Nat} {K : Int → Mem → Prop} {M : Mem}  (h : OkI G miX5_markCount d K 4 [some (.inr (.inr (some 1))), some (.inl 0), some (.inl 0)] [] M) : OkI G miX5_markCount d K 0 [some (.inr (.inr (some 1))), none, none] [] M := by
  refine r_iconst (pc := 0) (tb_at tkX5_markCount 0 rfl) ⟨by decide, by decide⟩ ?_
  refine r_istore_n (L' := [some (.inr (.inr (some 1))), some (.inl 0), none]) (pc := 1) (tb_at tkX5_markCount 1 rfl) rfl (by decide) rfl ?_
  refine r_iconst (pc := 2) (tb_at tkX5_markCount 2 rfl) ⟨by decide, by decide⟩ ?_
  refine r_istore_n (L' := [some (.inr (.inr (some 1))), some (.inl 0), some (.inl 0)]) (pc := 3) (tb_at tkX5_markCount 3 rfl) rfl (by decide) rfl ?_
  exact h
set_option maxRecDepth 100000 in
set_option maxHeartbeats 4000000 in
theorem gX5_markCount_4 {G : GE} {d : Nat} {K : Int → Mem → Prop} {M : Mem} {v1 v2 : Int}  (h : ((49 ≤ v2 → K v1 M) ∧ (v2 < 49 → (0 ≤ v2 ∧ v2 < 49) ∧ (((M 9 (v2).toNat) = 0 → OkI G miX5_markCount d K 4 [some (.inr (.inr (some 1))), some (.inl v1), some (.inl (w32 (v2 + 1)))] [] M) ∧ (¬ (M 9 (v2).toNat) = 0 → OkI G miX5_markCount d K 4 [some (.inr (.inr (some 1))), some (.inl (w32 (v1 + 1))), some (.inl (w32 (v2 + 1)))] [] M))))) : OkI G miX5_markCount d K 4 [some (.inr (.inr (some 1))), some (.inl v1), some (.inl v2)] [] M := by
  refine r_iload_n (pc := 4) (tb_at tkX5_markCount 4 rfl) rfl rfl ?_
  refine r_bipush (pc := 5) (tb_at tkX5_markCount 5 rfl) ⟨by decide, by decide, by decide⟩ ?_
  refine q_icmp_ge (tgt := 28) (pc := 7) (tb_at tkX5_markCount 6 rfl) (by decide) (fun c => ?_) (fun c => ?_)
  · replace h := h.1 c
    refine r_iload_n (pc := 28) (tb_at tkX5_markCount 15 rfl) rfl rfl ?_
    exact r_iret (pc := 29) (tb_at tkX5_markCount 16 rfl) rfl (Nat.le_refl _) (Nat.le_refl _) ⟨_, rfl, rfl, h⟩
  · replace h := h.2 c
    refine r_aload_n (pc := 10) (tb_at tkX5_markCount 7 rfl) rfl rfl ?_
    refine r_get 5 7 (pc := 11) (tb_at tkX5_markCount 8 rfl) ly_1 flX5_33 rfl ?_
    refine r_iload_n (pc := 14) (tb_at tkX5_markCount 9 rfl) rfl rfl ?_
    refine r_iald (pc := 15) (tb_at tkX5_markCount 10 rfl) ly_9 h.1.1 h.1.2 ?_
    replace h := h.2
    refine q_if_eq (tgt := 22) (pc := 16) (tb_at tkX5_markCount 11 rfl) (by decide) (fun c => ?_) (fun c => ?_)
    · replace h := h.1 c
      refine r_iinc (L' := [some (.inr (.inr (some 1))), some (.inl v1), some (.inl (w32 (v2 + 1)))]) (pc := 22) (tb_at tkX5_markCount 13 rfl) rfl (by decide) rfl ?_
      refine r_goto (tgt := 4) (pc := 25) (tb_at tkX5_markCount 14 rfl) (by decide) ?_
      exact h
    · replace h := h.2 c
      refine r_iinc (L' := [some (.inr (.inr (some 1))), some (.inl (w32 (v1 + 1))), some (.inl v2)]) (pc := 19) (tb_at tkX5_markCount 12 rfl) rfl (by decide) rfl ?_
      refine r_iinc (L' := [some (.inr (.inr (some 1))), some (.inl (w32 (v1 + 1))), some (.inl (w32 (v2 + 1)))]) (pc := 22) (tb_at tkX5_markCount 13 rfl) rfl (by decide) rfl ?_
      refine r_goto (tgt := 4) (pc := 25) (tb_at tkX5_markCount 14 rfl) (by decide) ?_
      exact h
set_option maxRecDepth 100000 in
set_option maxHeartbeats 4000000 in
theorem gX5_sitAt_0 {G : GE} {d : Nat} {K : Int → Mem → Prop} {M : Mem} {v1 : Int}  (h : (0 ≤ v1 ∧ v1 < 4) ∧ (0 ≤ v1 ∧ v1 < 4) ∧ CalI G miX6_sit d [.inl (M 6 (v1).toNat), .inl (M 7 (v1).toNat)] M (fun x2 M1 => K x2 M1)) : OkI G miX5_sitAt (d + 1) K 0 [some (.inr (.inr (some 1))), some (.inl v1)] [] M := by
  refine r_aload_n (pc := 0) (tb_at tkX5_sitAt 0 rfl) rfl rfl ?_
  refine r_get 5 4 (pc := 1) (tb_at tkX5_sitAt 1 rfl) ly_1 flX5_24 rfl ?_
  refine r_iload_n (pc := 4) (tb_at tkX5_sitAt 2 rfl) rfl rfl ?_
  refine r_iald (pc := 5) (tb_at tkX5_sitAt 3 rfl) ly_6 h.1.1 h.1.2 ?_
  replace h := h.2
  refine r_aload_n (pc := 6) (tb_at tkX5_sitAt 4 rfl) rfl rfl ?_
  refine r_get 5 5 (pc := 7) (tb_at tkX5_sitAt 5 rfl) ly_1 flX5_27 rfl ?_
  refine r_iload_n (pc := 10) (tb_at tkX5_sitAt 6 rfl) rfl rfl ?_
  refine r_iald (pc := 11) (tb_at tkX5_sitAt 7 rfl) ly_7 h.1.1 h.1.2 ?_
  replace h := h.2
  refine r_invS (mc' := 0) (ms' := 0) [.inl (M 6 (v1).toNat), .inl (M 7 (v1).toNat)] (S := []) (pc := 12) (tb_at tkX5_sitAt 8 rfl) rfl clX5_58 (Nat.le_of_ble_eq_true rfl) (Nat.le_refl _) (Nat.le_refl _) ?_
  refine Cal.mono h ?_
  rintro _ _ M1 ⟨x2, rfl, rfl, h⟩
  show OkI G miX5_sitAt (d + 1) K 15 [some (.inr (.inr (some 1))), some (.inl v1)] [.inl x2] M1
  exact r_iret (pc := 15) (tb_at tkX5_sitAt 9 rfl) rfl (Nat.le_refl _) (Nat.le_refl _) ⟨_, rfl, rfl, h⟩
set_option maxRecDepth 100000 in
set_option maxHeartbeats 4000000 in
theorem gX5_restAt_0 {G : GE} {d : Nat} {K : Int → Mem → Prop} {M : Mem} {v1 : Int}  (h : (0 ≤ v1 ∧ v1 < 4) ∧ (0 ≤ v1 ∧ v1 < 4) ∧ CalI G miX6_rest d [.inl (M 6 (v1).toNat), .inl (M 7 (v1).toNat)] M (fun x2 M1 => K x2 M1)) : OkI G miX5_restAt (d + 1) K 0 [some (.inr (.inr (some 1))), some (.inl v1)] [] M := by
  refine r_aload_n (pc := 0) (tb_at tkX5_restAt 0 rfl) rfl rfl ?_
  refine r_get 5 4 (pc := 1) (tb_at tkX5_restAt 1 rfl) ly_1 flX5_24 rfl ?_
  refine r_iload_n (pc := 4) (tb_at tkX5_restAt 2 rfl) rfl rfl ?_
  refine r_iald (pc := 5) (tb_at tkX5_restAt 3 rfl) ly_6 h.1.1 h.1.2 ?_
  replace h := h.2
  refine r_aload_n (pc := 6) (tb_at tkX5_restAt 4 rfl) rfl rfl ?_
  refine r_get 5 5 (pc := 7) (tb_at tkX5_restAt 5 rfl) ly_1 flX5_27 rfl ?_
  refine r_iload_n (pc := 10) (tb_at tkX5_restAt 6 rfl) rfl rfl ?_
  refine r_iald (pc := 11) (tb_at tkX5_restAt 7 rfl) ly_7 h.1.1 h.1.2 ?_
  replace h := h.2
  refine r_invS (mc' := 0) (ms' := 0) [.inl (M 6 (v1).toNat), .inl (M 7 (v1).toNat)] (S := []) (pc := 12) (tb_at tkX5_restAt 8 rfl) rfl clX5_64 (Nat.le_of_ble_eq_true rfl) (Nat.le_refl _) (Nat.le_refl _) ?_
  refine Cal.mono h ?_
  rintro _ _ M1 ⟨x2, rfl, rfl, h⟩
  show OkI G miX5_restAt (d + 1) K 15 [some (.inr (.inr (some 1))), some (.inl v1)] [.inl x2] M1
  exact r_iret (pc := 15) (tb_at tkX5_restAt 9 rfl) rfl (Nat.le_refl _) (Nat.le_refl _) ⟨_, rfl, rfl, h⟩
set_option maxRecDepth 100000 in
set_option maxHeartbeats 4000000 in
theorem gX5_legsOf_0 {G : GE} {d : Nat} {K : Int → Mem → Prop} {M : Mem} {v1 : Int}  (h : (0 ≤ v1 ∧ v1 < 4) ∧ CalI G miX6_legs d [.inl (M 6 (v1).toNat)] M (fun x2 M1 => K x2 M1)) : OkI G miX5_legsOf (d + 1) K 0 [some (.inr (.inr (some 1))), some (.inl v1)] [] M := by
  refine r_aload_n (pc := 0) (tb_at tkX5_legsOf 0 rfl) rfl rfl ?_
  refine r_get 5 4 (pc := 1) (tb_at tkX5_legsOf 1 rfl) ly_1 flX5_24 rfl ?_
  refine r_iload_n (pc := 4) (tb_at tkX5_legsOf 2 rfl) rfl rfl ?_
  refine r_iald (pc := 5) (tb_at tkX5_legsOf 3 rfl) ly_6 h.1.1 h.1.2 ?_
  replace h := h.2
  refine r_invS (mc' := 0) (ms' := 0) [.inl (M 6 (v1).toNat)] (S := []) (pc := 6) (tb_at tkX5_legsOf 4 rfl) rfl clX5_67 (Nat.le_of_ble_eq_true rfl) (Nat.le_refl _) (Nat.le_refl _) ?_
  refine Cal.mono h ?_
  rintro _ _ M1 ⟨x2, rfl, rfl, h⟩
  show OkI G miX5_legsOf (d + 1) K 9 [some (.inr (.inr (some 1))), some (.inl v1)] [.inl x2] M1
  exact r_iret (pc := 9) (tb_at tkX5_legsOf 5 rfl) rfl (Nat.le_refl _) (Nat.le_refl _) ⟨_, rfl, rfl, h⟩
set_option maxRecDepth 100000 in
set_option maxHeartbeats 4000000 in
theorem gX5_spanOf_0 {G : GE} {d : Nat} {K : Int → Mem → Prop} {M : Mem} {v1 : Int}  (h : (0 ≤ v1 ∧ v1 < 4) ∧ (0 ≤ v1 ∧ v1 < 4) ∧ CalI G miX6_span d [.inl (M 6 (v1).toNat), .inl (M 7 (v1).toNat)] M (fun x2 M1 => K x2 M1)) : OkI G miX5_spanOf (d + 1) K 0 [some (.inr (.inr (some 1))), some (.inl v1)] [] M := by
  refine r_aload_n (pc := 0) (tb_at tkX5_spanOf 0 rfl) rfl rfl ?_
  refine r_get 5 4 (pc := 1) (tb_at tkX5_spanOf 1 rfl) ly_1 flX5_24 rfl ?_
  refine r_iload_n (pc := 4) (tb_at tkX5_spanOf 2 rfl) rfl rfl ?_
  refine r_iald (pc := 5) (tb_at tkX5_spanOf 3 rfl) ly_6 h.1.1 h.1.2 ?_
  replace h := h.2
  refine r_aload_n (pc := 6) (tb_at tkX5_spanOf 4 rfl) rfl rfl ?_
  refine r_get 5 5 (pc := 7) (tb_at tkX5_spanOf 5 rfl) ly_1 flX5_27 rfl ?_
  refine r_iload_n (pc := 10) (tb_at tkX5_spanOf 6 rfl) rfl rfl ?_
  refine r_iald (pc := 11) (tb_at tkX5_spanOf 7 rfl) ly_7 h.1.1 h.1.2 ?_
  replace h := h.2
  refine r_invS (mc' := 0) (ms' := 0) [.inl (M 6 (v1).toNat), .inl (M 7 (v1).toNat)] (S := []) (pc := 12) (tb_at tkX5_spanOf 8 rfl) rfl clX5_71 (Nat.le_of_ble_eq_true rfl) (Nat.le_refl _) (Nat.le_refl _) ?_
  refine Cal.mono h ?_
  rintro _ _ M1 ⟨x2, rfl, rfl, h⟩
  show OkI G miX5_spanOf (d + 1) K 15 [some (.inr (.inr (some 1))), some (.inl v1)] [.inl x2] M1
  exact r_iret (pc := 15) (tb_at tkX5_spanOf 9 rfl) rfl (Nat.le_refl _) (Nat.le_refl _) ⟨_, rfl, rfl, h⟩
set_option maxRecDepth 100000 in
set_option maxHeartbeats 4000000 in
theorem gX5_dutiesOf_0 {G : GE} {d : Nat} {K : Int → Mem → Prop} {M : Mem} {v1 : Int}  (h : (0 ≤ v1 ∧ v1 < 4) ∧ CalI G miX6_duties d [.inl (M 6 (v1).toNat)] M (fun x2 M1 => K x2 M1)) : OkI G miX5_dutiesOf (d + 1) K 0 [some (.inr (.inr (some 1))), some (.inl v1)] [] M := by
  refine r_aload_n (pc := 0) (tb_at tkX5_dutiesOf 0 rfl) rfl rfl ?_
  refine r_get 5 4 (pc := 1) (tb_at tkX5_dutiesOf 1 rfl) ly_1 flX5_24 rfl ?_
  refine r_iload_n (pc := 4) (tb_at tkX5_dutiesOf 2 rfl) rfl rfl ?_
  refine r_iald (pc := 5) (tb_at tkX5_dutiesOf 3 rfl) ly_6 h.1.1 h.1.2 ?_
  replace h := h.2
  refine r_invS (mc' := 0) (ms' := 0) [.inl (M 6 (v1).toNat)] (S := []) (pc := 6) (tb_at tkX5_dutiesOf 4 rfl) rfl clX5_74 (Nat.le_of_ble_eq_true rfl) (Nat.le_refl _) (Nat.le_refl _) ?_
  refine Cal.mono h ?_
  rintro _ _ M1 ⟨x2, rfl, rfl, h⟩
  show OkI G miX5_dutiesOf (d + 1) K 9 [some (.inr (.inr (some 1))), some (.inl v1)] [.inl x2] M1
  exact r_iret (pc := 9) (tb_at tkX5_dutiesOf 5 rfl) rfl (Nat.le_refl _) (Nat.le_refl _) ⟨_, rfl, rfl, h⟩
set_option maxRecDepth 100000 in
set_option maxHeartbeats 4000000 in
theorem gX5_takeFrom_0 {G : GE} {d : Nat} {K : Mem → Prop} {M : Mem} {a b : Nat} (ha : a = 1 ∨ a = 10) (hb : b = 1 ∨ b = 10) (h : K (mup (mup (mup (mcp (mcp (mcp (mcp (mcp (mcp (mcp (mcp M (b + 1) (a + 1) 0 0 7) (b + 2) (a + 2) 0 0 7) (b + 3) (a + 3) 0 0 7) (b + 4) (a + 4) 0 0 7) (b + 5) (a + 5) 0 0 4) (b + 6) (a + 6) 0 0 4) (b + 7) (a + 7) 0 0 5) (b + 8) (a + 8) 0 0 49) a 8 ((mcp (mcp (mcp (mcp (mcp (mcp (mcp (mcp M (b + 1) (a + 1) 0 0 7) (b + 2) (a + 2) 0 0 7) (b + 3) (a + 3) 0 0 7) (b + 4) (a + 4) 0 0 7) (b + 5) (a + 5) 0 0 4) (b + 6) (a + 6) 0 0 4) (b + 7) (a + 7) 0 0 5) (b + 8) (a + 8) 0 0 49) b 8)) a 9 ((mup (mcp (mcp (mcp (mcp (mcp (mcp (mcp (mcp M (b + 1) (a + 1) 0 0 7) (b + 2) (a + 2) 0 0 7) (b + 3) (a + 3) 0 0 7) (b + 4) (a + 4) 0 0 7) (b + 5) (a + 5) 0 0 4) (b + 6) (a + 6) 0 0 4) (b + 7) (a + 7) 0 0 5) (b + 8) (a + 8) 0 0 49) a 8 ((mcp (mcp (mcp (mcp (mcp (mcp (mcp (mcp M (b + 1) (a + 1) 0 0 7) (b + 2) (a + 2) 0 0 7) (b + 3) (a + 3) 0 0 7) (b + 4) (a + 4) 0 0 7) (b + 5) (a + 5) 0 0 4) (b + 6) (a + 6) 0 0 4) (b + 7) (a + 7) 0 0 5) (b + 8) (a + 8) 0 0 49) b 8)) b 9)) a 10 (w32 (((mup (mup (mcp (mcp (mcp (mcp (mcp (mcp (mcp (mcp M (b + 1) (a + 1) 0 0 7) (b + 2) (a + 2) 0 0 7) (b + 3) (a + 3) 0 0 7) (b + 4) (a + 4) 0 0 7) (b + 5) (a + 5) 0 0 4) (b + 6) (a + 6) 0 0 4) (b + 7) (a + 7) 0 0 5) (b + 8) (a + 8) 0 0 49) a 8 ((mcp (mcp (mcp (mcp (mcp (mcp (mcp (mcp M (b + 1) (a + 1) 0 0 7) (b + 2) (a + 2) 0 0 7) (b + 3) (a + 3) 0 0 7) (b + 4) (a + 4) 0 0 7) (b + 5) (a + 5) 0 0 4) (b + 6) (a + 6) 0 0 4) (b + 7) (a + 7) 0 0 5) (b + 8) (a + 8) 0 0 49) b 8)) a 9 ((mup (mcp (mcp (mcp (mcp (mcp (mcp (mcp (mcp M (b + 1) (a + 1) 0 0 7) (b + 2) (a + 2) 0 0 7) (b + 3) (a + 3) 0 0 7) (b + 4) (a + 4) 0 0 7) (b + 5) (a + 5) 0 0 4) (b + 6) (a + 6) 0 0 4) (b + 7) (a + 7) 0 0 5) (b + 8) (a + 8) 0 0 49) a 8 ((mcp (mcp (mcp (mcp (mcp (mcp (mcp (mcp M (b + 1) (a + 1) 0 0 7) (b + 2) (a + 2) 0 0 7) (b + 3) (a + 3) 0 0 7) (b + 4) (a + 4) 0 0 7) (b + 5) (a + 5) 0 0 4) (b + 6) (a + 6) 0 0 4) (b + 7) (a + 7) 0 0 5) (b + 8) (a + 8) 0 0 49) b 8)) b 9)) a 10) + 1)))) : OkV G miX5_takeFrom (d + 1) K 0 [some (.inr (.inr (some a))), some (.inr (.inr (some b)))] [] M := by
  refine r_aload_n (pc := 0) (tb_at tkX5_takeFrom 0 rfl) rfl rfl ?_
  refine r_get 5 0 (pc := 1) (tb_at tkX5_takeFrom 1 rfl) (lyP0 hb) flX5_9 rfl ?_
  refine r_iconst (pc := 4) (tb_at tkX5_takeFrom 2 rfl) ⟨by decide, by decide⟩ ?_
  refine r_aload_n (pc := 5) (tb_at tkX5_takeFrom 3 rfl) rfl rfl ?_
  refine r_get 5 0 (pc := 6) (tb_at tkX5_takeFrom 4 rfl) (lyP0 ha) flX5_9 rfl ?_
  refine r_iconst (pc := 9) (tb_at tkX5_takeFrom 5 rfl) ⟨by decide, by decide⟩ ?_
  refine r_bipush (pc := 10) (tb_at tkX5_takeFrom 6 rfl) ⟨by decide, by decide, by decide⟩ ?_
  refine r_copyI (pc := 12) (tb_at tkX5_takeFrom 7 rfl) kacX5_77 kac_n kac_s kac_i (lyP1 hb) (lyP1 ha) (by decide) (by decide) (by decide) (by decide) (by decide) (Nat.le_of_ble_eq_true rfl) (M' := mcp M (b + 1) (a + 1) 0 0 7) rfl ?_
  refine r_aload_n (pc := 15) (tb_at tkX5_takeFrom 8 rfl) rfl rfl ?_
  refine r_get 5 1 (pc := 16) (tb_at tkX5_takeFrom 9 rfl) (lyP0 hb) flX5_15 rfl ?_
  refine r_iconst (pc := 19) (tb_at tkX5_takeFrom 10 rfl) ⟨by decide, by decide⟩ ?_
  refine r_aload_n (pc := 20) (tb_at tkX5_takeFrom 11 rfl) rfl rfl ?_
  refine r_get 5 1 (pc := 21) (tb_at tkX5_takeFrom 12 rfl) (lyP0 ha) flX5_15 rfl ?_
  refine r_iconst (pc := 24) (tb_at tkX5_takeFrom 13 rfl) ⟨by decide, by decide⟩ ?_
  refine r_bipush (pc := 25) (tb_at tkX5_takeFrom 14 rfl) ⟨by decide, by decide, by decide⟩ ?_
  refine r_copyI (pc := 27) (tb_at tkX5_takeFrom 15 rfl) kacX5_77 kac_n kac_s kac_i (lyP2 hb) (lyP2 ha) (by decide) (by decide) (by decide) (by decide) (by decide) (Nat.le_of_ble_eq_true rfl) (M' := mcp (mcp M (b + 1) (a + 1) 0 0 7) (b + 2) (a + 2) 0 0 7) rfl ?_
  refine r_aload_n (pc := 30) (tb_at tkX5_takeFrom 16 rfl) rfl rfl ?_
  refine r_get 5 2 (pc := 31) (tb_at tkX5_takeFrom 17 rfl) (lyP0 hb) flX5_18 rfl ?_
  refine r_iconst (pc := 34) (tb_at tkX5_takeFrom 18 rfl) ⟨by decide, by decide⟩ ?_
  refine r_aload_n (pc := 35) (tb_at tkX5_takeFrom 19 rfl) rfl rfl ?_
  refine r_get 5 2 (pc := 36) (tb_at tkX5_takeFrom 20 rfl) (lyP0 ha) flX5_18 rfl ?_
  refine r_iconst (pc := 39) (tb_at tkX5_takeFrom 21 rfl) ⟨by decide, by decide⟩ ?_
  refine r_bipush (pc := 40) (tb_at tkX5_takeFrom 22 rfl) ⟨by decide, by decide, by decide⟩ ?_
  refine r_copyI (pc := 42) (tb_at tkX5_takeFrom 23 rfl) kacX5_77 kac_n kac_s kac_i (lyP3 hb) (lyP3 ha) (by decide) (by decide) (by decide) (by decide) (by decide) (Nat.le_of_ble_eq_true rfl) (M' := mcp (mcp (mcp M (b + 1) (a + 1) 0 0 7) (b + 2) (a + 2) 0 0 7) (b + 3) (a + 3) 0 0 7) rfl ?_
  refine r_aload_n (pc := 45) (tb_at tkX5_takeFrom 24 rfl) rfl rfl ?_
  refine r_get 5 3 (pc := 46) (tb_at tkX5_takeFrom 25 rfl) (lyP0 hb) flX5_21 rfl ?_
  refine r_iconst (pc := 49) (tb_at tkX5_takeFrom 26 rfl) ⟨by decide, by decide⟩ ?_
  refine r_aload_n (pc := 50) (tb_at tkX5_takeFrom 27 rfl) rfl rfl ?_
  refine r_get 5 3 (pc := 51) (tb_at tkX5_takeFrom 28 rfl) (lyP0 ha) flX5_21 rfl ?_
  refine r_iconst (pc := 54) (tb_at tkX5_takeFrom 29 rfl) ⟨by decide, by decide⟩ ?_
  refine r_bipush (pc := 55) (tb_at tkX5_takeFrom 30 rfl) ⟨by decide, by decide, by decide⟩ ?_
  refine r_copyI (pc := 57) (tb_at tkX5_takeFrom 31 rfl) kacX5_77 kac_n kac_s kac_i (lyP4 hb) (lyP4 ha) (by decide) (by decide) (by decide) (by decide) (by decide) (Nat.le_of_ble_eq_true rfl) (M' := mcp (mcp (mcp (mcp M (b + 1) (a + 1) 0 0 7) (b + 2) (a + 2) 0 0 7) (b + 3) (a + 3) 0 0 7) (b + 4) (a + 4) 0 0 7) rfl ?_
  refine r_aload_n (pc := 60) (tb_at tkX5_takeFrom 32 rfl) rfl rfl ?_
  refine r_get 5 4 (pc := 61) (tb_at tkX5_takeFrom 33 rfl) (lyP0 hb) flX5_24 rfl ?_
  refine r_iconst (pc := 64) (tb_at tkX5_takeFrom 34 rfl) ⟨by decide, by decide⟩ ?_
  refine r_aload_n (pc := 65) (tb_at tkX5_takeFrom 35 rfl) rfl rfl ?_
  refine r_get 5 4 (pc := 66) (tb_at tkX5_takeFrom 36 rfl) (lyP0 ha) flX5_24 rfl ?_
  refine r_iconst (pc := 69) (tb_at tkX5_takeFrom 37 rfl) ⟨by decide, by decide⟩ ?_
  refine r_iconst (pc := 70) (tb_at tkX5_takeFrom 38 rfl) ⟨by decide, by decide⟩ ?_
  refine r_copyI (pc := 71) (tb_at tkX5_takeFrom 39 rfl) kacX5_77 kac_n kac_s kac_i (lyP5 hb) (lyP5 ha) (by decide) (by decide) (by decide) (by decide) (by decide) (Nat.le_of_ble_eq_true rfl) (M' := mcp (mcp (mcp (mcp (mcp M (b + 1) (a + 1) 0 0 7) (b + 2) (a + 2) 0 0 7) (b + 3) (a + 3) 0 0 7) (b + 4) (a + 4) 0 0 7) (b + 5) (a + 5) 0 0 4) rfl ?_
  refine r_aload_n (pc := 74) (tb_at tkX5_takeFrom 40 rfl) rfl rfl ?_
  refine r_get 5 5 (pc := 75) (tb_at tkX5_takeFrom 41 rfl) (lyP0 hb) flX5_27 rfl ?_
  refine r_iconst (pc := 78) (tb_at tkX5_takeFrom 42 rfl) ⟨by decide, by decide⟩ ?_
  refine r_aload_n (pc := 79) (tb_at tkX5_takeFrom 43 rfl) rfl rfl ?_
  refine r_get 5 5 (pc := 80) (tb_at tkX5_takeFrom 44 rfl) (lyP0 ha) flX5_27 rfl ?_
  refine r_iconst (pc := 83) (tb_at tkX5_takeFrom 45 rfl) ⟨by decide, by decide⟩ ?_
  refine r_iconst (pc := 84) (tb_at tkX5_takeFrom 46 rfl) ⟨by decide, by decide⟩ ?_
  refine r_copyI (pc := 85) (tb_at tkX5_takeFrom 47 rfl) kacX5_77 kac_n kac_s kac_i (lyP6 hb) (lyP6 ha) (by decide) (by decide) (by decide) (by decide) (by decide) (Nat.le_of_ble_eq_true rfl) (M' := mcp (mcp (mcp (mcp (mcp (mcp M (b + 1) (a + 1) 0 0 7) (b + 2) (a + 2) 0 0 7) (b + 3) (a + 3) 0 0 7) (b + 4) (a + 4) 0 0 7) (b + 5) (a + 5) 0 0 4) (b + 6) (a + 6) 0 0 4) rfl ?_
  refine r_aload_n (pc := 88) (tb_at tkX5_takeFrom 48 rfl) rfl rfl ?_
  refine r_get 5 6 (pc := 89) (tb_at tkX5_takeFrom 49 rfl) (lyP0 hb) flX5_30 rfl ?_
  refine r_iconst (pc := 92) (tb_at tkX5_takeFrom 50 rfl) ⟨by decide, by decide⟩ ?_
  refine r_aload_n (pc := 93) (tb_at tkX5_takeFrom 51 rfl) rfl rfl ?_
  refine r_get 5 6 (pc := 94) (tb_at tkX5_takeFrom 52 rfl) (lyP0 ha) flX5_30 rfl ?_
  refine r_iconst (pc := 97) (tb_at tkX5_takeFrom 53 rfl) ⟨by decide, by decide⟩ ?_
  refine r_iconst (pc := 98) (tb_at tkX5_takeFrom 54 rfl) ⟨by decide, by decide⟩ ?_
  refine r_copyI (pc := 99) (tb_at tkX5_takeFrom 55 rfl) kacX5_77 kac_n kac_s kac_i (lyP7 hb) (lyP7 ha) (by decide) (by decide) (by decide) (by decide) (by decide) (Nat.le_of_ble_eq_true rfl) (M' := mcp (mcp (mcp (mcp (mcp (mcp (mcp M (b + 1) (a + 1) 0 0 7) (b + 2) (a + 2) 0 0 7) (b + 3) (a + 3) 0 0 7) (b + 4) (a + 4) 0 0 7) (b + 5) (a + 5) 0 0 4) (b + 6) (a + 6) 0 0 4) (b + 7) (a + 7) 0 0 5) rfl ?_
  refine r_aload_n (pc := 102) (tb_at tkX5_takeFrom 56 rfl) rfl rfl ?_
  refine r_get 5 7 (pc := 103) (tb_at tkX5_takeFrom 57 rfl) (lyP0 hb) flX5_33 rfl ?_
  refine r_iconst (pc := 106) (tb_at tkX5_takeFrom 58 rfl) ⟨by decide, by decide⟩ ?_
  refine r_aload_n (pc := 107) (tb_at tkX5_takeFrom 59 rfl) rfl rfl ?_
  refine r_get 5 7 (pc := 108) (tb_at tkX5_takeFrom 60 rfl) (lyP0 ha) flX5_33 rfl ?_
  refine r_iconst (pc := 111) (tb_at tkX5_takeFrom 61 rfl) ⟨by decide, by decide⟩ ?_
  refine r_bipush (pc := 112) (tb_at tkX5_takeFrom 62 rfl) ⟨by decide, by decide, by decide⟩ ?_
  refine r_copyI (pc := 114) (tb_at tkX5_takeFrom 63 rfl) kacX5_77 kac_n kac_s kac_i (lyP8 hb) (lyP8 ha) (by decide) (by decide) (by decide) (by decide) (by decide) (Nat.le_of_ble_eq_true rfl) (M' := mcp (mcp (mcp (mcp (mcp (mcp (mcp (mcp M (b + 1) (a + 1) 0 0 7) (b + 2) (a + 2) 0 0 7) (b + 3) (a + 3) 0 0 7) (b + 4) (a + 4) 0 0 7) (b + 5) (a + 5) 0 0 4) (b + 6) (a + 6) 0 0 4) (b + 7) (a + 7) 0 0 5) (b + 8) (a + 8) 0 0 49) rfl ?_
  refine r_aload_n (pc := 117) (tb_at tkX5_takeFrom 64 rfl) rfl rfl ?_
  refine r_aload_n (pc := 118) (tb_at tkX5_takeFrom 65 rfl) rfl rfl ?_
  refine r_get 5 8 (pc := 119) (tb_at tkX5_takeFrom 66 rfl) (lyP0 hb) flX5_36 rfl ?_
  refine r_put 5 8 ((mcp (mcp (mcp (mcp (mcp (mcp (mcp (mcp M (b + 1) (a + 1) 0 0 7) (b + 2) (a + 2) 0 0 7) (b + 3) (a + 3) 0 0 7) (b + 4) (a + 4) 0 0 7) (b + 5) (a + 5) 0 0 4) (b + 6) (a + 6) 0 0 4) (b + 7) (a + 7) 0 0 5) (b + 8) (a + 8) 0 0 49) b 8) (pc := 122) (tb_at tkX5_takeFrom 67 rfl) (lyP0 ha) flX5_36 (fun r h => by cases h; rfl) (.inl rfl) rfl (fun h => by cases h) rfl ?_
  refine r_aload_n (pc := 125) (tb_at tkX5_takeFrom 68 rfl) rfl rfl ?_
  refine r_aload_n (pc := 126) (tb_at tkX5_takeFrom 69 rfl) rfl rfl ?_
  refine r_get 5 9 (pc := 127) (tb_at tkX5_takeFrom 70 rfl) (lyP0 hb) flX5_40 rfl ?_
  refine r_put 5 9 ((mup (mcp (mcp (mcp (mcp (mcp (mcp (mcp (mcp M (b + 1) (a + 1) 0 0 7) (b + 2) (a + 2) 0 0 7) (b + 3) (a + 3) 0 0 7) (b + 4) (a + 4) 0 0 7) (b + 5) (a + 5) 0 0 4) (b + 6) (a + 6) 0 0 4) (b + 7) (a + 7) 0 0 5) (b + 8) (a + 8) 0 0 49) a 8 ((mcp (mcp (mcp (mcp (mcp (mcp (mcp (mcp M (b + 1) (a + 1) 0 0 7) (b + 2) (a + 2) 0 0 7) (b + 3) (a + 3) 0 0 7) (b + 4) (a + 4) 0 0 7) (b + 5) (a + 5) 0 0 4) (b + 6) (a + 6) 0 0 4) (b + 7) (a + 7) 0 0 5) (b + 8) (a + 8) 0 0 49) b 8)) b 9) (pc := 130) (tb_at tkX5_takeFrom 71 rfl) (lyP0 ha) flX5_40 (fun r h => by cases h; rfl) (.inl rfl) rfl (fun h => by cases h) rfl ?_
  refine r_aload_n (pc := 133) (tb_at tkX5_takeFrom 72 rfl) rfl rfl ?_
  refine r_dup (pc := 134) (tb_at tkX5_takeFrom 73 rfl) (fun _ h => by cases h) ?_
  refine r_get 5 10 (pc := 135) (tb_at tkX5_takeFrom 74 rfl) (lyP0 ha) flX5_43 rfl ?_
  refine r_iconst (pc := 138) (tb_at tkX5_takeFrom 75 rfl) ⟨by decide, by decide⟩ ?_
  refine r_iadd (pc := 139) (tb_at tkX5_takeFrom 76 rfl) ?_
  refine r_put 5 10 (w32 (((mup (mup (mcp (mcp (mcp (mcp (mcp (mcp (mcp (mcp M (b + 1) (a + 1) 0 0 7) (b + 2) (a + 2) 0 0 7) (b + 3) (a + 3) 0 0 7) (b + 4) (a + 4) 0 0 7) (b + 5) (a + 5) 0 0 4) (b + 6) (a + 6) 0 0 4) (b + 7) (a + 7) 0 0 5) (b + 8) (a + 8) 0 0 49) a 8 ((mcp (mcp (mcp (mcp (mcp (mcp (mcp (mcp M (b + 1) (a + 1) 0 0 7) (b + 2) (a + 2) 0 0 7) (b + 3) (a + 3) 0 0 7) (b + 4) (a + 4) 0 0 7) (b + 5) (a + 5) 0 0 4) (b + 6) (a + 6) 0 0 4) (b + 7) (a + 7) 0 0 5) (b + 8) (a + 8) 0 0 49) b 8)) a 9 ((mup (mcp (mcp (mcp (mcp (mcp (mcp (mcp (mcp M (b + 1) (a + 1) 0 0 7) (b + 2) (a + 2) 0 0 7) (b + 3) (a + 3) 0 0 7) (b + 4) (a + 4) 0 0 7) (b + 5) (a + 5) 0 0 4) (b + 6) (a + 6) 0 0 4) (b + 7) (a + 7) 0 0 5) (b + 8) (a + 8) 0 0 49) a 8 ((mcp (mcp (mcp (mcp (mcp (mcp (mcp (mcp M (b + 1) (a + 1) 0 0 7) (b + 2) (a + 2) 0 0 7) (b + 3) (a + 3) 0 0 7) (b + 4) (a + 4) 0 0 7) (b + 5) (a + 5) 0 0 4) (b + 6) (a + 6) 0 0 4) (b + 7) (a + 7) 0 0 5) (b + 8) (a + 8) 0 0 49) b 8)) b 9)) a 10) + 1)) (pc := 140) (tb_at tkX5_takeFrom 77 rfl) (lyP0 ha) flX5_43 (fun r h => by cases h; rfl) (.inl rfl) rfl (fun h => by cases h) rfl ?_
  exact r_vret (pc := 143) (tb_at tkX5_takeFrom 78 rfl) rfl (Nat.le_refl _) (Nat.le_refl _) ⟨rfl, rfl, h⟩
set_option maxRecDepth 100000 in
set_option maxHeartbeats 4000000 in
theorem gX6_parentOf_0 {G : GE} {d : Nat} {K : Int → Mem → Prop} {M : Mem} {v0 : Int}  (h : ((v0 = 1 → K 0 M) ∧ (v0 = 2 → K 0 M) ∧ (v0 = 3 → K 1 M) ∧ (v0 = 4 → K 2 M) ∧ (v0 = 5 → K 0 M) ∧ (v0 < 1 ∨ 5 < v0 → K (-1) M))) : OkI G miX6_parentOf d K 0 [some (.inl v0)] [] M := by
  refine r_iload_n (pc := 0) (tb_at tkX6_parentOf 0 rfl) rfl rfl ?_
  by_cases c0 : v0 < 1 ∨ 5 < v0
  · refine r_tblOut (tgt := 42) (pc := 1) (tb_at tkX6_parentOf 1 rfl) c0 (by decide) ?_
    replace h := h.2.2.2.2.2 c0
    refine r_iconst (pc := 42) (tb_at tkX6_parentOf 8 rfl) ⟨by decide, by decide⟩ ?_
    exact r_iret (pc := 43) (tb_at tkX6_parentOf 9 rfl) rfl (Nat.le_refl _) (Nat.le_refl _) ⟨_, rfl, rfl, h⟩
  · have cc : v0 = 1 ∨ v0 = 2 ∨ v0 = 3 ∨ v0 = 4 ∨ v0 = 5 := by omega
    rcases cc with c | c | c | c | c
    · refine r_tblIn (off := 35) (tgt := 36) (pc := 1) (tb_at tkX6_parentOf 1 rfl) (by omega) (by omega) (by rw [c]; rfl) (by decide) ?_
      replace h := h.1 c
      refine r_iconst (pc := 36) (tb_at tkX6_parentOf 2 rfl) ⟨by decide, by decide⟩ ?_
      exact r_iret (pc := 37) (tb_at tkX6_parentOf 3 rfl) rfl (Nat.le_refl _) (Nat.le_refl _) ⟨_, rfl, rfl, h⟩
    · refine r_tblIn (off := 35) (tgt := 36) (pc := 1) (tb_at tkX6_parentOf 1 rfl) (by omega) (by omega) (by rw [c]; rfl) (by decide) ?_
      replace h := h.2.1 c
      refine r_iconst (pc := 36) (tb_at tkX6_parentOf 2 rfl) ⟨by decide, by decide⟩ ?_
      exact r_iret (pc := 37) (tb_at tkX6_parentOf 3 rfl) rfl (Nat.le_refl _) (Nat.le_refl _) ⟨_, rfl, rfl, h⟩
    · refine r_tblIn (off := 37) (tgt := 38) (pc := 1) (tb_at tkX6_parentOf 1 rfl) (by omega) (by omega) (by rw [c]; rfl) (by decide) ?_
      replace h := h.2.2.1 c
      refine r_iconst (pc := 38) (tb_at tkX6_parentOf 4 rfl) ⟨by decide, by decide⟩ ?_
      exact r_iret (pc := 39) (tb_at tkX6_parentOf 5 rfl) rfl (Nat.le_refl _) (Nat.le_refl _) ⟨_, rfl, rfl, h⟩
    · refine r_tblIn (off := 39) (tgt := 40) (pc := 1) (tb_at tkX6_parentOf 1 rfl) (by omega) (by omega) (by rw [c]; rfl) (by decide) ?_
      replace h := h.2.2.2.1 c
      refine r_iconst (pc := 40) (tb_at tkX6_parentOf 6 rfl) ⟨by decide, by decide⟩ ?_
      exact r_iret (pc := 41) (tb_at tkX6_parentOf 7 rfl) rfl (Nat.le_refl _) (Nat.le_refl _) ⟨_, rfl, rfl, h⟩
    · refine r_tblIn (off := 35) (tgt := 36) (pc := 1) (tb_at tkX6_parentOf 1 rfl) (by omega) (by omega) (by rw [c]; rfl) (by decide) ?_
      replace h := h.2.2.2.2.1 c
      refine r_iconst (pc := 36) (tb_at tkX6_parentOf 2 rfl) ⟨by decide, by decide⟩ ?_
      exact r_iret (pc := 37) (tb_at tkX6_parentOf 3 rfl) rfl (Nat.le_refl _) (Nat.le_refl _) ⟨_, rfl, rfl, h⟩
set_option maxRecDepth 100000 in
set_option maxHeartbeats 4000000 in
theorem gX6_isUnder_0 {G : GE} {d : Nat} {K : Int → Mem → Prop} {M : Mem} {v0 v1 : Int}  (h : OkI G miX6_isUnder (d + 1) K 4 [none, some (.inl v1), some (.inl v0), some (.inl 0)] [] M) : OkI G miX6_isUnder (d + 1) K 0 [some (.inl v0), some (.inl v1), none, none] [] M := by
  refine r_iload_n (pc := 0) (tb_at tkX6_isUnder 0 rfl) rfl rfl ?_
  refine r_istore_n (L' := [some (.inl v0), some (.inl v1), some (.inl v0), none]) (pc := 1) (tb_at tkX6_isUnder 1 rfl) rfl (by decide) rfl ?_
  refine r_iconst (pc := 2) (tb_at tkX6_isUnder 2 rfl) ⟨by decide, by decide⟩ ?_
  refine r_istore_n (L' := [some (.inl v0), some (.inl v1), some (.inl v0), some (.inl 0)]) (pc := 3) (tb_at tkX6_isUnder 3 rfl) rfl (by decide) rfl ?_
  exact Ok.forget h (And.intro rfl (And.intro rfl (And.intro rfl trivial)))
set_option maxRecDepth 100000 in
set_option maxHeartbeats 4000000 in
theorem gX6_isUnder_4 {G : GE} {d : Nat} {K : Int → Mem → Prop} {M : Mem} {v1 v2 v3 : Int}  (h : ((6 ≤ v3 → K 0 M) ∧ (v3 < 6 → ((v2 = (-1) → K 0 M) ∧ (¬ v2 = (-1) → ((¬ v2 = v1 → CalI G miX6_parentOf d [.inl v2] M (fun x2 M1 => OkI G miX6_isUnder (d + 1) K 4 [none, some (.inl v1), some (.inl x2), some (.inl (w32 (v3 + 1)))] [] M1)) ∧ (v2 = v1 → K 1 M))))))) : OkI G miX6_isUnder (d + 1) K 4 [none, some (.inl v1), some (.inl v2), some (.inl v3)] [] M := by
  refine r_iload_n (pc := 4) (tb_at tkX6_isUnder 4 rfl) rfl rfl ?_
  refine r_bipush (pc := 5) (tb_at tkX6_isUnder 5 rfl) ⟨by decide, by decide, by decide⟩ ?_
  refine q_icmp_ge (tgt := 33) (pc := 7) (tb_at tkX6_isUnder 6 rfl) (by decide) (fun c => ?_) (fun c => ?_)
  · replace h := h.1 c
    refine r_iconst (pc := 33) (tb_at tkX6_isUnder 20 rfl) ⟨by decide, by decide⟩ ?_
    exact r_zret (pc := 34) (tb_at tkX6_isUnder 21 rfl) rfl (by decide) (Nat.le_refl _) (Nat.le_refl _) ⟨_, rfl, rfl, h⟩
  · replace h := h.2 c
    refine r_iload_n (pc := 10) (tb_at tkX6_isUnder 7 rfl) rfl rfl ?_
    refine r_iconst (pc := 11) (tb_at tkX6_isUnder 8 rfl) ⟨by decide, by decide⟩ ?_
    refine q_icmp_eq (tgt := 33) (pc := 12) (tb_at tkX6_isUnder 9 rfl) (by decide) (fun c => ?_) (fun c => ?_)
    · replace h := h.1 c
      refine r_iconst (pc := 33) (tb_at tkX6_isUnder 20 rfl) ⟨by decide, by decide⟩ ?_
      exact r_zret (pc := 34) (tb_at tkX6_isUnder 21 rfl) rfl (by decide) (Nat.le_refl _) (Nat.le_refl _) ⟨_, rfl, rfl, h⟩
    · replace h := h.2 c
      refine r_iload_n (pc := 15) (tb_at tkX6_isUnder 10 rfl) rfl rfl ?_
      refine r_iload_n (pc := 16) (tb_at tkX6_isUnder 11 rfl) rfl rfl ?_
      refine q_icmp_ne (tgt := 22) (pc := 17) (tb_at tkX6_isUnder 12 rfl) (by decide) (fun c => ?_) (fun c => ?_)
      · replace h := h.1 c
        refine r_iload_n (pc := 22) (tb_at tkX6_isUnder 15 rfl) rfl rfl ?_
        refine r_invS (mc' := 0) (ms' := 0) [.inl v2] (S := []) (pc := 23) (tb_at tkX6_isUnder 16 rfl) rfl clX6_9 (Nat.le_of_ble_eq_true rfl) (Nat.le_refl _) (Nat.le_refl _) ?_
        refine Cal.mono h ?_
        rintro _ _ M1 ⟨x2, rfl, rfl, h⟩
        show OkI G miX6_isUnder (d + 1) K 26 [none, some (.inl v1), some (.inl v2), some (.inl v3)] [.inl x2] M1
        refine r_istore_n (L' := [none, some (.inl v1), some (.inl x2), some (.inl v3)]) (pc := 26) (tb_at tkX6_isUnder 17 rfl) rfl (by decide) rfl ?_
        refine r_iinc (L' := [none, some (.inl v1), some (.inl x2), some (.inl (w32 (v3 + 1)))]) (pc := 27) (tb_at tkX6_isUnder 18 rfl) rfl (by decide) rfl ?_
        refine r_goto (tgt := 4) (pc := 30) (tb_at tkX6_isUnder 19 rfl) (by decide) ?_
        exact h
      · replace h := h.2 c
        refine r_iconst (pc := 20) (tb_at tkX6_isUnder 13 rfl) ⟨by decide, by decide⟩ ?_
        exact r_zret (pc := 21) (tb_at tkX6_isUnder 14 rfl) rfl (by decide) (Nat.le_refl _) (Nat.le_refl _) ⟨_, rfl, rfl, h⟩
set_option maxRecDepth 100000 in
set_option maxHeartbeats 4000000 in
theorem gX6_sit_0 {G : GE} {d : Nat} {K : Int → Mem → Prop} {M : Mem} {v0 v1 : Int}  (h : ((v0 = 1 → K (w32 (3 + (irem v1 3))) M) ∧ (v0 = 2 → K 2 M) ∧ (v0 = 3 → K (w32 (3 + (irem v1 3))) M) ∧ (v0 = 4 → K 1 M) ∧ (v0 = 5 → K (w32 (4 + v1)) M) ∧ (v0 < 1 ∨ 5 < v0 → K 3 M))) : OkI G miX6_sit d K 0 [some (.inl v0), some (.inl v1)] [] M := by
  refine r_iload_n (pc := 0) (tb_at tkX6_sit 0 rfl) rfl rfl ?_
  by_cases c0 : v0 < 1 ∨ 5 < v0
  · refine r_tblOut (tgt := 50) (pc := 1) (tb_at tkX6_sit 1 rfl) c0 (by decide) ?_
    replace h := h.2.2.2.2.2 c0
    refine r_iconst (pc := 50) (tb_at tkX6_sit 16 rfl) ⟨by decide, by decide⟩ ?_
    exact r_iret (pc := 51) (tb_at tkX6_sit 17 rfl) rfl (Nat.le_refl _) (Nat.le_refl _) ⟨_, rfl, rfl, h⟩
  · have cc : v0 = 1 ∨ v0 = 2 ∨ v0 = 3 ∨ v0 = 4 ∨ v0 = 5 := by omega
    rcases cc with c | c | c | c | c
    · refine r_tblIn (off := 35) (tgt := 36) (pc := 1) (tb_at tkX6_sit 1 rfl) (by omega) (by omega) (by rw [c]; rfl) (by decide) ?_
      replace h := h.1 c
      refine r_iconst (pc := 36) (tb_at tkX6_sit 2 rfl) ⟨by decide, by decide⟩ ?_
      refine r_iload_n (pc := 37) (tb_at tkX6_sit 3 rfl) rfl rfl ?_
      refine r_iconst (pc := 38) (tb_at tkX6_sit 4 rfl) ⟨by decide, by decide⟩ ?_
      refine r_irem (pc := 39) (tb_at tkX6_sit 5 rfl) (by decide) ?_
      refine r_iadd (pc := 40) (tb_at tkX6_sit 6 rfl) ?_
      exact r_iret (pc := 41) (tb_at tkX6_sit 7 rfl) rfl (Nat.le_refl _) (Nat.le_refl _) ⟨_, rfl, rfl, h⟩
    · refine r_tblIn (off := 41) (tgt := 42) (pc := 1) (tb_at tkX6_sit 1 rfl) (by omega) (by omega) (by rw [c]; rfl) (by decide) ?_
      replace h := h.2.1 c
      refine r_iconst (pc := 42) (tb_at tkX6_sit 8 rfl) ⟨by decide, by decide⟩ ?_
      exact r_iret (pc := 43) (tb_at tkX6_sit 9 rfl) rfl (Nat.le_refl _) (Nat.le_refl _) ⟨_, rfl, rfl, h⟩
    · refine r_tblIn (off := 35) (tgt := 36) (pc := 1) (tb_at tkX6_sit 1 rfl) (by omega) (by omega) (by rw [c]; rfl) (by decide) ?_
      replace h := h.2.2.1 c
      refine r_iconst (pc := 36) (tb_at tkX6_sit 2 rfl) ⟨by decide, by decide⟩ ?_
      refine r_iload_n (pc := 37) (tb_at tkX6_sit 3 rfl) rfl rfl ?_
      refine r_iconst (pc := 38) (tb_at tkX6_sit 4 rfl) ⟨by decide, by decide⟩ ?_
      refine r_irem (pc := 39) (tb_at tkX6_sit 5 rfl) (by decide) ?_
      refine r_iadd (pc := 40) (tb_at tkX6_sit 6 rfl) ?_
      exact r_iret (pc := 41) (tb_at tkX6_sit 7 rfl) rfl (Nat.le_refl _) (Nat.le_refl _) ⟨_, rfl, rfl, h⟩
    · refine r_tblIn (off := 43) (tgt := 44) (pc := 1) (tb_at tkX6_sit 1 rfl) (by omega) (by omega) (by rw [c]; rfl) (by decide) ?_
      replace h := h.2.2.2.1 c
      refine r_iconst (pc := 44) (tb_at tkX6_sit 10 rfl) ⟨by decide, by decide⟩ ?_
      exact r_iret (pc := 45) (tb_at tkX6_sit 11 rfl) rfl (Nat.le_refl _) (Nat.le_refl _) ⟨_, rfl, rfl, h⟩
    · refine r_tblIn (off := 45) (tgt := 46) (pc := 1) (tb_at tkX6_sit 1 rfl) (by omega) (by omega) (by rw [c]; rfl) (by decide) ?_
      replace h := h.2.2.2.2.1 c
      refine r_iconst (pc := 46) (tb_at tkX6_sit 12 rfl) ⟨by decide, by decide⟩ ?_
      refine r_iload_n (pc := 47) (tb_at tkX6_sit 13 rfl) rfl rfl ?_
      refine r_iadd (pc := 48) (tb_at tkX6_sit 14 rfl) ?_
      exact r_iret (pc := 49) (tb_at tkX6_sit 15 rfl) rfl (Nat.le_refl _) (Nat.le_refl _) ⟨_, rfl, rfl, h⟩
set_option maxRecDepth 100000 in
set_option maxHeartbeats 4000000 in
theorem gX6_rest_0 {G : GE} {d : Nat} {K : Int → Mem → Prop} {M : Mem} {v0 v1 : Int}  (h : ((v0 = 1 → K (w32 (20 + v1)) M) ∧ (v0 = 2 → K 20 M) ∧ (v0 = 3 → K (w32 (15 + v1)) M) ∧ (v0 = 4 → K (w32 (20 - v1)) M) ∧ (v0 < 1 ∨ 4 < v0 → K 20 M))) : OkI G miX6_rest d K 0 [some (.inl v0), some (.inl v1)] [] M := by
  refine r_iload_n (pc := 0) (tb_at tkX6_rest 0 rfl) rfl rfl ?_
  by_cases c0 : v0 < 1 ∨ 4 < v0
  · refine r_tblOut (tgt := 47) (pc := 1) (tb_at tkX6_rest 1 rfl) c0 (by decide) ?_
    replace h := h.2.2.2.2 c0
    refine r_bipush (pc := 47) (tb_at tkX6_rest 14 rfl) ⟨by decide, by decide, by decide⟩ ?_
    exact r_iret (pc := 49) (tb_at tkX6_rest 15 rfl) rfl (Nat.le_refl _) (Nat.le_refl _) ⟨_, rfl, rfl, h⟩
  · have cc : v0 = 1 ∨ v0 = 2 ∨ v0 = 3 ∨ v0 = 4 := by omega
    rcases cc with c | c | c | c
    · refine r_tblIn (off := 31) (tgt := 32) (pc := 1) (tb_at tkX6_rest 1 rfl) (by omega) (by omega) (by rw [c]; rfl) (by decide) ?_
      replace h := h.1 c
      refine r_bipush (pc := 32) (tb_at tkX6_rest 2 rfl) ⟨by decide, by decide, by decide⟩ ?_
      refine r_iload_n (pc := 34) (tb_at tkX6_rest 3 rfl) rfl rfl ?_
      refine r_iadd (pc := 35) (tb_at tkX6_rest 4 rfl) ?_
      exact r_iret (pc := 36) (tb_at tkX6_rest 5 rfl) rfl (Nat.le_refl _) (Nat.le_refl _) ⟨_, rfl, rfl, h⟩
    · refine r_tblIn (off := 46) (tgt := 47) (pc := 1) (tb_at tkX6_rest 1 rfl) (by omega) (by omega) (by rw [c]; rfl) (by decide) ?_
      replace h := h.2.1 c
      refine r_bipush (pc := 47) (tb_at tkX6_rest 14 rfl) ⟨by decide, by decide, by decide⟩ ?_
      exact r_iret (pc := 49) (tb_at tkX6_rest 15 rfl) rfl (Nat.le_refl _) (Nat.le_refl _) ⟨_, rfl, rfl, h⟩
    · refine r_tblIn (off := 36) (tgt := 37) (pc := 1) (tb_at tkX6_rest 1 rfl) (by omega) (by omega) (by rw [c]; rfl) (by decide) ?_
      replace h := h.2.2.1 c
      refine r_bipush (pc := 37) (tb_at tkX6_rest 6 rfl) ⟨by decide, by decide, by decide⟩ ?_
      refine r_iload_n (pc := 39) (tb_at tkX6_rest 7 rfl) rfl rfl ?_
      refine r_iadd (pc := 40) (tb_at tkX6_rest 8 rfl) ?_
      exact r_iret (pc := 41) (tb_at tkX6_rest 9 rfl) rfl (Nat.le_refl _) (Nat.le_refl _) ⟨_, rfl, rfl, h⟩
    · refine r_tblIn (off := 41) (tgt := 42) (pc := 1) (tb_at tkX6_rest 1 rfl) (by omega) (by omega) (by rw [c]; rfl) (by decide) ?_
      replace h := h.2.2.2.1 c
      refine r_bipush (pc := 42) (tb_at tkX6_rest 10 rfl) ⟨by decide, by decide, by decide⟩ ?_
      refine r_iload_n (pc := 44) (tb_at tkX6_rest 11 rfl) rfl rfl ?_
      refine r_isub (pc := 45) (tb_at tkX6_rest 12 rfl) ?_
      exact r_iret (pc := 46) (tb_at tkX6_rest 13 rfl) rfl (Nat.le_refl _) (Nat.le_refl _) ⟨_, rfl, rfl, h⟩
set_option maxRecDepth 100000 in
set_option maxHeartbeats 4000000 in
theorem gX6_legs_0 {G : GE} {d : Nat} {K : Int → Mem → Prop} {M : Mem} {v0 : Int}  (h : ((v0 = 2 → K 4 M) ∧ (v0 = 3 → K 2 M) ∧ (v0 = 4 → K 4 M) ∧ (v0 = 5 → K 2 M) ∧ (v0 < 2 ∨ 5 < v0 → K 3 M))) : OkI G miX6_legs d K 0 [some (.inl v0)] [] M := by
  refine r_iload_n (pc := 0) (tb_at tkX6_legs 0 rfl) rfl rfl ?_
  by_cases c0 : v0 < 2 ∨ 5 < v0
  · refine r_tblOut (tgt := 36) (pc := 1) (tb_at tkX6_legs 1 rfl) c0 (by decide) ?_
    replace h := h.2.2.2.2 c0
    refine r_iconst (pc := 36) (tb_at tkX6_legs 6 rfl) ⟨by decide, by decide⟩ ?_
    exact r_iret (pc := 37) (tb_at tkX6_legs 7 rfl) rfl (Nat.le_refl _) (Nat.le_refl _) ⟨_, rfl, rfl, h⟩
  · have cc : v0 = 2 ∨ v0 = 3 ∨ v0 = 4 ∨ v0 = 5 := by omega
    rcases cc with c | c | c | c
    · refine r_tblIn (off := 31) (tgt := 32) (pc := 1) (tb_at tkX6_legs 1 rfl) (by omega) (by omega) (by rw [c]; rfl) (by decide) ?_
      replace h := h.1 c
      refine r_iconst (pc := 32) (tb_at tkX6_legs 2 rfl) ⟨by decide, by decide⟩ ?_
      exact r_iret (pc := 33) (tb_at tkX6_legs 3 rfl) rfl (Nat.le_refl _) (Nat.le_refl _) ⟨_, rfl, rfl, h⟩
    · refine r_tblIn (off := 33) (tgt := 34) (pc := 1) (tb_at tkX6_legs 1 rfl) (by omega) (by omega) (by rw [c]; rfl) (by decide) ?_
      replace h := h.2.1 c
      refine r_iconst (pc := 34) (tb_at tkX6_legs 4 rfl) ⟨by decide, by decide⟩ ?_
      exact r_iret (pc := 35) (tb_at tkX6_legs 5 rfl) rfl (Nat.le_refl _) (Nat.le_refl _) ⟨_, rfl, rfl, h⟩
    · refine r_tblIn (off := 31) (tgt := 32) (pc := 1) (tb_at tkX6_legs 1 rfl) (by omega) (by omega) (by rw [c]; rfl) (by decide) ?_
      replace h := h.2.2.1 c
      refine r_iconst (pc := 32) (tb_at tkX6_legs 2 rfl) ⟨by decide, by decide⟩ ?_
      exact r_iret (pc := 33) (tb_at tkX6_legs 3 rfl) rfl (Nat.le_refl _) (Nat.le_refl _) ⟨_, rfl, rfl, h⟩
    · refine r_tblIn (off := 33) (tgt := 34) (pc := 1) (tb_at tkX6_legs 1 rfl) (by omega) (by omega) (by rw [c]; rfl) (by decide) ?_
      replace h := h.2.2.2.1 c
      refine r_iconst (pc := 34) (tb_at tkX6_legs 4 rfl) ⟨by decide, by decide⟩ ?_
      exact r_iret (pc := 35) (tb_at tkX6_legs 5 rfl) rfl (Nat.le_refl _) (Nat.le_refl _) ⟨_, rfl, rfl, h⟩
set_option maxRecDepth 100000 in
set_option maxHeartbeats 4000000 in
theorem gX6_span_0 {G : GE} {d : Nat} {K : Int → Mem → Prop} {M : Mem} {v0 v1 : Int}  (h : ((v0 = 1 → K (w32 (40 - v1)) M) ∧ (v0 = 2 → K (w32 (40 + v1)) M) ∧ (v0 = 3 → K (w32 (40 - v1)) M) ∧ (v0 = 4 → K (w32 (50 + v1)) M) ∧ (v0 < 1 ∨ 4 < v0 → K 40 M))) : OkI G miX6_span d K 0 [some (.inl v0), some (.inl v1)] [] M := by
  refine r_iload_n (pc := 0) (tb_at tkX6_span 0 rfl) rfl rfl ?_
  by_cases c0 : v0 < 1 ∨ 4 < v0
  · refine r_tblOut (tgt := 47) (pc := 1) (tb_at tkX6_span 1 rfl) c0 (by decide) ?_
    replace h := h.2.2.2.2 c0
    refine r_bipush (pc := 47) (tb_at tkX6_span 14 rfl) ⟨by decide, by decide, by decide⟩ ?_
    exact r_iret (pc := 49) (tb_at tkX6_span 15 rfl) rfl (Nat.le_refl _) (Nat.le_refl _) ⟨_, rfl, rfl, h⟩
  · have cc : v0 = 1 ∨ v0 = 2 ∨ v0 = 3 ∨ v0 = 4 := by omega
    rcases cc with c | c | c | c
    · refine r_tblIn (off := 31) (tgt := 32) (pc := 1) (tb_at tkX6_span 1 rfl) (by omega) (by omega) (by rw [c]; rfl) (by decide) ?_
      replace h := h.1 c
      refine r_bipush (pc := 32) (tb_at tkX6_span 2 rfl) ⟨by decide, by decide, by decide⟩ ?_
      refine r_iload_n (pc := 34) (tb_at tkX6_span 3 rfl) rfl rfl ?_
      refine r_isub (pc := 35) (tb_at tkX6_span 4 rfl) ?_
      exact r_iret (pc := 36) (tb_at tkX6_span 5 rfl) rfl (Nat.le_refl _) (Nat.le_refl _) ⟨_, rfl, rfl, h⟩
    · refine r_tblIn (off := 36) (tgt := 37) (pc := 1) (tb_at tkX6_span 1 rfl) (by omega) (by omega) (by rw [c]; rfl) (by decide) ?_
      replace h := h.2.1 c
      refine r_bipush (pc := 37) (tb_at tkX6_span 6 rfl) ⟨by decide, by decide, by decide⟩ ?_
      refine r_iload_n (pc := 39) (tb_at tkX6_span 7 rfl) rfl rfl ?_
      refine r_iadd (pc := 40) (tb_at tkX6_span 8 rfl) ?_
      exact r_iret (pc := 41) (tb_at tkX6_span 9 rfl) rfl (Nat.le_refl _) (Nat.le_refl _) ⟨_, rfl, rfl, h⟩
    · refine r_tblIn (off := 31) (tgt := 32) (pc := 1) (tb_at tkX6_span 1 rfl) (by omega) (by omega) (by rw [c]; rfl) (by decide) ?_
      replace h := h.2.2.1 c
      refine r_bipush (pc := 32) (tb_at tkX6_span 2 rfl) ⟨by decide, by decide, by decide⟩ ?_
      refine r_iload_n (pc := 34) (tb_at tkX6_span 3 rfl) rfl rfl ?_
      refine r_isub (pc := 35) (tb_at tkX6_span 4 rfl) ?_
      exact r_iret (pc := 36) (tb_at tkX6_span 5 rfl) rfl (Nat.le_refl _) (Nat.le_refl _) ⟨_, rfl, rfl, h⟩
    · refine r_tblIn (off := 41) (tgt := 42) (pc := 1) (tb_at tkX6_span 1 rfl) (by omega) (by omega) (by rw [c]; rfl) (by decide) ?_
      replace h := h.2.2.2.1 c
      refine r_bipush (pc := 42) (tb_at tkX6_span 10 rfl) ⟨by decide, by decide, by decide⟩ ?_
      refine r_iload_n (pc := 44) (tb_at tkX6_span 11 rfl) rfl rfl ?_
      refine r_iadd (pc := 45) (tb_at tkX6_span 12 rfl) ?_
      exact r_iret (pc := 46) (tb_at tkX6_span 13 rfl) rfl (Nat.le_refl _) (Nat.le_refl _) ⟨_, rfl, rfl, h⟩
set_option maxRecDepth 100000 in
set_option maxHeartbeats 4000000 in
theorem gX6_duties_0 {G : GE} {d : Nat} {K : Int → Mem → Prop} {M : Mem} {v0 : Int}  (h : ((v0 = 4 → K 2 M) ∧ (¬ v0 = 4 → ((¬ v0 = 5 → K 3 M) ∧ (v0 = 5 → K 2 M))))) : OkI G miX6_duties d K 0 [some (.inl v0)] [] M := by
  refine r_iload_n (pc := 0) (tb_at tkX6_duties 0 rfl) rfl rfl ?_
  refine r_iconst (pc := 1) (tb_at tkX6_duties 1 rfl) ⟨by decide, by decide⟩ ?_
  refine q_icmp_eq (tgt := 10) (pc := 2) (tb_at tkX6_duties 2 rfl) (by decide) (fun c => ?_) (fun c => ?_)
  · replace h := h.1 c
    refine r_iconst (pc := 10) (tb_at tkX6_duties 6 rfl) ⟨by decide, by decide⟩ ?_
    refine r_goto (tgt := 15) (pc := 11) (tb_at tkX6_duties 7 rfl) (by decide) ?_
    exact r_iret (pc := 15) (tb_at tkX6_duties 9 rfl) rfl (Nat.le_refl _) (Nat.le_refl _) ⟨_, rfl, rfl, h⟩
  · replace h := h.2 c
    refine r_iload_n (pc := 5) (tb_at tkX6_duties 3 rfl) rfl rfl ?_
    refine r_iconst (pc := 6) (tb_at tkX6_duties 4 rfl) ⟨by decide, by decide⟩ ?_
    refine q_icmp_ne (tgt := 14) (pc := 7) (tb_at tkX6_duties 5 rfl) (by decide) (fun c => ?_) (fun c => ?_)
    · replace h := h.1 c
      refine r_iconst (pc := 14) (tb_at tkX6_duties 8 rfl) ⟨by decide, by decide⟩ ?_
      exact r_iret (pc := 15) (tb_at tkX6_duties 9 rfl) rfl (Nat.le_refl _) (Nat.le_refl _) ⟨_, rfl, rfl, h⟩
    · replace h := h.2 c
      refine r_iconst (pc := 10) (tb_at tkX6_duties 6 rfl) ⟨by decide, by decide⟩ ?_
      refine r_goto (tgt := 15) (pc := 11) (tb_at tkX6_duties 7 rfl) (by decide) ?_
      exact r_iret (pc := 15) (tb_at tkX6_duties 9 rfl) rfl (Nat.le_refl _) (Nat.le_refl _) ⟨_, rfl, rfl, h⟩
set_option maxRecDepth 100000 in
set_option maxHeartbeats 4000000 in
theorem gX7_isSheet_0 {G : GE} {d : Nat} {K : Int → Mem → Prop} {M : Mem} {v1 : Int}  (h : ((v1 < 0 → K 0 M) ∧ (0 ≤ v1 → ((4 ≤ v1 → K 0 M) ∧ (v1 < 4 → K 1 M))))) : OkI G miX7_isSheet d K 0 [some (.inr (.inr (some 61))), some (.inl v1)] [] M := by
  refine r_iload_n (pc := 0) (tb_at tkX7_isSheet 0 rfl) rfl rfl ?_
  refine q_if_lt (tgt := 13) (pc := 1) (tb_at tkX7_isSheet 1 rfl) (by decide) (fun c => ?_) (fun c => ?_)
  · replace h := h.1 c
    refine r_iconst (pc := 13) (tb_at tkX7_isSheet 7 rfl) ⟨by decide, by decide⟩ ?_
    exact r_zret (pc := 14) (tb_at tkX7_isSheet 8 rfl) rfl (by decide) (Nat.le_refl _) (Nat.le_refl _) ⟨_, rfl, rfl, h⟩
  · replace h := h.2 c
    refine r_iload_n (pc := 4) (tb_at tkX7_isSheet 2 rfl) rfl rfl ?_
    refine r_iconst (pc := 5) (tb_at tkX7_isSheet 3 rfl) ⟨by decide, by decide⟩ ?_
    refine q_icmp_ge (tgt := 13) (pc := 6) (tb_at tkX7_isSheet 4 rfl) (by decide) (fun c => ?_) (fun c => ?_)
    · replace h := h.1 c
      refine r_iconst (pc := 13) (tb_at tkX7_isSheet 7 rfl) ⟨by decide, by decide⟩ ?_
      exact r_zret (pc := 14) (tb_at tkX7_isSheet 8 rfl) rfl (by decide) (Nat.le_refl _) (Nat.le_refl _) ⟨_, rfl, rfl, h⟩
    · replace h := h.2 c
      refine r_iconst (pc := 9) (tb_at tkX7_isSheet 5 rfl) ⟨by decide, by decide⟩ ?_
      refine r_goto (tgt := 14) (pc := 10) (tb_at tkX7_isSheet 6 rfl) (by decide) ?_
      exact r_zret (pc := 14) (tb_at tkX7_isSheet 8 rfl) rfl (by decide) (Nat.le_refl _) (Nat.le_refl _) ⟨_, rfl, rfl, h⟩
set_option maxRecDepth 100000 in
set_option maxHeartbeats 4000000 in
theorem gX7_isMissing_0 {G : GE} {d : Nat} {K : Int → Mem → Prop} {M : Mem} {v1 : Int}  (h : (0 ≤ v1 ∧ v1 < 4) ∧ ((¬ (M 62 (v1).toNat) = (-1) → K 0 M) ∧ ((M 62 (v1).toNat) = (-1) → K 1 M))) : OkI G miX7_isMissing d K 0 [some (.inr (.inr (some 61))), some (.inl v1)] [] M := by
  refine r_aload_n (pc := 0) (tb_at tkX7_isMissing 0 rfl) rfl rfl ?_
  refine r_get 6 0 (pc := 1) (tb_at tkX7_isMissing 1 rfl) ly_61 flX7_9 rfl ?_
  refine r_iload_n (pc := 4) (tb_at tkX7_isMissing 2 rfl) rfl rfl ?_
  refine r_iald (pc := 5) (tb_at tkX7_isMissing 3 rfl) ly_62 h.1.1 h.1.2 ?_
  replace h := h.2
  refine r_iconst (pc := 6) (tb_at tkX7_isMissing 4 rfl) ⟨by decide, by decide⟩ ?_
  refine q_icmp_ne (tgt := 14) (pc := 7) (tb_at tkX7_isMissing 5 rfl) (by decide) (fun c => ?_) (fun c => ?_)
  · replace h := h.1 c
    refine r_iconst (pc := 14) (tb_at tkX7_isMissing 8 rfl) ⟨by decide, by decide⟩ ?_
    exact r_zret (pc := 15) (tb_at tkX7_isMissing 9 rfl) rfl (by decide) (Nat.le_refl _) (Nat.le_refl _) ⟨_, rfl, rfl, h⟩
  · replace h := h.2 c
    refine r_iconst (pc := 10) (tb_at tkX7_isMissing 6 rfl) ⟨by decide, by decide⟩ ?_
    refine r_goto (tgt := 15) (pc := 11) (tb_at tkX7_isMissing 7 rfl) (by decide) ?_
    exact r_zret (pc := 15) (tb_at tkX7_isMissing 9 rfl) rfl (by decide) (Nat.le_refl _) (Nat.le_refl _) ⟨_, rfl, rfl, h⟩
set_option maxRecDepth 100000 in
set_option maxHeartbeats 4000000 in
theorem gX7_hasItems_0 {G : GE} {d : Nat} {K : Int → Mem → Prop} {M : Mem} {v1 v2 v3 : Int}  (h : ((v2 < 0 → K 0 M) ∧ (0 ≤ v2 → (0 ≤ v1 ∧ v1 < 4) ∧ (((M 63 (v1).toNat) < v3 → K 0 M) ∧ (v3 ≤ (M 63 (v1).toNat) → (0 ≤ v1 ∧ v1 < 4) ∧ (((w32 ((M 63 (v1).toNat) - v3)) < v2 → K 0 M) ∧ (v2 ≤ (w32 ((M 63 (v1).toNat) - v3)) → K 1 M))))))) : OkI G miX7_hasItems d K 0 [some (.inr (.inr (some 61))), some (.inl v1), some (.inl v2), some (.inl v3)] [] M := by
  refine r_iload_n (pc := 0) (tb_at tkX7_hasItems 0 rfl) rfl rfl ?_
  refine q_if_lt (tgt := 30) (pc := 1) (tb_at tkX7_hasItems 1 rfl) (by decide) (fun c => ?_) (fun c => ?_)
  · replace h := h.1 c
    refine r_iconst (pc := 30) (tb_at tkX7_hasItems 18 rfl) ⟨by decide, by decide⟩ ?_
    exact r_zret (pc := 31) (tb_at tkX7_hasItems 19 rfl) rfl (by decide) (Nat.le_refl _) (Nat.le_refl _) ⟨_, rfl, rfl, h⟩
  · replace h := h.2 c
    refine r_iload_n (pc := 4) (tb_at tkX7_hasItems 2 rfl) rfl rfl ?_
    refine r_aload_n (pc := 5) (tb_at tkX7_hasItems 3 rfl) rfl rfl ?_
    refine r_get 6 1 (pc := 6) (tb_at tkX7_hasItems 4 rfl) ly_61 flX7_15 rfl ?_
    refine r_iload_n (pc := 9) (tb_at tkX7_hasItems 5 rfl) rfl rfl ?_
    refine r_iald (pc := 10) (tb_at tkX7_hasItems 6 rfl) ly_63 h.1.1 h.1.2 ?_
    replace h := h.2
    refine q_icmp_gt (tgt := 30) (pc := 11) (tb_at tkX7_hasItems 7 rfl) (by decide) (fun c => ?_) (fun c => ?_)
    · replace h := h.1 c
      refine r_iconst (pc := 30) (tb_at tkX7_hasItems 18 rfl) ⟨by decide, by decide⟩ ?_
      exact r_zret (pc := 31) (tb_at tkX7_hasItems 19 rfl) rfl (by decide) (Nat.le_refl _) (Nat.le_refl _) ⟨_, rfl, rfl, h⟩
    · replace h := h.2 c
      refine r_iload_n (pc := 14) (tb_at tkX7_hasItems 8 rfl) rfl rfl ?_
      refine r_aload_n (pc := 15) (tb_at tkX7_hasItems 9 rfl) rfl rfl ?_
      refine r_get 6 1 (pc := 16) (tb_at tkX7_hasItems 10 rfl) ly_61 flX7_15 rfl ?_
      refine r_iload_n (pc := 19) (tb_at tkX7_hasItems 11 rfl) rfl rfl ?_
      refine r_iald (pc := 20) (tb_at tkX7_hasItems 12 rfl) ly_63 h.1.1 h.1.2 ?_
      replace h := h.2
      refine r_iload_n (pc := 21) (tb_at tkX7_hasItems 13 rfl) rfl rfl ?_
      refine r_isub (pc := 22) (tb_at tkX7_hasItems 14 rfl) ?_
      refine q_icmp_gt (tgt := 30) (pc := 23) (tb_at tkX7_hasItems 15 rfl) (by decide) (fun c => ?_) (fun c => ?_)
      · replace h := h.1 c
        refine r_iconst (pc := 30) (tb_at tkX7_hasItems 18 rfl) ⟨by decide, by decide⟩ ?_
        exact r_zret (pc := 31) (tb_at tkX7_hasItems 19 rfl) rfl (by decide) (Nat.le_refl _) (Nat.le_refl _) ⟨_, rfl, rfl, h⟩
      · replace h := h.2 c
        refine r_iconst (pc := 26) (tb_at tkX7_hasItems 16 rfl) ⟨by decide, by decide⟩ ?_
        refine r_goto (tgt := 31) (pc := 27) (tb_at tkX7_hasItems 17 rfl) (by decide) ?_
        exact r_zret (pc := 31) (tb_at tkX7_hasItems 19 rfl) rfl (by decide) (Nat.le_refl _) (Nat.le_refl _) ⟨_, rfl, rfl, h⟩
set_option maxRecDepth 100000 in
set_option maxHeartbeats 4000000 in
theorem gX7_become_0 {G : GE} {d : Nat} {K : Mem → Prop} {M : Mem} {v1 v2 v3 : Int}  (h : (0 ≤ v1 ∧ v1 < 4) ∧ (0 ≤ v1 ∧ v1 < 4) ∧ OkV G miX7_become d K 17 [some (.inr (.inr (some 61))), some (.inl v1), none, none, some (.inl 0)] [] (mup (mup M 62 (v1).toNat v2) 63 (v1).toNat v3)) : OkV G miX7_become d K 0 [some (.inr (.inr (some 61))), some (.inl v1), some (.inl v2), some (.inl v3), none] [] M := by
  refine r_aload_n (pc := 0) (tb_at tkX7_become 0 rfl) rfl rfl ?_
  refine r_get 6 0 (pc := 1) (tb_at tkX7_become 1 rfl) ly_61 flX7_9 rfl ?_
  refine r_iload_n (pc := 4) (tb_at tkX7_become 2 rfl) rfl rfl ?_
  refine r_iload_n (pc := 5) (tb_at tkX7_become 3 rfl) rfl rfl ?_
  refine r_iast (pc := 6) (tb_at tkX7_become 4 rfl) ly_62 h.1.1 h.1.2 rfl ?_
  replace h := h.2
  refine r_aload_n (pc := 7) (tb_at tkX7_become 5 rfl) rfl rfl ?_
  refine r_get 6 1 (pc := 8) (tb_at tkX7_become 6 rfl) ly_61 flX7_15 rfl ?_
  refine r_iload_n (pc := 11) (tb_at tkX7_become 7 rfl) rfl rfl ?_
  refine r_iload_n (pc := 12) (tb_at tkX7_become 8 rfl) rfl rfl ?_
  refine r_iast (pc := 13) (tb_at tkX7_become 9 rfl) ly_63 h.1.1 h.1.2 rfl ?_
  replace h := h.2
  refine r_iconst (pc := 14) (tb_at tkX7_become 10 rfl) ⟨by decide, by decide⟩ ?_
  refine r_istore (L' := [some (.inr (.inr (some 61))), some (.inl v1), some (.inl v2), some (.inl v3), some (.inl 0)]) (pc := 15) (tb_at tkX7_become 11 rfl) (by decide) rfl ?_
  exact Ok.forget h (And.intro rfl (And.intro rfl (And.intro rfl trivial)))
set_option maxRecDepth 100000 in
set_option maxHeartbeats 4000000 in
theorem gX7_become_17 {G : GE} {d : Nat} {K : Mem → Prop} {M : Mem} {v1 v4 : Int}  (h : ((40 ≤ v4 → K M) ∧ (v4 < 40 → (0 ≤ (v1 * 40) + v4 ∧ (v1 * 40) + v4 < 160) ∧ OkV G miX7_become d K 17 [some (.inr (.inr (some 61))), some (.inl v1), none, none, some (.inl (w32 (v4 + 1)))] [] (mup M 64 ((v1 * 40) + v4).toNat 0)))) : OkV G miX7_become d K 17 [some (.inr (.inr (some 61))), some (.inl v1), none, none, some (.inl v4)] [] M := by
  refine r_iload (pc := 17) (tb_at tkX7_become 12 rfl) rfl ?_
  refine r_bipush (pc := 19) (tb_at tkX7_become 13 rfl) ⟨by decide, by decide, by decide⟩ ?_
  refine q_icmp_ge (tgt := 43) (pc := 21) (tb_at tkX7_become 14 rfl) (by decide) (fun c => ?_) (fun c => ?_)
  · replace h := h.1 c
    exact r_vret (pc := 43) (tb_at tkX7_become 26 rfl) rfl (Nat.le_refl _) (Nat.le_refl _) ⟨rfl, rfl, h⟩
  · replace h := h.2 c
    refine r_aload_n (pc := 24) (tb_at tkX7_become 15 rfl) rfl rfl ?_
    refine r_get 6 2 (pc := 25) (tb_at tkX7_become 16 rfl) ly_61 flX7_18 rfl ?_
    refine r_iload_n (pc := 28) (tb_at tkX7_become 17 rfl) rfl rfl ?_
    refine r_bipush (pc := 29) (tb_at tkX7_become 18 rfl) ⟨by decide, by decide, by decide⟩ ?_
    refine r_imul (pc := 31) (tb_at tkX7_become 19 rfl) ?_
    refine r_iload (pc := 32) (tb_at tkX7_become 20 rfl) rfl ?_
    refine r_iadd_l (pc := 34) (tb_at tkX7_become 21 rfl) ?_
    refine r_lconst (v := 0) (pc := 35) (tb_at tkX7_become 22 rfl) ⟨by decide, by decide, by decide⟩ ?_
    refine r_last_w (pc := 36) (tb_at tkX7_become 23 rfl) ly_64 (by decide) h.1.1 h.1.2 rfl ?_
    replace h := h.2
    refine r_iinc (L' := [some (.inr (.inr (some 61))), some (.inl v1), none, none, some (.inl (w32 (v4 + 1)))]) (pc := 37) (tb_at tkX7_become 24 rfl) rfl (by decide) rfl ?_
    refine r_goto (tgt := 17) (pc := 40) (tb_at tkX7_become 25 rfl) (by decide) ?_
    exact h
set_option maxRecDepth 100000 in
set_option maxHeartbeats 4000000 in
theorem gX7_read_0 {G : GE} {d : Nat} {K : Int → Mem → Prop} {M : Mem} {v1 v2 : Int}  (h : CalI G miX7_hasItems d [.inr (.inr (some 61)), .inl v1, .inl v2, .inl 1] M (fun x2 M1 => ((x2 = 0 → K 0 M1) ∧ (¬ x2 = 0 → (0 ≤ (v1 * 40) + v2 ∧ (v1 * 40) + v2 < 160) ∧ K (M1 64 ((v1 * 40) + v2).toNat) M1)))) : OkL G miX7_read (d + 1) K 0 [some (.inr (.inr (some 61))), some (.inl v1), some (.inl v2)] [] M := by
  refine r_aload_n (pc := 0) (tb_at tkX7_read 0 rfl) rfl rfl ?_
  refine r_iload_n (pc := 1) (tb_at tkX7_read 1 rfl) rfl rfl ?_
  refine r_iload_n (pc := 2) (tb_at tkX7_read 2 rfl) rfl rfl ?_
  refine r_iconst (pc := 3) (tb_at tkX7_read 3 rfl) ⟨by decide, by decide⟩ ?_
  refine r_invV (mc' := 0) (ms' := 0) [.inl v1, .inl v2, .inl 1] (S := []) (pc := 4) (tb_at tkX7_read 4 rfl) rfl ly_61 rfl rfl clX7_22 (Nat.le_of_ble_eq_true rfl) (Nat.le_refl _) (Nat.le_refl _) ?_
  refine Cal.mono h ?_
  rintro _ _ M1 ⟨x2, rfl, rfl, h⟩
  show OkL G miX7_read (d + 1) K 7 [some (.inr (.inr (some 61))), some (.inl v1), some (.inl v2)] [.inl x2] M1
  refine q_if_eq (tgt := 24) (pc := 7) (tb_at tkX7_read 5 rfl) (by decide) (fun c => ?_) (fun c => ?_)
  · replace h := h.1 c
    refine r_lconst (v := 0) (pc := 24) (tb_at tkX7_read 15 rfl) ⟨by decide, by decide, by decide⟩ ?_
    exact r_lret (pc := 25) (tb_at tkX7_read 16 rfl) rfl (Nat.le_refl _) (Nat.le_refl _) ⟨_, rfl, rfl, h⟩
  · replace h := h.2 c
    refine r_aload_n (pc := 10) (tb_at tkX7_read 6 rfl) rfl rfl ?_
    refine r_get 6 2 (pc := 11) (tb_at tkX7_read 7 rfl) ly_61 flX7_18 rfl ?_
    refine r_iload_n (pc := 14) (tb_at tkX7_read 8 rfl) rfl rfl ?_
    refine r_bipush (pc := 15) (tb_at tkX7_read 9 rfl) ⟨by decide, by decide, by decide⟩ ?_
    refine r_imul (pc := 17) (tb_at tkX7_read 10 rfl) ?_
    refine r_iload_n (pc := 18) (tb_at tkX7_read 11 rfl) rfl rfl ?_
    refine r_iadd_l (pc := 19) (tb_at tkX7_read 12 rfl) ?_
    refine r_lald_w (pc := 20) (tb_at tkX7_read 13 rfl) ly_64 (by decide) h.1.1 h.1.2 ?_
    replace h := h.2
    refine r_goto (tgt := 25) (pc := 21) (tb_at tkX7_read 14 rfl) (by decide) ?_
    exact r_lret (pc := 25) (tb_at tkX7_read 16 rfl) rfl (Nat.le_refl _) (Nat.le_refl _) ⟨_, rfl, rfl, h⟩
set_option maxRecDepth 100000 in
set_option maxHeartbeats 4000000 in
theorem gX7_write_0 {G : GE} {d : Nat} {K : Mem → Prop} {M : Mem} {v1 v2 v3 : Int}  (h : CalI G miX7_hasItems d [.inr (.inr (some 61)), .inl v1, .inl v2, .inl 1] M (fun x2 M1 => ((x2 = 0 → K M1) ∧ (¬ x2 = 0 → (0 ≤ v1 ∧ v1 < 4) ∧ (0 ≤ (v1 * 40) + v2 ∧ (v1 * 40) + v2 < 160) ∧ K (mup M1 64 ((v1 * 40) + v2).toNat (if (M1 62 (v1).toNat) = 1 then w32 v3 else v3)))))) : OkV G miX7_write (d + 1) K 0 [some (.inr (.inr (some 61))), some (.inl v1), some (.inl v2), some (.inr (.inl v3)), none] [] M := by
  refine r_aload_n (pc := 0) (tb_at tkX7_write 0 rfl) rfl rfl ?_
  refine r_iload_n (pc := 1) (tb_at tkX7_write 1 rfl) rfl rfl ?_
  refine r_iload_n (pc := 2) (tb_at tkX7_write 2 rfl) rfl rfl ?_
  refine r_iconst (pc := 3) (tb_at tkX7_write 3 rfl) ⟨by decide, by decide⟩ ?_
  refine r_invV (mc' := 0) (ms' := 0) [.inl v1, .inl v2, .inl 1] (S := []) (pc := 4) (tb_at tkX7_write 4 rfl) rfl ly_61 rfl rfl clX7_22 (Nat.le_of_ble_eq_true rfl) (Nat.le_refl _) (Nat.le_refl _) ?_
  refine Cal.mono h ?_
  rintro _ _ M1 ⟨x2, rfl, rfl, h⟩
  show OkV G miX7_write (d + 1) K 7 [some (.inr (.inr (some 61))), some (.inl v1), some (.inl v2), some (.inr (.inl v3)), none] [.inl x2] M1
  refine q_if_eq (tgt := 38) (pc := 7) (tb_at tkX7_write 5 rfl) (by decide) (fun c => ?_) (fun c => ?_)
  · replace h := h.1 c
    exact r_vret (pc := 38) (tb_at tkX7_write 25 rfl) rfl (Nat.le_refl _) (Nat.le_refl _) ⟨rfl, rfl, h⟩
  · replace h := h.2 c
    refine r_aload_n (pc := 10) (tb_at tkX7_write 6 rfl) rfl rfl ?_
    refine r_get 6 2 (pc := 11) (tb_at tkX7_write 7 rfl) ly_61 flX7_18 rfl ?_
    refine r_iload_n (pc := 14) (tb_at tkX7_write 8 rfl) rfl rfl ?_
    refine r_bipush (pc := 15) (tb_at tkX7_write 9 rfl) ⟨by decide, by decide, by decide⟩ ?_
    refine r_imul (pc := 17) (tb_at tkX7_write 10 rfl) ?_
    refine r_iload_n (pc := 18) (tb_at tkX7_write 11 rfl) rfl rfl ?_
    refine r_iadd_l (pc := 19) (tb_at tkX7_write 12 rfl) ?_
    refine r_aload_n (pc := 20) (tb_at tkX7_write 13 rfl) rfl rfl ?_
    refine r_get 6 0 (pc := 21) (tb_at tkX7_write 14 rfl) ly_61 flX7_9 rfl ?_
    refine r_iload_n (pc := 24) (tb_at tkX7_write 15 rfl) rfl rfl ?_
    refine r_iald (pc := 25) (tb_at tkX7_write 16 rfl) ly_62 h.1.1 h.1.2 ?_
    replace h := h.2
    refine r_iconst (pc := 26) (tb_at tkX7_write 17 rfl) ⟨by decide, by decide⟩ ?_
    have hJ3 : ∀ t0 : Int, t0 = (if (M1 62 (v1).toNat) = 1 then w32 v3 else v3) → OkV G miX7_write (d + 1) K 37 [some (.inr (.inr (some 61))), some (.inl v1), some (.inl v2), some (.inr (.inl v3)), none] [.inr (.inl t0), .inl (w32 ((v1 * 40) + v2)), .inr (.inr (some 64))] M1 := by
      rintro _ rfl
      refine r_last_w (pc := 37) (tb_at tkX7_write 24 rfl) ly_64 (by decide) h.1.1 h.1.2 rfl ?_
      replace h := h.2
      exact r_vret (pc := 38) (tb_at tkX7_write 25 rfl) rfl (Nat.le_refl _) (Nat.le_refl _) ⟨rfl, rfl, h⟩
    refine q_icmp_ne (tgt := 36) (pc := 27) (tb_at tkX7_write 18 rfl) (by decide) (fun c4 => ?_) (fun c4 => ?_)
    · refine r_lload_n (pc := 36) (tb_at tkX7_write 23 rfl) rfl rfl ?_
      exact hJ3 _ (by simp only [if_neg c4])
    · refine r_lload_n (pc := 30) (tb_at tkX7_write 19 rfl) rfl rfl ?_
      refine r_l2i (pc := 31) (tb_at tkX7_write 20 rfl) ?_
      refine r_i2l (pc := 32) (tb_at tkX7_write 21 rfl) ?_
      refine r_goto (tgt := 37) (pc := 33) (tb_at tkX7_write 22 rfl) (by decide) ?_
      exact hJ3 _ (by simp only [if_pos c4])
set_option maxRecDepth 100000 in
set_option maxHeartbeats 4000000 in
theorem gX7_move_0 {G : GE} {d : Nat} {K : Mem → Prop} {M : Mem} {v1 v2 v3 v4 v5 : Int}  (h : (0 ≤ w32 ((v1 * 40) + v2) ∧ 0 ≤ w32 ((v3 * 40) + v4) ∧ 0 ≤ v5 ∧ (w32 ((v1 * 40) + v2)) + v5 ≤ 160 ∧ (w32 ((v3 * 40) + v4)) + v5 ≤ 160) ∧ K (mcp M 64 64 (w32 ((v1 * 40) + v2)).toNat (w32 ((v3 * 40) + v4)).toNat (v5).toNat)) : OkV G miX7_move (d + 1) K 0 [some (.inr (.inr (some 61))), some (.inl v1), some (.inl v2), some (.inl v3), some (.inl v4), some (.inl v5)] [] M := by
  refine r_aload_n (pc := 0) (tb_at tkX7_move 0 rfl) rfl rfl ?_
  refine r_get 6 2 (pc := 1) (tb_at tkX7_move 1 rfl) ly_61 flX7_18 rfl ?_
  refine r_iload_n (pc := 4) (tb_at tkX7_move 2 rfl) rfl rfl ?_
  refine r_bipush (pc := 5) (tb_at tkX7_move 3 rfl) ⟨by decide, by decide, by decide⟩ ?_
  refine r_imul (pc := 7) (tb_at tkX7_move 4 rfl) ?_
  refine r_iload_n (pc := 8) (tb_at tkX7_move 5 rfl) rfl rfl ?_
  refine r_iadd_l (pc := 9) (tb_at tkX7_move 6 rfl) ?_
  refine r_aload_n (pc := 10) (tb_at tkX7_move 7 rfl) rfl rfl ?_
  refine r_get 6 2 (pc := 11) (tb_at tkX7_move 8 rfl) ly_61 flX7_18 rfl ?_
  refine r_iload_n (pc := 14) (tb_at tkX7_move 9 rfl) rfl rfl ?_
  refine r_bipush (pc := 15) (tb_at tkX7_move 10 rfl) ⟨by decide, by decide, by decide⟩ ?_
  refine r_imul (pc := 17) (tb_at tkX7_move 11 rfl) ?_
  refine r_iload (pc := 18) (tb_at tkX7_move 12 rfl) rfl ?_
  refine r_iadd_l (pc := 20) (tb_at tkX7_move 13 rfl) ?_
  refine r_iload (pc := 21) (tb_at tkX7_move 14 rfl) rfl ?_
  refine r_copyL (pc := 23) (tb_at tkX7_move 15 rfl) kacX7_26 kac_n kac_s kac_i ly_64 ly_64 h.1.1 h.1.2.1 h.1.2.2.1 h.1.2.2.2.1 h.1.2.2.2.2 (Nat.le_of_ble_eq_true rfl) (M' := mcp M 64 64 (w32 ((v1 * 40) + v2)).toNat (w32 ((v3 * 40) + v4)).toNat (v5).toNat) rfl ?_
  replace h := h.2
  exact r_vret (pc := 26) (tb_at tkX7_move 16 rfl) rfl (Nat.le_refl _) (Nat.le_refl _) ⟨rfl, rfl, h⟩
set_option maxRecDepth 100000 in
set_option maxHeartbeats 4000000 in
theorem gX8_solve_0 {G : GE} {d : Nat} {K : Int → Mem → Prop} {M : Mem} {v2 : Int} {t : Nat} (ht : t = 28 ∨ t = 39) (h : OkI G miX8_solve (d + 1) K 2 [some (.inr (.inr (some 34))), some (.inr (.inr (some t))), some (.inl v2), some (.inl 0), none, none] [] M) : OkI G miX8_solve (d + 1) K 0 [some (.inr (.inr (some 34))), some (.inr (.inr (some t))), some (.inl v2), none, none, none] [] M := by
  refine r_iconst (pc := 0) (tb_at tkX8_solve 0 rfl) ⟨by decide, by decide⟩ ?_
  refine r_istore_n (L' := [some (.inr (.inr (some 34))), some (.inr (.inr (some t))), some (.inl v2), some (.inl 0), none, none]) (pc := 1) (tb_at tkX8_solve 1 rfl) rfl (by decide) rfl ?_
  exact h
set_option maxRecDepth 100000 in
set_option maxHeartbeats 4000000 in
theorem gX8_solve_2 {G : GE} {d : Nat} {K : Int → Mem → Prop} {M : Mem} {v2 v3 : Int} {t : Nat} (ht : t = 28 ∨ t = 39) (h : (((M 1 8) ≤ v3 → CalV G miX8_layGoals d [.inr (.inr (some 34)), .inl v2] M (fun M1 => CalV G miX8_layPairings d [.inr (.inr (some 34)), .inr (.inr (some t))] M1 (fun M2 => OkI G miX8_solve (d + 1) K 45 [some (.inr (.inr (some 34))), none, none, some (.inl 0), none, none] [] M2))) ∧ (v3 < (M 1 8) → (0 ≤ ishl 1 v3 ∧ ishl 1 v3 < 128) ∧ ((¬ (M (t + 2) (ishl 1 v3).toNat) = (-1) → OkI G miX8_solve (d + 1) K 2 [some (.inr (.inr (some 34))), some (.inr (.inr (some t))), some (.inl v2), some (.inl (w32 (v3 + 1))), none, none] [] M) ∧ ((M (t + 2) (ishl 1 v3).toNat) = (-1) → K 0 M))))) : OkI G miX8_solve (d + 1) K 2 [some (.inr (.inr (some 34))), some (.inr (.inr (some t))), some (.inl v2), some (.inl v3), none, none] [] M := by
  refine r_iload_n (pc := 2) (tb_at tkX8_solve 2 rfl) rfl rfl ?_
  refine r_aload_n (pc := 3) (tb_at tkX8_solve 3 rfl) rfl rfl ?_
  refine r_get 7 0 (pc := 4) (tb_at tkX8_solve 4 rfl) ly_34 flX8_33 rfl ?_
  refine r_get 5 8 (pc := 7) (tb_at tkX8_solve 5 rfl) ly_1 flX8_37 rfl ?_
  refine q_icmp_ge (tgt := 33) (pc := 10) (tb_at tkX8_solve 6 rfl) (by decide) (fun c => ?_) (fun c => ?_)
  · replace h := h.1 c
    refine r_aload_n (pc := 33) (tb_at tkX8_solve 19 rfl) rfl rfl ?_
    refine r_iload_n (pc := 34) (tb_at tkX8_solve 20 rfl) rfl rfl ?_
    refine r_invV (mc' := 0) (ms' := 0) [.inl v2] (S := []) (pc := 35) (tb_at tkX8_solve 21 rfl) rfl ly_34 rfl rfl clX8_47 (Nat.le_of_ble_eq_true rfl) (Nat.le_refl _) (Nat.le_refl _) ?_
    refine Cal.mono h ?_
    rintro _ _ M1 ⟨rfl, rfl, h⟩
    show OkI G miX8_solve (d + 1) K 38 [some (.inr (.inr (some 34))), some (.inr (.inr (some t))), some (.inl v2), some (.inl v3), none, none] [] M1
    refine r_aload_n (pc := 38) (tb_at tkX8_solve 22 rfl) rfl rfl ?_
    refine r_aload_n (pc := 39) (tb_at tkX8_solve 23 rfl) rfl rfl ?_
    refine r_invV (mc' := 0) (ms' := 0) [.inr (.inr (some t))] (S := []) (pc := 40) (tb_at tkX8_solve 24 rfl) rfl ly_34 rfl rfl clX8_51 (Nat.le_of_ble_eq_true rfl) (Nat.le_refl _) (Nat.le_refl _) ?_
    refine Cal.mono h ?_
    rintro _ _ M2 ⟨rfl, rfl, h⟩
    show OkI G miX8_solve (d + 1) K 43 [some (.inr (.inr (some 34))), some (.inr (.inr (some t))), some (.inl v2), some (.inl v3), none, none] [] M2
    refine r_iconst (pc := 43) (tb_at tkX8_solve 25 rfl) ⟨by decide, by decide⟩ ?_
    refine r_istore_n (L' := [some (.inr (.inr (some 34))), some (.inr (.inr (some t))), some (.inl v2), some (.inl 0), none, none]) (pc := 44) (tb_at tkX8_solve 26 rfl) rfl (by decide) rfl ?_
    exact Ok.forget h (And.intro rfl (And.intro rfl trivial))
  · replace h := h.2 c
    refine r_aload_n (pc := 13) (tb_at tkX8_solve 7 rfl) rfl rfl ?_
    refine r_get 1 3 (pc := 14) (tb_at tkX8_solve 8 rfl) (lyT0 ht) flX8_42 rfl ?_
    refine r_iconst (pc := 17) (tb_at tkX8_solve 9 rfl) ⟨by decide, by decide⟩ ?_
    refine r_iload_n (pc := 18) (tb_at tkX8_solve 10 rfl) rfl rfl ?_
    refine r_ishl (pc := 19) (tb_at tkX8_solve 11 rfl) ?_
    refine r_iald (pc := 20) (tb_at tkX8_solve 12 rfl) (lyT2 ht) h.1.1 h.1.2 ?_
    replace h := h.2
    refine r_iconst (pc := 21) (tb_at tkX8_solve 13 rfl) ⟨by decide, by decide⟩ ?_
    refine q_icmp_ne (tgt := 27) (pc := 22) (tb_at tkX8_solve 14 rfl) (by decide) (fun c => ?_) (fun c => ?_)
    · replace h := h.1 c
      refine r_iinc (L' := [some (.inr (.inr (some 34))), some (.inr (.inr (some t))), some (.inl v2), some (.inl (w32 (v3 + 1))), none, none]) (pc := 27) (tb_at tkX8_solve 17 rfl) rfl (by decide) rfl ?_
      refine r_goto (tgt := 2) (pc := 30) (tb_at tkX8_solve 18 rfl) (by decide) ?_
      exact h
    · replace h := h.2 c
      refine r_iconst (pc := 25) (tb_at tkX8_solve 15 rfl) ⟨by decide, by decide⟩ ?_
      exact r_zret (pc := 26) (tb_at tkX8_solve 16 rfl) rfl (by decide) (Nat.le_refl _) (Nat.le_refl _) ⟨_, rfl, rfl, h⟩
set_option maxRecDepth 100000 in
set_option maxHeartbeats 4000000 in
theorem gX8_solve_45 {G : GE} {d : Nat} {K : Int → Mem → Prop} {M : Mem} {v3 : Int} {t : Nat} (ht : t = 28 ∨ t = 39) (h : ((1000000 ≤ v3 → K 0 M) ∧ (v3 < 1000000 → CalI G miX8_entering d [.inr (.inr (some 34))] M (fun x2 M1 => ((¬ x2 = (-1) → CalI G miX8_leaving d [.inr (.inr (some 34)), .inl x2] M1 (fun x4 M3 => ((¬ x4 = (-1) → CalV G miX8_pivot d [.inr (.inr (some 34)), .inl x4, .inl x2] M3 (fun M5 => OkI G miX8_solve (d + 1) K 45 [some (.inr (.inr (some 34))), none, none, some (.inl (w32 (v3 + 1))), none, none] [] M5)) ∧ (x4 = (-1) → K 0 M3)))) ∧ (x2 = (-1) → K 1 M1)))))) : OkI G miX8_solve (d + 1) K 45 [some (.inr (.inr (some 34))), none, none, some (.inl v3), none, none] [] M := by
  refine r_iload_n (pc := 45) (tb_at tkX8_solve 27 rfl) rfl rfl ?_
  refine r_ldc (n := 1000000) (pc := 46) (tb_at tkX8_solve 28 rfl) kcX8_55 ⟨by decide, by decide⟩ ?_
  refine q_icmp_ge (tgt := 95) (pc := 48) (tb_at tkX8_solve 29 rfl) (by decide) (fun c => ?_) (fun c => ?_)
  · replace h := h.1 c
    refine r_iconst (pc := 95) (tb_at tkX8_solve 53 rfl) ⟨by decide, by decide⟩ ?_
    exact r_zret (pc := 96) (tb_at tkX8_solve 54 rfl) rfl (by decide) (Nat.le_refl _) (Nat.le_refl _) ⟨_, rfl, rfl, h⟩
  · replace h := h.2 c
    refine r_aload_n (pc := 51) (tb_at tkX8_solve 30 rfl) rfl rfl ?_
    refine r_invV (mc' := 0) (ms' := 0) [] (S := []) (pc := 52) (tb_at tkX8_solve 31 rfl) rfl ly_34 rfl rfl clX8_56 (Nat.le_of_ble_eq_true rfl) (Nat.le_refl _) (Nat.le_refl _) ?_
    refine Cal.mono h ?_
    rintro _ _ M1 ⟨x2, rfl, rfl, h⟩
    show OkI G miX8_solve (d + 1) K 55 [some (.inr (.inr (some 34))), none, none, some (.inl v3), none, none] [.inl x2] M1
    refine r_istore (L' := [some (.inr (.inr (some 34))), none, none, some (.inl v3), some (.inl x2), none]) (pc := 55) (tb_at tkX8_solve 32 rfl) (by decide) rfl ?_
    refine r_iload (pc := 57) (tb_at tkX8_solve 33 rfl) rfl ?_
    refine r_iconst (pc := 59) (tb_at tkX8_solve 34 rfl) ⟨by decide, by decide⟩ ?_
    refine q_icmp_ne (tgt := 65) (pc := 60) (tb_at tkX8_solve 35 rfl) (by decide) (fun c => ?_) (fun c => ?_)
    · replace h := h.1 c
      refine r_aload_n (pc := 65) (tb_at tkX8_solve 38 rfl) rfl rfl ?_
      refine r_iload (pc := 66) (tb_at tkX8_solve 39 rfl) rfl ?_
      refine r_invV (mc' := 0) (ms' := 0) [.inl x2] (S := []) (pc := 68) (tb_at tkX8_solve 40 rfl) rfl ly_34 rfl rfl clX8_60 (Nat.le_of_ble_eq_true rfl) (Nat.le_refl _) (Nat.le_refl _) ?_
      refine Cal.mono h ?_
      rintro _ _ M3 ⟨x4, rfl, rfl, h⟩
      show OkI G miX8_solve (d + 1) K 71 [some (.inr (.inr (some 34))), none, none, some (.inl v3), some (.inl x2), none] [.inl x4] M3
      refine r_istore (L' := [some (.inr (.inr (some 34))), none, none, some (.inl v3), some (.inl x2), some (.inl x4)]) (pc := 71) (tb_at tkX8_solve 41 rfl) (by decide) rfl ?_
      refine r_iload (pc := 73) (tb_at tkX8_solve 42 rfl) rfl ?_
      refine r_iconst (pc := 75) (tb_at tkX8_solve 43 rfl) ⟨by decide, by decide⟩ ?_
      refine q_icmp_ne (tgt := 81) (pc := 76) (tb_at tkX8_solve 44 rfl) (by decide) (fun c => ?_) (fun c => ?_)
      · replace h := h.1 c
        refine r_aload_n (pc := 81) (tb_at tkX8_solve 47 rfl) rfl rfl ?_
        refine r_iload (pc := 82) (tb_at tkX8_solve 48 rfl) rfl ?_
        refine r_iload (pc := 84) (tb_at tkX8_solve 49 rfl) rfl ?_
        refine r_invV (mc' := 0) (ms' := 0) [.inl x4, .inl x2] (S := []) (pc := 86) (tb_at tkX8_solve 50 rfl) rfl ly_34 rfl rfl clX8_64 (Nat.le_of_ble_eq_true rfl) (Nat.le_refl _) (Nat.le_refl _) ?_
        refine Cal.mono h ?_
        rintro _ _ M5 ⟨rfl, rfl, h⟩
        show OkI G miX8_solve (d + 1) K 89 [some (.inr (.inr (some 34))), none, none, some (.inl v3), some (.inl x2), some (.inl x4)] [] M5
        refine r_iinc (L' := [some (.inr (.inr (some 34))), none, none, some (.inl (w32 (v3 + 1))), some (.inl x2), some (.inl x4)]) (pc := 89) (tb_at tkX8_solve 51 rfl) rfl (by decide) rfl ?_
        refine r_goto (tgt := 45) (pc := 92) (tb_at tkX8_solve 52 rfl) (by decide) ?_
        exact Ok.forget h (And.intro rfl (And.intro rfl trivial))
      · replace h := h.2 c
        refine r_iconst (pc := 79) (tb_at tkX8_solve 45 rfl) ⟨by decide, by decide⟩ ?_
        exact r_zret (pc := 80) (tb_at tkX8_solve 46 rfl) rfl (by decide) (Nat.le_refl _) (Nat.le_refl _) ⟨_, rfl, rfl, h⟩
    · replace h := h.2 c
      refine r_iconst (pc := 63) (tb_at tkX8_solve 36 rfl) ⟨by decide, by decide⟩ ?_
      exact r_zret (pc := 64) (tb_at tkX8_solve 37 rfl) rfl (by decide) (Nat.le_refl _) (Nat.le_refl _) ⟨_, rfl, rfl, h⟩
set_option maxRecDepth 100000 in
set_option maxHeartbeats 4000000 in
theorem gX8_layGoals_0 {G : GE} {d : Nat} {K : Mem → Prop} {M : Mem} {v1 : Int}  (h : OkV G miX8_layGoals d K 17 [some (.inr (.inr (some 34))), none, some (.inl 0), none] [] (mup (mup (mup M 34 4 1) 34 5 v1) 34 6 v1)) : OkV G miX8_layGoals d K 0 [some (.inr (.inr (some 34))), some (.inl v1), none, none] [] M := by
  refine r_aload_n (pc := 0) (tb_at tkX8_layGoals 0 rfl) rfl rfl ?_
  refine r_lconst (v := 1) (pc := 1) (tb_at tkX8_layGoals 1 rfl) ⟨by decide, by decide, by decide⟩ ?_
  refine r_put 7 4 1 (pc := 2) (tb_at tkX8_layGoals 2 rfl) ly_34 flX8_22 (fun r h => by cases h; rfl) (.inr (.inr rfl)) rfl (fun h => by cases h) rfl ?_
  refine r_aload_n (pc := 5) (tb_at tkX8_layGoals 3 rfl) rfl rfl ?_
  refine r_iload_n (pc := 6) (tb_at tkX8_layGoals 4 rfl) rfl rfl ?_
  refine r_put 7 5 v1 (pc := 7) (tb_at tkX8_layGoals 5 rfl) ly_34 flX8_26 (fun r h => by cases h; rfl) (.inl rfl) rfl (fun h => by cases h) rfl ?_
  refine r_aload_n (pc := 10) (tb_at tkX8_layGoals 6 rfl) rfl rfl ?_
  refine r_iload_n (pc := 11) (tb_at tkX8_layGoals 7 rfl) rfl rfl ?_
  refine r_put 7 6 v1 (pc := 12) (tb_at tkX8_layGoals 8 rfl) ly_34 flX8_30 (fun r h => by cases h; rfl) (.inl rfl) rfl (fun h => by cases h) rfl ?_
  refine r_iconst (pc := 15) (tb_at tkX8_layGoals 9 rfl) ⟨by decide, by decide⟩ ?_
  refine r_istore_n (L' := [some (.inr (.inr (some 34))), some (.inl v1), some (.inl 0), none]) (pc := 16) (tb_at tkX8_layGoals 10 rfl) rfl (by decide) rfl ?_
  exact Ok.forget h (And.intro rfl (And.intro rfl trivial))
set_option maxRecDepth 100000 in
set_option maxHeartbeats 4000000 in
theorem gX8_layGoals_17 {G : GE} {d : Nat} {K : Mem → Prop} {M : Mem} {v2 : Int}  (h : (((M 1 8) ≤ v2 → OkV G miX8_layGoals d K 93 [some (.inr (.inr (some 34))), none, some (.inl 0), none] [] M) ∧ (v2 < (M 1 8) → (0 ≤ v2 ∧ v2 < 7) ∧ (0 ≤ v2 ∧ v2 < 1088) ∧ OkV G miX8_layGoals d K 46 [some (.inr (.inr (some 34))), none, some (.inl v2), some (.inl 1)] [] (mup (mup M 37 (v2).toNat v2) 35 (v2).toNat (-1))))) : OkV G miX8_layGoals d K 17 [some (.inr (.inr (some 34))), none, some (.inl v2), none] [] M := by
  refine r_iload_n (pc := 17) (tb_at tkX8_layGoals 11 rfl) rfl rfl ?_
  refine r_aload_n (pc := 18) (tb_at tkX8_layGoals 12 rfl) rfl rfl ?_
  refine r_get 7 0 (pc := 19) (tb_at tkX8_layGoals 13 rfl) ly_34 flX8_33 rfl ?_
  refine r_get 5 8 (pc := 22) (tb_at tkX8_layGoals 14 rfl) ly_1 flX8_37 rfl ?_
  refine q_icmp_ge (tgt := 91) (pc := 25) (tb_at tkX8_layGoals 15 rfl) (by decide) (fun c => ?_) (fun c => ?_)
  · replace h := h.1 c
    refine r_iconst (pc := 91) (tb_at tkX8_layGoals 52 rfl) ⟨by decide, by decide⟩ ?_
    refine r_istore_n (L' := [some (.inr (.inr (some 34))), none, some (.inl 0), none]) (pc := 92) (tb_at tkX8_layGoals 53 rfl) rfl (by decide) rfl ?_
    exact h
  · replace h := h.2 c
    refine r_aload_n (pc := 28) (tb_at tkX8_layGoals 16 rfl) rfl rfl ?_
    refine r_get 7 3 (pc := 29) (tb_at tkX8_layGoals 17 rfl) ly_34 flX8_19 rfl ?_
    refine r_iload_n (pc := 32) (tb_at tkX8_layGoals 18 rfl) rfl rfl ?_
    refine r_iload_n (pc := 33) (tb_at tkX8_layGoals 19 rfl) rfl rfl ?_
    refine r_iast (pc := 34) (tb_at tkX8_layGoals 20 rfl) ly_37 h.1.1 h.1.2 rfl ?_
    replace h := h.2
    refine r_aload_n (pc := 35) (tb_at tkX8_layGoals 21 rfl) rfl rfl ?_
    refine r_get 7 1 (pc := 36) (tb_at tkX8_layGoals 22 rfl) ly_34 flX8_11 rfl ?_
    refine r_iload_n (pc := 39) (tb_at tkX8_layGoals 23 rfl) rfl rfl ?_
    refine r_ldc2 (n := -1) (pc := 40) (tb_at tkX8_layGoals 24 rfl) kcX8_68 ⟨by decide, by decide⟩ ?_
    refine r_last (pc := 43) (tb_at tkX8_layGoals 25 rfl) ly_35 h.1.1 h.1.2 rfl ?_
    replace h := h.2
    refine r_iconst (pc := 44) (tb_at tkX8_layGoals 26 rfl) ⟨by decide, by decide⟩ ?_
    refine r_istore_n (L' := [some (.inr (.inr (some 34))), none, some (.inl v2), some (.inl 1)]) (pc := 45) (tb_at tkX8_layGoals 27 rfl) rfl (by decide) rfl ?_
    exact h
set_option maxRecDepth 100000 in
set_option maxHeartbeats 4000000 in
theorem gX8_layGoals_93 {G : GE} {d : Nat} {K : Mem → Prop} {M : Mem} {v2 : Int}  (h : (((M 34 5) ≤ v2 → K M) ∧ (v2 < (M 34 5) → (0 ≤ (v2 * 8) + 7 ∧ (v2 * 8) + 7 < 1088) ∧ OkV G miX8_layGoals d K 93 [some (.inr (.inr (some 34))), none, some (.inl (w32 (v2 + 1))), none] [] (mup M 35 ((v2 * 8) + 7).toNat 0)))) : OkV G miX8_layGoals d K 93 [some (.inr (.inr (some 34))), none, some (.inl v2), none] [] M := by
  refine r_iload_n (pc := 93) (tb_at tkX8_layGoals 54 rfl) rfl rfl ?_
  refine r_aload_n (pc := 94) (tb_at tkX8_layGoals 55 rfl) rfl rfl ?_
  refine r_get 7 5 (pc := 95) (tb_at tkX8_layGoals 56 rfl) ly_34 flX8_26 rfl ?_
  refine q_icmp_ge (tgt := 120) (pc := 98) (tb_at tkX8_layGoals 57 rfl) (by decide) (fun c => ?_) (fun c => ?_)
  · replace h := h.1 c
    exact r_vret (pc := 120) (tb_at tkX8_layGoals 69 rfl) rfl (Nat.le_refl _) (Nat.le_refl _) ⟨rfl, rfl, h⟩
  · replace h := h.2 c
    refine r_aload_n (pc := 101) (tb_at tkX8_layGoals 58 rfl) rfl rfl ?_
    refine r_get 7 1 (pc := 102) (tb_at tkX8_layGoals 59 rfl) ly_34 flX8_11 rfl ?_
    refine r_iload_n (pc := 105) (tb_at tkX8_layGoals 60 rfl) rfl rfl ?_
    refine r_bipush (pc := 106) (tb_at tkX8_layGoals 61 rfl) ⟨by decide, by decide, by decide⟩ ?_
    refine r_imul (pc := 108) (tb_at tkX8_layGoals 62 rfl) ?_
    refine r_bipush (pc := 109) (tb_at tkX8_layGoals 63 rfl) ⟨by decide, by decide, by decide⟩ ?_
    refine r_iadd_l (pc := 111) (tb_at tkX8_layGoals 64 rfl) ?_
    refine r_lconst (v := 0) (pc := 112) (tb_at tkX8_layGoals 65 rfl) ⟨by decide, by decide, by decide⟩ ?_
    refine r_last_w (pc := 113) (tb_at tkX8_layGoals 66 rfl) ly_35 (by decide) h.1.1 h.1.2 rfl ?_
    replace h := h.2
    refine r_iinc (L' := [some (.inr (.inr (some 34))), none, some (.inl (w32 (v2 + 1))), none]) (pc := 114) (tb_at tkX8_layGoals 67 rfl) rfl (by decide) rfl ?_
    refine r_goto (tgt := 93) (pc := 117) (tb_at tkX8_layGoals 68 rfl) (by decide) ?_
    exact h
set_option maxRecDepth 100000 in
set_option maxHeartbeats 4000000 in
theorem gX8_layGoals_46 {G : GE} {d : Nat} {K : Mem → Prop} {M : Mem} {v2 v3 : Int}  (h : (((M 34 5) ≤ v3 → OkV G miX8_layGoals d K 17 [some (.inr (.inr (some 34))), none, some (.inl (w32 (v2 + 1))), none] [] M) ∧ (v3 < (M 34 5) → (0 ≤ (v3 * 8) + v2 ∧ (v3 * 8) + v2 < 1088) ∧ OkV G miX8_layGoals d K 46 [some (.inr (.inr (some 34))), none, some (.inl v2), some (.inl (w32 (v3 + 1)))] [] (mup M 35 ((v3 * 8) + v2).toNat (if (w32 (v3 - 1)) = v2 then (-1 : Int) else 0))))) : OkV G miX8_layGoals d K 46 [some (.inr (.inr (some 34))), none, some (.inl v2), some (.inl v3)] [] M := by
  refine r_iload_n (pc := 46) (tb_at tkX8_layGoals 28 rfl) rfl rfl ?_
  refine r_aload_n (pc := 47) (tb_at tkX8_layGoals 29 rfl) rfl rfl ?_
  refine r_get 7 5 (pc := 48) (tb_at tkX8_layGoals 30 rfl) ly_34 flX8_26 rfl ?_
  refine q_icmp_ge (tgt := 85) (pc := 51) (tb_at tkX8_layGoals 31 rfl) (by decide) (fun c => ?_) (fun c => ?_)
  · replace h := h.1 c
    refine r_iinc (L' := [some (.inr (.inr (some 34))), none, some (.inl (w32 (v2 + 1))), some (.inl v3)]) (pc := 85) (tb_at tkX8_layGoals 50 rfl) rfl (by decide) rfl ?_
    refine r_goto (tgt := 17) (pc := 88) (tb_at tkX8_layGoals 51 rfl) (by decide) ?_
    exact Ok.forget h (And.intro rfl (And.intro rfl trivial))
  · replace h := h.2 c
    refine r_aload_n (pc := 54) (tb_at tkX8_layGoals 32 rfl) rfl rfl ?_
    refine r_get 7 1 (pc := 55) (tb_at tkX8_layGoals 33 rfl) ly_34 flX8_11 rfl ?_
    refine r_iload_n (pc := 58) (tb_at tkX8_layGoals 34 rfl) rfl rfl ?_
    refine r_bipush (pc := 59) (tb_at tkX8_layGoals 35 rfl) ⟨by decide, by decide, by decide⟩ ?_
    refine r_imul (pc := 61) (tb_at tkX8_layGoals 36 rfl) ?_
    refine r_iload_n (pc := 62) (tb_at tkX8_layGoals 37 rfl) rfl rfl ?_
    refine r_iadd_l (pc := 63) (tb_at tkX8_layGoals 38 rfl) ?_
    refine r_iload_n (pc := 64) (tb_at tkX8_layGoals 39 rfl) rfl rfl ?_
    refine r_iconst (pc := 65) (tb_at tkX8_layGoals 40 rfl) ⟨by decide, by decide⟩ ?_
    refine r_isub (pc := 66) (tb_at tkX8_layGoals 41 rfl) ?_
    refine r_iload_n (pc := 67) (tb_at tkX8_layGoals 42 rfl) rfl rfl ?_
    have hJ1 : ∀ t0 : Int, t0 = (if (w32 (v3 - 1)) = v2 then (-1 : Int) else 0) → OkV G miX8_layGoals d K 78 [some (.inr (.inr (some 34))), none, some (.inl v2), some (.inl v3)] [.inr (.inl t0), .inl (w32 ((v3 * 8) + v2)), .inr (.inr (some 35))] M := by
      rintro _ rfl
      refine r_last_w (pc := 78) (tb_at tkX8_layGoals 47 rfl) ly_35 (by decide) h.1.1 h.1.2 rfl ?_
      replace h := h.2
      refine r_iinc (L' := [some (.inr (.inr (some 34))), none, some (.inl v2), some (.inl (w32 (v3 + 1)))]) (pc := 79) (tb_at tkX8_layGoals 48 rfl) rfl (by decide) rfl ?_
      refine r_goto (tgt := 46) (pc := 82) (tb_at tkX8_layGoals 49 rfl) (by decide) ?_
      exact h
    refine q_icmp_ne (tgt := 77) (pc := 68) (tb_at tkX8_layGoals 43 rfl) (by decide) (fun c2 => ?_) (fun c2 => ?_)
    · refine r_lconst (v := 0) (pc := 77) (tb_at tkX8_layGoals 46 rfl) ⟨by decide, by decide, by decide⟩ ?_
      exact hJ1 _ (by simp only [if_neg c2])
    · refine r_ldc2 (n := -1) (pc := 71) (tb_at tkX8_layGoals 44 rfl) kcX8_68 ⟨by decide, by decide⟩ ?_
      refine r_goto (tgt := 78) (pc := 74) (tb_at tkX8_layGoals 45 rfl) (by decide) ?_
      exact hJ1 _ (by simp only [if_pos c2])
set_option maxRecDepth 100000 in
set_option maxHeartbeats 4000000 in
theorem gX8_layPairings_0 {G : GE} {d : Nat} {K : Mem → Prop} {M : Mem} {t : Nat} (ht : t = 28 ∨ t = 39) (h : OkV G miX8_layPairings (d + 1) K 2 [some (.inr (.inr (some 34))), some (.inr (.inr (some t))), some (.inl 1), none] [] M) : OkV G miX8_layPairings (d + 1) K 0 [some (.inr (.inr (some 34))), some (.inr (.inr (some t))), none, none] [] M := by
  refine r_iconst (pc := 0) (tb_at tkX8_layPairings 0 rfl) ⟨by decide, by decide⟩ ?_
  refine r_istore_n (L' := [some (.inr (.inr (some 34))), some (.inr (.inr (some t))), some (.inl 1), none]) (pc := 1) (tb_at tkX8_layPairings 1 rfl) rfl (by decide) rfl ?_
  exact h
set_option maxRecDepth 100000 in
set_option maxHeartbeats 4000000 in
theorem gX8_layPairings_2 {G : GE} {d : Nat} {K : Mem → Prop} {M : Mem} {v2 : Int} {t : Nat} (ht : t = 28 ∨ t = 39) (h : CalI G miX5_allFlights d [.inr (.inr (some 1))] M (fun x2 M1 => ((x2 < v2 → K M1) ∧ (v2 ≤ x2 → (0 ≤ v2 ∧ v2 < 128) ∧ ((¬ (M1 (t + 1) (v2).toNat) = 0 → OkV G miX8_layPairings (d + 1) K 27 [some (.inr (.inr (some 34))), some (.inr (.inr (some t))), some (.inl v2), some (.inl 0)] [] M1) ∧ ((M1 (t + 1) (v2).toNat) = 0 → OkV G miX8_layPairings (d + 1) K 2 [some (.inr (.inr (some 34))), some (.inr (.inr (some t))), some (.inl (w32 (v2 + 1))), none] [] M1)))))) : OkV G miX8_layPairings (d + 1) K 2 [some (.inr (.inr (some 34))), some (.inr (.inr (some t))), some (.inl v2), none] [] M := by
  refine r_iload_n (pc := 2) (tb_at tkX8_layPairings 2 rfl) rfl rfl ?_
  refine r_aload_n (pc := 3) (tb_at tkX8_layPairings 3 rfl) rfl rfl ?_
  refine r_get 7 0 (pc := 4) (tb_at tkX8_layPairings 4 rfl) ly_34 flX8_33 rfl ?_
  refine r_invV (mc' := 0) (ms' := 0) [] (S := [.inl v2]) (pc := 7) (tb_at tkX8_layPairings 5 rfl) rfl ly_1 rfl rfl clX8_70 (Nat.le_of_ble_eq_true rfl) (Nat.le_refl _) (Nat.le_refl _) ?_
  refine Cal.mono h ?_
  rintro _ _ M1 ⟨x2, rfl, rfl, h⟩
  show OkV G miX8_layPairings (d + 1) K 10 [some (.inr (.inr (some 34))), some (.inr (.inr (some t))), some (.inl v2), none] [.inl x2, .inl v2] M1
  refine q_icmp_gt (tgt := 115) (pc := 10) (tb_at tkX8_layPairings 6 rfl) (by decide) (fun c => ?_) (fun c => ?_)
  · replace h := h.1 c
    exact r_vret (pc := 115) (tb_at tkX8_layPairings 67 rfl) rfl (Nat.le_refl _) (Nat.le_refl _) ⟨rfl, rfl, h⟩
  · replace h := h.2 c
    refine r_aload_n (pc := 13) (tb_at tkX8_layPairings 7 rfl) rfl rfl ?_
    refine r_get 1 2 (pc := 14) (tb_at tkX8_layPairings 8 rfl) (lyT0 ht) flX8_73 rfl ?_
    refine r_iload_n (pc := 17) (tb_at tkX8_layPairings 9 rfl) rfl rfl ?_
    refine r_zald (pc := 18) (tb_at tkX8_layPairings 10 rfl) (lyT1 ht) h.1.1 h.1.2 ?_
    replace h := h.2
    refine q_if_ne (tgt := 25) (pc := 19) (tb_at tkX8_layPairings 11 rfl) (by decide) (fun c => ?_) (fun c => ?_)
    · replace h := h.1 c
      refine r_iconst (pc := 25) (tb_at tkX8_layPairings 13 rfl) ⟨by decide, by decide⟩ ?_
      refine r_istore_n (L' := [some (.inr (.inr (some 34))), some (.inr (.inr (some t))), some (.inl v2), some (.inl 0)]) (pc := 26) (tb_at tkX8_layPairings 14 rfl) rfl (by decide) rfl ?_
      exact h
    · replace h := h.2 c
      refine r_goto (tgt := 109) (pc := 22) (tb_at tkX8_layPairings 12 rfl) (by decide) ?_
      refine r_iinc (L' := [some (.inr (.inr (some 34))), some (.inr (.inr (some t))), some (.inl (w32 (v2 + 1))), none]) (pc := 109) (tb_at tkX8_layPairings 65 rfl) rfl (by decide) rfl ?_
      refine r_goto (tgt := 2) (pc := 112) (tb_at tkX8_layPairings 66 rfl) (by decide) ?_
      exact h
set_option maxRecDepth 100000 in
set_option maxHeartbeats 4000000 in
theorem gX8_layPairings_27 {G : GE} {d : Nat} {K : Mem → Prop} {M : Mem} {v2 v3 : Int} {t : Nat} (ht : t = 28 ∨ t = 39) (h : (((M 1 8) ≤ v3 → (0 ≤ v2 ∧ v2 < 128) ∧ (0 ≤ ((M 34 6) * 8) + 7 ∧ ((M 34 6) * 8) + 7 < 1088) ∧ (0 ≤ (mup M 35 (((M 34 6) * 8) + 7).toNat (M (t + 2) (v2).toNat)) 34 6 ∧ (mup M 35 (((M 34 6) * 8) + 7).toNat (M (t + 2) (v2).toNat)) 34 6 < 136) ∧ OkV G miX8_layPairings (d + 1) K 2 [some (.inr (.inr (some 34))), some (.inr (.inr (some t))), some (.inl (w32 (v2 + 1))), none] [] (mup (mup (mup M 35 (((M 34 6) * 8) + 7).toNat (M (t + 2) (v2).toNat)) 36 ((mup M 35 (((M 34 6) * 8) + 7).toNat (M (t + 2) (v2).toNat)) 34 6).toNat (w32 (7 + v2))) 34 6 (w32 (((mup (mup M 35 (((M 34 6) * 8) + 7).toNat (M (t + 2) (v2).toNat)) 36 ((mup M 35 (((M 34 6) * 8) + 7).toNat (M (t + 2) (v2).toNat)) 34 6).toNat (w32 (7 + v2))) 34 6) + 1)))) ∧ (v3 < (M 1 8) → (0 ≤ ((M 34 6) * 8) + v3 ∧ ((M 34 6) * 8) + v3 < 1088) ∧ OkV G miX8_layPairings (d + 1) K 27 [some (.inr (.inr (some 34))), some (.inr (.inr (some t))), some (.inl v2), some (.inl (w32 (v3 + 1)))] [] (mup M 35 (((M 34 6) * 8) + v3).toNat (iand (ishr v2 v3) 1))))) : OkV G miX8_layPairings (d + 1) K 27 [some (.inr (.inr (some 34))), some (.inr (.inr (some t))), some (.inl v2), some (.inl v3)] [] M := by
  refine r_iload_n (pc := 27) (tb_at tkX8_layPairings 15 rfl) rfl rfl ?_
  refine r_aload_n (pc := 28) (tb_at tkX8_layPairings 16 rfl) rfl rfl ?_
  refine r_get 7 0 (pc := 29) (tb_at tkX8_layPairings 17 rfl) ly_34 flX8_33 rfl ?_
  refine r_get 5 8 (pc := 32) (tb_at tkX8_layPairings 18 rfl) ly_1 flX8_37 rfl ?_
  refine q_icmp_ge (tgt := 64) (pc := 35) (tb_at tkX8_layPairings 19 rfl) (by decide) (fun c => ?_) (fun c => ?_)
  · replace h := h.1 c
    refine r_aload_n (pc := 64) (tb_at tkX8_layPairings 37 rfl) rfl rfl ?_
    refine r_get 7 1 (pc := 65) (tb_at tkX8_layPairings 38 rfl) ly_34 flX8_11 rfl ?_
    refine r_aload_n (pc := 68) (tb_at tkX8_layPairings 39 rfl) rfl rfl ?_
    refine r_get 7 6 (pc := 69) (tb_at tkX8_layPairings 40 rfl) ly_34 flX8_30 rfl ?_
    refine r_bipush (pc := 72) (tb_at tkX8_layPairings 41 rfl) ⟨by decide, by decide, by decide⟩ ?_
    refine r_imul (pc := 74) (tb_at tkX8_layPairings 42 rfl) ?_
    refine r_bipush (pc := 75) (tb_at tkX8_layPairings 43 rfl) ⟨by decide, by decide, by decide⟩ ?_
    refine r_iadd_l (pc := 77) (tb_at tkX8_layPairings 44 rfl) ?_
    refine r_aload_n (pc := 78) (tb_at tkX8_layPairings 45 rfl) rfl rfl ?_
    refine r_get 1 3 (pc := 79) (tb_at tkX8_layPairings 46 rfl) (lyT0 ht) flX8_42 rfl ?_
    refine r_iload_n (pc := 82) (tb_at tkX8_layPairings 47 rfl) rfl rfl ?_
    refine r_iald (pc := 83) (tb_at tkX8_layPairings 48 rfl) (lyT2 ht) h.1.1 h.1.2 ?_
    replace h := h.2
    refine r_i2l (pc := 84) (tb_at tkX8_layPairings 49 rfl) ?_
    refine r_last_w (pc := 85) (tb_at tkX8_layPairings 50 rfl) ly_35 (by decide) h.1.1 h.1.2 rfl ?_
    replace h := h.2
    refine r_aload_n (pc := 86) (tb_at tkX8_layPairings 51 rfl) rfl rfl ?_
    refine r_get 7 2 (pc := 87) (tb_at tkX8_layPairings 52 rfl) ly_34 flX8_15 rfl ?_
    refine r_aload_n (pc := 90) (tb_at tkX8_layPairings 53 rfl) rfl rfl ?_
    refine r_get 7 6 (pc := 91) (tb_at tkX8_layPairings 54 rfl) ly_34 flX8_30 rfl ?_
    refine r_bipush (pc := 94) (tb_at tkX8_layPairings 55 rfl) ⟨by decide, by decide, by decide⟩ ?_
    refine r_iload_n (pc := 96) (tb_at tkX8_layPairings 56 rfl) rfl rfl ?_
    refine r_iadd (pc := 97) (tb_at tkX8_layPairings 57 rfl) ?_
    refine r_iast (pc := 98) (tb_at tkX8_layPairings 58 rfl) ly_36 h.1.1 h.1.2 rfl ?_
    replace h := h.2
    refine r_aload_n (pc := 99) (tb_at tkX8_layPairings 59 rfl) rfl rfl ?_
    refine r_dup (pc := 100) (tb_at tkX8_layPairings 60 rfl) (fun _ h => by cases h) ?_
    refine r_get 7 6 (pc := 101) (tb_at tkX8_layPairings 61 rfl) ly_34 flX8_30 rfl ?_
    refine r_iconst (pc := 104) (tb_at tkX8_layPairings 62 rfl) ⟨by decide, by decide⟩ ?_
    refine r_iadd (pc := 105) (tb_at tkX8_layPairings 63 rfl) ?_
    refine r_put 7 6 (w32 (((mup (mup M 35 (((M 34 6) * 8) + 7).toNat (M (t + 2) (v2).toNat)) 36 ((mup M 35 (((M 34 6) * 8) + 7).toNat (M (t + 2) (v2).toNat)) 34 6).toNat (w32 (7 + v2))) 34 6) + 1)) (pc := 106) (tb_at tkX8_layPairings 64 rfl) ly_34 flX8_30 (fun r h => by cases h; rfl) (.inl rfl) rfl (fun h => by cases h) rfl ?_
    refine r_iinc (L' := [some (.inr (.inr (some 34))), some (.inr (.inr (some t))), some (.inl (w32 (v2 + 1))), some (.inl v3)]) (pc := 109) (tb_at tkX8_layPairings 65 rfl) rfl (by decide) rfl ?_
    refine r_goto (tgt := 2) (pc := 112) (tb_at tkX8_layPairings 66 rfl) (by decide) ?_
    exact Ok.forget h (And.intro rfl (And.intro rfl (And.intro rfl trivial)))
  · replace h := h.2 c
    refine r_aload_n (pc := 38) (tb_at tkX8_layPairings 20 rfl) rfl rfl ?_
    refine r_get 7 1 (pc := 39) (tb_at tkX8_layPairings 21 rfl) ly_34 flX8_11 rfl ?_
    refine r_aload_n (pc := 42) (tb_at tkX8_layPairings 22 rfl) rfl rfl ?_
    refine r_get 7 6 (pc := 43) (tb_at tkX8_layPairings 23 rfl) ly_34 flX8_30 rfl ?_
    refine r_bipush (pc := 46) (tb_at tkX8_layPairings 24 rfl) ⟨by decide, by decide, by decide⟩ ?_
    refine r_imul (pc := 48) (tb_at tkX8_layPairings 25 rfl) ?_
    refine r_iload_n (pc := 49) (tb_at tkX8_layPairings 26 rfl) rfl rfl ?_
    refine r_iadd_l (pc := 50) (tb_at tkX8_layPairings 27 rfl) ?_
    refine r_iload_n (pc := 51) (tb_at tkX8_layPairings 28 rfl) rfl rfl ?_
    refine r_iload_n (pc := 52) (tb_at tkX8_layPairings 29 rfl) rfl rfl ?_
    refine r_ishr (pc := 53) (tb_at tkX8_layPairings 30 rfl) ?_
    refine r_iconst (pc := 54) (tb_at tkX8_layPairings 31 rfl) ⟨by decide, by decide⟩ ?_
    refine r_iand (pc := 55) (tb_at tkX8_layPairings 32 rfl) ?_
    refine r_i2l (pc := 56) (tb_at tkX8_layPairings 33 rfl) ?_
    refine r_last_w (pc := 57) (tb_at tkX8_layPairings 34 rfl) ly_35 (by decide) h.1.1 h.1.2 rfl ?_
    replace h := h.2
    refine r_iinc (L' := [some (.inr (.inr (some 34))), some (.inr (.inr (some t))), some (.inl v2), some (.inl (w32 (v3 + 1)))]) (pc := 58) (tb_at tkX8_layPairings 35 rfl) rfl (by decide) rfl ?_
    refine r_goto (tgt := 27) (pc := 61) (tb_at tkX8_layPairings 36 rfl) (by decide) ?_
    exact h
set_option maxRecDepth 100000 in
set_option maxHeartbeats 4000000 in
theorem gX8_entering_0 {G : GE} {d : Nat} {K : Int → Mem → Prop} {M : Mem}  (h : OkI G miX8_entering (d + 1) K 4 [some (.inr (.inr (some 34))), some (.inl (-1)), some (.inl 0), none] [] M) : OkI G miX8_entering (d + 1) K 0 [some (.inr (.inr (some 34))), none, none, none] [] M := by
  refine r_iconst (pc := 0) (tb_at tkX8_entering 0 rfl) ⟨by decide, by decide⟩ ?_
  refine r_istore_n (L' := [some (.inr (.inr (some 34))), some (.inl (-1)), none, none]) (pc := 1) (tb_at tkX8_entering 1 rfl) rfl (by decide) rfl ?_
  refine r_iconst (pc := 2) (tb_at tkX8_entering 2 rfl) ⟨by decide, by decide⟩ ?_
  refine r_istore_n (L' := [some (.inr (.inr (some 34))), some (.inl (-1)), some (.inl 0), none]) (pc := 3) (tb_at tkX8_entering 3 rfl) rfl (by decide) rfl ?_
  exact h
set_option maxRecDepth 100000 in
set_option maxHeartbeats 4000000 in
theorem gX8_entering_4 {G : GE} {d : Nat} {K : Int → Mem → Prop} {M : Mem} {v1 v2 : Int}  (h : (((M 1 8) ≤ v2 → K v1 M) ∧ (v2 < (M 1 8) → ((v1 = (-1) → OkI G miX8_entering (d + 1) K 35 [some (.inr (.inr (some 34))), some (.inl v1), some (.inl v2), none] [] M) ∧ (¬ v1 = (-1) → (0 ≤ v2 ∧ v2 < 7) ∧ (0 ≤ v1 ∧ v1 < 7) ∧ ((¬ ((M 37 (v2).toNat) < (M 37 (v1).toNat)) → OkI G miX8_entering (d + 1) K 4 [some (.inr (.inr (some 34))), some (.inl v1), some (.inl (w32 (v2 + 1))), none] [] M) ∧ ((M 37 (v2).toNat) < (M 37 (v1).toNat) → CalI G miX8_improves d [.inr (.inr (some 34)), .inl v2] M (fun x2 M1 => ((x2 = 0 → OkI G miX8_entering (d + 1) K 4 [some (.inr (.inr (some 34))), some (.inl v1), some (.inl (w32 (v2 + 1))), none] [] M1) ∧ (¬ x2 = 0 → OkI G miX8_entering (d + 1) K 4 [some (.inr (.inr (some 34))), some (.inl v2), some (.inl (w32 (v2 + 1))), none] [] M1)))))))))) : OkI G miX8_entering (d + 1) K 4 [some (.inr (.inr (some 34))), some (.inl v1), some (.inl v2), none] [] M := by
  refine r_iload_n (pc := 4) (tb_at tkX8_entering 4 rfl) rfl rfl ?_
  refine r_aload_n (pc := 5) (tb_at tkX8_entering 5 rfl) rfl rfl ?_
  refine r_get 7 0 (pc := 6) (tb_at tkX8_entering 6 rfl) ly_34 flX8_33 rfl ?_
  refine r_get 5 8 (pc := 9) (tb_at tkX8_entering 7 rfl) ly_1 flX8_37 rfl ?_
  refine q_icmp_ge (tgt := 61) (pc := 12) (tb_at tkX8_entering 8 rfl) (by decide) (fun c => ?_) (fun c => ?_)
  · replace h := h.1 c
    refine r_iload_n (pc := 61) (tb_at tkX8_entering 35 rfl) rfl rfl ?_
    exact r_iret (pc := 62) (tb_at tkX8_entering 36 rfl) rfl (Nat.le_refl _) (Nat.le_refl _) ⟨_, rfl, rfl, h⟩
  · replace h := h.2 c
    refine r_iload_n (pc := 15) (tb_at tkX8_entering 9 rfl) rfl rfl ?_
    refine r_iconst (pc := 16) (tb_at tkX8_entering 10 rfl) ⟨by decide, by decide⟩ ?_
    refine q_icmp_eq (tgt := 35) (pc := 17) (tb_at tkX8_entering 11 rfl) (by decide) (fun c => ?_) (fun c => ?_)
    · replace h := h.1 c
      exact h
    · replace h := h.2 c
      refine r_aload_n (pc := 20) (tb_at tkX8_entering 12 rfl) rfl rfl ?_
      refine r_get 7 3 (pc := 21) (tb_at tkX8_entering 13 rfl) ly_34 flX8_19 rfl ?_
      refine r_iload_n (pc := 24) (tb_at tkX8_entering 14 rfl) rfl rfl ?_
      refine r_iald (pc := 25) (tb_at tkX8_entering 15 rfl) ly_37 h.1.1 h.1.2 ?_
      replace h := h.2
      refine r_aload_n (pc := 26) (tb_at tkX8_entering 16 rfl) rfl rfl ?_
      refine r_get 7 3 (pc := 27) (tb_at tkX8_entering 17 rfl) ly_34 flX8_19 rfl ?_
      refine r_iload_n (pc := 30) (tb_at tkX8_entering 18 rfl) rfl rfl ?_
      refine r_iald (pc := 31) (tb_at tkX8_entering 19 rfl) ly_37 h.1.1 h.1.2 ?_
      replace h := h.2
      have hJ3 : ∀ t0 : Int, t0 = (if (M 37 (v2).toNat) < (M 37 (v1).toNat) then (1 : Int) else 0) → OkI G miX8_entering (d + 1) K 40 [some (.inr (.inr (some 34))), some (.inl v1), some (.inl v2), none] [.inl t0] M := by
        rintro _ rfl
        refine r_istore_n (L' := [some (.inr (.inr (some 34))), some (.inl v1), some (.inl v2), some (.inl (if (M 37 (v2).toNat) < (M 37 (v1).toNat) then (1 : Int) else 0))]) (pc := 40) (tb_at tkX8_entering 24 rfl) rfl (by decide) rfl ?_
        refine r_iload_n (pc := 41) (tb_at tkX8_entering 25 rfl) rfl rfl ?_
        refine q_bif_eq (tgt := 55) (pc := 42) (tb_at tkX8_entering 26 rfl) (by decide) (fun c => ?_) (fun c => ?_)
        · replace h := h.1 c
          refine r_iinc (L' := [some (.inr (.inr (some 34))), some (.inl v1), some (.inl (w32 (v2 + 1))), some (.inl (if (M 37 (v2).toNat) < (M 37 (v1).toNat) then (1 : Int) else 0))]) (pc := 55) (tb_at tkX8_entering 33 rfl) rfl (by decide) rfl ?_
          refine r_goto (tgt := 4) (pc := 58) (tb_at tkX8_entering 34 rfl) (by decide) ?_
          exact Ok.forget h (And.intro rfl (And.intro rfl (And.intro rfl trivial)))
        · replace h := h.2 c
          refine r_aload_n (pc := 45) (tb_at tkX8_entering 27 rfl) rfl rfl ?_
          refine r_iload_n (pc := 46) (tb_at tkX8_entering 28 rfl) rfl rfl ?_
          refine r_invV (mc' := 0) (ms' := 0) [.inl v2] (S := []) (pc := 47) (tb_at tkX8_entering 29 rfl) rfl ly_34 rfl rfl clX8_77 (Nat.le_of_ble_eq_true rfl) (Nat.le_refl _) (Nat.le_refl _) ?_
          refine Cal.mono h ?_
          rintro _ _ M1 ⟨x2, rfl, rfl, h⟩
          show OkI G miX8_entering (d + 1) K 50 [some (.inr (.inr (some 34))), some (.inl v1), some (.inl v2), some (.inl (if (M 37 (v2).toNat) < (M 37 (v1).toNat) then (1 : Int) else 0))] [.inl x2] M1
          refine q_if_eq (tgt := 55) (pc := 50) (tb_at tkX8_entering 30 rfl) (by decide) (fun c => ?_) (fun c => ?_)
          · replace h := h.1 c
            refine r_iinc (L' := [some (.inr (.inr (some 34))), some (.inl v1), some (.inl (w32 (v2 + 1))), some (.inl (if (M 37 (v2).toNat) < (M 37 (v1).toNat) then (1 : Int) else 0))]) (pc := 55) (tb_at tkX8_entering 33 rfl) rfl (by decide) rfl ?_
            refine r_goto (tgt := 4) (pc := 58) (tb_at tkX8_entering 34 rfl) (by decide) ?_
            exact Ok.forget h (And.intro rfl (And.intro rfl (And.intro rfl trivial)))
          · replace h := h.2 c
            refine r_iload_n (pc := 53) (tb_at tkX8_entering 31 rfl) rfl rfl ?_
            refine r_istore_n (L' := [some (.inr (.inr (some 34))), some (.inl v2), some (.inl v2), some (.inl (if (M 37 (v2).toNat) < (M 37 (v1).toNat) then (1 : Int) else 0))]) (pc := 54) (tb_at tkX8_entering 32 rfl) rfl (by decide) rfl ?_
            refine r_iinc (L' := [some (.inr (.inr (some 34))), some (.inl v2), some (.inl (w32 (v2 + 1))), some (.inl (if (M 37 (v2).toNat) < (M 37 (v1).toNat) then (1 : Int) else 0))]) (pc := 55) (tb_at tkX8_entering 33 rfl) rfl (by decide) rfl ?_
            refine r_goto (tgt := 4) (pc := 58) (tb_at tkX8_entering 34 rfl) (by decide) ?_
            exact Ok.forget h (And.intro rfl (And.intro rfl (And.intro rfl trivial)))
      refine q_icmp_ge (tgt := 39) (pc := 32) (tb_at tkX8_entering 20 rfl) (by decide) (fun c4 => ?_) (fun c4 => ?_)
      · refine r_iconst (pc := 39) (tb_at tkX8_entering 23 rfl) ⟨by decide, by decide⟩ ?_
        exact hJ3 _ (by simp only [if_neg (Int.not_lt.mpr c4)])
      · refine r_iconst (pc := 35) (tb_at tkX8_entering 21 rfl) ⟨by decide, by decide⟩ ?_
        refine r_goto (tgt := 40) (pc := 36) (tb_at tkX8_entering 22 rfl) (by decide) ?_
        exact hJ3 _ (by simp only [if_pos c4])
set_option maxRecDepth 100000 in
set_option maxHeartbeats 4000000 in
theorem gX8_entering_35 {G : GE} {d : Nat} {K : Int → Mem → Prop} {M : Mem} {v1 v2 : Int}  (h : (((1 : Int) = 0 → OkI G miX8_entering (d + 1) K 4 [some (.inr (.inr (some 34))), some (.inl v1), some (.inl (w32 (v2 + 1))), none] [] M) ∧ (¬ (1 : Int) = 0 → CalI G miX8_improves d [.inr (.inr (some 34)), .inl v2] M (fun x2 M1 => ((x2 = 0 → OkI G miX8_entering (d + 1) K 4 [some (.inr (.inr (some 34))), some (.inl v1), some (.inl (w32 (v2 + 1))), none] [] M1) ∧ (¬ x2 = 0 → OkI G miX8_entering (d + 1) K 4 [some (.inr (.inr (some 34))), some (.inl v2), some (.inl (w32 (v2 + 1))), none] [] M1)))))) : OkI G miX8_entering (d + 1) K 35 [some (.inr (.inr (some 34))), some (.inl v1), some (.inl v2), none] [] M := by
  refine r_iconst (pc := 35) (tb_at tkX8_entering 21 rfl) ⟨by decide, by decide⟩ ?_
  refine r_goto (tgt := 40) (pc := 36) (tb_at tkX8_entering 22 rfl) (by decide) ?_
  refine r_istore_n (L' := [some (.inr (.inr (some 34))), some (.inl v1), some (.inl v2), some (.inl 1)]) (pc := 40) (tb_at tkX8_entering 24 rfl) rfl (by decide) rfl ?_
  refine r_iload_n (pc := 41) (tb_at tkX8_entering 25 rfl) rfl rfl ?_
  refine q_if_eq (tgt := 55) (pc := 42) (tb_at tkX8_entering 26 rfl) (by decide) (fun c => ?_) (fun c => ?_)
  · replace h := h.1 c
    refine r_iinc (L' := [some (.inr (.inr (some 34))), some (.inl v1), some (.inl (w32 (v2 + 1))), some (.inl 1)]) (pc := 55) (tb_at tkX8_entering 33 rfl) rfl (by decide) rfl ?_
    refine r_goto (tgt := 4) (pc := 58) (tb_at tkX8_entering 34 rfl) (by decide) ?_
    exact Ok.forget h (And.intro rfl (And.intro rfl (And.intro rfl trivial)))
  · replace h := h.2 c
    refine r_aload_n (pc := 45) (tb_at tkX8_entering 27 rfl) rfl rfl ?_
    refine r_iload_n (pc := 46) (tb_at tkX8_entering 28 rfl) rfl rfl ?_
    refine r_invV (mc' := 0) (ms' := 0) [.inl v2] (S := []) (pc := 47) (tb_at tkX8_entering 29 rfl) rfl ly_34 rfl rfl clX8_77 (Nat.le_of_ble_eq_true rfl) (Nat.le_refl _) (Nat.le_refl _) ?_
    refine Cal.mono h ?_
    rintro _ _ M1 ⟨x2, rfl, rfl, h⟩
    show OkI G miX8_entering (d + 1) K 50 [some (.inr (.inr (some 34))), some (.inl v1), some (.inl v2), some (.inl 1)] [.inl x2] M1
    refine q_if_eq (tgt := 55) (pc := 50) (tb_at tkX8_entering 30 rfl) (by decide) (fun c => ?_) (fun c => ?_)
    · replace h := h.1 c
      refine r_iinc (L' := [some (.inr (.inr (some 34))), some (.inl v1), some (.inl (w32 (v2 + 1))), some (.inl 1)]) (pc := 55) (tb_at tkX8_entering 33 rfl) rfl (by decide) rfl ?_
      refine r_goto (tgt := 4) (pc := 58) (tb_at tkX8_entering 34 rfl) (by decide) ?_
      exact Ok.forget h (And.intro rfl (And.intro rfl (And.intro rfl trivial)))
    · replace h := h.2 c
      refine r_iload_n (pc := 53) (tb_at tkX8_entering 31 rfl) rfl rfl ?_
      refine r_istore_n (L' := [some (.inr (.inr (some 34))), some (.inl v2), some (.inl v2), some (.inl 1)]) (pc := 54) (tb_at tkX8_entering 32 rfl) rfl (by decide) rfl ?_
      refine r_iinc (L' := [some (.inr (.inr (some 34))), some (.inl v2), some (.inl (w32 (v2 + 1))), some (.inl 1)]) (pc := 55) (tb_at tkX8_entering 33 rfl) rfl (by decide) rfl ?_
      refine r_goto (tgt := 4) (pc := 58) (tb_at tkX8_entering 34 rfl) (by decide) ?_
      exact Ok.forget h (And.intro rfl (And.intro rfl (And.intro rfl trivial)))
set_option maxRecDepth 100000 in
set_option maxHeartbeats 4000000 in
theorem gX8_improves_0 {G : GE} {d : Nat} {K : Int → Mem → Prop} {M : Mem} {v1 : Int}  (h : OkI G miX8_improves d K 2 [some (.inr (.inr (some 34))), some (.inl v1), some (.inl 0), none, none] [] M) : OkI G miX8_improves d K 0 [some (.inr (.inr (some 34))), some (.inl v1), none, none, none] [] M := by
  refine r_iconst (pc := 0) (tb_at tkX8_improves 0 rfl) ⟨by decide, by decide⟩ ?_
  refine r_istore_n (L' := [some (.inr (.inr (some 34))), some (.inl v1), some (.inl 0), none, none]) (pc := 1) (tb_at tkX8_improves 1 rfl) rfl (by decide) rfl ?_
  exact h
set_option maxRecDepth 100000 in
set_option maxHeartbeats 4000000 in
theorem gX8_improves_2 {G : GE} {d : Nat} {K : Int → Mem → Prop} {M : Mem} {v1 v2 : Int}  (h : (((M 34 5) ≤ v2 → K 0 M) ∧ (v2 < (M 34 5) → (0 ≤ (v2 * 8) + v1 ∧ (v2 * 8) + v1 < 1088) ∧ (((M 35 ((v2 * 8) + v1).toNat) = 0 → OkI G miX8_improves d K 2 [some (.inr (.inr (some 34))), some (.inl v1), some (.inl (w32 (v2 + 1))), none, none] [] M) ∧ (¬ (M 35 ((v2 * 8) + v1).toNat) = 0 → ((0 ≤ (M 35 ((v2 * 8) + v1).toNat) → K 0 M) ∧ ((M 35 ((v2 * 8) + v1).toNat) < 0 → K 1 M))))))) : OkI G miX8_improves d K 2 [some (.inr (.inr (some 34))), some (.inl v1), some (.inl v2), none, none] [] M := by
  refine r_iload_n (pc := 2) (tb_at tkX8_improves 2 rfl) rfl rfl ?_
  refine r_aload_n (pc := 3) (tb_at tkX8_improves 3 rfl) rfl rfl ?_
  refine r_get 7 5 (pc := 4) (tb_at tkX8_improves 4 rfl) ly_34 flX8_26 rfl ?_
  refine q_icmp_ge (tgt := 46) (pc := 7) (tb_at tkX8_improves 5 rfl) (by decide) (fun c => ?_) (fun c => ?_)
  · replace h := h.1 c
    refine r_iconst (pc := 46) (tb_at tkX8_improves 29 rfl) ⟨by decide, by decide⟩ ?_
    exact r_zret (pc := 47) (tb_at tkX8_improves 30 rfl) rfl (by decide) (Nat.le_refl _) (Nat.le_refl _) ⟨_, rfl, rfl, h⟩
  · replace h := h.2 c
    refine r_aload_n (pc := 10) (tb_at tkX8_improves 6 rfl) rfl rfl ?_
    refine r_get 7 1 (pc := 11) (tb_at tkX8_improves 7 rfl) ly_34 flX8_11 rfl ?_
    refine r_iload_n (pc := 14) (tb_at tkX8_improves 8 rfl) rfl rfl ?_
    refine r_bipush (pc := 15) (tb_at tkX8_improves 9 rfl) ⟨by decide, by decide, by decide⟩ ?_
    refine r_imul (pc := 17) (tb_at tkX8_improves 10 rfl) ?_
    refine r_iload_n (pc := 18) (tb_at tkX8_improves 11 rfl) rfl rfl ?_
    refine r_iadd_l (pc := 19) (tb_at tkX8_improves 12 rfl) ?_
    refine r_lald_w (pc := 20) (tb_at tkX8_improves 13 rfl) ly_35 (by decide) h.1.1 h.1.2 ?_
    replace h := h.2
    refine r_lstore_n (L' := [some (.inr (.inr (some 34))), some (.inl v1), some (.inl v2), some (.inr (.inl (M 35 ((v2 * 8) + v1).toNat))), none]) (pc := 21) (tb_at tkX8_improves 14 rfl) rfl (by decide) rfl ?_
    refine r_lload_n (pc := 22) (tb_at tkX8_improves 15 rfl) rfl rfl ?_
    refine r_lconst (v := 0) (pc := 23) (tb_at tkX8_improves 16 rfl) ⟨by decide, by decide, by decide⟩ ?_
    refine r_lcmp (pc := 24) (tb_at tkX8_improves 17 rfl) ?_
    refine q_lif_eq (tgt := 40) (pc := 25) (tb_at tkX8_improves 18 rfl) (by decide) (fun c => ?_) (fun c => ?_)
    · replace h := h.1 c
      refine r_iinc (L' := [some (.inr (.inr (some 34))), some (.inl v1), some (.inl (w32 (v2 + 1))), some (.inr (.inl (M 35 ((v2 * 8) + v1).toNat))), none]) (pc := 40) (tb_at tkX8_improves 27 rfl) rfl (by decide) rfl ?_
      refine r_goto (tgt := 2) (pc := 43) (tb_at tkX8_improves 28 rfl) (by decide) ?_
      exact Ok.forget h (And.intro rfl (And.intro rfl (And.intro rfl trivial)))
    · replace h := h.2 c
      refine r_lload_n (pc := 28) (tb_at tkX8_improves 19 rfl) rfl rfl ?_
      refine r_lconst (v := 0) (pc := 29) (tb_at tkX8_improves 20 rfl) ⟨by decide, by decide, by decide⟩ ?_
      refine r_lcmp (pc := 30) (tb_at tkX8_improves 21 rfl) ?_
      refine q_lif_ge (tgt := 38) (pc := 31) (tb_at tkX8_improves 22 rfl) (by decide) (fun c => ?_) (fun c => ?_)
      · replace h := h.1 c
        refine r_iconst (pc := 38) (tb_at tkX8_improves 25 rfl) ⟨by decide, by decide⟩ ?_
        exact r_zret (pc := 39) (tb_at tkX8_improves 26 rfl) rfl (by decide) (Nat.le_refl _) (Nat.le_refl _) ⟨_, rfl, rfl, h⟩
      · replace h := h.2 c
        refine r_iconst (pc := 34) (tb_at tkX8_improves 23 rfl) ⟨by decide, by decide⟩ ?_
        refine r_goto (tgt := 39) (pc := 35) (tb_at tkX8_improves 24 rfl) (by decide) ?_
        exact r_zret (pc := 39) (tb_at tkX8_improves 26 rfl) rfl (by decide) (Nat.le_refl _) (Nat.le_refl _) ⟨_, rfl, rfl, h⟩
set_option maxRecDepth 100000 in
set_option maxHeartbeats 4000000 in
theorem gX8_leaving_0 {G : GE} {d : Nat} {K : Int → Mem → Prop} {M : Mem} {v1 : Int}  (h : OkI G miX8_leaving (d + 1) K 7 [some (.inr (.inr (some 34))), some (.inl v1), some (.inl (-1)), some (.inl (M 34 5))] [] M) : OkI G miX8_leaving (d + 1) K 0 [some (.inr (.inr (some 34))), some (.inl v1), none, none] [] M := by
  refine r_iconst (pc := 0) (tb_at tkX8_leaving 0 rfl) ⟨by decide, by decide⟩ ?_
  refine r_istore_n (L' := [some (.inr (.inr (some 34))), some (.inl v1), some (.inl (-1)), none]) (pc := 1) (tb_at tkX8_leaving 1 rfl) rfl (by decide) rfl ?_
  refine r_aload_n (pc := 2) (tb_at tkX8_leaving 2 rfl) rfl rfl ?_
  refine r_get 7 5 (pc := 3) (tb_at tkX8_leaving 3 rfl) ly_34 flX8_26 rfl ?_
  refine r_istore_n (L' := [some (.inr (.inr (some 34))), some (.inl v1), some (.inl (-1)), some (.inl (M 34 5))]) (pc := 6) (tb_at tkX8_leaving 4 rfl) rfl (by decide) rfl ?_
  exact h
set_option maxRecDepth 100000 in
set_option maxHeartbeats 4000000 in
theorem gX8_leaving_7 {G : GE} {d : Nat} {K : Int → Mem → Prop} {M : Mem} {v1 v2 v3 : Int}  (h : (((M 34 6) ≤ v3 → K v2 M) ∧ (v3 < (M 34 6) → (0 ≤ (v3 * 8) + v1 ∧ (v3 * 8) + v1 < 1088) ∧ (((M 35 ((v3 * 8) + v1).toNat) ≤ 0 → OkI G miX8_leaving (d + 1) K 7 [some (.inr (.inr (some 34))), some (.inl v1), some (.inl v2), some (.inl (w32 (v3 + 1)))] [] M) ∧ (0 < (M 35 ((v3 * 8) + v1).toNat) → ((v2 = (-1) → OkI G miX8_leaving (d + 1) K 7 [some (.inr (.inr (some 34))), some (.inl v1), some (.inl v3), some (.inl (w32 (v3 + 1)))] [] M) ∧ (¬ v2 = (-1) → CalI G miX8_isTighter d [.inr (.inr (some 34)), .inl v3, .inl v2, .inl v1] M (fun x2 M1 => ((x2 = 0 → OkI G miX8_leaving (d + 1) K 7 [some (.inr (.inr (some 34))), some (.inl v1), some (.inl v2), some (.inl (w32 (v3 + 1)))] [] M1) ∧ (¬ x2 = 0 → OkI G miX8_leaving (d + 1) K 7 [some (.inr (.inr (some 34))), some (.inl v1), some (.inl v3), some (.inl (w32 (v3 + 1)))] [] M1)))))))))) : OkI G miX8_leaving (d + 1) K 7 [some (.inr (.inr (some 34))), some (.inl v1), some (.inl v2), some (.inl v3)] [] M := by
  refine r_iload_n (pc := 7) (tb_at tkX8_leaving 5 rfl) rfl rfl ?_
  refine r_aload_n (pc := 8) (tb_at tkX8_leaving 6 rfl) rfl rfl ?_
  refine r_get 7 6 (pc := 9) (tb_at tkX8_leaving 7 rfl) ly_34 flX8_30 rfl ?_
  refine q_icmp_ge (tgt := 54) (pc := 12) (tb_at tkX8_leaving 8 rfl) (by decide) (fun c => ?_) (fun c => ?_)
  · replace h := h.1 c
    refine r_iload_n (pc := 54) (tb_at tkX8_leaving 33 rfl) rfl rfl ?_
    exact r_iret (pc := 55) (tb_at tkX8_leaving 34 rfl) rfl (Nat.le_refl _) (Nat.le_refl _) ⟨_, rfl, rfl, h⟩
  · replace h := h.2 c
    refine r_aload_n (pc := 15) (tb_at tkX8_leaving 9 rfl) rfl rfl ?_
    refine r_get 7 1 (pc := 16) (tb_at tkX8_leaving 10 rfl) ly_34 flX8_11 rfl ?_
    refine r_iload_n (pc := 19) (tb_at tkX8_leaving 11 rfl) rfl rfl ?_
    refine r_bipush (pc := 20) (tb_at tkX8_leaving 12 rfl) ⟨by decide, by decide, by decide⟩ ?_
    refine r_imul (pc := 22) (tb_at tkX8_leaving 13 rfl) ?_
    refine r_iload_n (pc := 23) (tb_at tkX8_leaving 14 rfl) rfl rfl ?_
    refine r_iadd_l (pc := 24) (tb_at tkX8_leaving 15 rfl) ?_
    refine r_lald_w (pc := 25) (tb_at tkX8_leaving 16 rfl) ly_35 (by decide) h.1.1 h.1.2 ?_
    replace h := h.2
    refine r_lconst (v := 0) (pc := 26) (tb_at tkX8_leaving 17 rfl) ⟨by decide, by decide, by decide⟩ ?_
    refine r_lcmp (pc := 27) (tb_at tkX8_leaving 18 rfl) ?_
    refine q_lif_le (tgt := 48) (pc := 28) (tb_at tkX8_leaving 19 rfl) (by decide) (fun c => ?_) (fun c => ?_)
    · replace h := h.1 c
      refine r_iinc (L' := [some (.inr (.inr (some 34))), some (.inl v1), some (.inl v2), some (.inl (w32 (v3 + 1)))]) (pc := 48) (tb_at tkX8_leaving 31 rfl) rfl (by decide) rfl ?_
      refine r_goto (tgt := 7) (pc := 51) (tb_at tkX8_leaving 32 rfl) (by decide) ?_
      exact h
    · replace h := h.2 c
      refine r_iload_n (pc := 31) (tb_at tkX8_leaving 20 rfl) rfl rfl ?_
      refine r_iconst (pc := 32) (tb_at tkX8_leaving 21 rfl) ⟨by decide, by decide⟩ ?_
      refine q_icmp_eq (tgt := 46) (pc := 33) (tb_at tkX8_leaving 22 rfl) (by decide) (fun c => ?_) (fun c => ?_)
      · replace h := h.1 c
        refine r_iload_n (pc := 46) (tb_at tkX8_leaving 29 rfl) rfl rfl ?_
        refine r_istore_n (L' := [some (.inr (.inr (some 34))), some (.inl v1), some (.inl v3), some (.inl v3)]) (pc := 47) (tb_at tkX8_leaving 30 rfl) rfl (by decide) rfl ?_
        refine r_iinc (L' := [some (.inr (.inr (some 34))), some (.inl v1), some (.inl v3), some (.inl (w32 (v3 + 1)))]) (pc := 48) (tb_at tkX8_leaving 31 rfl) rfl (by decide) rfl ?_
        refine r_goto (tgt := 7) (pc := 51) (tb_at tkX8_leaving 32 rfl) (by decide) ?_
        exact h
      · replace h := h.2 c
        refine r_aload_n (pc := 36) (tb_at tkX8_leaving 23 rfl) rfl rfl ?_
        refine r_iload_n (pc := 37) (tb_at tkX8_leaving 24 rfl) rfl rfl ?_
        refine r_iload_n (pc := 38) (tb_at tkX8_leaving 25 rfl) rfl rfl ?_
        refine r_iload_n (pc := 39) (tb_at tkX8_leaving 26 rfl) rfl rfl ?_
        refine r_invV (mc' := 0) (ms' := 0) [.inl v3, .inl v2, .inl v1] (S := []) (pc := 40) (tb_at tkX8_leaving 27 rfl) rfl ly_34 rfl rfl clX8_81 (Nat.le_of_ble_eq_true rfl) (Nat.le_refl _) (Nat.le_refl _) ?_
        refine Cal.mono h ?_
        rintro _ _ M1 ⟨x2, rfl, rfl, h⟩
        show OkI G miX8_leaving (d + 1) K 43 [some (.inr (.inr (some 34))), some (.inl v1), some (.inl v2), some (.inl v3)] [.inl x2] M1
        refine q_if_eq (tgt := 48) (pc := 43) (tb_at tkX8_leaving 28 rfl) (by decide) (fun c => ?_) (fun c => ?_)
        · replace h := h.1 c
          refine r_iinc (L' := [some (.inr (.inr (some 34))), some (.inl v1), some (.inl v2), some (.inl (w32 (v3 + 1)))]) (pc := 48) (tb_at tkX8_leaving 31 rfl) rfl (by decide) rfl ?_
          refine r_goto (tgt := 7) (pc := 51) (tb_at tkX8_leaving 32 rfl) (by decide) ?_
          exact h
        · replace h := h.2 c
          refine r_iload_n (pc := 46) (tb_at tkX8_leaving 29 rfl) rfl rfl ?_
          refine r_istore_n (L' := [some (.inr (.inr (some 34))), some (.inl v1), some (.inl v3), some (.inl v3)]) (pc := 47) (tb_at tkX8_leaving 30 rfl) rfl (by decide) rfl ?_
          refine r_iinc (L' := [some (.inr (.inr (some 34))), some (.inl v1), some (.inl v3), some (.inl (w32 (v3 + 1)))]) (pc := 48) (tb_at tkX8_leaving 31 rfl) rfl (by decide) rfl ?_
          refine r_goto (tgt := 7) (pc := 51) (tb_at tkX8_leaving 32 rfl) (by decide) ?_
          exact h
set_option maxRecDepth 100000 in
set_option maxHeartbeats 4000000 in
theorem gX8_isTighter_0 {G : GE} {d : Nat} {K : Int → Mem → Prop} {M : Mem} {v1 v2 v3 : Int}  (h : (0 ≤ (v1 * 8) + 7 ∧ (v1 * 8) + 7 < 1088) ∧ (0 ≤ (v2 * 8) + v3 ∧ (v2 * 8) + v3 < 1088) ∧ (0 ≤ (v2 * 8) + 7 ∧ (v2 * 8) + 7 < 1088) ∧ (0 ≤ (v1 * 8) + v3 ∧ (v1 * 8) + v3 < 1088) ∧ (((w64 ((M 35 ((v1 * 8) + 7).toNat) * (M 35 ((v2 * 8) + v3).toNat))) < (w64 ((M 35 ((v2 * 8) + 7).toNat) * (M 35 ((v1 * 8) + v3).toNat))) → K 1 M) ∧ ((w64 ((M 35 ((v2 * 8) + 7).toNat) * (M 35 ((v1 * 8) + v3).toNat))) ≤ (w64 ((M 35 ((v1 * 8) + 7).toNat) * (M 35 ((v2 * 8) + v3).toNat))) → ((¬ (w64 ((M 35 ((v1 * 8) + 7).toNat) * (M 35 ((v2 * 8) + v3).toNat))) = (w64 ((M 35 ((v2 * 8) + 7).toNat) * (M 35 ((v1 * 8) + v3).toNat))) → K 0 M) ∧ ((w64 ((M 35 ((v1 * 8) + 7).toNat) * (M 35 ((v2 * 8) + v3).toNat))) = (w64 ((M 35 ((v2 * 8) + 7).toNat) * (M 35 ((v1 * 8) + v3).toNat))) → (0 ≤ v1 ∧ v1 < 136) ∧ (0 ≤ v2 ∧ v2 < 136) ∧ (((M 36 (v2).toNat) ≤ (M 36 (v1).toNat) → K 0 M) ∧ ((M 36 (v1).toNat) < (M 36 (v2).toNat) → K 1 M))))))) : OkI G miX8_isTighter d K 0 [some (.inr (.inr (some 34))), some (.inl v1), some (.inl v2), some (.inl v3), none, none, none, none] [] M := by
  refine r_aload_n (pc := 0) (tb_at tkX8_isTighter 0 rfl) rfl rfl ?_
  refine r_get 7 1 (pc := 1) (tb_at tkX8_isTighter 1 rfl) ly_34 flX8_11 rfl ?_
  refine r_iload_n (pc := 4) (tb_at tkX8_isTighter 2 rfl) rfl rfl ?_
  refine r_bipush (pc := 5) (tb_at tkX8_isTighter 3 rfl) ⟨by decide, by decide, by decide⟩ ?_
  refine r_imul (pc := 7) (tb_at tkX8_isTighter 4 rfl) ?_
  refine r_bipush (pc := 8) (tb_at tkX8_isTighter 5 rfl) ⟨by decide, by decide, by decide⟩ ?_
  refine r_iadd_l (pc := 10) (tb_at tkX8_isTighter 6 rfl) ?_
  refine r_lald_w (pc := 11) (tb_at tkX8_isTighter 7 rfl) ly_35 (by decide) h.1.1 h.1.2 ?_
  replace h := h.2
  refine r_aload_n (pc := 12) (tb_at tkX8_isTighter 8 rfl) rfl rfl ?_
  refine r_get 7 1 (pc := 13) (tb_at tkX8_isTighter 9 rfl) ly_34 flX8_11 rfl ?_
  refine r_iload_n (pc := 16) (tb_at tkX8_isTighter 10 rfl) rfl rfl ?_
  refine r_bipush (pc := 17) (tb_at tkX8_isTighter 11 rfl) ⟨by decide, by decide, by decide⟩ ?_
  refine r_imul (pc := 19) (tb_at tkX8_isTighter 12 rfl) ?_
  refine r_iload_n (pc := 20) (tb_at tkX8_isTighter 13 rfl) rfl rfl ?_
  refine r_iadd_l (pc := 21) (tb_at tkX8_isTighter 14 rfl) ?_
  refine r_lald_w (pc := 22) (tb_at tkX8_isTighter 15 rfl) ly_35 (by decide) h.1.1 h.1.2 ?_
  replace h := h.2
  refine r_lmul (pc := 23) (tb_at tkX8_isTighter 16 rfl) ?_
  refine r_lstore (L' := [some (.inr (.inr (some 34))), some (.inl v1), some (.inl v2), some (.inl v3), some (.inr (.inl (w64 ((M 35 ((v1 * 8) + 7).toNat) * (M 35 ((v2 * 8) + v3).toNat))))), none, none, none]) (pc := 24) (tb_at tkX8_isTighter 17 rfl) (by decide) rfl ?_
  refine r_aload_n (pc := 26) (tb_at tkX8_isTighter 18 rfl) rfl rfl ?_
  refine r_get 7 1 (pc := 27) (tb_at tkX8_isTighter 19 rfl) ly_34 flX8_11 rfl ?_
  refine r_iload_n (pc := 30) (tb_at tkX8_isTighter 20 rfl) rfl rfl ?_
  refine r_bipush (pc := 31) (tb_at tkX8_isTighter 21 rfl) ⟨by decide, by decide, by decide⟩ ?_
  refine r_imul (pc := 33) (tb_at tkX8_isTighter 22 rfl) ?_
  refine r_bipush (pc := 34) (tb_at tkX8_isTighter 23 rfl) ⟨by decide, by decide, by decide⟩ ?_
  refine r_iadd_l (pc := 36) (tb_at tkX8_isTighter 24 rfl) ?_
  refine r_lald_w (pc := 37) (tb_at tkX8_isTighter 25 rfl) ly_35 (by decide) h.1.1 h.1.2 ?_
  replace h := h.2
  refine r_aload_n (pc := 38) (tb_at tkX8_isTighter 26 rfl) rfl rfl ?_
  refine r_get 7 1 (pc := 39) (tb_at tkX8_isTighter 27 rfl) ly_34 flX8_11 rfl ?_
  refine r_iload_n (pc := 42) (tb_at tkX8_isTighter 28 rfl) rfl rfl ?_
  refine r_bipush (pc := 43) (tb_at tkX8_isTighter 29 rfl) ⟨by decide, by decide, by decide⟩ ?_
  refine r_imul (pc := 45) (tb_at tkX8_isTighter 30 rfl) ?_
  refine r_iload_n (pc := 46) (tb_at tkX8_isTighter 31 rfl) rfl rfl ?_
  refine r_iadd_l (pc := 47) (tb_at tkX8_isTighter 32 rfl) ?_
  refine r_lald_w (pc := 48) (tb_at tkX8_isTighter 33 rfl) ly_35 (by decide) h.1.1 h.1.2 ?_
  replace h := h.2
  refine r_lmul (pc := 49) (tb_at tkX8_isTighter 34 rfl) ?_
  refine r_lstore (L' := [some (.inr (.inr (some 34))), some (.inl v1), some (.inl v2), some (.inl v3), some (.inr (.inl (w64 ((M 35 ((v1 * 8) + 7).toNat) * (M 35 ((v2 * 8) + v3).toNat))))), none, some (.inr (.inl (w64 ((M 35 ((v2 * 8) + 7).toNat) * (M 35 ((v1 * 8) + v3).toNat))))), none]) (pc := 50) (tb_at tkX8_isTighter 35 rfl) (by decide) rfl ?_
  refine r_lload (pc := 52) (tb_at tkX8_isTighter 36 rfl) rfl ?_
  refine r_lload (pc := 54) (tb_at tkX8_isTighter 37 rfl) rfl ?_
  refine r_lcmp (pc := 56) (tb_at tkX8_isTighter 38 rfl) ?_
  refine q_lif_lt (tgt := 83) (pc := 57) (tb_at tkX8_isTighter 39 rfl) (by decide) (fun c => ?_) (fun c => ?_)
  · replace h := h.1 c
    refine r_iconst (pc := 83) (tb_at tkX8_isTighter 53 rfl) ⟨by decide, by decide⟩ ?_
    refine r_goto (tgt := 88) (pc := 84) (tb_at tkX8_isTighter 54 rfl) (by decide) ?_
    exact r_zret (pc := 88) (tb_at tkX8_isTighter 56 rfl) rfl (by decide) (Nat.le_refl _) (Nat.le_refl _) ⟨_, rfl, rfl, h⟩
  · replace h := h.2 c
    refine r_lload (pc := 60) (tb_at tkX8_isTighter 40 rfl) rfl ?_
    refine r_lload (pc := 62) (tb_at tkX8_isTighter 41 rfl) rfl ?_
    refine r_lcmp (pc := 64) (tb_at tkX8_isTighter 42 rfl) ?_
    refine q_lif_ne (tgt := 87) (pc := 65) (tb_at tkX8_isTighter 43 rfl) (by decide) (fun c => ?_) (fun c => ?_)
    · replace h := h.1 c
      refine r_iconst (pc := 87) (tb_at tkX8_isTighter 55 rfl) ⟨by decide, by decide⟩ ?_
      exact r_zret (pc := 88) (tb_at tkX8_isTighter 56 rfl) rfl (by decide) (Nat.le_refl _) (Nat.le_refl _) ⟨_, rfl, rfl, h⟩
    · replace h := h.2 c
      refine r_aload_n (pc := 68) (tb_at tkX8_isTighter 44 rfl) rfl rfl ?_
      refine r_get 7 2 (pc := 69) (tb_at tkX8_isTighter 45 rfl) ly_34 flX8_15 rfl ?_
      refine r_iload_n (pc := 72) (tb_at tkX8_isTighter 46 rfl) rfl rfl ?_
      refine r_iald (pc := 73) (tb_at tkX8_isTighter 47 rfl) ly_36 h.1.1 h.1.2 ?_
      replace h := h.2
      refine r_aload_n (pc := 74) (tb_at tkX8_isTighter 48 rfl) rfl rfl ?_
      refine r_get 7 2 (pc := 75) (tb_at tkX8_isTighter 49 rfl) ly_34 flX8_15 rfl ?_
      refine r_iload_n (pc := 78) (tb_at tkX8_isTighter 50 rfl) rfl rfl ?_
      refine r_iald (pc := 79) (tb_at tkX8_isTighter 51 rfl) ly_36 h.1.1 h.1.2 ?_
      replace h := h.2
      refine q_icmp_ge (tgt := 87) (pc := 80) (tb_at tkX8_isTighter 52 rfl) (by decide) (fun c => ?_) (fun c => ?_)
      · replace h := h.1 c
        refine r_iconst (pc := 87) (tb_at tkX8_isTighter 55 rfl) ⟨by decide, by decide⟩ ?_
        exact r_zret (pc := 88) (tb_at tkX8_isTighter 56 rfl) rfl (by decide) (Nat.le_refl _) (Nat.le_refl _) ⟨_, rfl, rfl, h⟩
      · replace h := h.2 c
        refine r_iconst (pc := 83) (tb_at tkX8_isTighter 53 rfl) ⟨by decide, by decide⟩ ?_
        refine r_goto (tgt := 88) (pc := 84) (tb_at tkX8_isTighter 54 rfl) (by decide) ?_
        exact r_zret (pc := 88) (tb_at tkX8_isTighter 56 rfl) rfl (by decide) (Nat.le_refl _) (Nat.le_refl _) ⟨_, rfl, rfl, h⟩
set_option maxRecDepth 100000 in
set_option maxHeartbeats 4000000 in
theorem gX8_pivot_0 {G : GE} {d : Nat} {K : Mem → Prop} {M : Mem} {v1 v2 : Int}  (h : OkV G miX8_pivot (d + 1) K 2 [some (.inr (.inr (some 34))), some (.inl v1), some (.inl v2), some (.inl 0), none, none] [] M) : OkV G miX8_pivot (d + 1) K 0 [some (.inr (.inr (some 34))), some (.inl v1), some (.inl v2), none, none, none] [] M := by
  refine r_iconst (pc := 0) (tb_at tkX8_pivot 0 rfl) ⟨by decide, by decide⟩ ?_
  refine r_istore_n (L' := [some (.inr (.inr (some 34))), some (.inl v1), some (.inl v2), some (.inl 0), none, none]) (pc := 1) (tb_at tkX8_pivot 1 rfl) rfl (by decide) rfl ?_
  exact h
set_option maxRecDepth 100000 in
set_option maxHeartbeats 4000000 in
theorem gX8_pivot_2 {G : GE} {d : Nat} {K : Mem → Prop} {M : Mem} {v1 v2 v3 : Int}  (h : (((M 34 6) ≤ v3 → (0 ≤ (v1 * 8) + v2 ∧ (v1 * 8) + v2 < 1088) ∧ (0 ≤ (v1 * 8) + v2 ∧ (v1 * 8) + v2 < 1088) ∧ (0 ≤ v1 ∧ v1 < 136) ∧ (0 ≤ v2 ∧ v2 < 7) ∧ (0 ≤ v1 ∧ v1 < 136) ∧ (0 ≤ v2 ∧ v2 < 7) ∧ K (mup (mup (mup (mup M 35 ((v1 * 8) + v2).toNat (M 34 4)) 34 4 (M 35 ((v1 * 8) + v2).toNat)) 36 (v1).toNat ((mup (mup M 35 ((v1 * 8) + v2).toNat (M 34 4)) 34 4 (M 35 ((v1 * 8) + v2).toNat)) 37 (v2).toNat)) 37 (v2).toNat ((mup (mup M 35 ((v1 * 8) + v2).toNat (M 34 4)) 34 4 (M 35 ((v1 * 8) + v2).toNat)) 36 (v1).toNat))) ∧ (v3 < (M 34 6) → ((v3 = v1 → OkV G miX8_pivot (d + 1) K 2 [some (.inr (.inr (some 34))), some (.inl v1), some (.inl v2), some (.inl (w32 (v3 + 1))), none, none] [] M) ∧ (¬ v3 = v1 → CalV G miX8_sweep d [.inr (.inr (some 34)), .inl v3, .inl v1, .inl v2] M (fun M1 => OkV G miX8_pivot (d + 1) K 2 [some (.inr (.inr (some 34))), some (.inl v1), some (.inl v2), some (.inl (w32 (v3 + 1))), none, none] [] M1)))))) : OkV G miX8_pivot (d + 1) K 2 [some (.inr (.inr (some 34))), some (.inl v1), some (.inl v2), some (.inl v3), none, none] [] M := by
  refine r_iload_n (pc := 2) (tb_at tkX8_pivot 2 rfl) rfl rfl ?_
  refine r_aload_n (pc := 3) (tb_at tkX8_pivot 3 rfl) rfl rfl ?_
  refine r_get 7 6 (pc := 4) (tb_at tkX8_pivot 4 rfl) ly_34 flX8_30 rfl ?_
  refine q_icmp_ge (tgt := 28) (pc := 7) (tb_at tkX8_pivot 5 rfl) (by decide) (fun c => ?_) (fun c => ?_)
  · replace h := h.1 c
    refine r_aload_n (pc := 28) (tb_at tkX8_pivot 16 rfl) rfl rfl ?_
    refine r_get 7 1 (pc := 29) (tb_at tkX8_pivot 17 rfl) ly_34 flX8_11 rfl ?_
    refine r_iload_n (pc := 32) (tb_at tkX8_pivot 18 rfl) rfl rfl ?_
    refine r_bipush (pc := 33) (tb_at tkX8_pivot 19 rfl) ⟨by decide, by decide, by decide⟩ ?_
    refine r_imul (pc := 35) (tb_at tkX8_pivot 20 rfl) ?_
    refine r_iload_n (pc := 36) (tb_at tkX8_pivot 21 rfl) rfl rfl ?_
    refine r_iadd_l (pc := 37) (tb_at tkX8_pivot 22 rfl) ?_
    refine r_lald_w (pc := 38) (tb_at tkX8_pivot 23 rfl) ly_35 (by decide) h.1.1 h.1.2 ?_
    replace h := h.2
    refine r_lstore_n (L' := [some (.inr (.inr (some 34))), some (.inl v1), some (.inl v2), some (.inr (.inl (M 35 ((v1 * 8) + v2).toNat))), none, none]) (pc := 39) (tb_at tkX8_pivot 24 rfl) rfl (by decide) rfl ?_
    refine r_aload_n (pc := 40) (tb_at tkX8_pivot 25 rfl) rfl rfl ?_
    refine r_get 7 1 (pc := 41) (tb_at tkX8_pivot 26 rfl) ly_34 flX8_11 rfl ?_
    refine r_iload_n (pc := 44) (tb_at tkX8_pivot 27 rfl) rfl rfl ?_
    refine r_bipush (pc := 45) (tb_at tkX8_pivot 28 rfl) ⟨by decide, by decide, by decide⟩ ?_
    refine r_imul (pc := 47) (tb_at tkX8_pivot 29 rfl) ?_
    refine r_iload_n (pc := 48) (tb_at tkX8_pivot 30 rfl) rfl rfl ?_
    refine r_iadd_l (pc := 49) (tb_at tkX8_pivot 31 rfl) ?_
    refine r_aload_n (pc := 50) (tb_at tkX8_pivot 32 rfl) rfl rfl ?_
    refine r_get 7 4 (pc := 51) (tb_at tkX8_pivot 33 rfl) ly_34 flX8_22 rfl ?_
    refine r_last_w (pc := 54) (tb_at tkX8_pivot 34 rfl) ly_35 (by decide) h.1.1 h.1.2 rfl ?_
    replace h := h.2
    refine r_aload_n (pc := 55) (tb_at tkX8_pivot 35 rfl) rfl rfl ?_
    refine r_lload_n (pc := 56) (tb_at tkX8_pivot 36 rfl) rfl rfl ?_
    refine r_put 7 4 (M 35 ((v1 * 8) + v2).toNat) (pc := 57) (tb_at tkX8_pivot 37 rfl) ly_34 flX8_22 (fun r h => by cases h; rfl) (.inr (.inr rfl)) rfl (fun h => by cases h) rfl ?_
    refine r_aload_n (pc := 60) (tb_at tkX8_pivot 38 rfl) rfl rfl ?_
    refine r_get 7 2 (pc := 61) (tb_at tkX8_pivot 39 rfl) ly_34 flX8_15 rfl ?_
    refine r_iload_n (pc := 64) (tb_at tkX8_pivot 40 rfl) rfl rfl ?_
    refine r_iald (pc := 65) (tb_at tkX8_pivot 41 rfl) ly_36 h.1.1 h.1.2 ?_
    replace h := h.2
    refine r_istore (L' := [some (.inr (.inr (some 34))), some (.inl v1), some (.inl v2), some (.inr (.inl (M 35 ((v1 * 8) + v2).toNat))), none, some (.inl ((mup (mup M 35 ((v1 * 8) + v2).toNat (M 34 4)) 34 4 (M 35 ((v1 * 8) + v2).toNat)) 36 (v1).toNat))]) (pc := 66) (tb_at tkX8_pivot 42 rfl) (by decide) rfl ?_
    refine r_aload_n (pc := 68) (tb_at tkX8_pivot 43 rfl) rfl rfl ?_
    refine r_get 7 2 (pc := 69) (tb_at tkX8_pivot 44 rfl) ly_34 flX8_15 rfl ?_
    refine r_iload_n (pc := 72) (tb_at tkX8_pivot 45 rfl) rfl rfl ?_
    refine r_aload_n (pc := 73) (tb_at tkX8_pivot 46 rfl) rfl rfl ?_
    refine r_get 7 3 (pc := 74) (tb_at tkX8_pivot 47 rfl) ly_34 flX8_19 rfl ?_
    refine r_iload_n (pc := 77) (tb_at tkX8_pivot 48 rfl) rfl rfl ?_
    refine r_iald (pc := 78) (tb_at tkX8_pivot 49 rfl) ly_37 h.1.1 h.1.2 ?_
    replace h := h.2
    refine r_iast (pc := 79) (tb_at tkX8_pivot 50 rfl) ly_36 h.1.1 h.1.2 rfl ?_
    replace h := h.2
    refine r_aload_n (pc := 80) (tb_at tkX8_pivot 51 rfl) rfl rfl ?_
    refine r_get 7 3 (pc := 81) (tb_at tkX8_pivot 52 rfl) ly_34 flX8_19 rfl ?_
    refine r_iload_n (pc := 84) (tb_at tkX8_pivot 53 rfl) rfl rfl ?_
    refine r_iload (pc := 85) (tb_at tkX8_pivot 54 rfl) rfl ?_
    refine r_iast (pc := 87) (tb_at tkX8_pivot 55 rfl) ly_37 h.1.1 h.1.2 rfl ?_
    replace h := h.2
    exact r_vret (pc := 88) (tb_at tkX8_pivot 56 rfl) rfl (Nat.le_refl _) (Nat.le_refl _) ⟨rfl, rfl, h⟩
  · replace h := h.2 c
    refine r_iload_n (pc := 10) (tb_at tkX8_pivot 6 rfl) rfl rfl ?_
    refine r_iload_n (pc := 11) (tb_at tkX8_pivot 7 rfl) rfl rfl ?_
    refine q_icmp_eq (tgt := 22) (pc := 12) (tb_at tkX8_pivot 8 rfl) (by decide) (fun c => ?_) (fun c => ?_)
    · replace h := h.1 c
      refine r_iinc (L' := [some (.inr (.inr (some 34))), some (.inl v1), some (.inl v2), some (.inl (w32 (v3 + 1))), none, none]) (pc := 22) (tb_at tkX8_pivot 14 rfl) rfl (by decide) rfl ?_
      refine r_goto (tgt := 2) (pc := 25) (tb_at tkX8_pivot 15 rfl) (by decide) ?_
      exact h
    · replace h := h.2 c
      refine r_aload_n (pc := 15) (tb_at tkX8_pivot 9 rfl) rfl rfl ?_
      refine r_iload_n (pc := 16) (tb_at tkX8_pivot 10 rfl) rfl rfl ?_
      refine r_iload_n (pc := 17) (tb_at tkX8_pivot 11 rfl) rfl rfl ?_
      refine r_iload_n (pc := 18) (tb_at tkX8_pivot 12 rfl) rfl rfl ?_
      refine r_invV (mc' := 0) (ms' := 0) [.inl v3, .inl v1, .inl v2] (S := []) (pc := 19) (tb_at tkX8_pivot 13 rfl) rfl ly_34 rfl rfl clX8_85 (Nat.le_of_ble_eq_true rfl) (Nat.le_refl _) (Nat.le_refl _) ?_
      refine Cal.mono h ?_
      rintro _ _ M1 ⟨rfl, rfl, h⟩
      show OkV G miX8_pivot (d + 1) K 22 [some (.inr (.inr (some 34))), some (.inl v1), some (.inl v2), some (.inl v3), none, none] [] M1
      refine r_iinc (L' := [some (.inr (.inr (some 34))), some (.inl v1), some (.inl v2), some (.inl (w32 (v3 + 1))), none, none]) (pc := 22) (tb_at tkX8_pivot 14 rfl) rfl (by decide) rfl ?_
      refine r_goto (tgt := 2) (pc := 25) (tb_at tkX8_pivot 15 rfl) (by decide) ?_
      exact h
set_option maxRecDepth 100000 in
set_option maxHeartbeats 4000000 in
theorem gX8_sweep_0 {G : GE} {d : Nat} {K : Mem → Prop} {M : Mem} {v1 v2 v3 : Int}  (h : ((0 < (M 34 4) → (0 ≤ (v2 * 8) + v3 ∧ (v2 * 8) + v3 < 1088) ∧ (0 ≤ (v1 * 8) + v3 ∧ (v1 * 8) + v3 < 1088) ∧ OkV G miX8_sweep d K 39 [some (.inr (.inr (some 34))), some (.inl v1), some (.inl v2), some (.inl v3), some (.inr (.inl (M 35 ((v2 * 8) + v3).toNat))), none, some (.inr (.inl (M 35 ((v1 * 8) + v3).toNat))), none, some (.inl 0), none, none] [] M) ∧ ((M 34 4) ≤ 0 → K M))) : OkV G miX8_sweep d K 0 [some (.inr (.inr (some 34))), some (.inl v1), some (.inl v2), some (.inl v3), none, none, none, none, none, none, none] [] M := by
  refine r_aload_n (pc := 0) (tb_at tkX8_sweep 0 rfl) rfl rfl ?_
  refine r_get 7 4 (pc := 1) (tb_at tkX8_sweep 1 rfl) ly_34 flX8_22 rfl ?_
  refine r_lconst (v := 0) (pc := 4) (tb_at tkX8_sweep 2 rfl) ⟨by decide, by decide, by decide⟩ ?_
  refine r_lcmp (pc := 5) (tb_at tkX8_sweep 3 rfl) ?_
  refine q_lif_gt (tgt := 10) (pc := 6) (tb_at tkX8_sweep 4 rfl) (by decide) (fun c => ?_) (fun c => ?_)
  · replace h := h.1 c
    refine r_aload_n (pc := 10) (tb_at tkX8_sweep 6 rfl) rfl rfl ?_
    refine r_get 7 1 (pc := 11) (tb_at tkX8_sweep 7 rfl) ly_34 flX8_11 rfl ?_
    refine r_iload_n (pc := 14) (tb_at tkX8_sweep 8 rfl) rfl rfl ?_
    refine r_bipush (pc := 15) (tb_at tkX8_sweep 9 rfl) ⟨by decide, by decide, by decide⟩ ?_
    refine r_imul (pc := 17) (tb_at tkX8_sweep 10 rfl) ?_
    refine r_iload_n (pc := 18) (tb_at tkX8_sweep 11 rfl) rfl rfl ?_
    refine r_iadd_l (pc := 19) (tb_at tkX8_sweep 12 rfl) ?_
    refine r_lald_w (pc := 20) (tb_at tkX8_sweep 13 rfl) ly_35 (by decide) h.1.1 h.1.2 ?_
    replace h := h.2
    refine r_lstore (L' := [some (.inr (.inr (some 34))), some (.inl v1), some (.inl v2), some (.inl v3), some (.inr (.inl (M 35 ((v2 * 8) + v3).toNat))), none, none, none, none, none, none]) (pc := 21) (tb_at tkX8_sweep 14 rfl) (by decide) rfl ?_
    refine r_aload_n (pc := 23) (tb_at tkX8_sweep 15 rfl) rfl rfl ?_
    refine r_get 7 1 (pc := 24) (tb_at tkX8_sweep 16 rfl) ly_34 flX8_11 rfl ?_
    refine r_iload_n (pc := 27) (tb_at tkX8_sweep 17 rfl) rfl rfl ?_
    refine r_bipush (pc := 28) (tb_at tkX8_sweep 18 rfl) ⟨by decide, by decide, by decide⟩ ?_
    refine r_imul (pc := 30) (tb_at tkX8_sweep 19 rfl) ?_
    refine r_iload_n (pc := 31) (tb_at tkX8_sweep 20 rfl) rfl rfl ?_
    refine r_iadd_l (pc := 32) (tb_at tkX8_sweep 21 rfl) ?_
    refine r_lald_w (pc := 33) (tb_at tkX8_sweep 22 rfl) ly_35 (by decide) h.1.1 h.1.2 ?_
    replace h := h.2
    refine r_lstore (L' := [some (.inr (.inr (some 34))), some (.inl v1), some (.inl v2), some (.inl v3), some (.inr (.inl (M 35 ((v2 * 8) + v3).toNat))), none, some (.inr (.inl (M 35 ((v1 * 8) + v3).toNat))), none, none, none, none]) (pc := 34) (tb_at tkX8_sweep 23 rfl) (by decide) rfl ?_
    refine r_iconst (pc := 36) (tb_at tkX8_sweep 24 rfl) ⟨by decide, by decide⟩ ?_
    refine r_istore (L' := [some (.inr (.inr (some 34))), some (.inl v1), some (.inl v2), some (.inl v3), some (.inr (.inl (M 35 ((v2 * 8) + v3).toNat))), none, some (.inr (.inl (M 35 ((v1 * 8) + v3).toNat))), none, some (.inl 0), none, none]) (pc := 37) (tb_at tkX8_sweep 25 rfl) (by decide) rfl ?_
    exact h
  · replace h := h.2 c
    exact r_vret (pc := 9) (tb_at tkX8_sweep 5 rfl) rfl (Nat.le_refl _) (Nat.le_refl _) ⟨rfl, rfl, h⟩
set_option maxRecDepth 100000 in
set_option maxHeartbeats 4000000 in
theorem gX8_sweep_39 {G : GE} {d : Nat} {K : Mem → Prop} {M : Mem} {v1 v2 v3 v4 v6 v8 : Int}  (h : ((8 ≤ v8 → (0 ≤ (v1 * 8) + v3 ∧ (v1 * 8) + v3 < 1088) ∧ K (mup M 35 ((v1 * 8) + v3).toNat (w64 (-v6)))) ∧ (v8 < 8 → ((v8 = v3 → OkV G miX8_sweep d K 39 [some (.inr (.inr (some 34))), some (.inl v1), some (.inl v2), some (.inl v3), some (.inr (.inl v4)), none, some (.inr (.inl v6)), none, some (.inl (w32 (v8 + 1))), none, none] [] M) ∧ (¬ v8 = v3 → ((v8 < (M 1 8) → OkV G miX8_sweep d K 71 [some (.inr (.inr (some 34))), some (.inl v1), some (.inl v2), some (.inl v3), some (.inr (.inl v4)), none, some (.inr (.inl v6)), none, some (.inl v8), none, none] [] M) ∧ ((M 1 8) ≤ v8 → ((¬ v8 = 7 → OkV G miX8_sweep d K 39 [some (.inr (.inr (some 34))), some (.inl v1), some (.inl v2), some (.inl v3), some (.inr (.inl v4)), none, some (.inr (.inl v6)), none, some (.inl (w32 (v8 + 1))), none, none] [] M) ∧ (v8 = 7 → OkV G miX8_sweep d K 71 [some (.inr (.inr (some 34))), some (.inl v1), some (.inl v2), some (.inl v3), some (.inr (.inl v4)), none, some (.inr (.inl v6)), none, some (.inl v8), none, none] [] M))))))))) : OkV G miX8_sweep d K 39 [some (.inr (.inr (some 34))), some (.inl v1), some (.inl v2), some (.inl v3), some (.inr (.inl v4)), none, some (.inr (.inl v6)), none, some (.inl v8), none, none] [] M := by
  refine r_iload (pc := 39) (tb_at tkX8_sweep 26 rfl) rfl ?_
  refine r_bipush (pc := 41) (tb_at tkX8_sweep 27 rfl) ⟨by decide, by decide, by decide⟩ ?_
  refine q_icmp_ge (tgt := 129) (pc := 43) (tb_at tkX8_sweep 28 rfl) (by decide) (fun c => ?_) (fun c => ?_)
  · replace h := h.1 c
    refine r_aload_n (pc := 129) (tb_at tkX8_sweep 76 rfl) rfl rfl ?_
    refine r_get 7 1 (pc := 130) (tb_at tkX8_sweep 77 rfl) ly_34 flX8_11 rfl ?_
    refine r_iload_n (pc := 133) (tb_at tkX8_sweep 78 rfl) rfl rfl ?_
    refine r_bipush (pc := 134) (tb_at tkX8_sweep 79 rfl) ⟨by decide, by decide, by decide⟩ ?_
    refine r_imul (pc := 136) (tb_at tkX8_sweep 80 rfl) ?_
    refine r_iload_n (pc := 137) (tb_at tkX8_sweep 81 rfl) rfl rfl ?_
    refine r_iadd_l (pc := 138) (tb_at tkX8_sweep 82 rfl) ?_
    refine r_lload (pc := 139) (tb_at tkX8_sweep 83 rfl) rfl ?_
    refine r_lneg (pc := 141) (tb_at tkX8_sweep 84 rfl) ?_
    refine r_last_w (pc := 142) (tb_at tkX8_sweep 85 rfl) ly_35 (by decide) h.1.1 h.1.2 rfl ?_
    replace h := h.2
    exact r_vret (pc := 143) (tb_at tkX8_sweep 86 rfl) rfl (Nat.le_refl _) (Nat.le_refl _) ⟨rfl, rfl, h⟩
  · replace h := h.2 c
    refine r_iload (pc := 46) (tb_at tkX8_sweep 29 rfl) rfl ?_
    refine r_iload_n (pc := 48) (tb_at tkX8_sweep 30 rfl) rfl rfl ?_
    refine q_icmp_eq (tgt := 123) (pc := 49) (tb_at tkX8_sweep 31 rfl) (by decide) (fun c => ?_) (fun c => ?_)
    · replace h := h.1 c
      refine r_iinc (L' := [some (.inr (.inr (some 34))), some (.inl v1), some (.inl v2), some (.inl v3), some (.inr (.inl v4)), none, some (.inr (.inl v6)), none, some (.inl (w32 (v8 + 1))), none, none]) (pc := 123) (tb_at tkX8_sweep 74 rfl) rfl (by decide) rfl ?_
      refine r_goto (tgt := 39) (pc := 126) (tb_at tkX8_sweep 75 rfl) (by decide) ?_
      exact h
    · replace h := h.2 c
      refine r_iload (pc := 52) (tb_at tkX8_sweep 32 rfl) rfl ?_
      refine r_aload_n (pc := 54) (tb_at tkX8_sweep 33 rfl) rfl rfl ?_
      refine r_get 7 0 (pc := 55) (tb_at tkX8_sweep 34 rfl) ly_34 flX8_33 rfl ?_
      refine r_get 5 8 (pc := 58) (tb_at tkX8_sweep 35 rfl) ly_1 flX8_37 rfl ?_
      refine q_icmp_lt (tgt := 71) (pc := 61) (tb_at tkX8_sweep 36 rfl) (by decide) (fun c => ?_) (fun c => ?_)
      · replace h := h.1 c
        exact h
      · replace h := h.2 c
        refine r_iload (pc := 64) (tb_at tkX8_sweep 37 rfl) rfl ?_
        refine r_bipush (pc := 66) (tb_at tkX8_sweep 38 rfl) ⟨by decide, by decide, by decide⟩ ?_
        refine q_icmp_ne (tgt := 123) (pc := 68) (tb_at tkX8_sweep 39 rfl) (by decide) (fun c => ?_) (fun c => ?_)
        · replace h := h.1 c
          refine r_iinc (L' := [some (.inr (.inr (some 34))), some (.inl v1), some (.inl v2), some (.inl v3), some (.inr (.inl v4)), none, some (.inr (.inl v6)), none, some (.inl (w32 (v8 + 1))), none, none]) (pc := 123) (tb_at tkX8_sweep 74 rfl) rfl (by decide) rfl ?_
          refine r_goto (tgt := 39) (pc := 126) (tb_at tkX8_sweep 75 rfl) (by decide) ?_
          exact h
        · replace h := h.2 c
          exact h
set_option maxRecDepth 100000 in
set_option maxHeartbeats 4000000 in
theorem gX8_sweep_71 {G : GE} {d : Nat} {K : Mem → Prop} {M : Mem} {v1 v2 v3 v4 v6 v8 : Int}  (h : (0 ≤ (v1 * 8) + v8 ∧ (v1 * 8) + v8 < 1088) ∧ (0 ≤ (v2 * 8) + v8 ∧ (v2 * 8) + v8 < 1088) ∧ ¬ (M 34 4) = 0 ∧ (0 ≤ (v1 * 8) + v8 ∧ (v1 * 8) + v8 < 1088) ∧ OkV G miX8_sweep d K 39 [some (.inr (.inr (some 34))), some (.inl v1), some (.inl v2), some (.inl v3), some (.inr (.inl v4)), none, some (.inr (.inl v6)), none, some (.inl (w32 (v8 + 1))), none, none] [] (mup M 35 ((v1 * 8) + v8).toNat (ldiv (w64 (((M 35 ((v1 * 8) + v8).toNat) * v4) - (v6 * (M 35 ((v2 * 8) + v8).toNat)))) (M 34 4)))) : OkV G miX8_sweep d K 71 [some (.inr (.inr (some 34))), some (.inl v1), some (.inl v2), some (.inl v3), some (.inr (.inl v4)), none, some (.inr (.inl v6)), none, some (.inl v8), none, none] [] M := by
  refine r_aload_n (pc := 71) (tb_at tkX8_sweep 40 rfl) rfl rfl ?_
  refine r_get 7 1 (pc := 72) (tb_at tkX8_sweep 41 rfl) ly_34 flX8_11 rfl ?_
  refine r_iload_n (pc := 75) (tb_at tkX8_sweep 42 rfl) rfl rfl ?_
  refine r_bipush (pc := 76) (tb_at tkX8_sweep 43 rfl) ⟨by decide, by decide, by decide⟩ ?_
  refine r_imul (pc := 78) (tb_at tkX8_sweep 44 rfl) ?_
  refine r_iload (pc := 79) (tb_at tkX8_sweep 45 rfl) rfl ?_
  refine r_iadd_l (pc := 81) (tb_at tkX8_sweep 46 rfl) ?_
  refine r_lald_w (pc := 82) (tb_at tkX8_sweep 47 rfl) ly_35 (by decide) h.1.1 h.1.2 ?_
  replace h := h.2
  refine r_lload (pc := 83) (tb_at tkX8_sweep 48 rfl) rfl ?_
  refine r_lmul (pc := 85) (tb_at tkX8_sweep 49 rfl) ?_
  refine r_lstore (L' := [some (.inr (.inr (some 34))), some (.inl v1), some (.inl v2), some (.inl v3), some (.inr (.inl v4)), none, some (.inr (.inl v6)), none, some (.inl v8), some (.inr (.inl (w64 ((M 35 ((v1 * 8) + v8).toNat) * v4)))), none]) (pc := 86) (tb_at tkX8_sweep 50 rfl) (by decide) rfl ?_
  refine r_aload_n (pc := 88) (tb_at tkX8_sweep 51 rfl) rfl rfl ?_
  refine r_get 7 1 (pc := 89) (tb_at tkX8_sweep 52 rfl) ly_34 flX8_11 rfl ?_
  refine r_iload_n (pc := 92) (tb_at tkX8_sweep 53 rfl) rfl rfl ?_
  refine r_bipush (pc := 93) (tb_at tkX8_sweep 54 rfl) ⟨by decide, by decide, by decide⟩ ?_
  refine r_imul (pc := 95) (tb_at tkX8_sweep 55 rfl) ?_
  refine r_iload (pc := 96) (tb_at tkX8_sweep 56 rfl) rfl ?_
  refine r_iadd_l (pc := 98) (tb_at tkX8_sweep 57 rfl) ?_
  refine r_lload (pc := 99) (tb_at tkX8_sweep 58 rfl) rfl ?_
  refine r_lload (pc := 101) (tb_at tkX8_sweep 59 rfl) rfl ?_
  refine r_aload_n (pc := 103) (tb_at tkX8_sweep 60 rfl) rfl rfl ?_
  refine r_get 7 1 (pc := 104) (tb_at tkX8_sweep 61 rfl) ly_34 flX8_11 rfl ?_
  refine r_iload_n (pc := 107) (tb_at tkX8_sweep 62 rfl) rfl rfl ?_
  refine r_bipush (pc := 108) (tb_at tkX8_sweep 63 rfl) ⟨by decide, by decide, by decide⟩ ?_
  refine r_imul (pc := 110) (tb_at tkX8_sweep 64 rfl) ?_
  refine r_iload (pc := 111) (tb_at tkX8_sweep 65 rfl) rfl ?_
  refine r_iadd_l (pc := 113) (tb_at tkX8_sweep 66 rfl) ?_
  refine r_lald_w (pc := 114) (tb_at tkX8_sweep 67 rfl) ly_35 (by decide) h.1.1 h.1.2 ?_
  replace h := h.2
  refine r_lmul (pc := 115) (tb_at tkX8_sweep 68 rfl) ?_
  refine r_lsub_lr (pc := 116) (tb_at tkX8_sweep 69 rfl) ?_
  refine r_aload_n (pc := 117) (tb_at tkX8_sweep 70 rfl) rfl rfl ?_
  refine r_get 7 4 (pc := 118) (tb_at tkX8_sweep 71 rfl) ly_34 flX8_22 rfl ?_
  refine r_ldiv (pc := 121) (tb_at tkX8_sweep 72 rfl) h.1 ?_
  replace h := h.2
  refine r_last_w (pc := 122) (tb_at tkX8_sweep 73 rfl) ly_35 (by decide) h.1.1 h.1.2 rfl ?_
  replace h := h.2
  refine r_iinc (L' := [some (.inr (.inr (some 34))), some (.inl v1), some (.inl v2), some (.inl v3), some (.inr (.inl v4)), none, some (.inr (.inl v6)), none, some (.inl (w32 (v8 + 1))), some (.inr (.inl (w64 ((M 35 ((v1 * 8) + v8).toNat) * v4)))), none]) (pc := 123) (tb_at tkX8_sweep 74 rfl) rfl (by decide) rfl ?_
  refine r_goto (tgt := 39) (pc := 126) (tb_at tkX8_sweep 75 rfl) (by decide) ?_
  exact Ok.forget h (And.intro rfl (And.intro rfl (And.intro rfl (And.intro rfl (And.intro rfl (And.intro rfl (And.intro rfl trivial)))))))
set_option maxRecDepth 100000 in
set_option maxHeartbeats 4000000 in
theorem gX8_lowest_0 {G : GE} {d : Nat} {K : Int → Mem → Prop} {M : Mem} {v1 v2 : Int}  (h : (0 ≤ (v1 * 8) + 7 ∧ (v1 * 8) + 7 < 1088) ∧ CalL G miX10_inLowest d [.inr (.inl (M 35 ((v1 * 8) + 7).toNat)), .inr (.inl (M 34 4)), .inl v2] M (fun x2 M1 => K x2 M1)) : OkL G miX8_lowest (d + 1) K 0 [some (.inr (.inr (some 34))), some (.inl v1), some (.inl v2)] [] M := by
  refine r_aload_n (pc := 0) (tb_at tkX8_lowest 0 rfl) rfl rfl ?_
  refine r_get 7 1 (pc := 1) (tb_at tkX8_lowest 1 rfl) ly_34 flX8_11 rfl ?_
  refine r_iload_n (pc := 4) (tb_at tkX8_lowest 2 rfl) rfl rfl ?_
  refine r_bipush (pc := 5) (tb_at tkX8_lowest 3 rfl) ⟨by decide, by decide, by decide⟩ ?_
  refine r_imul (pc := 7) (tb_at tkX8_lowest 4 rfl) ?_
  refine r_bipush (pc := 8) (tb_at tkX8_lowest 5 rfl) ⟨by decide, by decide, by decide⟩ ?_
  refine r_iadd_l (pc := 10) (tb_at tkX8_lowest 6 rfl) ?_
  refine r_lald_w (pc := 11) (tb_at tkX8_lowest 7 rfl) ly_35 (by decide) h.1.1 h.1.2 ?_
  replace h := h.2
  refine r_aload_n (pc := 12) (tb_at tkX8_lowest 8 rfl) rfl rfl ?_
  refine r_get 7 4 (pc := 13) (tb_at tkX8_lowest 9 rfl) ly_34 flX8_22 rfl ?_
  refine r_iload_n (pc := 16) (tb_at tkX8_lowest 10 rfl) rfl rfl ?_
  refine r_invNS (mc' := 0) (ms' := 0) [.inr (.inl (M 35 ((v1 * 8) + 7).toNat)), .inr (.inl (M 34 4)), .inl v2] (S := []) (pc := 17) (tb_at tkX8_lowest 11 rfl) rfl clX8_89 (Nat.le_of_ble_eq_true rfl) (Nat.le_refl _) (Nat.le_refl _) ?_
  refine Cal.mono h ?_
  rintro _ _ M1 ⟨x2, rfl, rfl, h⟩
  show OkL G miX8_lowest (d + 1) K 20 [some (.inr (.inr (some 34))), some (.inl v1), some (.inl v2)] [.inr (.inl x2)] M1
  exact r_lret (pc := 20) (tb_at tkX8_lowest 12 rfl) rfl (Nat.le_refl _) (Nat.le_refl _) ⟨_, rfl, rfl, h⟩
set_option maxRecDepth 100000 in
set_option maxHeartbeats 4000000 in
theorem gX8_boundIs_0 {G : GE} {d : Nat} {K : Int → Mem → Prop} {M : Mem} {v1 v3 : Int}  (h : ((¬ (w64 (v1 * (M 34 4))) = (w64 ((M 35 7) * v3)) → K 0 M) ∧ ((w64 (v1 * (M 34 4))) = (w64 ((M 35 7) * v3)) → K 1 M))) : OkI G miX8_boundIs d K 0 [some (.inr (.inr (some 34))), some (.inr (.inl v1)), none, some (.inr (.inl v3)), none] [] M := by
  refine r_lload_n (pc := 0) (tb_at tkX8_boundIs 0 rfl) rfl rfl ?_
  refine r_aload_n (pc := 1) (tb_at tkX8_boundIs 1 rfl) rfl rfl ?_
  refine r_get 7 4 (pc := 2) (tb_at tkX8_boundIs 2 rfl) ly_34 flX8_22 rfl ?_
  refine r_lmul (pc := 5) (tb_at tkX8_boundIs 3 rfl) ?_
  refine r_aload_n (pc := 6) (tb_at tkX8_boundIs 4 rfl) rfl rfl ?_
  refine r_get 7 1 (pc := 7) (tb_at tkX8_boundIs 5 rfl) ly_34 flX8_11 rfl ?_
  refine r_bipush (pc := 10) (tb_at tkX8_boundIs 6 rfl) ⟨by decide, by decide, by decide⟩ ?_
  refine r_lald_k (k0 := 7) (pc := 12) (tb_at tkX8_boundIs 7 rfl) ly_35 rfl (by decide) (by decide) ?_
  refine r_lload_n (pc := 13) (tb_at tkX8_boundIs 8 rfl) rfl rfl ?_
  refine r_lmul (pc := 14) (tb_at tkX8_boundIs 9 rfl) ?_
  refine r_lcmp (pc := 15) (tb_at tkX8_boundIs 10 rfl) ?_
  refine q_lif_ne (tgt := 23) (pc := 16) (tb_at tkX8_boundIs 11 rfl) (by decide) (fun c => ?_) (fun c => ?_)
  · replace h := h.1 c
    refine r_iconst (pc := 23) (tb_at tkX8_boundIs 14 rfl) ⟨by decide, by decide⟩ ?_
    exact r_zret (pc := 24) (tb_at tkX8_boundIs 15 rfl) rfl (by decide) (Nat.le_refl _) (Nat.le_refl _) ⟨_, rfl, rfl, h⟩
  · replace h := h.2 c
    refine r_iconst (pc := 19) (tb_at tkX8_boundIs 12 rfl) ⟨by decide, by decide⟩ ?_
    refine r_goto (tgt := 24) (pc := 20) (tb_at tkX8_boundIs 13 rfl) (by decide) ?_
    exact r_zret (pc := 24) (tb_at tkX8_boundIs 15 rfl) rfl (by decide) (Nat.le_refl _) (Nat.le_refl _) ⟨_, rfl, rfl, h⟩
set_option maxRecDepth 100000 in
set_option maxHeartbeats 4000000 in
theorem gX9_hasRoom_0 {G : GE} {d : Nat} {K : Int → Mem → Prop} {M : Mem} {v1 : Int}  (h : ((60 < (w32 ((M 58 2) + v1)) → K 0 M) ∧ ((w32 ((M 58 2) + v1)) ≤ 60 → K 1 M))) : OkI G miX9_hasRoom d K 0 [some (.inr (.inr (some 58))), some (.inl v1)] [] M := by
  refine r_aload_n (pc := 0) (tb_at tkX9_hasRoom 0 rfl) rfl rfl ?_
  refine r_get 8 2 (pc := 1) (tb_at tkX9_hasRoom 1 rfl) ly_58 flX9_18 rfl ?_
  refine r_iload_n (pc := 4) (tb_at tkX9_hasRoom 2 rfl) rfl rfl ?_
  refine r_iadd (pc := 5) (tb_at tkX9_hasRoom 3 rfl) ?_
  refine r_bipush (pc := 6) (tb_at tkX9_hasRoom 4 rfl) ⟨by decide, by decide, by decide⟩ ?_
  refine q_icmp_gt (tgt := 15) (pc := 8) (tb_at tkX9_hasRoom 5 rfl) (by decide) (fun c => ?_) (fun c => ?_)
  · replace h := h.1 c
    refine r_iconst (pc := 15) (tb_at tkX9_hasRoom 8 rfl) ⟨by decide, by decide⟩ ?_
    exact r_zret (pc := 16) (tb_at tkX9_hasRoom 9 rfl) rfl (by decide) (Nat.le_refl _) (Nat.le_refl _) ⟨_, rfl, rfl, h⟩
  · replace h := h.2 c
    refine r_iconst (pc := 11) (tb_at tkX9_hasRoom 6 rfl) ⟨by decide, by decide⟩ ?_
    refine r_goto (tgt := 16) (pc := 12) (tb_at tkX9_hasRoom 7 rfl) (by decide) ?_
    exact r_zret (pc := 16) (tb_at tkX9_hasRoom 9 rfl) rfl (by decide) (Nat.le_refl _) (Nat.le_refl _) ⟨_, rfl, rfl, h⟩
set_option maxRecDepth 100000 in
set_option maxHeartbeats 4000000 in
theorem gX9_add_0 {G : GE} {d : Nat} {K : Mem → Prop} {M : Mem} {v1 : Int}  (h : ((60 ≤ (M 58 2) → K M) ∧ ((M 58 2) < 60 → (0 ≤ M 58 2 ∧ M 58 2 < 60) ∧ K (mup (mup M 59 (M 58 2).toNat v1) 58 2 (w32 (((mup M 59 (M 58 2).toNat v1) 58 2) + 1)))))) : OkV G miX9_add d K 0 [some (.inr (.inr (some 58))), some (.inl v1)] [] M := by
  refine r_aload_n (pc := 0) (tb_at tkX9_add 0 rfl) rfl rfl ?_
  refine r_get 8 2 (pc := 1) (tb_at tkX9_add 1 rfl) ly_58 flX9_18 rfl ?_
  refine r_bipush (pc := 4) (tb_at tkX9_add 2 rfl) ⟨by decide, by decide, by decide⟩ ?_
  refine q_icmp_ge (tgt := 29) (pc := 6) (tb_at tkX9_add 3 rfl) (by decide) (fun c => ?_) (fun c => ?_)
  · replace h := h.1 c
    exact r_vret (pc := 29) (tb_at tkX9_add 16 rfl) rfl (Nat.le_refl _) (Nat.le_refl _) ⟨rfl, rfl, h⟩
  · replace h := h.2 c
    refine r_aload_n (pc := 9) (tb_at tkX9_add 4 rfl) rfl rfl ?_
    refine r_get 8 0 (pc := 10) (tb_at tkX9_add 5 rfl) ly_58 flX9_11 rfl ?_
    refine r_aload_n (pc := 13) (tb_at tkX9_add 6 rfl) rfl rfl ?_
    refine r_get 8 2 (pc := 14) (tb_at tkX9_add 7 rfl) ly_58 flX9_18 rfl ?_
    refine r_iload_n (pc := 17) (tb_at tkX9_add 8 rfl) rfl rfl ?_
    refine r_iast (pc := 18) (tb_at tkX9_add 9 rfl) ly_59 h.1.1 h.1.2 rfl ?_
    replace h := h.2
    refine r_aload_n (pc := 19) (tb_at tkX9_add 10 rfl) rfl rfl ?_
    refine r_dup (pc := 20) (tb_at tkX9_add 11 rfl) (fun _ h => by cases h) ?_
    refine r_get 8 2 (pc := 21) (tb_at tkX9_add 12 rfl) ly_58 flX9_18 rfl ?_
    refine r_iconst (pc := 24) (tb_at tkX9_add 13 rfl) ⟨by decide, by decide⟩ ?_
    refine r_iadd (pc := 25) (tb_at tkX9_add 14 rfl) ?_
    refine r_put 8 2 (w32 (((mup M 59 (M 58 2).toNat v1) 58 2) + 1)) (pc := 26) (tb_at tkX9_add 15 rfl) ly_58 flX9_18 (fun r h => by cases h; rfl) (.inl rfl) rfl (fun h => by cases h) rfl ?_
    exact r_vret (pc := 29) (tb_at tkX9_add 16 rfl) rfl (Nat.le_refl _) (Nat.le_refl _) ⟨rfl, rfl, h⟩
set_option maxRecDepth 100000 in
set_option maxHeartbeats 4000000 in
theorem gX9_token_0 {G : GE} {d : Nat} {K : Int → Mem → Prop} {M : Mem} {v1 : Int}  (h : ((v1 < 0 → K 0 M) ∧ (0 ≤ v1 → (((M 58 3) ≤ v1 → K 0 M) ∧ (v1 < (M 58 3) → (0 ≤ v1 ∧ v1 < 60) ∧ K (M 60 (v1).toNat) M))))) : OkI G miX9_token d K 0 [some (.inr (.inr (some 58))), some (.inl v1)] [] M := by
  refine r_iload_n (pc := 0) (tb_at tkX9_token 0 rfl) rfl rfl ?_
  refine q_if_lt (tgt := 21) (pc := 1) (tb_at tkX9_token 1 rfl) (by decide) (fun c => ?_) (fun c => ?_)
  · replace h := h.1 c
    refine r_iconst (pc := 21) (tb_at tkX9_token 11 rfl) ⟨by decide, by decide⟩ ?_
    exact r_iret (pc := 22) (tb_at tkX9_token 12 rfl) rfl (Nat.le_refl _) (Nat.le_refl _) ⟨_, rfl, rfl, h⟩
  · replace h := h.2 c
    refine r_iload_n (pc := 4) (tb_at tkX9_token 2 rfl) rfl rfl ?_
    refine r_aload_n (pc := 5) (tb_at tkX9_token 3 rfl) rfl rfl ?_
    refine r_get 8 3 (pc := 6) (tb_at tkX9_token 4 rfl) ly_58 flX9_22 rfl ?_
    refine q_icmp_ge (tgt := 21) (pc := 9) (tb_at tkX9_token 5 rfl) (by decide) (fun c => ?_) (fun c => ?_)
    · replace h := h.1 c
      refine r_iconst (pc := 21) (tb_at tkX9_token 11 rfl) ⟨by decide, by decide⟩ ?_
      exact r_iret (pc := 22) (tb_at tkX9_token 12 rfl) rfl (Nat.le_refl _) (Nat.le_refl _) ⟨_, rfl, rfl, h⟩
    · replace h := h.2 c
      refine r_aload_n (pc := 12) (tb_at tkX9_token 6 rfl) rfl rfl ?_
      refine r_get 8 1 (pc := 13) (tb_at tkX9_token 7 rfl) ly_58 flX9_15 rfl ?_
      refine r_iload_n (pc := 16) (tb_at tkX9_token 8 rfl) rfl rfl ?_
      refine r_iald (pc := 17) (tb_at tkX9_token 9 rfl) ly_60 h.1.1 h.1.2 ?_
      replace h := h.2
      refine r_goto (tgt := 22) (pc := 18) (tb_at tkX9_token 10 rfl) (by decide) ?_
      exact r_iret (pc := 22) (tb_at tkX9_token 12 rfl) rfl (Nat.le_refl _) (Nat.le_refl _) ⟨_, rfl, rfl, h⟩
set_option maxRecDepth 100000 in
set_option maxHeartbeats 4000000 in
theorem gX9_parse_0 {G : GE} {d : Nat} {K : Int → Mem → Prop} {M : Mem}  (h : OkI G miX9_parse (d + 1) K 12 [some (.inr (.inr (some 58))), some (.inl 0), none] [] (mup (mup M 58 3 0) 58 4 (-1))) : OkI G miX9_parse (d + 1) K 0 [some (.inr (.inr (some 58))), none, none] [] M := by
  refine r_aload_n (pc := 0) (tb_at tkX9_parse 0 rfl) rfl rfl ?_
  refine r_iconst (pc := 1) (tb_at tkX9_parse 1 rfl) ⟨by decide, by decide⟩ ?_
  refine r_put 8 3 0 (pc := 2) (tb_at tkX9_parse 2 rfl) ly_58 flX9_22 (fun r h => by cases h; rfl) (.inl rfl) rfl (fun h => by cases h) rfl ?_
  refine r_aload_n (pc := 5) (tb_at tkX9_parse 3 rfl) rfl rfl ?_
  refine r_iconst (pc := 6) (tb_at tkX9_parse 4 rfl) ⟨by decide, by decide⟩ ?_
  refine r_put 8 4 (-1) (pc := 7) (tb_at tkX9_parse 5 rfl) ly_58 flX9_25 (fun r h => by cases h; rfl) (.inl rfl) rfl (fun h => by cases h) rfl ?_
  refine r_iconst (pc := 10) (tb_at tkX9_parse 6 rfl) ⟨by decide, by decide⟩ ?_
  refine r_istore_n (L' := [some (.inr (.inr (some 58))), some (.inl 0), none]) (pc := 11) (tb_at tkX9_parse 7 rfl) rfl (by decide) rfl ?_
  exact h
set_option maxRecDepth 100000 in
set_option maxHeartbeats 4000000 in
theorem gX9_parse_12 {G : GE} {d : Nat} {K : Int → Mem → Prop} {M : Mem} {v1 : Int}  (h : (((M 58 2) ≤ v1 → ((¬ (M 58 4) = 0 → K (M 58 2) M) ∧ ((M 58 4) = 0 → K (-1) M))) ∧ (v1 < (M 58 2) → (0 ≤ v1 ∧ v1 < 60) ∧ CalI G miX9_isBlank d [.inl (M 59 (v1).toNat)] M (fun x2 M1 => ((x2 = 0 → CalI G miX9_endOf d [.inr (.inr (some 58)), .inl v1] M1 (fun x4 M3 => CalI G miX9_takes d [.inr (.inr (some 58)), .inl v1, .inl x4] M3 (fun x6 M5 => ((¬ x6 = 0 → OkI G miX9_parse (d + 1) K 12 [some (.inr (.inr (some 58))), some (.inl x4), none] [] M5) ∧ (x6 = 0 → K v1 M5))))) ∧ (¬ x2 = 0 → OkI G miX9_parse (d + 1) K 12 [some (.inr (.inr (some 58))), some (.inl (w32 (v1 + 1))), none] [] M1)))))) : OkI G miX9_parse (d + 1) K 12 [some (.inr (.inr (some 58))), some (.inl v1), none] [] M := by
  refine r_iload_n (pc := 12) (tb_at tkX9_parse 8 rfl) rfl rfl ?_
  refine r_aload_n (pc := 13) (tb_at tkX9_parse 9 rfl) rfl rfl ?_
  refine r_get 8 2 (pc := 14) (tb_at tkX9_parse 10 rfl) ly_58 flX9_18 rfl ?_
  refine q_icmp_ge (tgt := 60) (pc := 17) (tb_at tkX9_parse 11 rfl) (by decide) (fun c => ?_) (fun c => ?_)
  · replace h := h.1 c
    refine r_aload_n (pc := 60) (tb_at tkX9_parse 34 rfl) rfl rfl ?_
    refine r_get 8 4 (pc := 61) (tb_at tkX9_parse 35 rfl) ly_58 flX9_25 rfl ?_
    refine q_if_ne (tgt := 71) (pc := 64) (tb_at tkX9_parse 36 rfl) (by decide) (fun c => ?_) (fun c => ?_)
    · replace h := h.1 c
      refine r_aload_n (pc := 71) (tb_at tkX9_parse 39 rfl) rfl rfl ?_
      refine r_get 8 2 (pc := 72) (tb_at tkX9_parse 40 rfl) ly_58 flX9_18 rfl ?_
      exact r_iret (pc := 75) (tb_at tkX9_parse 41 rfl) rfl (Nat.le_refl _) (Nat.le_refl _) ⟨_, rfl, rfl, h⟩
    · replace h := h.2 c
      refine r_iconst (pc := 67) (tb_at tkX9_parse 37 rfl) ⟨by decide, by decide⟩ ?_
      refine r_goto (tgt := 75) (pc := 68) (tb_at tkX9_parse 38 rfl) (by decide) ?_
      exact r_iret (pc := 75) (tb_at tkX9_parse 41 rfl) rfl (Nat.le_refl _) (Nat.le_refl _) ⟨_, rfl, rfl, h⟩
  · replace h := h.2 c
    refine r_aload_n (pc := 20) (tb_at tkX9_parse 12 rfl) rfl rfl ?_
    refine r_get 8 0 (pc := 21) (tb_at tkX9_parse 13 rfl) ly_58 flX9_11 rfl ?_
    refine r_iload_n (pc := 24) (tb_at tkX9_parse 14 rfl) rfl rfl ?_
    refine r_iald (pc := 25) (tb_at tkX9_parse 15 rfl) ly_59 h.1.1 h.1.2 ?_
    replace h := h.2
    refine r_invS (mc' := 0) (ms' := 0) [.inl (M 59 (v1).toNat)] (S := []) (pc := 26) (tb_at tkX9_parse 16 rfl) rfl clX9_28 (Nat.le_of_ble_eq_true rfl) (Nat.le_refl _) (Nat.le_refl _) ?_
    refine Cal.mono h ?_
    rintro _ _ M1 ⟨x2, rfl, rfl, h⟩
    show OkI G miX9_parse (d + 1) K 29 [some (.inr (.inr (some 58))), some (.inl v1), none] [.inl x2] M1
    refine q_if_eq (tgt := 38) (pc := 29) (tb_at tkX9_parse 17 rfl) (by decide) (fun c => ?_) (fun c => ?_)
    · replace h := h.1 c
      refine r_aload_n (pc := 38) (tb_at tkX9_parse 20 rfl) rfl rfl ?_
      refine r_iload_n (pc := 39) (tb_at tkX9_parse 21 rfl) rfl rfl ?_
      refine r_invV (mc' := 0) (ms' := 0) [.inl v1] (S := []) (pc := 40) (tb_at tkX9_parse 22 rfl) rfl ly_58 rfl rfl clX9_32 (Nat.le_of_ble_eq_true rfl) (Nat.le_refl _) (Nat.le_refl _) ?_
      refine Cal.mono h ?_
      rintro _ _ M3 ⟨x4, rfl, rfl, h⟩
      show OkI G miX9_parse (d + 1) K 43 [some (.inr (.inr (some 58))), some (.inl v1), none] [.inl x4] M3
      refine r_istore_n (L' := [some (.inr (.inr (some 58))), some (.inl v1), some (.inl x4)]) (pc := 43) (tb_at tkX9_parse 23 rfl) rfl (by decide) rfl ?_
      refine r_aload_n (pc := 44) (tb_at tkX9_parse 24 rfl) rfl rfl ?_
      refine r_iload_n (pc := 45) (tb_at tkX9_parse 25 rfl) rfl rfl ?_
      refine r_iload_n (pc := 46) (tb_at tkX9_parse 26 rfl) rfl rfl ?_
      refine r_invV (mc' := 0) (ms' := 0) [.inl v1, .inl x4] (S := []) (pc := 47) (tb_at tkX9_parse 27 rfl) rfl ly_58 rfl rfl clX9_36 (Nat.le_of_ble_eq_true rfl) (Nat.le_refl _) (Nat.le_refl _) ?_
      refine Cal.mono h ?_
      rintro _ _ M5 ⟨x6, rfl, rfl, h⟩
      show OkI G miX9_parse (d + 1) K 50 [some (.inr (.inr (some 58))), some (.inl v1), some (.inl x4)] [.inl x6] M5
      refine q_if_ne (tgt := 55) (pc := 50) (tb_at tkX9_parse 28 rfl) (by decide) (fun c => ?_) (fun c => ?_)
      · replace h := h.1 c
        refine r_iload_n (pc := 55) (tb_at tkX9_parse 31 rfl) rfl rfl ?_
        refine r_istore_n (L' := [some (.inr (.inr (some 58))), some (.inl x4), some (.inl x4)]) (pc := 56) (tb_at tkX9_parse 32 rfl) rfl (by decide) rfl ?_
        refine r_goto (tgt := 12) (pc := 57) (tb_at tkX9_parse 33 rfl) (by decide) ?_
        exact Ok.forget h (And.intro rfl (And.intro rfl trivial))
      · replace h := h.2 c
        refine r_iload_n (pc := 53) (tb_at tkX9_parse 29 rfl) rfl rfl ?_
        exact r_iret (pc := 54) (tb_at tkX9_parse 30 rfl) rfl (Nat.le_refl _) (Nat.le_refl _) ⟨_, rfl, rfl, h⟩
    · replace h := h.2 c
      refine r_iinc (L' := [some (.inr (.inr (some 58))), some (.inl (w32 (v1 + 1))), none]) (pc := 32) (tb_at tkX9_parse 18 rfl) rfl (by decide) rfl ?_
      refine r_goto (tgt := 12) (pc := 35) (tb_at tkX9_parse 19 rfl) (by decide) ?_
      exact h
set_option maxRecDepth 100000 in
set_option maxHeartbeats 4000000 in
theorem gX9_endOf_0 {G : GE} {d : Nat} {K : Int → Mem → Prop} {M : Mem} {v1 : Int}  (h : OkI G miX9_endOf (d + 1) K 4 [some (.inr (.inr (some 58))), some (.inl v1), some (.inl (w32 (v1 + 1)))] [] M) : OkI G miX9_endOf (d + 1) K 0 [some (.inr (.inr (some 58))), some (.inl v1), none] [] M := by
  refine r_iload_n (pc := 0) (tb_at tkX9_endOf 0 rfl) rfl rfl ?_
  refine r_iconst (pc := 1) (tb_at tkX9_endOf 1 rfl) ⟨by decide, by decide⟩ ?_
  refine r_iadd (pc := 2) (tb_at tkX9_endOf 2 rfl) ?_
  refine r_istore_n (L' := [some (.inr (.inr (some 58))), some (.inl v1), some (.inl (w32 (v1 + 1)))]) (pc := 3) (tb_at tkX9_endOf 3 rfl) rfl (by decide) rfl ?_
  exact h
set_option maxRecDepth 100000 in
set_option maxHeartbeats 4000000 in
theorem gX9_endOf_4 {G : GE} {d : Nat} {K : Int → Mem → Prop} {M : Mem} {v1 v2 : Int}  (h : (((M 58 2) ≤ v2 → OkI G miX9_endOf (d + 1) K 42 [some (.inr (.inr (some 58))), some (.inl v1), some (.inl v2)] [] M) ∧ (v2 < (M 58 2) → (0 ≤ v1 ∧ v1 < 60) ∧ CalI G miX9_isLetter d [.inl (M 59 (v1).toNat)] M (fun x2 M1 => ((x2 = 0 → OkI G miX9_endOf (d + 1) K 42 [some (.inr (.inr (some 58))), some (.inl v1), some (.inl v2)] [] M1) ∧ (¬ x2 = 0 → (0 ≤ v2 ∧ v2 < 60) ∧ CalI G miX9_isLetter d [.inl (M1 59 (v2).toNat)] M1 (fun x4 M3 => ((x4 = 0 → OkI G miX9_endOf (d + 1) K 42 [some (.inr (.inr (some 58))), some (.inl v1), some (.inl v2)] [] M3) ∧ (¬ x4 = 0 → OkI G miX9_endOf (d + 1) K 4 [some (.inr (.inr (some 58))), some (.inl v1), some (.inl (w32 (v2 + 1)))] [] M3))))))))) : OkI G miX9_endOf (d + 1) K 4 [some (.inr (.inr (some 58))), some (.inl v1), some (.inl v2)] [] M := by
  refine r_iload_n (pc := 4) (tb_at tkX9_endOf 4 rfl) rfl rfl ?_
  refine r_aload_n (pc := 5) (tb_at tkX9_endOf 5 rfl) rfl rfl ?_
  refine r_get 8 2 (pc := 6) (tb_at tkX9_endOf 6 rfl) ly_58 flX9_18 rfl ?_
  refine q_icmp_ge (tgt := 42) (pc := 9) (tb_at tkX9_endOf 7 rfl) (by decide) (fun c => ?_) (fun c => ?_)
  · replace h := h.1 c
    exact h
  · replace h := h.2 c
    refine r_aload_n (pc := 12) (tb_at tkX9_endOf 8 rfl) rfl rfl ?_
    refine r_get 8 0 (pc := 13) (tb_at tkX9_endOf 9 rfl) ly_58 flX9_11 rfl ?_
    refine r_iload_n (pc := 16) (tb_at tkX9_endOf 10 rfl) rfl rfl ?_
    refine r_iald (pc := 17) (tb_at tkX9_endOf 11 rfl) ly_59 h.1.1 h.1.2 ?_
    replace h := h.2
    refine r_invS (mc' := 0) (ms' := 0) [.inl (M 59 (v1).toNat)] (S := []) (pc := 18) (tb_at tkX9_endOf 12 rfl) rfl clX9_40 (Nat.le_of_ble_eq_true rfl) (Nat.le_refl _) (Nat.le_refl _) ?_
    refine Cal.mono h ?_
    rintro _ _ M1 ⟨x2, rfl, rfl, h⟩
    show OkI G miX9_endOf (d + 1) K 21 [some (.inr (.inr (some 58))), some (.inl v1), some (.inl v2)] [.inl x2] M1
    refine q_if_eq (tgt := 42) (pc := 21) (tb_at tkX9_endOf 13 rfl) (by decide) (fun c => ?_) (fun c => ?_)
    · replace h := h.1 c
      exact h
    · replace h := h.2 c
      refine r_aload_n (pc := 24) (tb_at tkX9_endOf 14 rfl) rfl rfl ?_
      refine r_get 8 0 (pc := 25) (tb_at tkX9_endOf 15 rfl) ly_58 flX9_11 rfl ?_
      refine r_iload_n (pc := 28) (tb_at tkX9_endOf 16 rfl) rfl rfl ?_
      refine r_iald (pc := 29) (tb_at tkX9_endOf 17 rfl) ly_59 h.1.1 h.1.2 ?_
      replace h := h.2
      refine r_invS (mc' := 0) (ms' := 0) [.inl (M1 59 (v2).toNat)] (S := []) (pc := 30) (tb_at tkX9_endOf 18 rfl) rfl clX9_40 (Nat.le_of_ble_eq_true rfl) (Nat.le_refl _) (Nat.le_refl _) ?_
      refine Cal.mono h ?_
      rintro _ _ M3 ⟨x4, rfl, rfl, h⟩
      show OkI G miX9_endOf (d + 1) K 33 [some (.inr (.inr (some 58))), some (.inl v1), some (.inl v2)] [.inl x4] M3
      refine q_if_eq (tgt := 42) (pc := 33) (tb_at tkX9_endOf 19 rfl) (by decide) (fun c => ?_) (fun c => ?_)
      · replace h := h.1 c
        exact h
      · replace h := h.2 c
        refine r_iinc (L' := [some (.inr (.inr (some 58))), some (.inl v1), some (.inl (w32 (v2 + 1)))]) (pc := 36) (tb_at tkX9_endOf 20 rfl) rfl (by decide) rfl ?_
        refine r_goto (tgt := 4) (pc := 39) (tb_at tkX9_endOf 21 rfl) (by decide) ?_
        exact h
set_option maxRecDepth 100000 in
set_option maxHeartbeats 4000000 in
theorem gX9_endOf_42 {G : GE} {d : Nat} {K : Int → Mem → Prop} {M : Mem} {v1 v2 : Int}  (h : (((M 58 2) ≤ v2 → K v2 M) ∧ (v2 < (M 58 2) → (0 ≤ v1 ∧ v1 < 60) ∧ CalI G miX9_isDigit d [.inl (M 59 (v1).toNat)] M (fun x2 M1 => ((x2 = 0 → K v2 M1) ∧ (¬ x2 = 0 → (0 ≤ v2 ∧ v2 < 60) ∧ CalI G miX9_isDigit d [.inl (M1 59 (v2).toNat)] M1 (fun x4 M3 => ((x4 = 0 → K v2 M3) ∧ (¬ x4 = 0 → OkI G miX9_endOf (d + 1) K 42 [some (.inr (.inr (some 58))), some (.inl v1), some (.inl (w32 (v2 + 1)))] [] M3))))))))) : OkI G miX9_endOf (d + 1) K 42 [some (.inr (.inr (some 58))), some (.inl v1), some (.inl v2)] [] M := by
  refine r_iload_n (pc := 42) (tb_at tkX9_endOf 22 rfl) rfl rfl ?_
  refine r_aload_n (pc := 43) (tb_at tkX9_endOf 23 rfl) rfl rfl ?_
  refine r_get 8 2 (pc := 44) (tb_at tkX9_endOf 24 rfl) ly_58 flX9_18 rfl ?_
  refine q_icmp_ge (tgt := 80) (pc := 47) (tb_at tkX9_endOf 25 rfl) (by decide) (fun c => ?_) (fun c => ?_)
  · replace h := h.1 c
    refine r_iload_n (pc := 80) (tb_at tkX9_endOf 40 rfl) rfl rfl ?_
    exact r_iret (pc := 81) (tb_at tkX9_endOf 41 rfl) rfl (Nat.le_refl _) (Nat.le_refl _) ⟨_, rfl, rfl, h⟩
  · replace h := h.2 c
    refine r_aload_n (pc := 50) (tb_at tkX9_endOf 26 rfl) rfl rfl ?_
    refine r_get 8 0 (pc := 51) (tb_at tkX9_endOf 27 rfl) ly_58 flX9_11 rfl ?_
    refine r_iload_n (pc := 54) (tb_at tkX9_endOf 28 rfl) rfl rfl ?_
    refine r_iald (pc := 55) (tb_at tkX9_endOf 29 rfl) ly_59 h.1.1 h.1.2 ?_
    replace h := h.2
    refine r_invS (mc' := 0) (ms' := 0) [.inl (M 59 (v1).toNat)] (S := []) (pc := 56) (tb_at tkX9_endOf 30 rfl) rfl clX9_43 (Nat.le_of_ble_eq_true rfl) (Nat.le_refl _) (Nat.le_refl _) ?_
    refine Cal.mono h ?_
    rintro _ _ M1 ⟨x2, rfl, rfl, h⟩
    show OkI G miX9_endOf (d + 1) K 59 [some (.inr (.inr (some 58))), some (.inl v1), some (.inl v2)] [.inl x2] M1
    refine q_if_eq (tgt := 80) (pc := 59) (tb_at tkX9_endOf 31 rfl) (by decide) (fun c => ?_) (fun c => ?_)
    · replace h := h.1 c
      refine r_iload_n (pc := 80) (tb_at tkX9_endOf 40 rfl) rfl rfl ?_
      exact r_iret (pc := 81) (tb_at tkX9_endOf 41 rfl) rfl (Nat.le_refl _) (Nat.le_refl _) ⟨_, rfl, rfl, h⟩
    · replace h := h.2 c
      refine r_aload_n (pc := 62) (tb_at tkX9_endOf 32 rfl) rfl rfl ?_
      refine r_get 8 0 (pc := 63) (tb_at tkX9_endOf 33 rfl) ly_58 flX9_11 rfl ?_
      refine r_iload_n (pc := 66) (tb_at tkX9_endOf 34 rfl) rfl rfl ?_
      refine r_iald (pc := 67) (tb_at tkX9_endOf 35 rfl) ly_59 h.1.1 h.1.2 ?_
      replace h := h.2
      refine r_invS (mc' := 0) (ms' := 0) [.inl (M1 59 (v2).toNat)] (S := []) (pc := 68) (tb_at tkX9_endOf 36 rfl) rfl clX9_43 (Nat.le_of_ble_eq_true rfl) (Nat.le_refl _) (Nat.le_refl _) ?_
      refine Cal.mono h ?_
      rintro _ _ M3 ⟨x4, rfl, rfl, h⟩
      show OkI G miX9_endOf (d + 1) K 71 [some (.inr (.inr (some 58))), some (.inl v1), some (.inl v2)] [.inl x4] M3
      refine q_if_eq (tgt := 80) (pc := 71) (tb_at tkX9_endOf 37 rfl) (by decide) (fun c => ?_) (fun c => ?_)
      · replace h := h.1 c
        refine r_iload_n (pc := 80) (tb_at tkX9_endOf 40 rfl) rfl rfl ?_
        exact r_iret (pc := 81) (tb_at tkX9_endOf 41 rfl) rfl (Nat.le_refl _) (Nat.le_refl _) ⟨_, rfl, rfl, h⟩
      · replace h := h.2 c
        refine r_iinc (L' := [some (.inr (.inr (some 58))), some (.inl v1), some (.inl (w32 (v2 + 1)))]) (pc := 74) (tb_at tkX9_endOf 38 rfl) rfl (by decide) rfl ?_
        refine r_goto (tgt := 42) (pc := 77) (tb_at tkX9_endOf 39 rfl) (by decide) ?_
        exact h
set_option maxRecDepth 100000 in
set_option maxHeartbeats 4000000 in
theorem gX9_takes_0 {G : GE} {d : Nat} {K : Int → Mem → Prop} {M : Mem} {v1 v2 : Int}  (h : (0 ≤ v1 ∧ v1 < 60) ∧ CalI G miX9_isLetter d [.inl (M 59 (v1).toNat)] M (fun x2 M1 => ((x2 = 0 → (0 ≤ v1 ∧ v1 < 60) ∧ CalI G miX9_isDigit d [.inl (M1 59 (v1).toNat)] M1 (fun x4 M3 => ((x4 = 0 → (0 ≤ v1 ∧ v1 < 60) ∧ ((¬ (M3 59 (v1).toNat) = 59 → K 0 M3) ∧ ((M3 59 (v1).toNat) = 59 → ((¬ (M3 58 4) = 0 → K 0 M3) ∧ ((M3 58 4) = 0 → K 1 (mup M3 58 4 (-1))))))) ∧ (¬ x4 = 0 → (((M3 58 4) ≤ 0 → K 0 M3) ∧ (0 < (M3 58 4) → CalI G miX9_takesNumber d [.inr (.inr (some 58)), .inl v1, .inl v2] M3 (fun x6 M5 => ((x6 = 0 → K 0 M5) ∧ (¬ x6 = 0 → K 1 M5))))))))) ∧ (¬ x2 = 0 → ((¬ (M1 58 4) = (-1) → K 0 M1) ∧ ((M1 58 4) = (-1) → CalI G miX9_takesWord d [.inr (.inr (some 58)), .inl v1, .inl v2] M1 (fun x8 M7 => ((x8 = 0 → K 0 M7) ∧ (¬ x8 = 0 → K 1 M7))))))))) : OkI G miX9_takes (d + 1) K 0 [some (.inr (.inr (some 58))), some (.inl v1), some (.inl v2)] [] M := by
  refine r_aload_n (pc := 0) (tb_at tkX9_takes 0 rfl) rfl rfl ?_
  refine r_get 8 0 (pc := 1) (tb_at tkX9_takes 1 rfl) ly_58 flX9_11 rfl ?_
  refine r_iload_n (pc := 4) (tb_at tkX9_takes 2 rfl) rfl rfl ?_
  refine r_iald (pc := 5) (tb_at tkX9_takes 3 rfl) ly_59 h.1.1 h.1.2 ?_
  replace h := h.2
  refine r_invS (mc' := 0) (ms' := 0) [.inl (M 59 (v1).toNat)] (S := []) (pc := 6) (tb_at tkX9_takes 4 rfl) rfl clX9_40 (Nat.le_of_ble_eq_true rfl) (Nat.le_refl _) (Nat.le_refl _) ?_
  refine Cal.mono h ?_
  rintro _ _ M1 ⟨x2, rfl, rfl, h⟩
  show OkI G miX9_takes (d + 1) K 9 [some (.inr (.inr (some 58))), some (.inl v1), some (.inl v2)] [.inl x2] M1
  refine q_if_eq (tgt := 35) (pc := 9) (tb_at tkX9_takes 5 rfl) (by decide) (fun c => ?_) (fun c => ?_)
  · replace h := h.1 c
    refine r_aload_n (pc := 35) (tb_at tkX9_takes 19 rfl) rfl rfl ?_
    refine r_get 8 0 (pc := 36) (tb_at tkX9_takes 20 rfl) ly_58 flX9_11 rfl ?_
    refine r_iload_n (pc := 39) (tb_at tkX9_takes 21 rfl) rfl rfl ?_
    refine r_iald (pc := 40) (tb_at tkX9_takes 22 rfl) ly_59 h.1.1 h.1.2 ?_
    replace h := h.2
    refine r_invS (mc' := 0) (ms' := 0) [.inl (M1 59 (v1).toNat)] (S := []) (pc := 41) (tb_at tkX9_takes 23 rfl) rfl clX9_43 (Nat.le_of_ble_eq_true rfl) (Nat.le_refl _) (Nat.le_refl _) ?_
    refine Cal.mono h ?_
    rintro _ _ M3 ⟨x4, rfl, rfl, h⟩
    show OkI G miX9_takes (d + 1) K 44 [some (.inr (.inr (some 58))), some (.inl v1), some (.inl v2)] [.inl x4] M3
    refine q_if_eq (tgt := 69) (pc := 44) (tb_at tkX9_takes 24 rfl) (by decide) (fun c => ?_) (fun c => ?_)
    · replace h := h.1 c
      refine r_aload_n (pc := 69) (tb_at tkX9_takes 37 rfl) rfl rfl ?_
      refine r_get 8 0 (pc := 70) (tb_at tkX9_takes 38 rfl) ly_58 flX9_11 rfl ?_
      refine r_iload_n (pc := 73) (tb_at tkX9_takes 39 rfl) rfl rfl ?_
      refine r_iald (pc := 74) (tb_at tkX9_takes 40 rfl) ly_59 h.1.1 h.1.2 ?_
      replace h := h.2
      refine r_bipush (pc := 75) (tb_at tkX9_takes 41 rfl) ⟨by decide, by decide, by decide⟩ ?_
      refine q_icmp_ne (tgt := 94) (pc := 77) (tb_at tkX9_takes 42 rfl) (by decide) (fun c => ?_) (fun c => ?_)
      · replace h := h.1 c
        refine r_iconst (pc := 94) (tb_at tkX9_takes 51 rfl) ⟨by decide, by decide⟩ ?_
        exact r_zret (pc := 95) (tb_at tkX9_takes 52 rfl) rfl (by decide) (Nat.le_refl _) (Nat.le_refl _) ⟨_, rfl, rfl, h⟩
      · replace h := h.2 c
        refine r_aload_n (pc := 80) (tb_at tkX9_takes 43 rfl) rfl rfl ?_
        refine r_get 8 4 (pc := 81) (tb_at tkX9_takes 44 rfl) ly_58 flX9_25 rfl ?_
        refine q_if_ne (tgt := 94) (pc := 84) (tb_at tkX9_takes 45 rfl) (by decide) (fun c => ?_) (fun c => ?_)
        · replace h := h.1 c
          refine r_iconst (pc := 94) (tb_at tkX9_takes 51 rfl) ⟨by decide, by decide⟩ ?_
          exact r_zret (pc := 95) (tb_at tkX9_takes 52 rfl) rfl (by decide) (Nat.le_refl _) (Nat.le_refl _) ⟨_, rfl, rfl, h⟩
        · replace h := h.2 c
          refine r_aload_n (pc := 87) (tb_at tkX9_takes 46 rfl) rfl rfl ?_
          refine r_iconst (pc := 88) (tb_at tkX9_takes 47 rfl) ⟨by decide, by decide⟩ ?_
          refine r_put 8 4 (-1) (pc := 89) (tb_at tkX9_takes 48 rfl) ly_58 flX9_25 (fun r h => by cases h; rfl) (.inl rfl) rfl (fun h => by cases h) rfl ?_
          refine r_iconst (pc := 92) (tb_at tkX9_takes 49 rfl) ⟨by decide, by decide⟩ ?_
          exact r_zret (pc := 93) (tb_at tkX9_takes 50 rfl) rfl (by decide) (Nat.le_refl _) (Nat.le_refl _) ⟨_, rfl, rfl, h⟩
    · replace h := h.2 c
      refine r_aload_n (pc := 47) (tb_at tkX9_takes 25 rfl) rfl rfl ?_
      refine r_get 8 4 (pc := 48) (tb_at tkX9_takes 26 rfl) ly_58 flX9_25 rfl ?_
      refine q_if_le (tgt := 67) (pc := 51) (tb_at tkX9_takes 27 rfl) (by decide) (fun c => ?_) (fun c => ?_)
      · replace h := h.1 c
        refine r_iconst (pc := 67) (tb_at tkX9_takes 35 rfl) ⟨by decide, by decide⟩ ?_
        exact r_zret (pc := 68) (tb_at tkX9_takes 36 rfl) rfl (by decide) (Nat.le_refl _) (Nat.le_refl _) ⟨_, rfl, rfl, h⟩
      · replace h := h.2 c
        refine r_aload_n (pc := 54) (tb_at tkX9_takes 28 rfl) rfl rfl ?_
        refine r_iload_n (pc := 55) (tb_at tkX9_takes 29 rfl) rfl rfl ?_
        refine r_iload_n (pc := 56) (tb_at tkX9_takes 30 rfl) rfl rfl ?_
        refine r_invV (mc' := 0) (ms' := 0) [.inl v1, .inl v2] (S := []) (pc := 57) (tb_at tkX9_takes 31 rfl) rfl ly_58 rfl rfl clX9_49 (Nat.le_of_ble_eq_true rfl) (Nat.le_refl _) (Nat.le_refl _) ?_
        refine Cal.mono h ?_
        rintro _ _ M5 ⟨x6, rfl, rfl, h⟩
        show OkI G miX9_takes (d + 1) K 60 [some (.inr (.inr (some 58))), some (.inl v1), some (.inl v2)] [.inl x6] M5
        refine q_if_eq (tgt := 67) (pc := 60) (tb_at tkX9_takes 32 rfl) (by decide) (fun c => ?_) (fun c => ?_)
        · replace h := h.1 c
          refine r_iconst (pc := 67) (tb_at tkX9_takes 35 rfl) ⟨by decide, by decide⟩ ?_
          exact r_zret (pc := 68) (tb_at tkX9_takes 36 rfl) rfl (by decide) (Nat.le_refl _) (Nat.le_refl _) ⟨_, rfl, rfl, h⟩
        · replace h := h.2 c
          refine r_iconst (pc := 63) (tb_at tkX9_takes 33 rfl) ⟨by decide, by decide⟩ ?_
          refine r_goto (tgt := 68) (pc := 64) (tb_at tkX9_takes 34 rfl) (by decide) ?_
          exact r_zret (pc := 68) (tb_at tkX9_takes 36 rfl) rfl (by decide) (Nat.le_refl _) (Nat.le_refl _) ⟨_, rfl, rfl, h⟩
  · replace h := h.2 c
    refine r_aload_n (pc := 12) (tb_at tkX9_takes 6 rfl) rfl rfl ?_
    refine r_get 8 4 (pc := 13) (tb_at tkX9_takes 7 rfl) ly_58 flX9_25 rfl ?_
    refine r_iconst (pc := 16) (tb_at tkX9_takes 8 rfl) ⟨by decide, by decide⟩ ?_
    refine q_icmp_ne (tgt := 33) (pc := 17) (tb_at tkX9_takes 9 rfl) (by decide) (fun c => ?_) (fun c => ?_)
    · replace h := h.1 c
      refine r_iconst (pc := 33) (tb_at tkX9_takes 17 rfl) ⟨by decide, by decide⟩ ?_
      exact r_zret (pc := 34) (tb_at tkX9_takes 18 rfl) rfl (by decide) (Nat.le_refl _) (Nat.le_refl _) ⟨_, rfl, rfl, h⟩
    · replace h := h.2 c
      refine r_aload_n (pc := 20) (tb_at tkX9_takes 10 rfl) rfl rfl ?_
      refine r_iload_n (pc := 21) (tb_at tkX9_takes 11 rfl) rfl rfl ?_
      refine r_iload_n (pc := 22) (tb_at tkX9_takes 12 rfl) rfl rfl ?_
      refine r_invV (mc' := 0) (ms' := 0) [.inl v1, .inl v2] (S := []) (pc := 23) (tb_at tkX9_takes 13 rfl) rfl ly_58 rfl rfl clX9_46 (Nat.le_of_ble_eq_true rfl) (Nat.le_refl _) (Nat.le_refl _) ?_
      refine Cal.mono h ?_
      rintro _ _ M7 ⟨x8, rfl, rfl, h⟩
      show OkI G miX9_takes (d + 1) K 26 [some (.inr (.inr (some 58))), some (.inl v1), some (.inl v2)] [.inl x8] M7
      refine q_if_eq (tgt := 33) (pc := 26) (tb_at tkX9_takes 14 rfl) (by decide) (fun c => ?_) (fun c => ?_)
      · replace h := h.1 c
        refine r_iconst (pc := 33) (tb_at tkX9_takes 17 rfl) ⟨by decide, by decide⟩ ?_
        exact r_zret (pc := 34) (tb_at tkX9_takes 18 rfl) rfl (by decide) (Nat.le_refl _) (Nat.le_refl _) ⟨_, rfl, rfl, h⟩
      · replace h := h.2 c
        refine r_iconst (pc := 29) (tb_at tkX9_takes 15 rfl) ⟨by decide, by decide⟩ ?_
        refine r_goto (tgt := 34) (pc := 30) (tb_at tkX9_takes 16 rfl) (by decide) ?_
        exact r_zret (pc := 34) (tb_at tkX9_takes 18 rfl) rfl (by decide) (Nat.le_refl _) (Nat.le_refl _) ⟨_, rfl, rfl, h⟩
set_option maxRecDepth 100000 in
set_option maxHeartbeats 4000000 in
theorem gX9_takesNumber_0 {G : GE} {d : Nat} {K : Int → Mem → Prop} {M : Mem} {v1 v2 : Int}  (h : (((w32 (v2 - v1)) ≤ 3 → OkI G miX9_takesNumber (d + 1) K 14 [some (.inr (.inr (some 58))), none, some (.inl v2), some (.inl 0), some (.inl v1)] [] M) ∧ (3 < (w32 (v2 - v1)) → K 0 M))) : OkI G miX9_takesNumber (d + 1) K 0 [some (.inr (.inr (some 58))), some (.inl v1), some (.inl v2), none, none] [] M := by
  refine r_iload_n (pc := 0) (tb_at tkX9_takesNumber 0 rfl) rfl rfl ?_
  refine r_iload_n (pc := 1) (tb_at tkX9_takesNumber 1 rfl) rfl rfl ?_
  refine r_isub (pc := 2) (tb_at tkX9_takesNumber 2 rfl) ?_
  refine r_iconst (pc := 3) (tb_at tkX9_takesNumber 3 rfl) ⟨by decide, by decide⟩ ?_
  refine q_icmp_le (tgt := 9) (pc := 4) (tb_at tkX9_takesNumber 4 rfl) (by decide) (fun c => ?_) (fun c => ?_)
  · replace h := h.1 c
    refine r_iconst (pc := 9) (tb_at tkX9_takesNumber 7 rfl) ⟨by decide, by decide⟩ ?_
    refine r_istore_n (L' := [some (.inr (.inr (some 58))), some (.inl v1), some (.inl v2), some (.inl 0), none]) (pc := 10) (tb_at tkX9_takesNumber 8 rfl) rfl (by decide) rfl ?_
    refine r_iload_n (pc := 11) (tb_at tkX9_takesNumber 9 rfl) rfl rfl ?_
    refine r_istore (L' := [some (.inr (.inr (some 58))), some (.inl v1), some (.inl v2), some (.inl 0), some (.inl v1)]) (pc := 12) (tb_at tkX9_takesNumber 10 rfl) (by decide) rfl ?_
    exact Ok.forget h (And.intro rfl (And.intro rfl (And.intro rfl (And.intro rfl trivial))))
  · replace h := h.2 c
    refine r_iconst (pc := 7) (tb_at tkX9_takesNumber 5 rfl) ⟨by decide, by decide⟩ ?_
    exact r_zret (pc := 8) (tb_at tkX9_takesNumber 6 rfl) rfl (by decide) (Nat.le_refl _) (Nat.le_refl _) ⟨_, rfl, rfl, h⟩
set_option maxRecDepth 100000 in
set_option maxHeartbeats 4000000 in
theorem gX9_takesNumber_14 {G : GE} {d : Nat} {K : Int → Mem → Prop} {M : Mem} {v2 v3 v4 : Int}  (h : ((v2 ≤ v4 → CalV G miX9_keep d [.inr (.inr (some 58)), .inl v3] (mup M 58 4 (w32 ((M 58 4) - 1))) (fun M1 => K 1 M1)) ∧ (v4 < v2 → (0 ≤ v4 ∧ v4 < 60) ∧ OkI G miX9_takesNumber (d + 1) K 14 [some (.inr (.inr (some 58))), none, some (.inl v2), some (.inl (w32 (((10 * v3) + (M 59 (v4).toNat)) - 48))), some (.inl (w32 (v4 + 1)))] [] M))) : OkI G miX9_takesNumber (d + 1) K 14 [some (.inr (.inr (some 58))), none, some (.inl v2), some (.inl v3), some (.inl v4)] [] M := by
  refine r_iload (pc := 14) (tb_at tkX9_takesNumber 11 rfl) rfl ?_
  refine r_iload_n (pc := 16) (tb_at tkX9_takesNumber 12 rfl) rfl rfl ?_
  refine q_icmp_ge (tgt := 42) (pc := 17) (tb_at tkX9_takesNumber 13 rfl) (by decide) (fun c => ?_) (fun c => ?_)
  · replace h := h.1 c
    refine r_aload_n (pc := 42) (tb_at tkX9_takesNumber 27 rfl) rfl rfl ?_
    refine r_dup (pc := 43) (tb_at tkX9_takesNumber 28 rfl) (fun _ h => by cases h) ?_
    refine r_get 8 4 (pc := 44) (tb_at tkX9_takesNumber 29 rfl) ly_58 flX9_25 rfl ?_
    refine r_iconst (pc := 47) (tb_at tkX9_takesNumber 30 rfl) ⟨by decide, by decide⟩ ?_
    refine r_isub (pc := 48) (tb_at tkX9_takesNumber 31 rfl) ?_
    refine r_put 8 4 (w32 ((M 58 4) - 1)) (pc := 49) (tb_at tkX9_takesNumber 32 rfl) ly_58 flX9_25 (fun r h => by cases h; rfl) (.inl rfl) rfl (fun h => by cases h) rfl ?_
    refine r_aload_n (pc := 52) (tb_at tkX9_takesNumber 33 rfl) rfl rfl ?_
    refine r_iload_n (pc := 53) (tb_at tkX9_takesNumber 34 rfl) rfl rfl ?_
    refine r_invV (mc' := 0) (ms' := 0) [.inl v3] (S := []) (pc := 54) (tb_at tkX9_takesNumber 35 rfl) rfl ly_58 rfl rfl clX9_63 (Nat.le_of_ble_eq_true rfl) (Nat.le_refl _) (Nat.le_refl _) ?_
    refine Cal.mono h ?_
    rintro _ _ M1 ⟨rfl, rfl, h⟩
    show OkI G miX9_takesNumber (d + 1) K 57 [some (.inr (.inr (some 58))), none, some (.inl v2), some (.inl v3), some (.inl v4)] [] M1
    refine r_iconst (pc := 57) (tb_at tkX9_takesNumber 36 rfl) ⟨by decide, by decide⟩ ?_
    exact r_zret (pc := 58) (tb_at tkX9_takesNumber 37 rfl) rfl (by decide) (Nat.le_refl _) (Nat.le_refl _) ⟨_, rfl, rfl, h⟩
  · replace h := h.2 c
    refine r_bipush (pc := 20) (tb_at tkX9_takesNumber 14 rfl) ⟨by decide, by decide, by decide⟩ ?_
    refine r_iload_n (pc := 22) (tb_at tkX9_takesNumber 15 rfl) rfl rfl ?_
    refine r_imul (pc := 23) (tb_at tkX9_takesNumber 16 rfl) ?_
    refine r_aload_n (pc := 24) (tb_at tkX9_takesNumber 17 rfl) rfl rfl ?_
    refine r_get 8 0 (pc := 25) (tb_at tkX9_takesNumber 18 rfl) ly_58 flX9_11 rfl ?_
    refine r_iload (pc := 28) (tb_at tkX9_takesNumber 19 rfl) rfl ?_
    refine r_iald (pc := 30) (tb_at tkX9_takesNumber 20 rfl) ly_59 h.1.1 h.1.2 ?_
    replace h := h.2
    refine r_iadd_l (pc := 31) (tb_at tkX9_takesNumber 21 rfl) ?_
    refine r_bipush (pc := 32) (tb_at tkX9_takesNumber 22 rfl) ⟨by decide, by decide, by decide⟩ ?_
    refine r_isub_l (pc := 34) (tb_at tkX9_takesNumber 23 rfl) ?_
    refine r_istore_n (L' := [some (.inr (.inr (some 58))), none, some (.inl v2), some (.inl (w32 (((10 * v3) + (M 59 (v4).toNat)) - 48))), some (.inl v4)]) (pc := 35) (tb_at tkX9_takesNumber 24 rfl) rfl (by decide) rfl ?_
    refine r_iinc (L' := [some (.inr (.inr (some 58))), none, some (.inl v2), some (.inl (w32 (((10 * v3) + (M 59 (v4).toNat)) - 48))), some (.inl (w32 (v4 + 1)))]) (pc := 36) (tb_at tkX9_takesNumber 25 rfl) rfl (by decide) rfl ?_
    refine r_goto (tgt := 14) (pc := 39) (tb_at tkX9_takesNumber 26 rfl) (by decide) ?_
    exact h
set_option maxRecDepth 100000 in
set_option maxHeartbeats 4000000 in
theorem gX9_keep_0 {G : GE} {d : Nat} {K : Mem → Prop} {M : Mem} {v1 : Int}  (h : ((60 ≤ (M 58 3) → K M) ∧ ((M 58 3) < 60 → (0 ≤ M 58 3 ∧ M 58 3 < 60) ∧ K (mup (mup M 60 (M 58 3).toNat v1) 58 3 (w32 (((mup M 60 (M 58 3).toNat v1) 58 3) + 1)))))) : OkV G miX9_keep d K 0 [some (.inr (.inr (some 58))), some (.inl v1)] [] M := by
  refine r_aload_n (pc := 0) (tb_at tkX9_keep 0 rfl) rfl rfl ?_
  refine r_get 8 3 (pc := 1) (tb_at tkX9_keep 1 rfl) ly_58 flX9_22 rfl ?_
  refine r_bipush (pc := 4) (tb_at tkX9_keep 2 rfl) ⟨by decide, by decide, by decide⟩ ?_
  refine q_icmp_ge (tgt := 29) (pc := 6) (tb_at tkX9_keep 3 rfl) (by decide) (fun c => ?_) (fun c => ?_)
  · replace h := h.1 c
    exact r_vret (pc := 29) (tb_at tkX9_keep 16 rfl) rfl (Nat.le_refl _) (Nat.le_refl _) ⟨rfl, rfl, h⟩
  · replace h := h.2 c
    refine r_aload_n (pc := 9) (tb_at tkX9_keep 4 rfl) rfl rfl ?_
    refine r_get 8 1 (pc := 10) (tb_at tkX9_keep 5 rfl) ly_58 flX9_15 rfl ?_
    refine r_aload_n (pc := 13) (tb_at tkX9_keep 6 rfl) rfl rfl ?_
    refine r_get 8 3 (pc := 14) (tb_at tkX9_keep 7 rfl) ly_58 flX9_22 rfl ?_
    refine r_iload_n (pc := 17) (tb_at tkX9_keep 8 rfl) rfl rfl ?_
    refine r_iast (pc := 18) (tb_at tkX9_keep 9 rfl) ly_60 h.1.1 h.1.2 rfl ?_
    replace h := h.2
    refine r_aload_n (pc := 19) (tb_at tkX9_keep 10 rfl) rfl rfl ?_
    refine r_dup (pc := 20) (tb_at tkX9_keep 11 rfl) (fun _ h => by cases h) ?_
    refine r_get 8 3 (pc := 21) (tb_at tkX9_keep 12 rfl) ly_58 flX9_22 rfl ?_
    refine r_iconst (pc := 24) (tb_at tkX9_keep 13 rfl) ⟨by decide, by decide⟩ ?_
    refine r_iadd (pc := 25) (tb_at tkX9_keep 14 rfl) ?_
    refine r_put 8 3 (w32 (((mup M 60 (M 58 3).toNat v1) 58 3) + 1)) (pc := 26) (tb_at tkX9_keep 15 rfl) ly_58 flX9_22 (fun r h => by cases h; rfl) (.inl rfl) rfl (fun h => by cases h) rfl ?_
    exact r_vret (pc := 29) (tb_at tkX9_keep 16 rfl) rfl (Nat.le_refl _) (Nat.le_refl _) ⟨rfl, rfl, h⟩
set_option maxRecDepth 100000 in
set_option maxHeartbeats 4000000 in
theorem gX9_numbersOf_0 {G : GE} {d : Nat} {K : Int → Mem → Prop} {M : Mem} {v0 : Int}  (h : ((v0 = 0 → K 4 M) ∧ (v0 = 1 → K 3 M) ∧ (v0 = 2 → K 1 M) ∧ (v0 < 0 ∨ 2 < v0 → K 2 M))) : OkI G miX9_numbersOf d K 0 [some (.inl v0)] [] M := by
  refine r_iload_n (pc := 0) (tb_at tkX9_numbersOf 0 rfl) rfl rfl ?_
  by_cases c0 : v0 < 0 ∨ 2 < v0
  · refine r_tblOut (tgt := 34) (pc := 1) (tb_at tkX9_numbersOf 1 rfl) c0 (by decide) ?_
    replace h := h.2.2.2 c0
    refine r_iconst (pc := 34) (tb_at tkX9_numbersOf 8 rfl) ⟨by decide, by decide⟩ ?_
    exact r_iret (pc := 35) (tb_at tkX9_numbersOf 9 rfl) rfl (Nat.le_refl _) (Nat.le_refl _) ⟨_, rfl, rfl, h⟩
  · have cc : v0 = 0 ∨ v0 = 1 ∨ v0 = 2 := by omega
    rcases cc with c | c | c
    · refine r_tblIn (off := 27) (tgt := 28) (pc := 1) (tb_at tkX9_numbersOf 1 rfl) (by omega) (by omega) (by rw [c]; rfl) (by decide) ?_
      replace h := h.1 c
      refine r_iconst (pc := 28) (tb_at tkX9_numbersOf 2 rfl) ⟨by decide, by decide⟩ ?_
      exact r_iret (pc := 29) (tb_at tkX9_numbersOf 3 rfl) rfl (Nat.le_refl _) (Nat.le_refl _) ⟨_, rfl, rfl, h⟩
    · refine r_tblIn (off := 29) (tgt := 30) (pc := 1) (tb_at tkX9_numbersOf 1 rfl) (by omega) (by omega) (by rw [c]; rfl) (by decide) ?_
      replace h := h.2.1 c
      refine r_iconst (pc := 30) (tb_at tkX9_numbersOf 4 rfl) ⟨by decide, by decide⟩ ?_
      exact r_iret (pc := 31) (tb_at tkX9_numbersOf 5 rfl) rfl (Nat.le_refl _) (Nat.le_refl _) ⟨_, rfl, rfl, h⟩
    · refine r_tblIn (off := 31) (tgt := 32) (pc := 1) (tb_at tkX9_numbersOf 1 rfl) (by omega) (by omega) (by rw [c]; rfl) (by decide) ?_
      replace h := h.2.2.1 c
      refine r_iconst (pc := 32) (tb_at tkX9_numbersOf 6 rfl) ⟨by decide, by decide⟩ ?_
      exact r_iret (pc := 33) (tb_at tkX9_numbersOf 7 rfl) rfl (Nat.le_refl _) (Nat.le_refl _) ⟨_, rfl, rfl, h⟩
set_option maxRecDepth 100000 in
set_option maxHeartbeats 4000000 in
theorem gX9_isBlank_0 {G : GE} {d : Nat} {K : Int → Mem → Prop} {M : Mem} {v0 : Int}  (h : ((v0 = 32 → K 1 M) ∧ (¬ v0 = 32 → ((¬ v0 = 10 → K 0 M) ∧ (v0 = 10 → K 1 M))))) : OkI G miX9_isBlank d K 0 [some (.inl v0)] [] M := by
  refine r_iload_n (pc := 0) (tb_at tkX9_isBlank 0 rfl) rfl rfl ?_
  refine r_bipush (pc := 1) (tb_at tkX9_isBlank 1 rfl) ⟨by decide, by decide, by decide⟩ ?_
  refine q_icmp_eq (tgt := 12) (pc := 3) (tb_at tkX9_isBlank 2 rfl) (by decide) (fun c => ?_) (fun c => ?_)
  · replace h := h.1 c
    refine r_iconst (pc := 12) (tb_at tkX9_isBlank 6 rfl) ⟨by decide, by decide⟩ ?_
    refine r_goto (tgt := 17) (pc := 13) (tb_at tkX9_isBlank 7 rfl) (by decide) ?_
    exact r_zret (pc := 17) (tb_at tkX9_isBlank 9 rfl) rfl (by decide) (Nat.le_refl _) (Nat.le_refl _) ⟨_, rfl, rfl, h⟩
  · replace h := h.2 c
    refine r_iload_n (pc := 6) (tb_at tkX9_isBlank 3 rfl) rfl rfl ?_
    refine r_bipush (pc := 7) (tb_at tkX9_isBlank 4 rfl) ⟨by decide, by decide, by decide⟩ ?_
    refine q_icmp_ne (tgt := 16) (pc := 9) (tb_at tkX9_isBlank 5 rfl) (by decide) (fun c => ?_) (fun c => ?_)
    · replace h := h.1 c
      refine r_iconst (pc := 16) (tb_at tkX9_isBlank 8 rfl) ⟨by decide, by decide⟩ ?_
      exact r_zret (pc := 17) (tb_at tkX9_isBlank 9 rfl) rfl (by decide) (Nat.le_refl _) (Nat.le_refl _) ⟨_, rfl, rfl, h⟩
    · replace h := h.2 c
      refine r_iconst (pc := 12) (tb_at tkX9_isBlank 6 rfl) ⟨by decide, by decide⟩ ?_
      refine r_goto (tgt := 17) (pc := 13) (tb_at tkX9_isBlank 7 rfl) (by decide) ?_
      exact r_zret (pc := 17) (tb_at tkX9_isBlank 9 rfl) rfl (by decide) (Nat.le_refl _) (Nat.le_refl _) ⟨_, rfl, rfl, h⟩
set_option maxRecDepth 100000 in
set_option maxHeartbeats 4000000 in
theorem gX9_isLetter_0 {G : GE} {d : Nat} {K : Int → Mem → Prop} {M : Mem} {v0 : Int}  (h : ((v0 < 97 → K 0 M) ∧ (97 ≤ v0 → ((122 < v0 → K 0 M) ∧ (v0 ≤ 122 → K 1 M))))) : OkI G miX9_isLetter d K 0 [some (.inl v0)] [] M := by
  refine r_iload_n (pc := 0) (tb_at tkX9_isLetter 0 rfl) rfl rfl ?_
  refine r_bipush (pc := 1) (tb_at tkX9_isLetter 1 rfl) ⟨by decide, by decide, by decide⟩ ?_
  refine q_icmp_lt (tgt := 16) (pc := 3) (tb_at tkX9_isLetter 2 rfl) (by decide) (fun c => ?_) (fun c => ?_)
  · replace h := h.1 c
    refine r_iconst (pc := 16) (tb_at tkX9_isLetter 8 rfl) ⟨by decide, by decide⟩ ?_
    exact r_zret (pc := 17) (tb_at tkX9_isLetter 9 rfl) rfl (by decide) (Nat.le_refl _) (Nat.le_refl _) ⟨_, rfl, rfl, h⟩
  · replace h := h.2 c
    refine r_iload_n (pc := 6) (tb_at tkX9_isLetter 3 rfl) rfl rfl ?_
    refine r_bipush (pc := 7) (tb_at tkX9_isLetter 4 rfl) ⟨by decide, by decide, by decide⟩ ?_
    refine q_icmp_gt (tgt := 16) (pc := 9) (tb_at tkX9_isLetter 5 rfl) (by decide) (fun c => ?_) (fun c => ?_)
    · replace h := h.1 c
      refine r_iconst (pc := 16) (tb_at tkX9_isLetter 8 rfl) ⟨by decide, by decide⟩ ?_
      exact r_zret (pc := 17) (tb_at tkX9_isLetter 9 rfl) rfl (by decide) (Nat.le_refl _) (Nat.le_refl _) ⟨_, rfl, rfl, h⟩
    · replace h := h.2 c
      refine r_iconst (pc := 12) (tb_at tkX9_isLetter 6 rfl) ⟨by decide, by decide⟩ ?_
      refine r_goto (tgt := 17) (pc := 13) (tb_at tkX9_isLetter 7 rfl) (by decide) ?_
      exact r_zret (pc := 17) (tb_at tkX9_isLetter 9 rfl) rfl (by decide) (Nat.le_refl _) (Nat.le_refl _) ⟨_, rfl, rfl, h⟩
set_option maxRecDepth 100000 in
set_option maxHeartbeats 4000000 in
theorem gX9_isDigit_0 {G : GE} {d : Nat} {K : Int → Mem → Prop} {M : Mem} {v0 : Int}  (h : ((v0 < 48 → K 0 M) ∧ (48 ≤ v0 → ((57 < v0 → K 0 M) ∧ (v0 ≤ 57 → K 1 M))))) : OkI G miX9_isDigit d K 0 [some (.inl v0)] [] M := by
  refine r_iload_n (pc := 0) (tb_at tkX9_isDigit 0 rfl) rfl rfl ?_
  refine r_bipush (pc := 1) (tb_at tkX9_isDigit 1 rfl) ⟨by decide, by decide, by decide⟩ ?_
  refine q_icmp_lt (tgt := 16) (pc := 3) (tb_at tkX9_isDigit 2 rfl) (by decide) (fun c => ?_) (fun c => ?_)
  · replace h := h.1 c
    refine r_iconst (pc := 16) (tb_at tkX9_isDigit 8 rfl) ⟨by decide, by decide⟩ ?_
    exact r_zret (pc := 17) (tb_at tkX9_isDigit 9 rfl) rfl (by decide) (Nat.le_refl _) (Nat.le_refl _) ⟨_, rfl, rfl, h⟩
  · replace h := h.2 c
    refine r_iload_n (pc := 6) (tb_at tkX9_isDigit 3 rfl) rfl rfl ?_
    refine r_bipush (pc := 7) (tb_at tkX9_isDigit 4 rfl) ⟨by decide, by decide, by decide⟩ ?_
    refine q_icmp_gt (tgt := 16) (pc := 9) (tb_at tkX9_isDigit 5 rfl) (by decide) (fun c => ?_) (fun c => ?_)
    · replace h := h.1 c
      refine r_iconst (pc := 16) (tb_at tkX9_isDigit 8 rfl) ⟨by decide, by decide⟩ ?_
      exact r_zret (pc := 17) (tb_at tkX9_isDigit 9 rfl) rfl (by decide) (Nat.le_refl _) (Nat.le_refl _) ⟨_, rfl, rfl, h⟩
    · replace h := h.2 c
      refine r_iconst (pc := 12) (tb_at tkX9_isDigit 6 rfl) ⟨by decide, by decide⟩ ?_
      refine r_goto (tgt := 17) (pc := 13) (tb_at tkX9_isDigit 7 rfl) (by decide) ?_
      exact r_zret (pc := 17) (tb_at tkX9_isDigit 9 rfl) rfl (by decide) (Nat.le_refl _) (Nat.le_refl _) ⟨_, rfl, rfl, h⟩
