-- seg lemmas (by wip/gen/mk_seg.py 17.segA)
set_option maxRecDepth 100000 in
set_option maxHeartbeats 4000000 in
theorem gX11_in_0 {G : GE} {d : Nat} {K : Int → Mem → Prop} {M : Mem} {v0 v2 v4 : Int}  (h : ((v0 < v2 → K 0 M) ∧ (v2 ≤ v0 → ((v4 < v0 → K 0 M) ∧ (v0 ≤ v4 → K 1 M))))) : OkI G miX11_in d K 0 [some (.inr (.inl v0)), none, some (.inr (.inl v2)), none, some (.inr (.inl v4)), none] [] M := by
  refine r_lload_n (pc := 0) (tb_at tkX11_in 0 rfl) rfl rfl ?_
  refine r_lload_n (pc := 1) (tb_at tkX11_in 1 rfl) rfl rfl ?_
  refine r_lcmp (pc := 2) (tb_at tkX11_in 2 rfl) ?_
  refine q_lif_lt (tgt := 17) (pc := 3) (tb_at tkX11_in 3 rfl) (by decide) (fun c => ?_) (fun c => ?_)
  · replace h := h.1 c
    refine r_iconst (pc := 17) (tb_at tkX11_in 10 rfl) ⟨by decide, by decide⟩ ?_
    exact r_zret (pc := 18) (tb_at tkX11_in 11 rfl) rfl (by decide) (Nat.le_refl _) (Nat.le_refl _) ⟨_, rfl, rfl, h⟩
  · replace h := h.2 c
    refine r_lload_n (pc := 6) (tb_at tkX11_in 4 rfl) rfl rfl ?_
    refine r_lload (pc := 7) (tb_at tkX11_in 5 rfl) rfl ?_
    refine r_lcmp (pc := 9) (tb_at tkX11_in 6 rfl) ?_
    refine q_lif_gt (tgt := 17) (pc := 10) (tb_at tkX11_in 7 rfl) (by decide) (fun c => ?_) (fun c => ?_)
    · replace h := h.1 c
      refine r_iconst (pc := 17) (tb_at tkX11_in 10 rfl) ⟨by decide, by decide⟩ ?_
      exact r_zret (pc := 18) (tb_at tkX11_in 11 rfl) rfl (by decide) (Nat.le_refl _) (Nat.le_refl _) ⟨_, rfl, rfl, h⟩
    · replace h := h.2 c
      refine r_iconst (pc := 13) (tb_at tkX11_in 8 rfl) ⟨by decide, by decide⟩ ?_
      refine r_goto (tgt := 18) (pc := 14) (tb_at tkX11_in 9 rfl) (by decide) ?_
      exact r_zret (pc := 18) (tb_at tkX11_in 11 rfl) rfl (by decide) (Nat.le_refl _) (Nat.le_refl _) ⟨_, rfl, rfl, h⟩
set_option maxRecDepth 100000 in
set_option maxHeartbeats 4000000 in
theorem gX11_has_0 {G : GE} {d : Nat} {K : Int → Mem → Prop} {M : Mem} {v0 v1 : Int}  (h : ((¬ (iand (ishr v0 v1) 1) = 1 → K 0 M) ∧ ((iand (ishr v0 v1) 1) = 1 → K 1 M))) : OkI G miX11_has d K 0 [some (.inl v0), some (.inl v1)] [] M := by
  refine r_iload_n (pc := 0) (tb_at tkX11_has 0 rfl) rfl rfl ?_
  refine r_iload_n (pc := 1) (tb_at tkX11_has 1 rfl) rfl rfl ?_
  refine r_ishr (pc := 2) (tb_at tkX11_has 2 rfl) ?_
  refine r_iconst (pc := 3) (tb_at tkX11_has 3 rfl) ⟨by decide, by decide⟩ ?_
  refine r_iand (pc := 4) (tb_at tkX11_has 4 rfl) ?_
  refine r_iconst (pc := 5) (tb_at tkX11_has 5 rfl) ⟨by decide, by decide⟩ ?_
  refine q_icmp_ne (tgt := 13) (pc := 6) (tb_at tkX11_has 6 rfl) (by decide) (fun c => ?_) (fun c => ?_)
  · replace h := h.1 c
    refine r_iconst (pc := 13) (tb_at tkX11_has 9 rfl) ⟨by decide, by decide⟩ ?_
    exact r_zret (pc := 14) (tb_at tkX11_has 10 rfl) rfl (by decide) (Nat.le_refl _) (Nat.le_refl _) ⟨_, rfl, rfl, h⟩
  · replace h := h.2 c
    refine r_iconst (pc := 9) (tb_at tkX11_has 7 rfl) ⟨by decide, by decide⟩ ?_
    refine r_goto (tgt := 14) (pc := 10) (tb_at tkX11_has 8 rfl) (by decide) ?_
    exact r_zret (pc := 14) (tb_at tkX11_has 10 rfl) rfl (by decide) (Nat.le_refl _) (Nat.le_refl _) ⟨_, rfl, rfl, h⟩
set_option maxRecDepth 100000 in
set_option maxHeartbeats 4000000 in
theorem gX11_ones_0 {G : GE} {d : Nat} {K : Int → Mem → Prop} {M : Mem} {v0 : Int}  (h : OkI G miX11_ones d K 4 [some (.inl v0), some (.inl 0), some (.inl 0)] [] M) : OkI G miX11_ones d K 0 [some (.inl v0), none, none] [] M := by
  refine r_iconst (pc := 0) (tb_at tkX11_ones 0 rfl) ⟨by decide, by decide⟩ ?_
  refine r_istore_n (L' := [some (.inl v0), some (.inl 0), none]) (pc := 1) (tb_at tkX11_ones 1 rfl) rfl (by decide) rfl ?_
  refine r_iconst (pc := 2) (tb_at tkX11_ones 2 rfl) ⟨by decide, by decide⟩ ?_
  refine r_istore_n (L' := [some (.inl v0), some (.inl 0), some (.inl 0)]) (pc := 3) (tb_at tkX11_ones 3 rfl) rfl (by decide) rfl ?_
  exact h
set_option maxRecDepth 100000 in
set_option maxHeartbeats 4000000 in
theorem gX11_ones_4 {G : GE} {d : Nat} {K : Int → Mem → Prop} {M : Mem} {v0 v1 v2 : Int}  (h : ((7 ≤ v2 → K v1 M) ∧ (v2 < 7 → OkI G miX11_ones d K 4 [some (.inl v0), some (.inl (w32 (v1 + (iand (ishr v0 v2) 1)))), some (.inl (w32 (v2 + 1)))] [] M))) : OkI G miX11_ones d K 4 [some (.inl v0), some (.inl v1), some (.inl v2)] [] M := by
  refine r_iload_n (pc := 4) (tb_at tkX11_ones 4 rfl) rfl rfl ?_
  refine r_bipush (pc := 5) (tb_at tkX11_ones 5 rfl) ⟨by decide, by decide, by decide⟩ ?_
  refine q_icmp_ge (tgt := 24) (pc := 7) (tb_at tkX11_ones 6 rfl) (by decide) (fun c => ?_) (fun c => ?_)
  · replace h := h.1 c
    refine r_iload_n (pc := 24) (tb_at tkX11_ones 17 rfl) rfl rfl ?_
    exact r_iret (pc := 25) (tb_at tkX11_ones 18 rfl) rfl (Nat.le_refl _) (Nat.le_refl _) ⟨_, rfl, rfl, h⟩
  · replace h := h.2 c
    refine r_iload_n (pc := 10) (tb_at tkX11_ones 7 rfl) rfl rfl ?_
    refine r_iload_n (pc := 11) (tb_at tkX11_ones 8 rfl) rfl rfl ?_
    refine r_iload_n (pc := 12) (tb_at tkX11_ones 9 rfl) rfl rfl ?_
    refine r_ishr (pc := 13) (tb_at tkX11_ones 10 rfl) ?_
    refine r_iconst (pc := 14) (tb_at tkX11_ones 11 rfl) ⟨by decide, by decide⟩ ?_
    refine r_iand (pc := 15) (tb_at tkX11_ones 12 rfl) ?_
    refine r_iadd (pc := 16) (tb_at tkX11_ones 13 rfl) ?_
    refine r_istore_n (L' := [some (.inl v0), some (.inl (w32 (v1 + (iand (ishr v0 v2) 1)))), some (.inl v2)]) (pc := 17) (tb_at tkX11_ones 14 rfl) rfl (by decide) rfl ?_
    refine r_iinc (L' := [some (.inl v0), some (.inl (w32 (v1 + (iand (ishr v0 v2) 1)))), some (.inl (w32 (v2 + 1)))]) (pc := 18) (tb_at tkX11_ones 15 rfl) rfl (by decide) rfl ?_
    refine r_goto (tgt := 4) (pc := 21) (tb_at tkX11_ones 16 rfl) (by decide) ?_
    exact h
set_option maxRecDepth 100000 in
set_option maxHeartbeats 4000000 in
theorem gX11_isFlight_0 {G : GE} {d : Nat} {K : Int → Mem → Prop} {M : Mem} {v1 : Int}  (h : CalI G miX11_in d [.inr (.inl v1), .inr (.inl 0), .inr (.inl (w32 ((M 67 0) - 1)))] M (fun x2 M1 => ((x2 = 0 ∨ x2 = 1) ∧ K x2 M1))) : OkI G miX11_isFlight (d + 1) K 0 [some (.inr (.inr (some 66))), some (.inl v1)] [] M := by
  refine r_iload_n (pc := 0) (tb_at tkX11_isFlight 0 rfl) rfl rfl ?_
  refine r_i2l (pc := 1) (tb_at tkX11_isFlight 1 rfl) ?_
  refine r_lconst (v := 0) (pc := 2) (tb_at tkX11_isFlight 2 rfl) ⟨by decide, by decide, by decide⟩ ?_
  refine r_aload_n (pc := 3) (tb_at tkX11_isFlight 3 rfl) rfl rfl ?_
  refine r_get 10 0 (pc := 4) (tb_at tkX11_isFlight 4 rfl) ly_66 flX11_11 rfl ?_
  refine r_iconst (pc := 7) (tb_at tkX11_isFlight 5 rfl) ⟨by decide, by decide⟩ ?_
  refine r_iald_k (k0 := 0) (pc := 8) (tb_at tkX11_isFlight 6 rfl) ly_67 rfl (by decide) (by decide) ?_
  refine r_iconst (pc := 9) (tb_at tkX11_isFlight 7 rfl) ⟨by decide, by decide⟩ ?_
  refine r_isub (pc := 10) (tb_at tkX11_isFlight 8 rfl) ?_
  refine r_i2l (pc := 11) (tb_at tkX11_isFlight 9 rfl) ?_
  refine r_invS (mc' := 0) (ms' := 0) [.inr (.inl v1), .inr (.inl 0), .inr (.inl (w32 ((M 67 0) - 1)))] (S := []) (pc := 12) (tb_at tkX11_isFlight 10 rfl) rfl clX11_103 (Nat.le_of_ble_eq_true rfl) (Nat.le_refl _) (Nat.le_refl _) ?_
  refine Cal.mono h ?_
  rintro _ _ M1 ⟨x2, rfl, rfl, h⟩
  show OkI G miX11_isFlight (d + 1) K 15 [some (.inr (.inr (some 66))), some (.inl v1)] [.inl x2] M1
  exact r_zret (pc := 15) (tb_at tkX11_isFlight 11 rfl) rfl h.1 (Nat.le_refl _) (Nat.le_refl _) ⟨_, rfl, rfl, h.2⟩
set_option maxRecDepth 100000 in
set_option maxHeartbeats 4000000 in
theorem gX11_isAirport_0 {G : GE} {d : Nat} {K : Int → Mem → Prop} {M : Mem} {v0 : Int}  (h : CalI G miX11_in d [.inr (.inl v0), .inr (.inl 0), .inr (.inl 3)] M (fun x2 M1 => ((x2 = 0 ∨ x2 = 1) ∧ K x2 M1))) : OkI G miX11_isAirport (d + 1) K 0 [some (.inl v0)] [] M := by
  refine r_iload_n (pc := 0) (tb_at tkX11_isAirport 0 rfl) rfl rfl ?_
  refine r_i2l (pc := 1) (tb_at tkX11_isAirport 1 rfl) ?_
  refine r_lconst (v := 0) (pc := 2) (tb_at tkX11_isAirport 2 rfl) ⟨by decide, by decide, by decide⟩ ?_
  refine r_ldc2 (n := 3) (pc := 3) (tb_at tkX11_isAirport 3 rfl) kcX11_107 ⟨by decide, by decide⟩ ?_
  refine r_invS (mc' := 0) (ms' := 0) [.inr (.inl v0), .inr (.inl 0), .inr (.inl 3)] (S := []) (pc := 6) (tb_at tkX11_isAirport 4 rfl) rfl clX11_103 (Nat.le_of_ble_eq_true rfl) (Nat.le_refl _) (Nat.le_refl _) ?_
  refine Cal.mono h ?_
  rintro _ _ M1 ⟨x2, rfl, rfl, h⟩
  show OkI G miX11_isAirport (d + 1) K 9 [some (.inl v0)] [.inl x2] M1
  exact r_zret (pc := 9) (tb_at tkX11_isAirport 5 rfl) rfl h.1 (Nat.le_refl _) (Nat.le_refl _) ⟨_, rfl, rfl, h.2⟩
set_option maxRecDepth 100000 in
set_option maxHeartbeats 4000000 in
theorem gX11_areTwo_0 {G : GE} {d : Nat} {K : Int → Mem → Prop} {M : Mem} {v1 v2 : Int}  (h : CalI G miX11_isFlight d [.inr (.inr (some 66)), .inl v1] M (fun x2 M1 => ((x2 = 0 → K 0 M1) ∧ (¬ x2 = 0 → CalI G miX11_isFlight d [.inr (.inr (some 66)), .inl v2] M1 (fun x4 M3 => ((x4 = 0 → K 0 M3) ∧ (¬ x4 = 0 → ((v1 = v2 → K 0 M3) ∧ (¬ v1 = v2 → K 1 M3))))))))) : OkI G miX11_areTwo (d + 1) K 0 [some (.inr (.inr (some 66))), some (.inl v1), some (.inl v2)] [] M := by
  refine r_aload_n (pc := 0) (tb_at tkX11_areTwo 0 rfl) rfl rfl ?_
  refine r_iload_n (pc := 1) (tb_at tkX11_areTwo 1 rfl) rfl rfl ?_
  refine r_invV (mc' := 0) (ms' := 0) [.inl v1] (S := []) (pc := 2) (tb_at tkX11_areTwo 2 rfl) rfl ly_66 rfl rfl clX11_109 (Nat.le_of_ble_eq_true rfl) (Nat.le_refl _) (Nat.le_refl _) ?_
  refine Cal.mono h ?_
  rintro _ _ M1 ⟨x2, rfl, rfl, h⟩
  show OkI G miX11_areTwo (d + 1) K 5 [some (.inr (.inr (some 66))), some (.inl v1), some (.inl v2)] [.inl x2] M1
  refine q_if_eq (tgt := 25) (pc := 5) (tb_at tkX11_areTwo 3 rfl) (by decide) (fun c => ?_) (fun c => ?_)
  · replace h := h.1 c
    refine r_iconst (pc := 25) (tb_at tkX11_areTwo 13 rfl) ⟨by decide, by decide⟩ ?_
    exact r_zret (pc := 26) (tb_at tkX11_areTwo 14 rfl) rfl (by decide) (Nat.le_refl _) (Nat.le_refl _) ⟨_, rfl, rfl, h⟩
  · replace h := h.2 c
    refine r_aload_n (pc := 8) (tb_at tkX11_areTwo 4 rfl) rfl rfl ?_
    refine r_iload_n (pc := 9) (tb_at tkX11_areTwo 5 rfl) rfl rfl ?_
    refine r_invV (mc' := 0) (ms' := 0) [.inl v2] (S := []) (pc := 10) (tb_at tkX11_areTwo 6 rfl) rfl ly_66 rfl rfl clX11_109 (Nat.le_of_ble_eq_true rfl) (Nat.le_refl _) (Nat.le_refl _) ?_
    refine Cal.mono h ?_
    rintro _ _ M3 ⟨x4, rfl, rfl, h⟩
    show OkI G miX11_areTwo (d + 1) K 13 [some (.inr (.inr (some 66))), some (.inl v1), some (.inl v2)] [.inl x4] M3
    refine q_if_eq (tgt := 25) (pc := 13) (tb_at tkX11_areTwo 7 rfl) (by decide) (fun c => ?_) (fun c => ?_)
    · replace h := h.1 c
      refine r_iconst (pc := 25) (tb_at tkX11_areTwo 13 rfl) ⟨by decide, by decide⟩ ?_
      exact r_zret (pc := 26) (tb_at tkX11_areTwo 14 rfl) rfl (by decide) (Nat.le_refl _) (Nat.le_refl _) ⟨_, rfl, rfl, h⟩
    · replace h := h.2 c
      refine r_iload_n (pc := 16) (tb_at tkX11_areTwo 8 rfl) rfl rfl ?_
      refine r_iload_n (pc := 17) (tb_at tkX11_areTwo 9 rfl) rfl rfl ?_
      refine q_icmp_eq (tgt := 25) (pc := 18) (tb_at tkX11_areTwo 10 rfl) (by decide) (fun c => ?_) (fun c => ?_)
      · replace h := h.1 c
        refine r_iconst (pc := 25) (tb_at tkX11_areTwo 13 rfl) ⟨by decide, by decide⟩ ?_
        exact r_zret (pc := 26) (tb_at tkX11_areTwo 14 rfl) rfl (by decide) (Nat.le_refl _) (Nat.le_refl _) ⟨_, rfl, rfl, h⟩
      · replace h := h.2 c
        refine r_iconst (pc := 21) (tb_at tkX11_areTwo 11 rfl) ⟨by decide, by decide⟩ ?_
        refine r_goto (tgt := 26) (pc := 22) (tb_at tkX11_areTwo 12 rfl) (by decide) ?_
        exact r_zret (pc := 26) (tb_at tkX11_areTwo 14 rfl) rfl (by decide) (Nat.le_refl _) (Nat.le_refl _) ⟨_, rfl, rfl, h⟩
set_option maxRecDepth 100000 in
set_option maxHeartbeats 4000000 in
theorem gX11_isSet_0 {G : GE} {d : Nat} {K : Int → Mem → Prop} {M : Mem} {v1 : Int}  (h : CalI G miX11_in d [.inr (.inl v1), .inr (.inl 1), .inr (.inl (w64 ((lshl 1 (M 67 0)) - 1)))] M (fun x2 M1 => ((x2 = 0 ∨ x2 = 1) ∧ K x2 M1))) : OkI G miX11_isSet (d + 1) K 0 [some (.inr (.inr (some 66))), some (.inr (.inl v1)), none] [] M := by
  refine r_lload_n (pc := 0) (tb_at tkX11_isSet 0 rfl) rfl rfl ?_
  refine r_lconst (v := 1) (pc := 1) (tb_at tkX11_isSet 1 rfl) ⟨by decide, by decide, by decide⟩ ?_
  refine r_lconst (v := 1) (pc := 2) (tb_at tkX11_isSet 2 rfl) ⟨by decide, by decide, by decide⟩ ?_
  refine r_aload_n (pc := 3) (tb_at tkX11_isSet 3 rfl) rfl rfl ?_
  refine r_get 10 0 (pc := 4) (tb_at tkX11_isSet 4 rfl) ly_66 flX11_11 rfl ?_
  refine r_iconst (pc := 7) (tb_at tkX11_isSet 5 rfl) ⟨by decide, by decide⟩ ?_
  refine r_iald_k (k0 := 0) (pc := 8) (tb_at tkX11_isSet 6 rfl) ly_67 rfl (by decide) (by decide) ?_
  refine r_lshl (pc := 9) (tb_at tkX11_isSet 7 rfl) ?_
  refine r_lconst (v := 1) (pc := 10) (tb_at tkX11_isSet 8 rfl) ⟨by decide, by decide, by decide⟩ ?_
  refine r_lsub (pc := 11) (tb_at tkX11_isSet 9 rfl) ?_
  refine r_invS (mc' := 0) (ms' := 0) [.inr (.inl v1), .inr (.inl 1), .inr (.inl (w64 ((lshl 1 (M 67 0)) - 1)))] (S := []) (pc := 12) (tb_at tkX11_isSet 10 rfl) rfl clX11_103 (Nat.le_of_ble_eq_true rfl) (Nat.le_refl _) (Nat.le_refl _) ?_
  refine Cal.mono h ?_
  rintro _ _ M1 ⟨x2, rfl, rfl, h⟩
  show OkI G miX11_isSet (d + 1) K 15 [some (.inr (.inr (some 66))), some (.inr (.inl v1)), none] [.inl x2] M1
  exact r_zret (pc := 15) (tb_at tkX11_isSet 11 rfl) rfl h.1 (Nat.le_refl _) (Nat.le_refl _) ⟨_, rfl, rfl, h.2⟩
set_option maxRecDepth 100000 in
set_option maxHeartbeats 4000000 in
theorem gX11_becomes_0 {G : GE} {d : Nat} {K : Int → Mem → Prop} {M : Mem} {v1 v2 : Int}  (h : (0 ≤ v1 ∧ v1 < 92) ∧ (0 ≤ v1 ∧ v1 < 92) ∧ K (M 67 (v1).toNat) (mup M 67 (v1).toNat v2)) : OkI G miX11_becomes d K 0 [some (.inr (.inr (some 66))), some (.inl v1), some (.inl v2), none] [] M := by
  refine r_aload_n (pc := 0) (tb_at tkX11_becomes 0 rfl) rfl rfl ?_
  refine r_get 10 0 (pc := 1) (tb_at tkX11_becomes 1 rfl) ly_66 flX11_11 rfl ?_
  refine r_iload_n (pc := 4) (tb_at tkX11_becomes 2 rfl) rfl rfl ?_
  refine r_iald (pc := 5) (tb_at tkX11_becomes 3 rfl) ly_67 h.1.1 h.1.2 ?_
  replace h := h.2
  refine r_istore_n (L' := [some (.inr (.inr (some 66))), some (.inl v1), some (.inl v2), some (.inl (M 67 (v1).toNat))]) (pc := 6) (tb_at tkX11_becomes 4 rfl) rfl (by decide) rfl ?_
  refine r_aload_n (pc := 7) (tb_at tkX11_becomes 5 rfl) rfl rfl ?_
  refine r_get 10 0 (pc := 8) (tb_at tkX11_becomes 6 rfl) ly_66 flX11_11 rfl ?_
  refine r_iload_n (pc := 11) (tb_at tkX11_becomes 7 rfl) rfl rfl ?_
  refine r_iload_n (pc := 12) (tb_at tkX11_becomes 8 rfl) rfl rfl ?_
  refine r_iast (pc := 13) (tb_at tkX11_becomes 9 rfl) ly_67 h.1.1 h.1.2 rfl ?_
  replace h := h.2
  refine r_iload_n (pc := 14) (tb_at tkX11_becomes 10 rfl) rfl rfl ?_
  exact r_iret (pc := 15) (tb_at tkX11_becomes 11 rfl) rfl (Nat.le_refl _) (Nat.le_refl _) ⟨_, rfl, rfl, h⟩
set_option maxRecDepth 100000 in
set_option maxHeartbeats 4000000 in
theorem gX11_areTimes_0 {G : GE} {d : Nat} {K : Int → Mem → Prop} {M : Mem} {v0 v1 : Int}  (h : CalI G miX11_in d [.inr (.inl v0), .inr (.inl 0), .inr (.inl 299)] M (fun x2 M1 => ((x2 = 0 → K 0 M1) ∧ (¬ x2 = 0 → CalI G miX11_in d [.inr (.inl v1), .inr (.inl 0), .inr (.inl 299)] M1 (fun x4 M3 => ((x4 = 0 → K 0 M3) ∧ (¬ x4 = 0 → ((v1 ≤ v0 → K 0 M3) ∧ (v0 < v1 → K 1 M3))))))))) : OkI G miX11_areTimes (d + 1) K 0 [some (.inl v0), some (.inl v1)] [] M := by
  refine r_iload_n (pc := 0) (tb_at tkX11_areTimes 0 rfl) rfl rfl ?_
  refine r_i2l (pc := 1) (tb_at tkX11_areTimes 1 rfl) ?_
  refine r_lconst (v := 0) (pc := 2) (tb_at tkX11_areTimes 2 rfl) ⟨by decide, by decide, by decide⟩ ?_
  refine r_ldc2 (n := 299) (pc := 3) (tb_at tkX11_areTimes 3 rfl) kcX11_113 ⟨by decide, by decide⟩ ?_
  refine r_invS (mc' := 0) (ms' := 0) [.inr (.inl v0), .inr (.inl 0), .inr (.inl 299)] (S := []) (pc := 6) (tb_at tkX11_areTimes 4 rfl) rfl clX11_103 (Nat.le_of_ble_eq_true rfl) (Nat.le_refl _) (Nat.le_refl _) ?_
  refine Cal.mono h ?_
  rintro _ _ M1 ⟨x2, rfl, rfl, h⟩
  show OkI G miX11_areTimes (d + 1) K 9 [some (.inl v0), some (.inl v1)] [.inl x2] M1
  refine q_if_eq (tgt := 33) (pc := 9) (tb_at tkX11_areTimes 5 rfl) (by decide) (fun c => ?_) (fun c => ?_)
  · replace h := h.1 c
    refine r_iconst (pc := 33) (tb_at tkX11_areTimes 17 rfl) ⟨by decide, by decide⟩ ?_
    exact r_zret (pc := 34) (tb_at tkX11_areTimes 18 rfl) rfl (by decide) (Nat.le_refl _) (Nat.le_refl _) ⟨_, rfl, rfl, h⟩
  · replace h := h.2 c
    refine r_iload_n (pc := 12) (tb_at tkX11_areTimes 6 rfl) rfl rfl ?_
    refine r_i2l (pc := 13) (tb_at tkX11_areTimes 7 rfl) ?_
    refine r_lconst (v := 0) (pc := 14) (tb_at tkX11_areTimes 8 rfl) ⟨by decide, by decide, by decide⟩ ?_
    refine r_ldc2 (n := 299) (pc := 15) (tb_at tkX11_areTimes 9 rfl) kcX11_113 ⟨by decide, by decide⟩ ?_
    refine r_invS (mc' := 0) (ms' := 0) [.inr (.inl v1), .inr (.inl 0), .inr (.inl 299)] (S := []) (pc := 18) (tb_at tkX11_areTimes 10 rfl) rfl clX11_103 (Nat.le_of_ble_eq_true rfl) (Nat.le_refl _) (Nat.le_refl _) ?_
    refine Cal.mono h ?_
    rintro _ _ M3 ⟨x4, rfl, rfl, h⟩
    show OkI G miX11_areTimes (d + 1) K 21 [some (.inl v0), some (.inl v1)] [.inl x4] M3
    refine q_if_eq (tgt := 33) (pc := 21) (tb_at tkX11_areTimes 11 rfl) (by decide) (fun c => ?_) (fun c => ?_)
    · replace h := h.1 c
      refine r_iconst (pc := 33) (tb_at tkX11_areTimes 17 rfl) ⟨by decide, by decide⟩ ?_
      exact r_zret (pc := 34) (tb_at tkX11_areTimes 18 rfl) rfl (by decide) (Nat.le_refl _) (Nat.le_refl _) ⟨_, rfl, rfl, h⟩
    · replace h := h.2 c
      refine r_iload_n (pc := 24) (tb_at tkX11_areTimes 12 rfl) rfl rfl ?_
      refine r_iload_n (pc := 25) (tb_at tkX11_areTimes 13 rfl) rfl rfl ?_
      refine q_icmp_ge (tgt := 33) (pc := 26) (tb_at tkX11_areTimes 14 rfl) (by decide) (fun c => ?_) (fun c => ?_)
      · replace h := h.1 c
        refine r_iconst (pc := 33) (tb_at tkX11_areTimes 17 rfl) ⟨by decide, by decide⟩ ?_
        exact r_zret (pc := 34) (tb_at tkX11_areTimes 18 rfl) rfl (by decide) (Nat.le_refl _) (Nat.le_refl _) ⟨_, rfl, rfl, h⟩
      · replace h := h.2 c
        refine r_iconst (pc := 29) (tb_at tkX11_areTimes 15 rfl) ⟨by decide, by decide⟩ ?_
        refine r_goto (tgt := 34) (pc := 30) (tb_at tkX11_areTimes 16 rfl) (by decide) ?_
        exact r_zret (pc := 34) (tb_at tkX11_areTimes 18 rfl) rfl (by decide) (Nat.le_refl _) (Nat.le_refl _) ⟨_, rfl, rfl, h⟩
set_option maxRecDepth 100000 in
set_option maxHeartbeats 4000000 in
theorem gX11_fly_0 {G : GE} {d : Nat} {K : Int → Mem → Prop} {M : Mem} {v1 v2 v3 v4 : Int}  (h : CalI G miX11_isAirport d [.inl v1] M (fun x2 M1 => ((x2 = 0 → K (-2) M1) ∧ (¬ x2 = 0 → CalI G miX11_isAirport d [.inl v2] M1 (fun x4 M3 => ((x4 = 0 → K (-2) M3) ∧ (¬ x4 = 0 → ((v1 = v2 → K (-2) M3) ∧ (¬ v1 = v2 → CalI G miX11_areTimes d [.inl v3, .inl v4] M3 (fun x6 M5 => ((¬ x6 = 0 → ((¬ (M5 67 0) = 7 → (0 ≤ 1 + (M5 67 0) ∧ 1 + (M5 67 0) < 92) ∧ (0 ≤ 8 + (M5 67 0) ∧ 8 + (M5 67 0) < 92) ∧ (0 ≤ 15 + (M5 67 0) ∧ 15 + (M5 67 0) < 92) ∧ (0 ≤ 22 + (M5 67 0) ∧ 22 + (M5 67 0) < 92) ∧ K (M5 67 0) (mup (mup (mup (mup (mup M5 67 (1 + (M5 67 0)).toNat v1) 67 (8 + (M5 67 0)).toNat v2) 67 (15 + (M5 67 0)).toNat v3) 67 (22 + (M5 67 0)).toNat v4) 67 0 (w32 (((mup (mup (mup (mup M5 67 (1 + (M5 67 0)).toNat v1) 67 (8 + (M5 67 0)).toNat v2) 67 (15 + (M5 67 0)).toNat v3) 67 (22 + (M5 67 0)).toNat v4) 67 0) + 1)))) ∧ ((M5 67 0) = 7 → K (-4) M5))) ∧ (x6 = 0 → K (-2) M5)))))))))))) : OkI G miX11_fly (d + 1) K 0 [some (.inr (.inr (some 66))), some (.inl v1), some (.inl v2), some (.inl v3), some (.inl v4), none] [] M := by
  refine r_iload_n (pc := 0) (tb_at tkX11_fly 0 rfl) rfl rfl ?_
  refine r_invS (mc' := 0) (ms' := 0) [.inl v1] (S := []) (pc := 1) (tb_at tkX11_fly 1 rfl) rfl clX11_115 (Nat.le_of_ble_eq_true rfl) (Nat.le_refl _) (Nat.le_refl _) ?_
  refine Cal.mono h ?_
  rintro _ _ M1 ⟨x2, rfl, rfl, h⟩
  show OkI G miX11_fly (d + 1) K 4 [some (.inr (.inr (some 66))), some (.inl v1), some (.inl v2), some (.inl v3), some (.inl v4), none] [.inl x2] M1
  refine q_if_eq (tgt := 28) (pc := 4) (tb_at tkX11_fly 2 rfl) (by decide) (fun c => ?_) (fun c => ?_)
  · replace h := h.1 c
    refine r_bipush (pc := 28) (tb_at tkX11_fly 13 rfl) ⟨by decide, by decide, by decide⟩ ?_
    exact r_iret (pc := 30) (tb_at tkX11_fly 14 rfl) rfl (Nat.le_refl _) (Nat.le_refl _) ⟨_, rfl, rfl, h⟩
  · replace h := h.2 c
    refine r_iload_n (pc := 7) (tb_at tkX11_fly 3 rfl) rfl rfl ?_
    refine r_invS (mc' := 0) (ms' := 0) [.inl v2] (S := []) (pc := 8) (tb_at tkX11_fly 4 rfl) rfl clX11_115 (Nat.le_of_ble_eq_true rfl) (Nat.le_refl _) (Nat.le_refl _) ?_
    refine Cal.mono h ?_
    rintro _ _ M3 ⟨x4, rfl, rfl, h⟩
    show OkI G miX11_fly (d + 1) K 11 [some (.inr (.inr (some 66))), some (.inl v1), some (.inl v2), some (.inl v3), some (.inl v4), none] [.inl x4] M3
    refine q_if_eq (tgt := 28) (pc := 11) (tb_at tkX11_fly 5 rfl) (by decide) (fun c => ?_) (fun c => ?_)
    · replace h := h.1 c
      refine r_bipush (pc := 28) (tb_at tkX11_fly 13 rfl) ⟨by decide, by decide, by decide⟩ ?_
      exact r_iret (pc := 30) (tb_at tkX11_fly 14 rfl) rfl (Nat.le_refl _) (Nat.le_refl _) ⟨_, rfl, rfl, h⟩
    · replace h := h.2 c
      refine r_iload_n (pc := 14) (tb_at tkX11_fly 6 rfl) rfl rfl ?_
      refine r_iload_n (pc := 15) (tb_at tkX11_fly 7 rfl) rfl rfl ?_
      refine q_icmp_eq (tgt := 28) (pc := 16) (tb_at tkX11_fly 8 rfl) (by decide) (fun c => ?_) (fun c => ?_)
      · replace h := h.1 c
        refine r_bipush (pc := 28) (tb_at tkX11_fly 13 rfl) ⟨by decide, by decide, by decide⟩ ?_
        exact r_iret (pc := 30) (tb_at tkX11_fly 14 rfl) rfl (Nat.le_refl _) (Nat.le_refl _) ⟨_, rfl, rfl, h⟩
      · replace h := h.2 c
        refine r_iload_n (pc := 19) (tb_at tkX11_fly 9 rfl) rfl rfl ?_
        refine r_iload (pc := 20) (tb_at tkX11_fly 10 rfl) rfl ?_
        refine r_invS (mc' := 0) (ms' := 0) [.inl v3, .inl v4] (S := []) (pc := 22) (tb_at tkX11_fly 11 rfl) rfl clX11_118 (Nat.le_of_ble_eq_true rfl) (Nat.le_refl _) (Nat.le_refl _) ?_
        refine Cal.mono h ?_
        rintro _ _ M5 ⟨x6, rfl, rfl, h⟩
        show OkI G miX11_fly (d + 1) K 25 [some (.inr (.inr (some 66))), some (.inl v1), some (.inl v2), some (.inl v3), some (.inl v4), none] [.inl x6] M5
        refine q_if_ne (tgt := 31) (pc := 25) (tb_at tkX11_fly 12 rfl) (by decide) (fun c => ?_) (fun c => ?_)
        · replace h := h.1 c
          refine r_aload_n (pc := 31) (tb_at tkX11_fly 15 rfl) rfl rfl ?_
          refine r_get 10 0 (pc := 32) (tb_at tkX11_fly 16 rfl) ly_66 flX11_11 rfl ?_
          refine r_iconst (pc := 35) (tb_at tkX11_fly 17 rfl) ⟨by decide, by decide⟩ ?_
          refine r_iald_k (k0 := 0) (pc := 36) (tb_at tkX11_fly 18 rfl) ly_67 rfl (by decide) (by decide) ?_
          refine r_istore (L' := [some (.inr (.inr (some 66))), some (.inl v1), some (.inl v2), some (.inl v3), some (.inl v4), some (.inl (M5 67 0))]) (pc := 37) (tb_at tkX11_fly 19 rfl) (by decide) rfl ?_
          refine r_iload (pc := 39) (tb_at tkX11_fly 20 rfl) rfl ?_
          refine r_bipush (pc := 41) (tb_at tkX11_fly 21 rfl) ⟨by decide, by decide, by decide⟩ ?_
          refine q_icmp_ne (tgt := 49) (pc := 43) (tb_at tkX11_fly 22 rfl) (by decide) (fun c => ?_) (fun c => ?_)
          · replace h := h.1 c
            refine r_aload_n (pc := 49) (tb_at tkX11_fly 25 rfl) rfl rfl ?_
            refine r_get 10 0 (pc := 50) (tb_at tkX11_fly 26 rfl) ly_66 flX11_11 rfl ?_
            refine r_iconst (pc := 53) (tb_at tkX11_fly 27 rfl) ⟨by decide, by decide⟩ ?_
            refine r_iload (pc := 54) (tb_at tkX11_fly 28 rfl) rfl ?_
            refine r_iadd (pc := 56) (tb_at tkX11_fly 29 rfl) ?_
            refine r_iload_n (pc := 57) (tb_at tkX11_fly 30 rfl) rfl rfl ?_
            refine r_iast_w (pc := 58) (tb_at tkX11_fly 31 rfl) ly_67 (by decide) h.1.1 h.1.2 rfl ?_
            replace h := h.2
            refine r_aload_n (pc := 59) (tb_at tkX11_fly 32 rfl) rfl rfl ?_
            refine r_get 10 0 (pc := 60) (tb_at tkX11_fly 33 rfl) ly_66 flX11_11 rfl ?_
            refine r_bipush (pc := 63) (tb_at tkX11_fly 34 rfl) ⟨by decide, by decide, by decide⟩ ?_
            refine r_iload (pc := 65) (tb_at tkX11_fly 35 rfl) rfl ?_
            refine r_iadd (pc := 67) (tb_at tkX11_fly 36 rfl) ?_
            refine r_iload_n (pc := 68) (tb_at tkX11_fly 37 rfl) rfl rfl ?_
            refine r_iast_w (pc := 69) (tb_at tkX11_fly 38 rfl) ly_67 (by decide) h.1.1 h.1.2 rfl ?_
            replace h := h.2
            refine r_aload_n (pc := 70) (tb_at tkX11_fly 39 rfl) rfl rfl ?_
            refine r_get 10 0 (pc := 71) (tb_at tkX11_fly 40 rfl) ly_66 flX11_11 rfl ?_
            refine r_bipush (pc := 74) (tb_at tkX11_fly 41 rfl) ⟨by decide, by decide, by decide⟩ ?_
            refine r_iload (pc := 76) (tb_at tkX11_fly 42 rfl) rfl ?_
            refine r_iadd (pc := 78) (tb_at tkX11_fly 43 rfl) ?_
            refine r_iload_n (pc := 79) (tb_at tkX11_fly 44 rfl) rfl rfl ?_
            refine r_iast_w (pc := 80) (tb_at tkX11_fly 45 rfl) ly_67 (by decide) h.1.1 h.1.2 rfl ?_
            replace h := h.2
            refine r_aload_n (pc := 81) (tb_at tkX11_fly 46 rfl) rfl rfl ?_
            refine r_get 10 0 (pc := 82) (tb_at tkX11_fly 47 rfl) ly_66 flX11_11 rfl ?_
            refine r_bipush (pc := 85) (tb_at tkX11_fly 48 rfl) ⟨by decide, by decide, by decide⟩ ?_
            refine r_iload (pc := 87) (tb_at tkX11_fly 49 rfl) rfl ?_
            refine r_iadd (pc := 89) (tb_at tkX11_fly 50 rfl) ?_
            refine r_iload (pc := 90) (tb_at tkX11_fly 51 rfl) rfl ?_
            refine r_iast_w (pc := 92) (tb_at tkX11_fly 52 rfl) ly_67 (by decide) h.1.1 h.1.2 rfl ?_
            replace h := h.2
            refine r_aload_n (pc := 93) (tb_at tkX11_fly 53 rfl) rfl rfl ?_
            refine r_get 10 0 (pc := 94) (tb_at tkX11_fly 54 rfl) ly_66 flX11_11 rfl ?_
            refine r_iconst (pc := 97) (tb_at tkX11_fly 55 rfl) ⟨by decide, by decide⟩ ?_
            refine r_dup2 (pc := 98) (tb_at tkX11_fly 56 rfl) ?_
            refine r_iald_k (k0 := 0) (pc := 99) (tb_at tkX11_fly 57 rfl) ly_67 rfl (by decide) (by decide) ?_
            refine r_iconst (pc := 100) (tb_at tkX11_fly 58 rfl) ⟨by decide, by decide⟩ ?_
            refine r_iadd (pc := 101) (tb_at tkX11_fly 59 rfl) ?_
            refine r_iast_k (k0 := 0) (pc := 102) (tb_at tkX11_fly 60 rfl) ly_67 rfl (by decide) (by decide) rfl ?_
            refine r_iload (pc := 103) (tb_at tkX11_fly 61 rfl) rfl ?_
            exact r_iret (pc := 105) (tb_at tkX11_fly 62 rfl) rfl (Nat.le_refl _) (Nat.le_refl _) ⟨_, rfl, rfl, h⟩
          · replace h := h.2 c
            refine r_bipush (pc := 46) (tb_at tkX11_fly 23 rfl) ⟨by decide, by decide, by decide⟩ ?_
            exact r_iret (pc := 48) (tb_at tkX11_fly 24 rfl) rfl (Nat.le_refl _) (Nat.le_refl _) ⟨_, rfl, rfl, h⟩
        · replace h := h.2 c
          refine r_bipush (pc := 28) (tb_at tkX11_fly 13 rfl) ⟨by decide, by decide, by decide⟩ ?_
          exact r_iret (pc := 30) (tb_at tkX11_fly 14 rfl) rfl (Nat.le_refl _) (Nat.le_refl _) ⟨_, rfl, rfl, h⟩
set_option maxRecDepth 100000 in
set_option maxHeartbeats 4000000 in
theorem gX11_drop_0 {G : GE} {d : Nat} {K : Int → Mem → Prop} {M : Mem}  (h : ((¬ (M 67 0) = 0 → OkI G miX11_drop d K 24 [some (.inr (.inr (some 66))), some (.inl 0)] [] (mup M 67 0 (w32 ((M 67 0) - 1)))) ∧ ((M 67 0) = 0 → K (-3) M))) : OkI G miX11_drop d K 0 [some (.inr (.inr (some 66))), none] [] M := by
  refine r_aload_n (pc := 0) (tb_at tkX11_drop 0 rfl) rfl rfl ?_
  refine r_get 10 0 (pc := 1) (tb_at tkX11_drop 1 rfl) ly_66 flX11_11 rfl ?_
  refine r_iconst (pc := 4) (tb_at tkX11_drop 2 rfl) ⟨by decide, by decide⟩ ?_
  refine r_iald_k (k0 := 0) (pc := 5) (tb_at tkX11_drop 3 rfl) ly_67 rfl (by decide) (by decide) ?_
  refine q_if_ne (tgt := 12) (pc := 6) (tb_at tkX11_drop 4 rfl) (by decide) (fun c => ?_) (fun c => ?_)
  · replace h := h.1 c
    refine r_aload_n (pc := 12) (tb_at tkX11_drop 7 rfl) rfl rfl ?_
    refine r_get 10 0 (pc := 13) (tb_at tkX11_drop 8 rfl) ly_66 flX11_11 rfl ?_
    refine r_iconst (pc := 16) (tb_at tkX11_drop 9 rfl) ⟨by decide, by decide⟩ ?_
    refine r_dup2 (pc := 17) (tb_at tkX11_drop 10 rfl) ?_
    refine r_iald_k (k0 := 0) (pc := 18) (tb_at tkX11_drop 11 rfl) ly_67 rfl (by decide) (by decide) ?_
    refine r_iconst (pc := 19) (tb_at tkX11_drop 12 rfl) ⟨by decide, by decide⟩ ?_
    refine r_isub (pc := 20) (tb_at tkX11_drop 13 rfl) ?_
    refine r_iast_k (k0 := 0) (pc := 21) (tb_at tkX11_drop 14 rfl) ly_67 rfl (by decide) (by decide) rfl ?_
    refine r_iconst (pc := 22) (tb_at tkX11_drop 15 rfl) ⟨by decide, by decide⟩ ?_
    refine r_istore_n (L' := [some (.inr (.inr (some 66))), some (.inl 0)]) (pc := 23) (tb_at tkX11_drop 16 rfl) rfl (by decide) rfl ?_
    exact h
  · replace h := h.2 c
    refine r_bipush (pc := 9) (tb_at tkX11_drop 5 rfl) ⟨by decide, by decide, by decide⟩ ?_
    exact r_iret (pc := 11) (tb_at tkX11_drop 6 rfl) rfl (Nat.le_refl _) (Nat.le_refl _) ⟨_, rfl, rfl, h⟩
set_option maxRecDepth 100000 in
set_option maxHeartbeats 4000000 in
theorem gX11_drop_24 {G : GE} {d : Nat} {K : Int → Mem → Prop} {M : Mem} {v1 : Int}  (h : ((7 ≤ v1 → K (M 67 0) M) ∧ (v1 < 7 → (0 ≤ (29 + (7 * v1)) + (M 67 0) ∧ (29 + (7 * v1)) + (M 67 0) < 92) ∧ (0 ≤ (29 + (7 * ((mup M 67 ((29 + (7 * v1)) + (M 67 0)).toNat 0) 67 0))) + v1 ∧ (29 + (7 * ((mup M 67 ((29 + (7 * v1)) + (M 67 0)).toNat 0) 67 0))) + v1 < 92) ∧ OkI G miX11_drop d K 24 [some (.inr (.inr (some 66))), some (.inl (w32 (v1 + 1)))] [] (mup (mup M 67 ((29 + (7 * v1)) + (M 67 0)).toNat 0) 67 ((29 + (7 * ((mup M 67 ((29 + (7 * v1)) + (M 67 0)).toNat 0) 67 0))) + v1).toNat 0)))) : OkI G miX11_drop d K 24 [some (.inr (.inr (some 66))), some (.inl v1)] [] M := by
  refine r_iload_n (pc := 24) (tb_at tkX11_drop 17 rfl) rfl rfl ?_
  refine r_bipush (pc := 25) (tb_at tkX11_drop 18 rfl) ⟨by decide, by decide, by decide⟩ ?_
  refine q_icmp_ge (tgt := 76) (pc := 27) (tb_at tkX11_drop 19 rfl) (by decide) (fun c => ?_) (fun c => ?_)
  · replace h := h.1 c
    refine r_aload_n (pc := 76) (tb_at tkX11_drop 50 rfl) rfl rfl ?_
    refine r_get 10 0 (pc := 77) (tb_at tkX11_drop 51 rfl) ly_66 flX11_11 rfl ?_
    refine r_iconst (pc := 80) (tb_at tkX11_drop 52 rfl) ⟨by decide, by decide⟩ ?_
    refine r_iald_k (k0 := 0) (pc := 81) (tb_at tkX11_drop 53 rfl) ly_67 rfl (by decide) (by decide) ?_
    exact r_iret (pc := 82) (tb_at tkX11_drop 54 rfl) rfl (Nat.le_refl _) (Nat.le_refl _) ⟨_, rfl, rfl, h⟩
  · replace h := h.2 c
    refine r_aload_n (pc := 30) (tb_at tkX11_drop 20 rfl) rfl rfl ?_
    refine r_get 10 0 (pc := 31) (tb_at tkX11_drop 21 rfl) ly_66 flX11_11 rfl ?_
    refine r_bipush (pc := 34) (tb_at tkX11_drop 22 rfl) ⟨by decide, by decide, by decide⟩ ?_
    refine r_bipush (pc := 36) (tb_at tkX11_drop 23 rfl) ⟨by decide, by decide, by decide⟩ ?_
    refine r_iload_n (pc := 38) (tb_at tkX11_drop 24 rfl) rfl rfl ?_
    refine r_imul (pc := 39) (tb_at tkX11_drop 25 rfl) ?_
    refine r_iadd_r (pc := 40) (tb_at tkX11_drop 26 rfl) ?_
    refine r_aload_n (pc := 41) (tb_at tkX11_drop 27 rfl) rfl rfl ?_
    refine r_get 10 0 (pc := 42) (tb_at tkX11_drop 28 rfl) ly_66 flX11_11 rfl ?_
    refine r_iconst (pc := 45) (tb_at tkX11_drop 29 rfl) ⟨by decide, by decide⟩ ?_
    refine r_iald_k (k0 := 0) (pc := 46) (tb_at tkX11_drop 30 rfl) ly_67 rfl (by decide) (by decide) ?_
    refine r_iadd_l (pc := 47) (tb_at tkX11_drop 31 rfl) ?_
    refine r_iconst (pc := 48) (tb_at tkX11_drop 32 rfl) ⟨by decide, by decide⟩ ?_
    refine r_iast_w (pc := 49) (tb_at tkX11_drop 33 rfl) ly_67 (by decide) h.1.1 h.1.2 rfl ?_
    replace h := h.2
    refine r_aload_n (pc := 50) (tb_at tkX11_drop 34 rfl) rfl rfl ?_
    refine r_get 10 0 (pc := 51) (tb_at tkX11_drop 35 rfl) ly_66 flX11_11 rfl ?_
    refine r_bipush (pc := 54) (tb_at tkX11_drop 36 rfl) ⟨by decide, by decide, by decide⟩ ?_
    refine r_bipush (pc := 56) (tb_at tkX11_drop 37 rfl) ⟨by decide, by decide, by decide⟩ ?_
    refine r_aload_n (pc := 58) (tb_at tkX11_drop 38 rfl) rfl rfl ?_
    refine r_get 10 0 (pc := 59) (tb_at tkX11_drop 39 rfl) ly_66 flX11_11 rfl ?_
    refine r_iconst (pc := 62) (tb_at tkX11_drop 40 rfl) ⟨by decide, by decide⟩ ?_
    refine r_iald_k (k0 := 0) (pc := 63) (tb_at tkX11_drop 41 rfl) ly_67 rfl (by decide) (by decide) ?_
    refine r_imul (pc := 64) (tb_at tkX11_drop 42 rfl) ?_
    refine r_iadd_r (pc := 65) (tb_at tkX11_drop 43 rfl) ?_
    refine r_iload_n (pc := 66) (tb_at tkX11_drop 44 rfl) rfl rfl ?_
    refine r_iadd_l (pc := 67) (tb_at tkX11_drop 45 rfl) ?_
    refine r_iconst (pc := 68) (tb_at tkX11_drop 46 rfl) ⟨by decide, by decide⟩ ?_
    refine r_iast_w (pc := 69) (tb_at tkX11_drop 47 rfl) ly_67 (by decide) h.1.1 h.1.2 rfl ?_
    replace h := h.2
    refine r_iinc (L' := [some (.inr (.inr (some 66))), some (.inl (w32 (v1 + 1)))]) (pc := 70) (tb_at tkX11_drop 48 rfl) rfl (by decide) rfl ?_
    refine r_goto (tgt := 24) (pc := 73) (tb_at tkX11_drop 49 rfl) (by decide) ?_
    exact h
set_option maxRecDepth 100000 in
set_option maxHeartbeats 4000000 in
theorem gX11_sit_0 {G : GE} {d : Nat} {K : Int → Mem → Prop} {M : Mem} {v1 : Int}  (h : (0 ≤ 82 + v1 ∧ 82 + v1 < 92) ∧ (0 ≤ 78 + v1 ∧ 78 + v1 < 92) ∧ (((M 67 (78 + v1).toNat) = 1 → K (w32 (3 + (irem (M 67 (82 + v1).toNat) 3))) M) ∧ ((M 67 (78 + v1).toNat) = 2 → K 2 M) ∧ ((M 67 (78 + v1).toNat) = 3 → K (w32 (3 + (irem (M 67 (82 + v1).toNat) 3))) M) ∧ ((M 67 (78 + v1).toNat) = 4 → K 1 M) ∧ ((M 67 (78 + v1).toNat) = 5 → K (w32 (4 + (M 67 (82 + v1).toNat))) M) ∧ ((M 67 (78 + v1).toNat) < 1 ∨ 5 < (M 67 (78 + v1).toNat) → K 3 M))) : OkI G miX11_sit d K 0 [some (.inr (.inr (some 66))), some (.inl v1), none] [] M := by
  refine r_aload_n (pc := 0) (tb_at tkX11_sit 0 rfl) rfl rfl ?_
  refine r_get 10 0 (pc := 1) (tb_at tkX11_sit 1 rfl) ly_66 flX11_11 rfl ?_
  refine r_bipush (pc := 4) (tb_at tkX11_sit 2 rfl) ⟨by decide, by decide, by decide⟩ ?_
  refine r_iload_n (pc := 6) (tb_at tkX11_sit 3 rfl) rfl rfl ?_
  refine r_iadd (pc := 7) (tb_at tkX11_sit 4 rfl) ?_
  refine r_iald_w (pc := 8) (tb_at tkX11_sit 5 rfl) ly_67 (by decide) h.1.1 h.1.2 ?_
  replace h := h.2
  refine r_istore_n (L' := [some (.inr (.inr (some 66))), some (.inl v1), some (.inl (M 67 (82 + v1).toNat))]) (pc := 9) (tb_at tkX11_sit 6 rfl) rfl (by decide) rfl ?_
  refine r_aload_n (pc := 10) (tb_at tkX11_sit 7 rfl) rfl rfl ?_
  refine r_get 10 0 (pc := 11) (tb_at tkX11_sit 8 rfl) ly_66 flX11_11 rfl ?_
  refine r_bipush (pc := 14) (tb_at tkX11_sit 9 rfl) ⟨by decide, by decide, by decide⟩ ?_
  refine r_iload_n (pc := 16) (tb_at tkX11_sit 10 rfl) rfl rfl ?_
  refine r_iadd (pc := 17) (tb_at tkX11_sit 11 rfl) ?_
  refine r_iald_w (pc := 18) (tb_at tkX11_sit 12 rfl) ly_67 (by decide) h.1.1 h.1.2 ?_
  replace h := h.2
  by_cases c0 : (M 67 (78 + v1).toNat) < 1 ∨ 5 < (M 67 (78 + v1).toNat)
  · refine r_tblOut (tgt := 66) (pc := 19) (tb_at tkX11_sit 13 rfl) c0 (by decide) ?_
    replace h := h.2.2.2.2.2 c0
    refine r_iconst (pc := 66) (tb_at tkX11_sit 28 rfl) ⟨by decide, by decide⟩ ?_
    exact r_iret (pc := 67) (tb_at tkX11_sit 29 rfl) rfl (Nat.le_refl _) (Nat.le_refl _) ⟨_, rfl, rfl, h⟩
  · have cc : (M 67 (78 + v1).toNat) = 1 ∨ (M 67 (78 + v1).toNat) = 2 ∨ (M 67 (78 + v1).toNat) = 3 ∨ (M 67 (78 + v1).toNat) = 4 ∨ (M 67 (78 + v1).toNat) = 5 := by omega
    rcases cc with c | c | c | c | c
    · refine r_tblIn (off := 33) (tgt := 52) (pc := 19) (tb_at tkX11_sit 13 rfl) (by omega) (by omega) (by rw [c]; rfl) (by decide) ?_
      replace h := h.1 c
      refine r_iconst (pc := 52) (tb_at tkX11_sit 14 rfl) ⟨by decide, by decide⟩ ?_
      refine r_iload_n (pc := 53) (tb_at tkX11_sit 15 rfl) rfl rfl ?_
      refine r_iconst (pc := 54) (tb_at tkX11_sit 16 rfl) ⟨by decide, by decide⟩ ?_
      refine r_irem (pc := 55) (tb_at tkX11_sit 17 rfl) (by decide) ?_
      refine r_iadd (pc := 56) (tb_at tkX11_sit 18 rfl) ?_
      exact r_iret (pc := 57) (tb_at tkX11_sit 19 rfl) rfl (Nat.le_refl _) (Nat.le_refl _) ⟨_, rfl, rfl, h⟩
    · refine r_tblIn (off := 39) (tgt := 58) (pc := 19) (tb_at tkX11_sit 13 rfl) (by omega) (by omega) (by rw [c]; rfl) (by decide) ?_
      replace h := h.2.1 c
      refine r_iconst (pc := 58) (tb_at tkX11_sit 20 rfl) ⟨by decide, by decide⟩ ?_
      exact r_iret (pc := 59) (tb_at tkX11_sit 21 rfl) rfl (Nat.le_refl _) (Nat.le_refl _) ⟨_, rfl, rfl, h⟩
    · refine r_tblIn (off := 33) (tgt := 52) (pc := 19) (tb_at tkX11_sit 13 rfl) (by omega) (by omega) (by rw [c]; rfl) (by decide) ?_
      replace h := h.2.2.1 c
      refine r_iconst (pc := 52) (tb_at tkX11_sit 14 rfl) ⟨by decide, by decide⟩ ?_
      refine r_iload_n (pc := 53) (tb_at tkX11_sit 15 rfl) rfl rfl ?_
      refine r_iconst (pc := 54) (tb_at tkX11_sit 16 rfl) ⟨by decide, by decide⟩ ?_
      refine r_irem (pc := 55) (tb_at tkX11_sit 17 rfl) (by decide) ?_
      refine r_iadd (pc := 56) (tb_at tkX11_sit 18 rfl) ?_
      exact r_iret (pc := 57) (tb_at tkX11_sit 19 rfl) rfl (Nat.le_refl _) (Nat.le_refl _) ⟨_, rfl, rfl, h⟩
    · refine r_tblIn (off := 41) (tgt := 60) (pc := 19) (tb_at tkX11_sit 13 rfl) (by omega) (by omega) (by rw [c]; rfl) (by decide) ?_
      replace h := h.2.2.2.1 c
      refine r_iconst (pc := 60) (tb_at tkX11_sit 22 rfl) ⟨by decide, by decide⟩ ?_
      exact r_iret (pc := 61) (tb_at tkX11_sit 23 rfl) rfl (Nat.le_refl _) (Nat.le_refl _) ⟨_, rfl, rfl, h⟩
    · refine r_tblIn (off := 43) (tgt := 62) (pc := 19) (tb_at tkX11_sit 13 rfl) (by omega) (by omega) (by rw [c]; rfl) (by decide) ?_
      replace h := h.2.2.2.2.1 c
      refine r_iconst (pc := 62) (tb_at tkX11_sit 24 rfl) ⟨by decide, by decide⟩ ?_
      refine r_iload_n (pc := 63) (tb_at tkX11_sit 25 rfl) rfl rfl ?_
      refine r_iadd (pc := 64) (tb_at tkX11_sit 26 rfl) ?_
      exact r_iret (pc := 65) (tb_at tkX11_sit 27 rfl) rfl (Nat.le_refl _) (Nat.le_refl _) ⟨_, rfl, rfl, h⟩
set_option maxRecDepth 100000 in
set_option maxHeartbeats 4000000 in
theorem gX11_rest_0 {G : GE} {d : Nat} {K : Int → Mem → Prop} {M : Mem} {v1 : Int}  (h : (0 ≤ 82 + v1 ∧ 82 + v1 < 92) ∧ (0 ≤ 78 + v1 ∧ 78 + v1 < 92) ∧ (((M 67 (78 + v1).toNat) = 1 → K (w32 (20 + (M 67 (82 + v1).toNat))) M) ∧ ((M 67 (78 + v1).toNat) = 2 → K 20 M) ∧ ((M 67 (78 + v1).toNat) = 3 → K (w32 (15 + (M 67 (82 + v1).toNat))) M) ∧ ((M 67 (78 + v1).toNat) = 4 → K (w32 (20 - (M 67 (82 + v1).toNat))) M) ∧ ((M 67 (78 + v1).toNat) < 1 ∨ 4 < (M 67 (78 + v1).toNat) → K 20 M))) : OkI G miX11_rest d K 0 [some (.inr (.inr (some 66))), some (.inl v1), none] [] M := by
  refine r_aload_n (pc := 0) (tb_at tkX11_rest 0 rfl) rfl rfl ?_
  refine r_get 10 0 (pc := 1) (tb_at tkX11_rest 1 rfl) ly_66 flX11_11 rfl ?_
  refine r_bipush (pc := 4) (tb_at tkX11_rest 2 rfl) ⟨by decide, by decide, by decide⟩ ?_
  refine r_iload_n (pc := 6) (tb_at tkX11_rest 3 rfl) rfl rfl ?_
  refine r_iadd (pc := 7) (tb_at tkX11_rest 4 rfl) ?_
  refine r_iald_w (pc := 8) (tb_at tkX11_rest 5 rfl) ly_67 (by decide) h.1.1 h.1.2 ?_
  replace h := h.2
  refine r_istore_n (L' := [some (.inr (.inr (some 66))), some (.inl v1), some (.inl (M 67 (82 + v1).toNat))]) (pc := 9) (tb_at tkX11_rest 6 rfl) rfl (by decide) rfl ?_
  refine r_aload_n (pc := 10) (tb_at tkX11_rest 7 rfl) rfl rfl ?_
  refine r_get 10 0 (pc := 11) (tb_at tkX11_rest 8 rfl) ly_66 flX11_11 rfl ?_
  refine r_bipush (pc := 14) (tb_at tkX11_rest 9 rfl) ⟨by decide, by decide, by decide⟩ ?_
  refine r_iload_n (pc := 16) (tb_at tkX11_rest 10 rfl) rfl rfl ?_
  refine r_iadd (pc := 17) (tb_at tkX11_rest 11 rfl) ?_
  refine r_iald_w (pc := 18) (tb_at tkX11_rest 12 rfl) ly_67 (by decide) h.1.1 h.1.2 ?_
  replace h := h.2
  by_cases c0 : (M 67 (78 + v1).toNat) < 1 ∨ 4 < (M 67 (78 + v1).toNat)
  · refine r_tblOut (tgt := 63) (pc := 19) (tb_at tkX11_rest 13 rfl) c0 (by decide) ?_
    replace h := h.2.2.2.2 c0
    refine r_bipush (pc := 63) (tb_at tkX11_rest 26 rfl) ⟨by decide, by decide, by decide⟩ ?_
    exact r_iret (pc := 65) (tb_at tkX11_rest 27 rfl) rfl (Nat.le_refl _) (Nat.le_refl _) ⟨_, rfl, rfl, h⟩
  · have cc : (M 67 (78 + v1).toNat) = 1 ∨ (M 67 (78 + v1).toNat) = 2 ∨ (M 67 (78 + v1).toNat) = 3 ∨ (M 67 (78 + v1).toNat) = 4 := by omega
    rcases cc with c | c | c | c
    · refine r_tblIn (off := 29) (tgt := 48) (pc := 19) (tb_at tkX11_rest 13 rfl) (by omega) (by omega) (by rw [c]; rfl) (by decide) ?_
      replace h := h.1 c
      refine r_bipush (pc := 48) (tb_at tkX11_rest 14 rfl) ⟨by decide, by decide, by decide⟩ ?_
      refine r_iload_n (pc := 50) (tb_at tkX11_rest 15 rfl) rfl rfl ?_
      refine r_iadd (pc := 51) (tb_at tkX11_rest 16 rfl) ?_
      exact r_iret (pc := 52) (tb_at tkX11_rest 17 rfl) rfl (Nat.le_refl _) (Nat.le_refl _) ⟨_, rfl, rfl, h⟩
    · refine r_tblIn (off := 44) (tgt := 63) (pc := 19) (tb_at tkX11_rest 13 rfl) (by omega) (by omega) (by rw [c]; rfl) (by decide) ?_
      replace h := h.2.1 c
      refine r_bipush (pc := 63) (tb_at tkX11_rest 26 rfl) ⟨by decide, by decide, by decide⟩ ?_
      exact r_iret (pc := 65) (tb_at tkX11_rest 27 rfl) rfl (Nat.le_refl _) (Nat.le_refl _) ⟨_, rfl, rfl, h⟩
    · refine r_tblIn (off := 34) (tgt := 53) (pc := 19) (tb_at tkX11_rest 13 rfl) (by omega) (by omega) (by rw [c]; rfl) (by decide) ?_
      replace h := h.2.2.1 c
      refine r_bipush (pc := 53) (tb_at tkX11_rest 18 rfl) ⟨by decide, by decide, by decide⟩ ?_
      refine r_iload_n (pc := 55) (tb_at tkX11_rest 19 rfl) rfl rfl ?_
      refine r_iadd (pc := 56) (tb_at tkX11_rest 20 rfl) ?_
      exact r_iret (pc := 57) (tb_at tkX11_rest 21 rfl) rfl (Nat.le_refl _) (Nat.le_refl _) ⟨_, rfl, rfl, h⟩
    · refine r_tblIn (off := 39) (tgt := 58) (pc := 19) (tb_at tkX11_rest 13 rfl) (by omega) (by omega) (by rw [c]; rfl) (by decide) ?_
      replace h := h.2.2.2.1 c
      refine r_bipush (pc := 58) (tb_at tkX11_rest 22 rfl) ⟨by decide, by decide, by decide⟩ ?_
      refine r_iload_n (pc := 60) (tb_at tkX11_rest 23 rfl) rfl rfl ?_
      refine r_isub (pc := 61) (tb_at tkX11_rest 24 rfl) ?_
      exact r_iret (pc := 62) (tb_at tkX11_rest 25 rfl) rfl (Nat.le_refl _) (Nat.le_refl _) ⟨_, rfl, rfl, h⟩
set_option maxRecDepth 100000 in
set_option maxHeartbeats 4000000 in
theorem gX11_legs_0 {G : GE} {d : Nat} {K : Int → Mem → Prop} {M : Mem} {v1 : Int}  (h : (0 ≤ 78 + v1 ∧ 78 + v1 < 92) ∧ (((M 67 (78 + v1).toNat) = 2 → K 4 M) ∧ (¬ (M 67 (78 + v1).toNat) = 2 → ((¬ (M 67 (78 + v1).toNat) = 4 → (((M 67 (78 + v1).toNat) = 3 → K 2 M) ∧ (¬ (M 67 (78 + v1).toNat) = 3 → ((¬ (M 67 (78 + v1).toNat) = 5 → K 3 M) ∧ ((M 67 (78 + v1).toNat) = 5 → K 2 M))))) ∧ ((M 67 (78 + v1).toNat) = 4 → K 4 M))))) : OkI G miX11_legs d K 0 [some (.inr (.inr (some 66))), some (.inl v1), none] [] M := by
  refine r_aload_n (pc := 0) (tb_at tkX11_legs 0 rfl) rfl rfl ?_
  refine r_get 10 0 (pc := 1) (tb_at tkX11_legs 1 rfl) ly_66 flX11_11 rfl ?_
  refine r_bipush (pc := 4) (tb_at tkX11_legs 2 rfl) ⟨by decide, by decide, by decide⟩ ?_
  refine r_iload_n (pc := 6) (tb_at tkX11_legs 3 rfl) rfl rfl ?_
  refine r_iadd (pc := 7) (tb_at tkX11_legs 4 rfl) ?_
  refine r_iald_w (pc := 8) (tb_at tkX11_legs 5 rfl) ly_67 (by decide) h.1.1 h.1.2 ?_
  replace h := h.2
  refine r_istore_n (L' := [some (.inr (.inr (some 66))), some (.inl v1), some (.inl (M 67 (78 + v1).toNat))]) (pc := 9) (tb_at tkX11_legs 6 rfl) rfl (by decide) rfl ?_
  refine r_iload_n (pc := 10) (tb_at tkX11_legs 7 rfl) rfl rfl ?_
  refine r_iconst (pc := 11) (tb_at tkX11_legs 8 rfl) ⟨by decide, by decide⟩ ?_
  refine q_icmp_eq (tgt := 20) (pc := 12) (tb_at tkX11_legs 9 rfl) (by decide) (fun c => ?_) (fun c => ?_)
  · replace h := h.1 c
    refine r_iconst (pc := 20) (tb_at tkX11_legs 13 rfl) ⟨by decide, by decide⟩ ?_
    refine r_goto (tgt := 39) (pc := 21) (tb_at tkX11_legs 14 rfl) (by decide) ?_
    exact r_iret (pc := 39) (tb_at tkX11_legs 24 rfl) rfl (Nat.le_refl _) (Nat.le_refl _) ⟨_, rfl, rfl, h⟩
  · replace h := h.2 c
    refine r_iload_n (pc := 15) (tb_at tkX11_legs 10 rfl) rfl rfl ?_
    refine r_iconst (pc := 16) (tb_at tkX11_legs 11 rfl) ⟨by decide, by decide⟩ ?_
    refine q_icmp_ne (tgt := 24) (pc := 17) (tb_at tkX11_legs 12 rfl) (by decide) (fun c => ?_) (fun c => ?_)
    · replace h := h.1 c
      refine r_iload_n (pc := 24) (tb_at tkX11_legs 15 rfl) rfl rfl ?_
      refine r_iconst (pc := 25) (tb_at tkX11_legs 16 rfl) ⟨by decide, by decide⟩ ?_
      refine q_icmp_eq (tgt := 34) (pc := 26) (tb_at tkX11_legs 17 rfl) (by decide) (fun c => ?_) (fun c => ?_)
      · replace h := h.1 c
        refine r_iconst (pc := 34) (tb_at tkX11_legs 21 rfl) ⟨by decide, by decide⟩ ?_
        refine r_goto (tgt := 39) (pc := 35) (tb_at tkX11_legs 22 rfl) (by decide) ?_
        exact r_iret (pc := 39) (tb_at tkX11_legs 24 rfl) rfl (Nat.le_refl _) (Nat.le_refl _) ⟨_, rfl, rfl, h⟩
      · replace h := h.2 c
        refine r_iload_n (pc := 29) (tb_at tkX11_legs 18 rfl) rfl rfl ?_
        refine r_iconst (pc := 30) (tb_at tkX11_legs 19 rfl) ⟨by decide, by decide⟩ ?_
        refine q_icmp_ne (tgt := 38) (pc := 31) (tb_at tkX11_legs 20 rfl) (by decide) (fun c => ?_) (fun c => ?_)
        · replace h := h.1 c
          refine r_iconst (pc := 38) (tb_at tkX11_legs 23 rfl) ⟨by decide, by decide⟩ ?_
          exact r_iret (pc := 39) (tb_at tkX11_legs 24 rfl) rfl (Nat.le_refl _) (Nat.le_refl _) ⟨_, rfl, rfl, h⟩
        · replace h := h.2 c
          refine r_iconst (pc := 34) (tb_at tkX11_legs 21 rfl) ⟨by decide, by decide⟩ ?_
          refine r_goto (tgt := 39) (pc := 35) (tb_at tkX11_legs 22 rfl) (by decide) ?_
          exact r_iret (pc := 39) (tb_at tkX11_legs 24 rfl) rfl (Nat.le_refl _) (Nat.le_refl _) ⟨_, rfl, rfl, h⟩
    · replace h := h.2 c
      refine r_iconst (pc := 20) (tb_at tkX11_legs 13 rfl) ⟨by decide, by decide⟩ ?_
      refine r_goto (tgt := 39) (pc := 21) (tb_at tkX11_legs 14 rfl) (by decide) ?_
      exact r_iret (pc := 39) (tb_at tkX11_legs 24 rfl) rfl (Nat.le_refl _) (Nat.le_refl _) ⟨_, rfl, rfl, h⟩
set_option maxRecDepth 100000 in
set_option maxHeartbeats 4000000 in
theorem gX11_span_0 {G : GE} {d : Nat} {K : Int → Mem → Prop} {M : Mem} {v1 : Int}  (h : (0 ≤ 82 + v1 ∧ 82 + v1 < 92) ∧ (0 ≤ 78 + v1 ∧ 78 + v1 < 92) ∧ (((M 67 (78 + v1).toNat) = 1 → K (w32 (40 - (M 67 (82 + v1).toNat))) M) ∧ ((M 67 (78 + v1).toNat) = 2 → K (w32 (40 + (M 67 (82 + v1).toNat))) M) ∧ ((M 67 (78 + v1).toNat) = 3 → K (w32 (40 - (M 67 (82 + v1).toNat))) M) ∧ ((M 67 (78 + v1).toNat) = 4 → K (w32 (50 + (M 67 (82 + v1).toNat))) M) ∧ ((M 67 (78 + v1).toNat) < 1 ∨ 4 < (M 67 (78 + v1).toNat) → K 40 M))) : OkI G miX11_span d K 0 [some (.inr (.inr (some 66))), some (.inl v1), none] [] M := by
  refine r_aload_n (pc := 0) (tb_at tkX11_span 0 rfl) rfl rfl ?_
  refine r_get 10 0 (pc := 1) (tb_at tkX11_span 1 rfl) ly_66 flX11_11 rfl ?_
  refine r_bipush (pc := 4) (tb_at tkX11_span 2 rfl) ⟨by decide, by decide, by decide⟩ ?_
  refine r_iload_n (pc := 6) (tb_at tkX11_span 3 rfl) rfl rfl ?_
  refine r_iadd (pc := 7) (tb_at tkX11_span 4 rfl) ?_
  refine r_iald_w (pc := 8) (tb_at tkX11_span 5 rfl) ly_67 (by decide) h.1.1 h.1.2 ?_
  replace h := h.2
  refine r_istore_n (L' := [some (.inr (.inr (some 66))), some (.inl v1), some (.inl (M 67 (82 + v1).toNat))]) (pc := 9) (tb_at tkX11_span 6 rfl) rfl (by decide) rfl ?_
  refine r_aload_n (pc := 10) (tb_at tkX11_span 7 rfl) rfl rfl ?_
  refine r_get 10 0 (pc := 11) (tb_at tkX11_span 8 rfl) ly_66 flX11_11 rfl ?_
  refine r_bipush (pc := 14) (tb_at tkX11_span 9 rfl) ⟨by decide, by decide, by decide⟩ ?_
  refine r_iload_n (pc := 16) (tb_at tkX11_span 10 rfl) rfl rfl ?_
  refine r_iadd (pc := 17) (tb_at tkX11_span 11 rfl) ?_
  refine r_iald_w (pc := 18) (tb_at tkX11_span 12 rfl) ly_67 (by decide) h.1.1 h.1.2 ?_
  replace h := h.2
  by_cases c0 : (M 67 (78 + v1).toNat) < 1 ∨ 4 < (M 67 (78 + v1).toNat)
  · refine r_tblOut (tgt := 63) (pc := 19) (tb_at tkX11_span 13 rfl) c0 (by decide) ?_
    replace h := h.2.2.2.2 c0
    refine r_bipush (pc := 63) (tb_at tkX11_span 26 rfl) ⟨by decide, by decide, by decide⟩ ?_
    exact r_iret (pc := 65) (tb_at tkX11_span 27 rfl) rfl (Nat.le_refl _) (Nat.le_refl _) ⟨_, rfl, rfl, h⟩
  · have cc : (M 67 (78 + v1).toNat) = 1 ∨ (M 67 (78 + v1).toNat) = 2 ∨ (M 67 (78 + v1).toNat) = 3 ∨ (M 67 (78 + v1).toNat) = 4 := by omega
    rcases cc with c | c | c | c
    · refine r_tblIn (off := 29) (tgt := 48) (pc := 19) (tb_at tkX11_span 13 rfl) (by omega) (by omega) (by rw [c]; rfl) (by decide) ?_
      replace h := h.1 c
      refine r_bipush (pc := 48) (tb_at tkX11_span 14 rfl) ⟨by decide, by decide, by decide⟩ ?_
      refine r_iload_n (pc := 50) (tb_at tkX11_span 15 rfl) rfl rfl ?_
      refine r_isub (pc := 51) (tb_at tkX11_span 16 rfl) ?_
      exact r_iret (pc := 52) (tb_at tkX11_span 17 rfl) rfl (Nat.le_refl _) (Nat.le_refl _) ⟨_, rfl, rfl, h⟩
    · refine r_tblIn (off := 34) (tgt := 53) (pc := 19) (tb_at tkX11_span 13 rfl) (by omega) (by omega) (by rw [c]; rfl) (by decide) ?_
      replace h := h.2.1 c
      refine r_bipush (pc := 53) (tb_at tkX11_span 18 rfl) ⟨by decide, by decide, by decide⟩ ?_
      refine r_iload_n (pc := 55) (tb_at tkX11_span 19 rfl) rfl rfl ?_
      refine r_iadd (pc := 56) (tb_at tkX11_span 20 rfl) ?_
      exact r_iret (pc := 57) (tb_at tkX11_span 21 rfl) rfl (Nat.le_refl _) (Nat.le_refl _) ⟨_, rfl, rfl, h⟩
    · refine r_tblIn (off := 29) (tgt := 48) (pc := 19) (tb_at tkX11_span 13 rfl) (by omega) (by omega) (by rw [c]; rfl) (by decide) ?_
      replace h := h.2.2.1 c
      refine r_bipush (pc := 48) (tb_at tkX11_span 14 rfl) ⟨by decide, by decide, by decide⟩ ?_
      refine r_iload_n (pc := 50) (tb_at tkX11_span 15 rfl) rfl rfl ?_
      refine r_isub (pc := 51) (tb_at tkX11_span 16 rfl) ?_
      exact r_iret (pc := 52) (tb_at tkX11_span 17 rfl) rfl (Nat.le_refl _) (Nat.le_refl _) ⟨_, rfl, rfl, h⟩
    · refine r_tblIn (off := 39) (tgt := 58) (pc := 19) (tb_at tkX11_span 13 rfl) (by omega) (by omega) (by rw [c]; rfl) (by decide) ?_
      replace h := h.2.2.2.1 c
      refine r_bipush (pc := 58) (tb_at tkX11_span 22 rfl) ⟨by decide, by decide, by decide⟩ ?_
      refine r_iload_n (pc := 60) (tb_at tkX11_span 23 rfl) rfl rfl ?_
      refine r_iadd (pc := 61) (tb_at tkX11_span 24 rfl) ?_
      exact r_iret (pc := 62) (tb_at tkX11_span 25 rfl) rfl (Nat.le_refl _) (Nat.le_refl _) ⟨_, rfl, rfl, h⟩
set_option maxRecDepth 100000 in
set_option maxHeartbeats 4000000 in
theorem gX11_duties_0 {G : GE} {d : Nat} {K : Int → Mem → Prop} {M : Mem} {v1 : Int}  (h : (0 ≤ 78 + v1 ∧ 78 + v1 < 92) ∧ (((M 67 (78 + v1).toNat) = 4 → K 2 M) ∧ (¬ (M 67 (78 + v1).toNat) = 4 → (0 ≤ 78 + v1 ∧ 78 + v1 < 92) ∧ ((¬ (M 67 (78 + v1).toNat) = 5 → K 3 M) ∧ ((M 67 (78 + v1).toNat) = 5 → K 2 M))))) : OkI G miX11_duties d K 0 [some (.inr (.inr (some 66))), some (.inl v1)] [] M := by
  refine r_aload_n (pc := 0) (tb_at tkX11_duties 0 rfl) rfl rfl ?_
  refine r_get 10 0 (pc := 1) (tb_at tkX11_duties 1 rfl) ly_66 flX11_11 rfl ?_
  refine r_bipush (pc := 4) (tb_at tkX11_duties 2 rfl) ⟨by decide, by decide, by decide⟩ ?_
  refine r_iload_n (pc := 6) (tb_at tkX11_duties 3 rfl) rfl rfl ?_
  refine r_iadd (pc := 7) (tb_at tkX11_duties 4 rfl) ?_
  refine r_iald_w (pc := 8) (tb_at tkX11_duties 5 rfl) ly_67 (by decide) h.1.1 h.1.2 ?_
  replace h := h.2
  refine r_iconst (pc := 9) (tb_at tkX11_duties 6 rfl) ⟨by decide, by decide⟩ ?_
  refine q_icmp_eq (tgt := 26) (pc := 10) (tb_at tkX11_duties 7 rfl) (by decide) (fun c => ?_) (fun c => ?_)
  · replace h := h.1 c
    refine r_iconst (pc := 26) (tb_at tkX11_duties 16 rfl) ⟨by decide, by decide⟩ ?_
    refine r_goto (tgt := 31) (pc := 27) (tb_at tkX11_duties 17 rfl) (by decide) ?_
    exact r_iret (pc := 31) (tb_at tkX11_duties 19 rfl) rfl (Nat.le_refl _) (Nat.le_refl _) ⟨_, rfl, rfl, h⟩
  · replace h := h.2 c
    refine r_aload_n (pc := 13) (tb_at tkX11_duties 8 rfl) rfl rfl ?_
    refine r_get 10 0 (pc := 14) (tb_at tkX11_duties 9 rfl) ly_66 flX11_11 rfl ?_
    refine r_bipush (pc := 17) (tb_at tkX11_duties 10 rfl) ⟨by decide, by decide, by decide⟩ ?_
    refine r_iload_n (pc := 19) (tb_at tkX11_duties 11 rfl) rfl rfl ?_
    refine r_iadd (pc := 20) (tb_at tkX11_duties 12 rfl) ?_
    refine r_iald_w (pc := 21) (tb_at tkX11_duties 13 rfl) ly_67 (by decide) h.1.1 h.1.2 ?_
    replace h := h.2
    refine r_iconst (pc := 22) (tb_at tkX11_duties 14 rfl) ⟨by decide, by decide⟩ ?_
    refine q_icmp_ne (tgt := 30) (pc := 23) (tb_at tkX11_duties 15 rfl) (by decide) (fun c => ?_) (fun c => ?_)
    · replace h := h.1 c
      refine r_iconst (pc := 30) (tb_at tkX11_duties 18 rfl) ⟨by decide, by decide⟩ ?_
      exact r_iret (pc := 31) (tb_at tkX11_duties 19 rfl) rfl (Nat.le_refl _) (Nat.le_refl _) ⟨_, rfl, rfl, h⟩
    · replace h := h.2 c
      refine r_iconst (pc := 26) (tb_at tkX11_duties 16 rfl) ⟨by decide, by decide⟩ ?_
      refine r_goto (tgt := 31) (pc := 27) (tb_at tkX11_duties 17 rfl) (by decide) ?_
      exact r_iret (pc := 31) (tb_at tkX11_duties 19 rfl) rfl (Nat.le_refl _) (Nat.le_refl _) ⟨_, rfl, rfl, h⟩
set_option maxRecDepth 100000 in
set_option maxHeartbeats 4000000 in
theorem gX11_kind_0 {G : GE} {d : Nat} {K : Int → Mem → Prop} {M : Mem} {v1 v2 v3 : Int}  (h : CalI G miX11_isAirport d [.inl v1] M (fun x2 M1 => ((x2 = 0 → K (-2) M1) ∧ (¬ x2 = 0 → CalI G miX11_in d [.inr (.inl v2), .inr (.inl 0), .inr (.inl 5)] M1 (fun x4 M3 => ((x4 = 0 → K (-2) M3) ∧ (¬ x4 = 0 → CalI G miX11_in d [.inr (.inl v3), .inr (.inl 0), .inr (.inl 9)] M3 (fun x6 M5 => ((¬ x6 = 0 → CalI G miX11_becomes d [.inr (.inr (some 66)), .inl (w32 (78 + v1)), .inl v2] M5 (fun x8 M7 => CalI G miX11_becomes d [.inr (.inr (some 66)), .inl (w32 (82 + v1)), .inl v3] M7 (fun x10 M9 => K (w32 ((10 * x8) + x10)) M9))) ∧ (x6 = 0 → K (-2) M5)))))))))) : OkI G miX11_kind (d + 1) K 0 [some (.inr (.inr (some 66))), some (.inl v1), some (.inl v2), some (.inl v3)] [] M := by
  refine r_iload_n (pc := 0) (tb_at tkX11_kind 0 rfl) rfl rfl ?_
  refine r_invS (mc' := 0) (ms' := 0) [.inl v1] (S := []) (pc := 1) (tb_at tkX11_kind 1 rfl) rfl clX11_115 (Nat.le_of_ble_eq_true rfl) (Nat.le_refl _) (Nat.le_refl _) ?_
  refine Cal.mono h ?_
  rintro _ _ M1 ⟨x2, rfl, rfl, h⟩
  show OkI G miX11_kind (d + 1) K 4 [some (.inr (.inr (some 66))), some (.inl v1), some (.inl v2), some (.inl v3)] [.inl x2] M1
  refine q_if_eq (tgt := 31) (pc := 4) (tb_at tkX11_kind 2 rfl) (by decide) (fun c => ?_) (fun c => ?_)
  · replace h := h.1 c
    refine r_bipush (pc := 31) (tb_at tkX11_kind 15 rfl) ⟨by decide, by decide, by decide⟩ ?_
    exact r_iret (pc := 33) (tb_at tkX11_kind 16 rfl) rfl (Nat.le_refl _) (Nat.le_refl _) ⟨_, rfl, rfl, h⟩
  · replace h := h.2 c
    refine r_iload_n (pc := 7) (tb_at tkX11_kind 3 rfl) rfl rfl ?_
    refine r_i2l (pc := 8) (tb_at tkX11_kind 4 rfl) ?_
    refine r_lconst (v := 0) (pc := 9) (tb_at tkX11_kind 5 rfl) ⟨by decide, by decide, by decide⟩ ?_
    refine r_ldc2 (n := 5) (pc := 10) (tb_at tkX11_kind 6 rfl) kcX11_122 ⟨by decide, by decide⟩ ?_
    refine r_invS (mc' := 0) (ms' := 0) [.inr (.inl v2), .inr (.inl 0), .inr (.inl 5)] (S := []) (pc := 13) (tb_at tkX11_kind 7 rfl) rfl clX11_103 (Nat.le_of_ble_eq_true rfl) (Nat.le_refl _) (Nat.le_refl _) ?_
    refine Cal.mono h ?_
    rintro _ _ M3 ⟨x4, rfl, rfl, h⟩
    show OkI G miX11_kind (d + 1) K 16 [some (.inr (.inr (some 66))), some (.inl v1), some (.inl v2), some (.inl v3)] [.inl x4] M3
    refine q_if_eq (tgt := 31) (pc := 16) (tb_at tkX11_kind 8 rfl) (by decide) (fun c => ?_) (fun c => ?_)
    · replace h := h.1 c
      refine r_bipush (pc := 31) (tb_at tkX11_kind 15 rfl) ⟨by decide, by decide, by decide⟩ ?_
      exact r_iret (pc := 33) (tb_at tkX11_kind 16 rfl) rfl (Nat.le_refl _) (Nat.le_refl _) ⟨_, rfl, rfl, h⟩
    · replace h := h.2 c
      refine r_iload_n (pc := 19) (tb_at tkX11_kind 9 rfl) rfl rfl ?_
      refine r_i2l (pc := 20) (tb_at tkX11_kind 10 rfl) ?_
      refine r_lconst (v := 0) (pc := 21) (tb_at tkX11_kind 11 rfl) ⟨by decide, by decide, by decide⟩ ?_
      refine r_ldc2 (n := 9) (pc := 22) (tb_at tkX11_kind 12 rfl) kcX11_124 ⟨by decide, by decide⟩ ?_
      refine r_invS (mc' := 0) (ms' := 0) [.inr (.inl v3), .inr (.inl 0), .inr (.inl 9)] (S := []) (pc := 25) (tb_at tkX11_kind 13 rfl) rfl clX11_103 (Nat.le_of_ble_eq_true rfl) (Nat.le_refl _) (Nat.le_refl _) ?_
      refine Cal.mono h ?_
      rintro _ _ M5 ⟨x6, rfl, rfl, h⟩
      show OkI G miX11_kind (d + 1) K 28 [some (.inr (.inr (some 66))), some (.inl v1), some (.inl v2), some (.inl v3)] [.inl x6] M5
      refine q_if_ne (tgt := 34) (pc := 28) (tb_at tkX11_kind 14 rfl) (by decide) (fun c => ?_) (fun c => ?_)
      · replace h := h.1 c
        refine r_bipush (pc := 34) (tb_at tkX11_kind 17 rfl) ⟨by decide, by decide, by decide⟩ ?_
        refine r_aload_n (pc := 36) (tb_at tkX11_kind 18 rfl) rfl rfl ?_
        refine r_bipush (pc := 37) (tb_at tkX11_kind 19 rfl) ⟨by decide, by decide, by decide⟩ ?_
        refine r_iload_n (pc := 39) (tb_at tkX11_kind 20 rfl) rfl rfl ?_
        refine r_iadd (pc := 40) (tb_at tkX11_kind 21 rfl) ?_
        refine r_iload_n (pc := 41) (tb_at tkX11_kind 22 rfl) rfl rfl ?_
        refine r_invV (mc' := 0) (ms' := 0) [.inl (w32 (78 + v1)), .inl v2] (S := [.inl 10]) (pc := 42) (tb_at tkX11_kind 23 rfl) rfl ly_66 rfl rfl clX11_126 (Nat.le_of_ble_eq_true rfl) (Nat.le_refl _) (Nat.le_refl _) ?_
        refine Cal.mono h ?_
        rintro _ _ M7 ⟨x8, rfl, rfl, h⟩
        show OkI G miX11_kind (d + 1) K 45 [some (.inr (.inr (some 66))), some (.inl v1), some (.inl v2), some (.inl v3)] [.inl x8, .inl 10] M7
        refine r_imul (pc := 45) (tb_at tkX11_kind 24 rfl) ?_
        refine r_aload_n (pc := 46) (tb_at tkX11_kind 25 rfl) rfl rfl ?_
        refine r_bipush (pc := 47) (tb_at tkX11_kind 26 rfl) ⟨by decide, by decide, by decide⟩ ?_
        refine r_iload_n (pc := 49) (tb_at tkX11_kind 27 rfl) rfl rfl ?_
        refine r_iadd (pc := 50) (tb_at tkX11_kind 28 rfl) ?_
        refine r_iload_n (pc := 51) (tb_at tkX11_kind 29 rfl) rfl rfl ?_
        refine r_invV (mc' := 0) (ms' := 0) [.inl (w32 (82 + v1)), .inl v3] (S := [.inl (w32 (10 * x8))]) (pc := 52) (tb_at tkX11_kind 30 rfl) rfl ly_66 rfl rfl clX11_126 (Nat.le_of_ble_eq_true rfl) (Nat.le_refl _) (Nat.le_refl _) ?_
        refine Cal.mono h ?_
        rintro _ _ M9 ⟨x10, rfl, rfl, h⟩
        show OkI G miX11_kind (d + 1) K 55 [some (.inr (.inr (some 66))), some (.inl v1), some (.inl v2), some (.inl v3)] [.inl x10, .inl (w32 (10 * x8))] M9
        refine r_iadd_l (pc := 55) (tb_at tkX11_kind 31 rfl) ?_
        exact r_iret (pc := 56) (tb_at tkX11_kind 32 rfl) rfl (Nat.le_refl _) (Nat.le_refl _) ⟨_, rfl, rfl, h⟩
      · replace h := h.2 c
        refine r_bipush (pc := 31) (tb_at tkX11_kind 15 rfl) ⟨by decide, by decide, by decide⟩ ?_
        exact r_iret (pc := 33) (tb_at tkX11_kind 16 rfl) rfl (Nat.le_refl _) (Nat.le_refl _) ⟨_, rfl, rfl, h⟩
set_option maxRecDepth 100000 in
set_option maxHeartbeats 4000000 in
theorem gX11_told_0 {G : GE} {d : Nat} {K : Int → Mem → Prop} {M : Mem} {v1 v2 : Int}  (h : CalI G miX11_isAirport d [.inl v1] M (fun x2 M1 => ((¬ x2 = 0 → ((v2 = 0 → (0 ≤ 78 + v1 ∧ 78 + v1 < 92) ∧ K (M1 67 (78 + v1).toNat) M1) ∧ (v2 = 1 → (0 ≤ 82 + v1 ∧ 82 + v1 < 92) ∧ K (M1 67 (82 + v1).toNat) M1) ∧ (v2 = 2 → CalI G miX11_sit d [.inr (.inr (some 66)), .inl v1] M1 (fun x4 M3 => K x4 M3)) ∧ (v2 = 3 → CalI G miX11_rest d [.inr (.inr (some 66)), .inl v1] M1 (fun x6 M5 => K x6 M5)) ∧ (v2 = 4 → CalI G miX11_legs d [.inr (.inr (some 66)), .inl v1] M1 (fun x8 M7 => K x8 M7)) ∧ (v2 = 5 → CalI G miX11_span d [.inr (.inr (some 66)), .inl v1] M1 (fun x10 M9 => K x10 M9)) ∧ (v2 = 6 → CalI G miX11_duties d [.inr (.inr (some 66)), .inl v1] M1 (fun x12 M11 => K x12 M11)) ∧ (v2 < 0 ∨ 6 < v2 → K (-2) M1))) ∧ (x2 = 0 → K (-2) M1)))) : OkI G miX11_told (d + 1) K 0 [some (.inr (.inr (some 66))), some (.inl v1), some (.inl v2)] [] M := by
  refine r_iload_n (pc := 0) (tb_at tkX11_told 0 rfl) rfl rfl ?_
  refine r_invS (mc' := 0) (ms' := 0) [.inl v1] (S := []) (pc := 1) (tb_at tkX11_told 1 rfl) rfl clX11_115 (Nat.le_of_ble_eq_true rfl) (Nat.le_refl _) (Nat.le_refl _) ?_
  refine Cal.mono h ?_
  rintro _ _ M1 ⟨x2, rfl, rfl, h⟩
  show OkI G miX11_told (d + 1) K 4 [some (.inr (.inr (some 66))), some (.inl v1), some (.inl v2)] [.inl x2] M1
  refine q_if_ne (tgt := 10) (pc := 4) (tb_at tkX11_told 2 rfl) (by decide) (fun c => ?_) (fun c => ?_)
  · replace h := h.1 c
    refine r_iload_n (pc := 10) (tb_at tkX11_told 5 rfl) rfl rfl ?_
    by_cases c0 : v2 < 0 ∨ 6 < v2
    · refine r_tblOut (tgt := 102) (pc := 11) (tb_at tkX11_told 6 rfl) c0 (by decide) ?_
      replace h := h.2.2.2.2.2.2.2 c0
      refine r_bipush (pc := 102) (tb_at tkX11_told 41 rfl) ⟨by decide, by decide, by decide⟩ ?_
      exact r_iret (pc := 104) (tb_at tkX11_told 42 rfl) rfl (Nat.le_refl _) (Nat.le_refl _) ⟨_, rfl, rfl, h⟩
    · have cc : v2 = 0 ∨ v2 = 1 ∨ v2 = 2 ∨ v2 = 3 ∨ v2 = 4 ∨ v2 = 5 ∨ v2 = 6 := by omega
      rcases cc with c | c | c | c | c | c | c
      · refine r_tblIn (off := 41) (tgt := 52) (pc := 11) (tb_at tkX11_told 6 rfl) (by omega) (by omega) (by rw [c]; rfl) (by decide) ?_
        replace h := h.1 c
        refine r_aload_n (pc := 52) (tb_at tkX11_told 7 rfl) rfl rfl ?_
        refine r_get 10 0 (pc := 53) (tb_at tkX11_told 8 rfl) ly_66 flX11_11 rfl ?_
        refine r_bipush (pc := 56) (tb_at tkX11_told 9 rfl) ⟨by decide, by decide, by decide⟩ ?_
        refine r_iload_n (pc := 58) (tb_at tkX11_told 10 rfl) rfl rfl ?_
        refine r_iadd (pc := 59) (tb_at tkX11_told 11 rfl) ?_
        refine r_iald_w (pc := 60) (tb_at tkX11_told 12 rfl) ly_67 (by decide) h.1.1 h.1.2 ?_
        replace h := h.2
        exact r_iret (pc := 61) (tb_at tkX11_told 13 rfl) rfl (Nat.le_refl _) (Nat.le_refl _) ⟨_, rfl, rfl, h⟩
      · refine r_tblIn (off := 51) (tgt := 62) (pc := 11) (tb_at tkX11_told 6 rfl) (by omega) (by omega) (by rw [c]; rfl) (by decide) ?_
        replace h := h.2.1 c
        refine r_aload_n (pc := 62) (tb_at tkX11_told 14 rfl) rfl rfl ?_
        refine r_get 10 0 (pc := 63) (tb_at tkX11_told 15 rfl) ly_66 flX11_11 rfl ?_
        refine r_bipush (pc := 66) (tb_at tkX11_told 16 rfl) ⟨by decide, by decide, by decide⟩ ?_
        refine r_iload_n (pc := 68) (tb_at tkX11_told 17 rfl) rfl rfl ?_
        refine r_iadd (pc := 69) (tb_at tkX11_told 18 rfl) ?_
        refine r_iald_w (pc := 70) (tb_at tkX11_told 19 rfl) ly_67 (by decide) h.1.1 h.1.2 ?_
        replace h := h.2
        exact r_iret (pc := 71) (tb_at tkX11_told 20 rfl) rfl (Nat.le_refl _) (Nat.le_refl _) ⟨_, rfl, rfl, h⟩
      · refine r_tblIn (off := 61) (tgt := 72) (pc := 11) (tb_at tkX11_told 6 rfl) (by omega) (by omega) (by rw [c]; rfl) (by decide) ?_
        replace h := h.2.2.1 c
        refine r_aload_n (pc := 72) (tb_at tkX11_told 21 rfl) rfl rfl ?_
        refine r_iload_n (pc := 73) (tb_at tkX11_told 22 rfl) rfl rfl ?_
        refine r_invV (mc' := 0) (ms' := 0) [.inl v1] (S := []) (pc := 74) (tb_at tkX11_told 23 rfl) rfl ly_66 rfl rfl clX11_130 (Nat.le_of_ble_eq_true rfl) (Nat.le_refl _) (Nat.le_refl _) ?_
        refine Cal.mono h ?_
        rintro _ _ M3 ⟨x4, rfl, rfl, h⟩
        show OkI G miX11_told (d + 1) K 77 [some (.inr (.inr (some 66))), some (.inl v1), some (.inl v2)] [.inl x4] M3
        exact r_iret (pc := 77) (tb_at tkX11_told 24 rfl) rfl (Nat.le_refl _) (Nat.le_refl _) ⟨_, rfl, rfl, h⟩
      · refine r_tblIn (off := 67) (tgt := 78) (pc := 11) (tb_at tkX11_told 6 rfl) (by omega) (by omega) (by rw [c]; rfl) (by decide) ?_
        replace h := h.2.2.2.1 c
        refine r_aload_n (pc := 78) (tb_at tkX11_told 25 rfl) rfl rfl ?_
        refine r_iload_n (pc := 79) (tb_at tkX11_told 26 rfl) rfl rfl ?_
        refine r_invV (mc' := 0) (ms' := 0) [.inl v1] (S := []) (pc := 80) (tb_at tkX11_told 27 rfl) rfl ly_66 rfl rfl clX11_134 (Nat.le_of_ble_eq_true rfl) (Nat.le_refl _) (Nat.le_refl _) ?_
        refine Cal.mono h ?_
        rintro _ _ M5 ⟨x6, rfl, rfl, h⟩
        show OkI G miX11_told (d + 1) K 83 [some (.inr (.inr (some 66))), some (.inl v1), some (.inl v2)] [.inl x6] M5
        exact r_iret (pc := 83) (tb_at tkX11_told 28 rfl) rfl (Nat.le_refl _) (Nat.le_refl _) ⟨_, rfl, rfl, h⟩
      · refine r_tblIn (off := 73) (tgt := 84) (pc := 11) (tb_at tkX11_told 6 rfl) (by omega) (by omega) (by rw [c]; rfl) (by decide) ?_
        replace h := h.2.2.2.2.1 c
        refine r_aload_n (pc := 84) (tb_at tkX11_told 29 rfl) rfl rfl ?_
        refine r_iload_n (pc := 85) (tb_at tkX11_told 30 rfl) rfl rfl ?_
        refine r_invV (mc' := 0) (ms' := 0) [.inl v1] (S := []) (pc := 86) (tb_at tkX11_told 31 rfl) rfl ly_66 rfl rfl clX11_137 (Nat.le_of_ble_eq_true rfl) (Nat.le_refl _) (Nat.le_refl _) ?_
        refine Cal.mono h ?_
        rintro _ _ M7 ⟨x8, rfl, rfl, h⟩
        show OkI G miX11_told (d + 1) K 89 [some (.inr (.inr (some 66))), some (.inl v1), some (.inl v2)] [.inl x8] M7
        exact r_iret (pc := 89) (tb_at tkX11_told 32 rfl) rfl (Nat.le_refl _) (Nat.le_refl _) ⟨_, rfl, rfl, h⟩
      · refine r_tblIn (off := 79) (tgt := 90) (pc := 11) (tb_at tkX11_told 6 rfl) (by omega) (by omega) (by rw [c]; rfl) (by decide) ?_
        replace h := h.2.2.2.2.2.1 c
        refine r_aload_n (pc := 90) (tb_at tkX11_told 33 rfl) rfl rfl ?_
        refine r_iload_n (pc := 91) (tb_at tkX11_told 34 rfl) rfl rfl ?_
        refine r_invV (mc' := 0) (ms' := 0) [.inl v1] (S := []) (pc := 92) (tb_at tkX11_told 35 rfl) rfl ly_66 rfl rfl clX11_140 (Nat.le_of_ble_eq_true rfl) (Nat.le_refl _) (Nat.le_refl _) ?_
        refine Cal.mono h ?_
        rintro _ _ M9 ⟨x10, rfl, rfl, h⟩
        show OkI G miX11_told (d + 1) K 95 [some (.inr (.inr (some 66))), some (.inl v1), some (.inl v2)] [.inl x10] M9
        exact r_iret (pc := 95) (tb_at tkX11_told 36 rfl) rfl (Nat.le_refl _) (Nat.le_refl _) ⟨_, rfl, rfl, h⟩
      · refine r_tblIn (off := 85) (tgt := 96) (pc := 11) (tb_at tkX11_told 6 rfl) (by omega) (by omega) (by rw [c]; rfl) (by decide) ?_
        replace h := h.2.2.2.2.2.2.1 c
        refine r_aload_n (pc := 96) (tb_at tkX11_told 37 rfl) rfl rfl ?_
        refine r_iload_n (pc := 97) (tb_at tkX11_told 38 rfl) rfl rfl ?_
        refine r_invV (mc' := 0) (ms' := 0) [.inl v1] (S := []) (pc := 98) (tb_at tkX11_told 39 rfl) rfl ly_66 rfl rfl clX11_143 (Nat.le_of_ble_eq_true rfl) (Nat.le_refl _) (Nat.le_refl _) ?_
        refine Cal.mono h ?_
        rintro _ _ M11 ⟨x12, rfl, rfl, h⟩
        show OkI G miX11_told (d + 1) K 101 [some (.inr (.inr (some 66))), some (.inl v1), some (.inl v2)] [.inl x12] M11
        exact r_iret (pc := 101) (tb_at tkX11_told 40 rfl) rfl (Nat.le_refl _) (Nat.le_refl _) ⟨_, rfl, rfl, h⟩
  · replace h := h.2 c
    refine r_bipush (pc := 7) (tb_at tkX11_told 3 rfl) ⟨by decide, by decide, by decide⟩ ?_
    exact r_iret (pc := 9) (tb_at tkX11_told 4 rfl) rfl (Nat.le_refl _) (Nat.le_refl _) ⟨_, rfl, rfl, h⟩
set_option maxRecDepth 100000 in
set_option maxHeartbeats 4000000 in
theorem gX11_taken_0 {G : GE} {d : Nat} {K : Int → Mem → Prop} {M : Mem} {v1 v2 : Int}  (h : CalI G miX11_isAirport d [.inl v1] M (fun x2 M1 => ((x2 = 0 → K (-2) M1) ∧ (¬ x2 = 0 → CalI G miX11_in d [.inr (.inl v2), .inr (.inl 0), .inr (.inl 5)] M1 (fun x4 M3 => ((¬ x4 = 0 → (0 ≤ 78 + v1 ∧ 78 + v1 < 92) ∧ (((if v2 = 0 then (1 : Int) else (if v2 = (M3 67 (78 + v1).toNat) then (1 : Int) else (if v2 = 1 then (if (M3 67 (78 + v1).toNat) = 3 then (1 : Int) else (if v2 = 2 then (if (M3 67 (78 + v1).toNat) = 4 then (1 : Int) else 0) else 0)) else (if v2 = 2 then (if (M3 67 (78 + v1).toNat) = 4 then (1 : Int) else 0) else 0)))) = 0 → K (-13) M3) ∧ (¬ (if v2 = 0 then (1 : Int) else (if v2 = (M3 67 (78 + v1).toNat) then (1 : Int) else (if v2 = 1 then (if (M3 67 (78 + v1).toNat) = 3 then (1 : Int) else (if v2 = 2 then (if (M3 67 (78 + v1).toNat) = 4 then (1 : Int) else 0) else 0)) else (if v2 = 2 then (if (M3 67 (78 + v1).toNat) = 4 then (1 : Int) else 0) else 0)))) = 0 → CalI G miX11_span d [.inr (.inr (some 66)), .inl v1] M3 (fun x6 M5 => K x6 M5)))) ∧ (x4 = 0 → K (-2) M3))))))) : OkI G miX11_taken (d + 1) K 0 [some (.inr (.inr (some 66))), some (.inl v1), some (.inl v2), none, none] [] M := by
  refine r_iload_n (pc := 0) (tb_at tkX11_taken 0 rfl) rfl rfl ?_
  refine r_invS (mc' := 0) (ms' := 0) [.inl v1] (S := []) (pc := 1) (tb_at tkX11_taken 1 rfl) rfl clX11_115 (Nat.le_of_ble_eq_true rfl) (Nat.le_refl _) (Nat.le_refl _) ?_
  refine Cal.mono h ?_
  rintro _ _ M1 ⟨x2, rfl, rfl, h⟩
  show OkI G miX11_taken (d + 1) K 4 [some (.inr (.inr (some 66))), some (.inl v1), some (.inl v2), none, none] [.inl x2] M1
  refine q_if_eq (tgt := 19) (pc := 4) (tb_at tkX11_taken 2 rfl) (by decide) (fun c => ?_) (fun c => ?_)
  · replace h := h.1 c
    refine r_bipush (pc := 19) (tb_at tkX11_taken 9 rfl) ⟨by decide, by decide, by decide⟩ ?_
    exact r_iret (pc := 21) (tb_at tkX11_taken 10 rfl) rfl (Nat.le_refl _) (Nat.le_refl _) ⟨_, rfl, rfl, h⟩
  · replace h := h.2 c
    refine r_iload_n (pc := 7) (tb_at tkX11_taken 3 rfl) rfl rfl ?_
    refine r_i2l (pc := 8) (tb_at tkX11_taken 4 rfl) ?_
    refine r_lconst (v := 0) (pc := 9) (tb_at tkX11_taken 5 rfl) ⟨by decide, by decide, by decide⟩ ?_
    refine r_ldc2 (n := 5) (pc := 10) (tb_at tkX11_taken 6 rfl) kcX11_122 ⟨by decide, by decide⟩ ?_
    refine r_invS (mc' := 0) (ms' := 0) [.inr (.inl v2), .inr (.inl 0), .inr (.inl 5)] (S := []) (pc := 13) (tb_at tkX11_taken 7 rfl) rfl clX11_103 (Nat.le_of_ble_eq_true rfl) (Nat.le_refl _) (Nat.le_refl _) ?_
    refine Cal.mono h ?_
    rintro _ _ M3 ⟨x4, rfl, rfl, h⟩
    show OkI G miX11_taken (d + 1) K 16 [some (.inr (.inr (some 66))), some (.inl v1), some (.inl v2), none, none] [.inl x4] M3
    refine q_if_ne (tgt := 22) (pc := 16) (tb_at tkX11_taken 8 rfl) (by decide) (fun c => ?_) (fun c => ?_)
    · replace h := h.1 c
      refine r_aload_n (pc := 22) (tb_at tkX11_taken 11 rfl) rfl rfl ?_
      refine r_get 10 0 (pc := 23) (tb_at tkX11_taken 12 rfl) ly_66 flX11_11 rfl ?_
      refine r_bipush (pc := 26) (tb_at tkX11_taken 13 rfl) ⟨by decide, by decide, by decide⟩ ?_
      refine r_iload_n (pc := 28) (tb_at tkX11_taken 14 rfl) rfl rfl ?_
      refine r_iadd (pc := 29) (tb_at tkX11_taken 15 rfl) ?_
      refine r_iald_w (pc := 30) (tb_at tkX11_taken 16 rfl) ly_67 (by decide) h.1.1 h.1.2 ?_
      replace h := h.2
      refine r_istore_n (L' := [some (.inr (.inr (some 66))), some (.inl v1), some (.inl v2), some (.inl (M3 67 (78 + v1).toNat)), none]) (pc := 31) (tb_at tkX11_taken 17 rfl) rfl (by decide) rfl ?_
      refine r_iload_n (pc := 32) (tb_at tkX11_taken 18 rfl) rfl rfl ?_
      have hJ7 : ∀ t0 : Int, t0 = (if v2 = 0 then (1 : Int) else (if v2 = (M3 67 (78 + v1).toNat) then (1 : Int) else (if v2 = 1 then (if (M3 67 (78 + v1).toNat) = 3 then (1 : Int) else (if v2 = 2 then (if (M3 67 (78 + v1).toNat) = 4 then (1 : Int) else 0) else 0)) else (if v2 = 2 then (if (M3 67 (78 + v1).toNat) = 4 then (1 : Int) else 0) else 0)))) → OkI G miX11_taken (d + 1) K 66 [some (.inr (.inr (some 66))), some (.inl v1), some (.inl v2), some (.inl (M3 67 (78 + v1).toNat)), none] [.inl t0] M3 := by
        rintro _ rfl
        refine r_istore (L' := [some (.inr (.inr (some 66))), some (.inl v1), some (.inl v2), some (.inl (M3 67 (78 + v1).toNat)), some (.inl (if v2 = 0 then (1 : Int) else (if v2 = (M3 67 (78 + v1).toNat) then (1 : Int) else (if v2 = 1 then (if (M3 67 (78 + v1).toNat) = 3 then (1 : Int) else (if v2 = 2 then (if (M3 67 (78 + v1).toNat) = 4 then (1 : Int) else 0) else 0)) else (if v2 = 2 then (if (M3 67 (78 + v1).toNat) = 4 then (1 : Int) else 0) else 0)))))]) (pc := 66) (tb_at tkX11_taken 38 rfl) (by decide) rfl ?_
        refine r_iload (pc := 68) (tb_at tkX11_taken 39 rfl) rfl ?_
        refine q_if_eq (tgt := 81) (pc := 70) (tb_at tkX11_taken 40 rfl) (by decide) (fun c => ?_) (fun c => ?_)
        · replace h := h.1 c
          refine r_bipush (pc := 81) (tb_at tkX11_taken 45 rfl) ⟨by decide, by decide, by decide⟩ ?_
          exact r_iret (pc := 83) (tb_at tkX11_taken 46 rfl) rfl (Nat.le_refl _) (Nat.le_refl _) ⟨_, rfl, rfl, h⟩
        · replace h := h.2 c
          refine r_aload_n (pc := 73) (tb_at tkX11_taken 41 rfl) rfl rfl ?_
          refine r_iload_n (pc := 74) (tb_at tkX11_taken 42 rfl) rfl rfl ?_
          refine r_invV (mc' := 0) (ms' := 0) [.inl v1] (S := []) (pc := 75) (tb_at tkX11_taken 43 rfl) rfl ly_66 rfl rfl clX11_140 (Nat.le_of_ble_eq_true rfl) (Nat.le_refl _) (Nat.le_refl _) ?_
          refine Cal.mono h ?_
          rintro _ _ M5 ⟨x6, rfl, rfl, h⟩
          show OkI G miX11_taken (d + 1) K 78 [some (.inr (.inr (some 66))), some (.inl v1), some (.inl v2), some (.inl (M3 67 (78 + v1).toNat)), some (.inl (if v2 = 0 then (1 : Int) else (if v2 = (M3 67 (78 + v1).toNat) then (1 : Int) else (if v2 = 1 then (if (M3 67 (78 + v1).toNat) = 3 then (1 : Int) else (if v2 = 2 then (if (M3 67 (78 + v1).toNat) = 4 then (1 : Int) else 0) else 0)) else (if v2 = 2 then (if (M3 67 (78 + v1).toNat) = 4 then (1 : Int) else 0) else 0)))))] [.inl x6] M5
          refine r_goto (tgt := 83) (pc := 78) (tb_at tkX11_taken 44 rfl) (by decide) ?_
          exact r_iret (pc := 83) (tb_at tkX11_taken 46 rfl) rfl (Nat.le_refl _) (Nat.le_refl _) ⟨_, rfl, rfl, h⟩
      refine q_if_eq (tgt := 61) (pc := 33) (tb_at tkX11_taken 19 rfl) (by decide) (fun c8 => ?_) (fun c8 => ?_)
      · refine r_iconst (pc := 61) (tb_at tkX11_taken 35 rfl) ⟨by decide, by decide⟩ ?_
        refine r_goto (tgt := 66) (pc := 62) (tb_at tkX11_taken 36 rfl) (by decide) ?_
        exact hJ7 _ (by simp only [if_pos c8])
      · refine r_iload_n (pc := 36) (tb_at tkX11_taken 20 rfl) rfl rfl ?_
        refine r_iload_n (pc := 37) (tb_at tkX11_taken 21 rfl) rfl rfl ?_
        refine q_icmp_eq (tgt := 61) (pc := 38) (tb_at tkX11_taken 22 rfl) (by decide) (fun c9 => ?_) (fun c9 => ?_)
        · refine r_iconst (pc := 61) (tb_at tkX11_taken 35 rfl) ⟨by decide, by decide⟩ ?_
          refine r_goto (tgt := 66) (pc := 62) (tb_at tkX11_taken 36 rfl) (by decide) ?_
          exact hJ7 _ (by simp only [if_neg c8, if_pos c9])
        · refine r_iload_n (pc := 41) (tb_at tkX11_taken 23 rfl) rfl rfl ?_
          refine r_iconst (pc := 42) (tb_at tkX11_taken 24 rfl) ⟨by decide, by decide⟩ ?_
          refine q_icmp_ne (tgt := 51) (pc := 43) (tb_at tkX11_taken 25 rfl) (by decide) (fun c10 => ?_) (fun c10 => ?_)
          · refine r_iload_n (pc := 51) (tb_at tkX11_taken 29 rfl) rfl rfl ?_
            refine r_iconst (pc := 52) (tb_at tkX11_taken 30 rfl) ⟨by decide, by decide⟩ ?_
            refine q_icmp_ne (tgt := 65) (pc := 53) (tb_at tkX11_taken 31 rfl) (by decide) (fun c11 => ?_) (fun c11 => ?_)
            · refine r_iconst (pc := 65) (tb_at tkX11_taken 37 rfl) ⟨by decide, by decide⟩ ?_
              exact hJ7 _ (by simp only [if_neg c8, if_neg c9, if_neg c10, if_neg c11])
            · refine r_iload_n (pc := 56) (tb_at tkX11_taken 32 rfl) rfl rfl ?_
              refine r_iconst (pc := 57) (tb_at tkX11_taken 33 rfl) ⟨by decide, by decide⟩ ?_
              refine q_icmp_ne (tgt := 65) (pc := 58) (tb_at tkX11_taken 34 rfl) (by decide) (fun c12 => ?_) (fun c12 => ?_)
              · refine r_iconst (pc := 65) (tb_at tkX11_taken 37 rfl) ⟨by decide, by decide⟩ ?_
                exact hJ7 _ (by simp only [if_neg c8, if_neg c9, if_neg c10, if_pos c11, if_neg c12])
              · refine r_iconst (pc := 61) (tb_at tkX11_taken 35 rfl) ⟨by decide, by decide⟩ ?_
                refine r_goto (tgt := 66) (pc := 62) (tb_at tkX11_taken 36 rfl) (by decide) ?_
                exact hJ7 _ (by simp only [if_neg c8, if_neg c9, if_neg c10, if_pos c11, if_pos c12])
          · refine r_iload_n (pc := 46) (tb_at tkX11_taken 26 rfl) rfl rfl ?_
            refine r_iconst (pc := 47) (tb_at tkX11_taken 27 rfl) ⟨by decide, by decide⟩ ?_
            refine q_icmp_eq (tgt := 61) (pc := 48) (tb_at tkX11_taken 28 rfl) (by decide) (fun c13 => ?_) (fun c13 => ?_)
            · refine r_iconst (pc := 61) (tb_at tkX11_taken 35 rfl) ⟨by decide, by decide⟩ ?_
              refine r_goto (tgt := 66) (pc := 62) (tb_at tkX11_taken 36 rfl) (by decide) ?_
              exact hJ7 _ (by simp only [if_neg c8, if_neg c9, if_pos c10, if_pos c13])
            · refine r_iload_n (pc := 51) (tb_at tkX11_taken 29 rfl) rfl rfl ?_
              refine r_iconst (pc := 52) (tb_at tkX11_taken 30 rfl) ⟨by decide, by decide⟩ ?_
              refine q_icmp_ne (tgt := 65) (pc := 53) (tb_at tkX11_taken 31 rfl) (by decide) (fun c14 => ?_) (fun c14 => ?_)
              · refine r_iconst (pc := 65) (tb_at tkX11_taken 37 rfl) ⟨by decide, by decide⟩ ?_
                exact hJ7 _ (by simp only [if_neg c8, if_neg c9, if_pos c10, if_neg c13, if_neg c14])
              · refine r_iload_n (pc := 56) (tb_at tkX11_taken 32 rfl) rfl rfl ?_
                refine r_iconst (pc := 57) (tb_at tkX11_taken 33 rfl) ⟨by decide, by decide⟩ ?_
                refine q_icmp_ne (tgt := 65) (pc := 58) (tb_at tkX11_taken 34 rfl) (by decide) (fun c15 => ?_) (fun c15 => ?_)
                · refine r_iconst (pc := 65) (tb_at tkX11_taken 37 rfl) ⟨by decide, by decide⟩ ?_
                  exact hJ7 _ (by simp only [if_neg c8, if_neg c9, if_pos c10, if_neg c13, if_pos c14, if_neg c15])
                · refine r_iconst (pc := 61) (tb_at tkX11_taken 35 rfl) ⟨by decide, by decide⟩ ?_
                  refine r_goto (tgt := 66) (pc := 62) (tb_at tkX11_taken 36 rfl) (by decide) ?_
                  exact hJ7 _ (by simp only [if_neg c8, if_neg c9, if_pos c10, if_neg c13, if_pos c14, if_pos c15])
    · replace h := h.2 c
      refine r_bipush (pc := 19) (tb_at tkX11_taken 9 rfl) ⟨by decide, by decide, by decide⟩ ?_
      exact r_iret (pc := 21) (tb_at tkX11_taken 10 rfl) rfl (Nat.le_refl _) (Nat.le_refl _) ⟨_, rfl, rfl, h⟩
set_option maxRecDepth 100000 in
set_option maxHeartbeats 4000000 in
theorem gX11_base_0 {G : GE} {d : Nat} {K : Int → Mem → Prop} {M : Mem} {v1 : Int}  (h : CalI G miX11_in d [.inr (.inl v1), .inr (.inl 0), .inr (.inl 15)] M (fun x2 M1 => ((x2 = 0 → K (-2) M1) ∧ (¬ x2 = 0 → CalI G miX11_becomes d [.inr (.inr (some 66)), .inl 86, .inl v1] M1 (fun x4 M3 => K x4 M3))))) : OkI G miX11_base (d + 1) K 0 [some (.inr (.inr (some 66))), some (.inl v1)] [] M := by
  refine r_iload_n (pc := 0) (tb_at tkX11_base 0 rfl) rfl rfl ?_
  refine r_i2l (pc := 1) (tb_at tkX11_base 1 rfl) ?_
  refine r_lconst (v := 0) (pc := 2) (tb_at tkX11_base 2 rfl) ⟨by decide, by decide, by decide⟩ ?_
  refine r_ldc2 (n := 15) (pc := 3) (tb_at tkX11_base 3 rfl) kcX11_146 ⟨by decide, by decide⟩ ?_
  refine r_invS (mc' := 0) (ms' := 0) [.inr (.inl v1), .inr (.inl 0), .inr (.inl 15)] (S := []) (pc := 6) (tb_at tkX11_base 4 rfl) rfl clX11_103 (Nat.le_of_ble_eq_true rfl) (Nat.le_refl _) (Nat.le_refl _) ?_
  refine Cal.mono h ?_
  rintro _ _ M1 ⟨x2, rfl, rfl, h⟩
  show OkI G miX11_base (d + 1) K 9 [some (.inr (.inr (some 66))), some (.inl v1)] [.inl x2] M1
  refine q_if_eq (tgt := 22) (pc := 9) (tb_at tkX11_base 5 rfl) (by decide) (fun c => ?_) (fun c => ?_)
  · replace h := h.1 c
    refine r_bipush (pc := 22) (tb_at tkX11_base 11 rfl) ⟨by decide, by decide, by decide⟩ ?_
    exact r_iret (pc := 24) (tb_at tkX11_base 12 rfl) rfl (Nat.le_refl _) (Nat.le_refl _) ⟨_, rfl, rfl, h⟩
  · replace h := h.2 c
    refine r_aload_n (pc := 12) (tb_at tkX11_base 6 rfl) rfl rfl ?_
    refine r_bipush (pc := 13) (tb_at tkX11_base 7 rfl) ⟨by decide, by decide, by decide⟩ ?_
    refine r_iload_n (pc := 15) (tb_at tkX11_base 8 rfl) rfl rfl ?_
    refine r_invV (mc' := 0) (ms' := 0) [.inl 86, .inl v1] (S := []) (pc := 16) (tb_at tkX11_base 9 rfl) rfl ly_66 rfl rfl clX11_126 (Nat.le_of_ble_eq_true rfl) (Nat.le_refl _) (Nat.le_refl _) ?_
    refine Cal.mono h ?_
    rintro _ _ M3 ⟨x4, rfl, rfl, h⟩
    show OkI G miX11_base (d + 1) K 19 [some (.inr (.inr (some 66))), some (.inl v1)] [.inl x4] M3
    refine r_goto (tgt := 24) (pc := 19) (tb_at tkX11_base 10 rfl) (by decide) ?_
    exact r_iret (pc := 24) (tb_at tkX11_base 12 rfl) rfl (Nat.le_refl _) (Nat.le_refl _) ⟨_, rfl, rfl, h⟩
set_option maxRecDepth 100000 in
set_option maxHeartbeats 4000000 in
theorem gX11_fee_0 {G : GE} {d : Nat} {K : Int → Mem → Prop} {M : Mem} {v1 v2 : Int}  (h : CalI G miX11_in d [.inr (.inl v1), .inr (.inl 0), .inr (.inl 4)] M (fun x2 M1 => ((x2 = 0 → K (-2) M1) ∧ (¬ x2 = 0 → CalI G miX11_in d [.inr (.inl v2), .inr (.inl 0), .inr (.inl (if v1 = 1 then (9 : Int) else (if v1 = 4 then (20 : Int) else 99)))] M1 (fun x4 M3 => ((¬ x4 = 0 → CalI G miX11_becomes d [.inr (.inr (some 66)), .inl (w32 (87 + v1)), .inl v2] M3 (fun x6 M5 => K x6 M5)) ∧ (x4 = 0 → K (-2) M3))))))) : OkI G miX11_fee (d + 1) K 0 [some (.inr (.inr (some 66))), some (.inl v1), some (.inl v2)] [] M := by
  refine r_iload_n (pc := 0) (tb_at tkX11_fee 0 rfl) rfl rfl ?_
  refine r_i2l (pc := 1) (tb_at tkX11_fee 1 rfl) ?_
  refine r_lconst (v := 0) (pc := 2) (tb_at tkX11_fee 2 rfl) ⟨by decide, by decide, by decide⟩ ?_
  refine r_ldc2 (n := 4) (pc := 3) (tb_at tkX11_fee 3 rfl) kcX11_148 ⟨by decide, by decide⟩ ?_
  refine r_invS (mc' := 0) (ms' := 0) [.inr (.inl v1), .inr (.inl 0), .inr (.inl 4)] (S := []) (pc := 6) (tb_at tkX11_fee 4 rfl) rfl clX11_103 (Nat.le_of_ble_eq_true rfl) (Nat.le_refl _) (Nat.le_refl _) ?_
  refine Cal.mono h ?_
  rintro _ _ M1 ⟨x2, rfl, rfl, h⟩
  show OkI G miX11_fee (d + 1) K 9 [some (.inr (.inr (some 66))), some (.inl v1), some (.inl v2)] [.inl x2] M1
  refine q_if_eq (tgt := 46) (pc := 9) (tb_at tkX11_fee 5 rfl) (by decide) (fun c => ?_) (fun c => ?_)
  · replace h := h.1 c
    refine r_bipush (pc := 46) (tb_at tkX11_fee 22 rfl) ⟨by decide, by decide, by decide⟩ ?_
    exact r_iret (pc := 48) (tb_at tkX11_fee 23 rfl) rfl (Nat.le_refl _) (Nat.le_refl _) ⟨_, rfl, rfl, h⟩
  · replace h := h.2 c
    refine r_iload_n (pc := 12) (tb_at tkX11_fee 6 rfl) rfl rfl ?_
    refine r_i2l (pc := 13) (tb_at tkX11_fee 7 rfl) ?_
    refine r_lconst (v := 0) (pc := 14) (tb_at tkX11_fee 8 rfl) ⟨by decide, by decide, by decide⟩ ?_
    refine r_iload_n (pc := 15) (tb_at tkX11_fee 9 rfl) rfl rfl ?_
    refine r_iconst (pc := 16) (tb_at tkX11_fee 10 rfl) ⟨by decide, by decide⟩ ?_
    have hJ7 : ∀ t0 : Int, t0 = (if v1 = 1 then (9 : Int) else (if v1 = 4 then (20 : Int) else 99)) → OkI G miX11_fee (d + 1) K 40 [some (.inr (.inr (some 66))), some (.inl v1), some (.inl v2)] [.inr (.inl t0), .inr (.inl 0), .inr (.inl v2)] M1 := by
      rintro _ rfl
      refine r_invS (mc' := 0) (ms' := 0) [.inr (.inl v2), .inr (.inl 0), .inr (.inl (if v1 = 1 then (9 : Int) else (if v1 = 4 then (20 : Int) else 99)))] (S := []) (pc := 40) (tb_at tkX11_fee 20 rfl) rfl clX11_103 (Nat.le_of_ble_eq_true rfl) (Nat.le_refl _) (Nat.le_refl _) ?_
      refine Cal.mono h ?_
      rintro _ _ M3 ⟨x4, rfl, rfl, h⟩
      show OkI G miX11_fee (d + 1) K 43 [some (.inr (.inr (some 66))), some (.inl v1), some (.inl v2)] [.inl x4] M3
      refine q_if_ne (tgt := 49) (pc := 43) (tb_at tkX11_fee 21 rfl) (by decide) (fun c => ?_) (fun c => ?_)
      · replace h := h.1 c
        refine r_aload_n (pc := 49) (tb_at tkX11_fee 24 rfl) rfl rfl ?_
        refine r_bipush (pc := 50) (tb_at tkX11_fee 25 rfl) ⟨by decide, by decide, by decide⟩ ?_
        refine r_iload_n (pc := 52) (tb_at tkX11_fee 26 rfl) rfl rfl ?_
        refine r_iadd (pc := 53) (tb_at tkX11_fee 27 rfl) ?_
        refine r_iload_n (pc := 54) (tb_at tkX11_fee 28 rfl) rfl rfl ?_
        refine r_invV (mc' := 0) (ms' := 0) [.inl (w32 (87 + v1)), .inl v2] (S := []) (pc := 55) (tb_at tkX11_fee 29 rfl) rfl ly_66 rfl rfl clX11_126 (Nat.le_of_ble_eq_true rfl) (Nat.le_refl _) (Nat.le_refl _) ?_
        refine Cal.mono h ?_
        rintro _ _ M5 ⟨x6, rfl, rfl, h⟩
        show OkI G miX11_fee (d + 1) K 58 [some (.inr (.inr (some 66))), some (.inl v1), some (.inl v2)] [.inl x6] M5
        exact r_iret (pc := 58) (tb_at tkX11_fee 30 rfl) rfl (Nat.le_refl _) (Nat.le_refl _) ⟨_, rfl, rfl, h⟩
      · replace h := h.2 c
        refine r_bipush (pc := 46) (tb_at tkX11_fee 22 rfl) ⟨by decide, by decide, by decide⟩ ?_
        exact r_iret (pc := 48) (tb_at tkX11_fee 23 rfl) rfl (Nat.le_refl _) (Nat.le_refl _) ⟨_, rfl, rfl, h⟩
    refine q_icmp_ne (tgt := 26) (pc := 17) (tb_at tkX11_fee 11 rfl) (by decide) (fun c8 => ?_) (fun c8 => ?_)
    · refine r_iload_n (pc := 26) (tb_at tkX11_fee 14 rfl) rfl rfl ?_
      refine r_iconst (pc := 27) (tb_at tkX11_fee 15 rfl) ⟨by decide, by decide⟩ ?_
      refine q_icmp_ne (tgt := 37) (pc := 28) (tb_at tkX11_fee 16 rfl) (by decide) (fun c9 => ?_) (fun c9 => ?_)
      · refine r_ldc2 (n := 99) (pc := 37) (tb_at tkX11_fee 19 rfl) kcX11_152 ⟨by decide, by decide⟩ ?_
        exact hJ7 _ (by simp only [if_neg c8, if_neg c9])
      · refine r_ldc2 (n := 20) (pc := 31) (tb_at tkX11_fee 17 rfl) kcX11_150 ⟨by decide, by decide⟩ ?_
        refine r_goto (tgt := 40) (pc := 34) (tb_at tkX11_fee 18 rfl) (by decide) ?_
        exact hJ7 _ (by simp only [if_neg c8, if_pos c9])
    · refine r_ldc2 (n := 9) (pc := 20) (tb_at tkX11_fee 12 rfl) kcX11_124 ⟨by decide, by decide⟩ ?_
      refine r_goto (tgt := 40) (pc := 23) (tb_at tkX11_fee 13 rfl) (by decide) ?_
      exact hJ7 _ (by simp only [if_pos c8])
set_option maxRecDepth 100000 in
set_option maxHeartbeats 4000000 in
theorem gX11_markOf_0 {G : GE} {d : Nat} {K : Int → Mem → Prop} {M : Mem} {v1 v2 : Int}  (h : (0 ≤ (29 + (7 * v1)) + v2 ∧ (29 + (7 * v1)) + v2 < 92) ∧ K (M 67 ((29 + (7 * v1)) + v2).toNat) M) : OkI G miX11_markOf d K 0 [some (.inr (.inr (some 66))), some (.inl v1), some (.inl v2)] [] M := by
  refine r_aload_n (pc := 0) (tb_at tkX11_markOf 0 rfl) rfl rfl ?_
  refine r_get 10 0 (pc := 1) (tb_at tkX11_markOf 1 rfl) ly_66 flX11_11 rfl ?_
  refine r_bipush (pc := 4) (tb_at tkX11_markOf 2 rfl) ⟨by decide, by decide, by decide⟩ ?_
  refine r_bipush (pc := 6) (tb_at tkX11_markOf 3 rfl) ⟨by decide, by decide, by decide⟩ ?_
  refine r_iload_n (pc := 8) (tb_at tkX11_markOf 4 rfl) rfl rfl ?_
  refine r_imul (pc := 9) (tb_at tkX11_markOf 5 rfl) ?_
  refine r_iadd_r (pc := 10) (tb_at tkX11_markOf 6 rfl) ?_
  refine r_iload_n (pc := 11) (tb_at tkX11_markOf 7 rfl) rfl rfl ?_
  refine r_iadd_l (pc := 12) (tb_at tkX11_markOf 8 rfl) ?_
  refine r_iald_w (pc := 13) (tb_at tkX11_markOf 9 rfl) ly_67 (by decide) h.1.1 h.1.2 ?_
  replace h := h.2
  exact r_iret (pc := 14) (tb_at tkX11_markOf 10 rfl) rfl (Nat.le_refl _) (Nat.le_refl _) ⟨_, rfl, rfl, h⟩
set_option maxRecDepth 100000 in
set_option maxHeartbeats 4000000 in
theorem gX11_mark_0 {G : GE} {d : Nat} {K : Int → Mem → Prop} {M : Mem} {v1 v2 v3 : Int}  (h : CalI G miX11_areTwo d [.inr (.inr (some 66)), .inl v1, .inl v2] M (fun x2 M1 => ((x2 = 0 → K (-2) M1) ∧ (¬ x2 = 0 → CalI G miX11_in d [.inr (.inl v3), .inr (.inl 0), .inr (.inl 2)] M1 (fun x4 M3 => ((x4 = 0 → K (-2) M3) ∧ (¬ x4 = 0 → CalI G miX11_becomes d [.inr (.inr (some 66)), .inl (w32 ((29 + (7 * v1)) + v2)), .inl v3] M3 (fun x6 M5 => K x6 M5)))))))) : OkI G miX11_mark (d + 1) K 0 [some (.inr (.inr (some 66))), some (.inl v1), some (.inl v2), some (.inl v3)] [] M := by
  refine r_aload_n (pc := 0) (tb_at tkX11_mark 0 rfl) rfl rfl ?_
  refine r_iload_n (pc := 1) (tb_at tkX11_mark 1 rfl) rfl rfl ?_
  refine r_iload_n (pc := 2) (tb_at tkX11_mark 2 rfl) rfl rfl ?_
  refine r_invV (mc' := 0) (ms' := 0) [.inl v1, .inl v2] (S := []) (pc := 3) (tb_at tkX11_mark 3 rfl) rfl ly_66 rfl rfl clX11_154 (Nat.le_of_ble_eq_true rfl) (Nat.le_refl _) (Nat.le_refl _) ?_
  refine Cal.mono h ?_
  rintro _ _ M1 ⟨x2, rfl, rfl, h⟩
  show OkI G miX11_mark (d + 1) K 6 [some (.inr (.inr (some 66))), some (.inl v1), some (.inl v2), some (.inl v3)] [.inl x2] M1
  refine q_if_eq (tgt := 38) (pc := 6) (tb_at tkX11_mark 4 rfl) (by decide) (fun c => ?_) (fun c => ?_)
  · replace h := h.1 c
    refine r_bipush (pc := 38) (tb_at tkX11_mark 22 rfl) ⟨by decide, by decide, by decide⟩ ?_
    exact r_iret (pc := 40) (tb_at tkX11_mark 23 rfl) rfl (Nat.le_refl _) (Nat.le_refl _) ⟨_, rfl, rfl, h⟩
  · replace h := h.2 c
    refine r_iload_n (pc := 9) (tb_at tkX11_mark 5 rfl) rfl rfl ?_
    refine r_i2l (pc := 10) (tb_at tkX11_mark 6 rfl) ?_
    refine r_lconst (v := 0) (pc := 11) (tb_at tkX11_mark 7 rfl) ⟨by decide, by decide, by decide⟩ ?_
    refine r_ldc2 (n := 2) (pc := 12) (tb_at tkX11_mark 8 rfl) kcX11_157 ⟨by decide, by decide⟩ ?_
    refine r_invS (mc' := 0) (ms' := 0) [.inr (.inl v3), .inr (.inl 0), .inr (.inl 2)] (S := []) (pc := 15) (tb_at tkX11_mark 9 rfl) rfl clX11_103 (Nat.le_of_ble_eq_true rfl) (Nat.le_refl _) (Nat.le_refl _) ?_
    refine Cal.mono h ?_
    rintro _ _ M3 ⟨x4, rfl, rfl, h⟩
    show OkI G miX11_mark (d + 1) K 18 [some (.inr (.inr (some 66))), some (.inl v1), some (.inl v2), some (.inl v3)] [.inl x4] M3
    refine q_if_eq (tgt := 38) (pc := 18) (tb_at tkX11_mark 10 rfl) (by decide) (fun c => ?_) (fun c => ?_)
    · replace h := h.1 c
      refine r_bipush (pc := 38) (tb_at tkX11_mark 22 rfl) ⟨by decide, by decide, by decide⟩ ?_
      exact r_iret (pc := 40) (tb_at tkX11_mark 23 rfl) rfl (Nat.le_refl _) (Nat.le_refl _) ⟨_, rfl, rfl, h⟩
    · replace h := h.2 c
      refine r_aload_n (pc := 21) (tb_at tkX11_mark 11 rfl) rfl rfl ?_
      refine r_bipush (pc := 22) (tb_at tkX11_mark 12 rfl) ⟨by decide, by decide, by decide⟩ ?_
      refine r_bipush (pc := 24) (tb_at tkX11_mark 13 rfl) ⟨by decide, by decide, by decide⟩ ?_
      refine r_iload_n (pc := 26) (tb_at tkX11_mark 14 rfl) rfl rfl ?_
      refine r_imul (pc := 27) (tb_at tkX11_mark 15 rfl) ?_
      refine r_iadd_r (pc := 28) (tb_at tkX11_mark 16 rfl) ?_
      refine r_iload_n (pc := 29) (tb_at tkX11_mark 17 rfl) rfl rfl ?_
      refine r_iadd_l (pc := 30) (tb_at tkX11_mark 18 rfl) ?_
      refine r_iload_n (pc := 31) (tb_at tkX11_mark 19 rfl) rfl rfl ?_
      refine r_invV (mc' := 0) (ms' := 0) [.inl (w32 ((29 + (7 * v1)) + v2)), .inl v3] (S := []) (pc := 32) (tb_at tkX11_mark 20 rfl) rfl ly_66 rfl rfl clX11_126 (Nat.le_of_ble_eq_true rfl) (Nat.le_refl _) (Nat.le_refl _) ?_
      refine Cal.mono h ?_
      rintro _ _ M5 ⟨x6, rfl, rfl, h⟩
      show OkI G miX11_mark (d + 1) K 35 [some (.inr (.inr (some 66))), some (.inl v1), some (.inl v2), some (.inl v3)] [.inl x6] M5
      refine r_goto (tgt := 40) (pc := 35) (tb_at tkX11_mark 21 rfl) (by decide) ?_
      exact r_iret (pc := 40) (tb_at tkX11_mark 23 rfl) rfl (Nat.le_refl _) (Nat.le_refl _) ⟨_, rfl, rfl, h⟩
set_option maxRecDepth 100000 in
set_option maxHeartbeats 4000000 in
theorem gX11_gap_0 {G : GE} {d : Nat} {K : Int → Mem → Prop} {M : Mem} {v1 v2 : Int}  (h : (0 ≤ 15 + v2 ∧ 15 + v2 < 92) ∧ (0 ≤ 22 + v1 ∧ 22 + v1 < 92) ∧ K (w32 ((M 67 (15 + v2).toNat) - (M 67 (22 + v1).toNat))) M) : OkI G miX11_gap d K 0 [some (.inr (.inr (some 66))), some (.inl v1), some (.inl v2)] [] M := by
  refine r_aload_n (pc := 0) (tb_at tkX11_gap 0 rfl) rfl rfl ?_
  refine r_get 10 0 (pc := 1) (tb_at tkX11_gap 1 rfl) ly_66 flX11_11 rfl ?_
  refine r_bipush (pc := 4) (tb_at tkX11_gap 2 rfl) ⟨by decide, by decide, by decide⟩ ?_
  refine r_iload_n (pc := 6) (tb_at tkX11_gap 3 rfl) rfl rfl ?_
  refine r_iadd (pc := 7) (tb_at tkX11_gap 4 rfl) ?_
  refine r_iald_w (pc := 8) (tb_at tkX11_gap 5 rfl) ly_67 (by decide) h.1.1 h.1.2 ?_
  replace h := h.2
  refine r_aload_n (pc := 9) (tb_at tkX11_gap 6 rfl) rfl rfl ?_
  refine r_get 10 0 (pc := 10) (tb_at tkX11_gap 7 rfl) ly_66 flX11_11 rfl ?_
  refine r_bipush (pc := 13) (tb_at tkX11_gap 8 rfl) ⟨by decide, by decide, by decide⟩ ?_
  refine r_iload_n (pc := 15) (tb_at tkX11_gap 9 rfl) rfl rfl ?_
  refine r_iadd (pc := 16) (tb_at tkX11_gap 10 rfl) ?_
  refine r_iald_w (pc := 17) (tb_at tkX11_gap 11 rfl) ly_67 (by decide) h.1.1 h.1.2 ?_
  replace h := h.2
  refine r_isub (pc := 18) (tb_at tkX11_gap 12 rfl) ?_
  exact r_iret (pc := 19) (tb_at tkX11_gap 13 rfl) rfl (Nat.le_refl _) (Nat.le_refl _) ⟨_, rfl, rfl, h⟩
set_option maxRecDepth 100000 in
set_option maxHeartbeats 4000000 in
theorem gX11_followsBy_0 {G : GE} {d : Nat} {K : Int → Mem → Prop} {M : Mem} {v1 v2 : Int}  (h : (0 ≤ 8 + v1 ∧ 8 + v1 < 92) ∧ ((v1 = v2 → K 0 M) ∧ (¬ v1 = v2 → (0 ≤ 1 + v2 ∧ 1 + v2 < 92) ∧ (((M 67 (1 + v2).toNat) = (M 67 (8 + v1).toNat) → CalI G miX11_gap d [.inr (.inr (some 66)), .inl v1, .inl v2] M (fun x2 M1 => CalI G miX11_rest d [.inr (.inr (some 66)), .inl (M 67 (8 + v1).toNat)] M1 (fun x4 M3 => ((x2 < x4 → CalI G miX11_gap d [.inr (.inr (some 66)), .inl v1, .inl v2] M3 (fun x6 M5 => CalI G miX11_sit d [.inr (.inr (some 66)), .inl (M 67 (8 + v1).toNat)] M5 (fun x8 M7 => ((x6 < x8 → K 0 M7) ∧ (x8 ≤ x6 → K 1 M7))))) ∧ (x4 ≤ x2 → K 2 M3))))) ∧ (¬ (M 67 (1 + v2).toNat) = (M 67 (8 + v1).toNat) → K 0 M))))) : OkI G miX11_followsBy (d + 1) K 0 [some (.inr (.inr (some 66))), some (.inl v1), some (.inl v2), none] [] M := by
  refine r_aload_n (pc := 0) (tb_at tkX11_followsBy 0 rfl) rfl rfl ?_
  refine r_get 10 0 (pc := 1) (tb_at tkX11_followsBy 1 rfl) ly_66 flX11_11 rfl ?_
  refine r_bipush (pc := 4) (tb_at tkX11_followsBy 2 rfl) ⟨by decide, by decide, by decide⟩ ?_
  refine r_iload_n (pc := 6) (tb_at tkX11_followsBy 3 rfl) rfl rfl ?_
  refine r_iadd (pc := 7) (tb_at tkX11_followsBy 4 rfl) ?_
  refine r_iald_w (pc := 8) (tb_at tkX11_followsBy 5 rfl) ly_67 (by decide) h.1.1 h.1.2 ?_
  replace h := h.2
  refine r_istore_n (L' := [some (.inr (.inr (some 66))), some (.inl v1), some (.inl v2), some (.inl (M 67 (8 + v1).toNat))]) (pc := 9) (tb_at tkX11_followsBy 6 rfl) rfl (by decide) rfl ?_
  refine r_iload_n (pc := 10) (tb_at tkX11_followsBy 7 rfl) rfl rfl ?_
  refine r_iload_n (pc := 11) (tb_at tkX11_followsBy 8 rfl) rfl rfl ?_
  refine q_icmp_eq (tgt := 27) (pc := 12) (tb_at tkX11_followsBy 9 rfl) (by decide) (fun c => ?_) (fun c => ?_)
  · replace h := h.1 c
    refine r_iconst (pc := 27) (tb_at tkX11_followsBy 18 rfl) ⟨by decide, by decide⟩ ?_
    exact r_iret (pc := 28) (tb_at tkX11_followsBy 19 rfl) rfl (Nat.le_refl _) (Nat.le_refl _) ⟨_, rfl, rfl, h⟩
  · replace h := h.2 c
    refine r_aload_n (pc := 15) (tb_at tkX11_followsBy 10 rfl) rfl rfl ?_
    refine r_get 10 0 (pc := 16) (tb_at tkX11_followsBy 11 rfl) ly_66 flX11_11 rfl ?_
    refine r_iconst (pc := 19) (tb_at tkX11_followsBy 12 rfl) ⟨by decide, by decide⟩ ?_
    refine r_iload_n (pc := 20) (tb_at tkX11_followsBy 13 rfl) rfl rfl ?_
    refine r_iadd (pc := 21) (tb_at tkX11_followsBy 14 rfl) ?_
    refine r_iald_w (pc := 22) (tb_at tkX11_followsBy 15 rfl) ly_67 (by decide) h.1.1 h.1.2 ?_
    replace h := h.2
    refine r_iload_n (pc := 23) (tb_at tkX11_followsBy 16 rfl) rfl rfl ?_
    refine q_icmp_eq (tgt := 29) (pc := 24) (tb_at tkX11_followsBy 17 rfl) (by decide) (fun c => ?_) (fun c => ?_)
    · replace h := h.1 c
      refine r_aload_n (pc := 29) (tb_at tkX11_followsBy 20 rfl) rfl rfl ?_
      refine r_iload_n (pc := 30) (tb_at tkX11_followsBy 21 rfl) rfl rfl ?_
      refine r_iload_n (pc := 31) (tb_at tkX11_followsBy 22 rfl) rfl rfl ?_
      refine r_invV (mc' := 0) (ms' := 0) [.inl v1, .inl v2] (S := []) (pc := 32) (tb_at tkX11_followsBy 23 rfl) rfl ly_66 rfl rfl clX11_159 (Nat.le_of_ble_eq_true rfl) (Nat.le_refl _) (Nat.le_refl _) ?_
      refine Cal.mono h ?_
      rintro _ _ M1 ⟨x2, rfl, rfl, h⟩
      show OkI G miX11_followsBy (d + 1) K 35 [some (.inr (.inr (some 66))), some (.inl v1), some (.inl v2), some (.inl (M 67 (8 + v1).toNat))] [.inl x2] M1
      refine r_aload_n (pc := 35) (tb_at tkX11_followsBy 24 rfl) rfl rfl ?_
      refine r_iload_n (pc := 36) (tb_at tkX11_followsBy 25 rfl) rfl rfl ?_
      refine r_invV (mc' := 0) (ms' := 0) [.inl (M 67 (8 + v1).toNat)] (S := [.inl x2]) (pc := 37) (tb_at tkX11_followsBy 26 rfl) rfl ly_66 rfl rfl clX11_134 (Nat.le_of_ble_eq_true rfl) (Nat.le_refl _) (Nat.le_refl _) ?_
      refine Cal.mono h ?_
      rintro _ _ M3 ⟨x4, rfl, rfl, h⟩
      show OkI G miX11_followsBy (d + 1) K 40 [some (.inr (.inr (some 66))), some (.inl v1), some (.inl v2), some (.inl (M 67 (8 + v1).toNat))] [.inl x4, .inl x2] M3
      refine q_icmp_lt (tgt := 47) (pc := 40) (tb_at tkX11_followsBy 27 rfl) (by decide) (fun c => ?_) (fun c => ?_)
      · replace h := h.1 c
        refine r_aload_n (pc := 47) (tb_at tkX11_followsBy 30 rfl) rfl rfl ?_
        refine r_iload_n (pc := 48) (tb_at tkX11_followsBy 31 rfl) rfl rfl ?_
        refine r_iload_n (pc := 49) (tb_at tkX11_followsBy 32 rfl) rfl rfl ?_
        refine r_invV (mc' := 0) (ms' := 0) [.inl v1, .inl v2] (S := []) (pc := 50) (tb_at tkX11_followsBy 33 rfl) rfl ly_66 rfl rfl clX11_159 (Nat.le_of_ble_eq_true rfl) (Nat.le_refl _) (Nat.le_refl _) ?_
        refine Cal.mono h ?_
        rintro _ _ M5 ⟨x6, rfl, rfl, h⟩
        show OkI G miX11_followsBy (d + 1) K 53 [some (.inr (.inr (some 66))), some (.inl v1), some (.inl v2), some (.inl (M 67 (8 + v1).toNat))] [.inl x6] M5
        refine r_aload_n (pc := 53) (tb_at tkX11_followsBy 34 rfl) rfl rfl ?_
        refine r_iload_n (pc := 54) (tb_at tkX11_followsBy 35 rfl) rfl rfl ?_
        refine r_invV (mc' := 0) (ms' := 0) [.inl (M 67 (8 + v1).toNat)] (S := [.inl x6]) (pc := 55) (tb_at tkX11_followsBy 36 rfl) rfl ly_66 rfl rfl clX11_130 (Nat.le_of_ble_eq_true rfl) (Nat.le_refl _) (Nat.le_refl _) ?_
        refine Cal.mono h ?_
        rintro _ _ M7 ⟨x8, rfl, rfl, h⟩
        show OkI G miX11_followsBy (d + 1) K 58 [some (.inr (.inr (some 66))), some (.inl v1), some (.inl v2), some (.inl (M 67 (8 + v1).toNat))] [.inl x8, .inl x6] M7
        refine q_icmp_lt (tgt := 65) (pc := 58) (tb_at tkX11_followsBy 37 rfl) (by decide) (fun c => ?_) (fun c => ?_)
        · replace h := h.1 c
          refine r_iconst (pc := 65) (tb_at tkX11_followsBy 40 rfl) ⟨by decide, by decide⟩ ?_
          exact r_iret (pc := 66) (tb_at tkX11_followsBy 41 rfl) rfl (Nat.le_refl _) (Nat.le_refl _) ⟨_, rfl, rfl, h⟩
        · replace h := h.2 c
          refine r_iconst (pc := 61) (tb_at tkX11_followsBy 38 rfl) ⟨by decide, by decide⟩ ?_
          refine r_goto (tgt := 66) (pc := 62) (tb_at tkX11_followsBy 39 rfl) (by decide) ?_
          exact r_iret (pc := 66) (tb_at tkX11_followsBy 41 rfl) rfl (Nat.le_refl _) (Nat.le_refl _) ⟨_, rfl, rfl, h⟩
      · replace h := h.2 c
        refine r_iconst (pc := 43) (tb_at tkX11_followsBy 28 rfl) ⟨by decide, by decide⟩ ?_
        refine r_goto (tgt := 66) (pc := 44) (tb_at tkX11_followsBy 29 rfl) (by decide) ?_
        exact r_iret (pc := 66) (tb_at tkX11_followsBy 41 rfl) rfl (Nat.le_refl _) (Nat.le_refl _) ⟨_, rfl, rfl, h⟩
    · replace h := h.2 c
      refine r_iconst (pc := 27) (tb_at tkX11_followsBy 18 rfl) ⟨by decide, by decide⟩ ?_
      exact r_iret (pc := 28) (tb_at tkX11_followsBy 19 rfl) rfl (Nat.le_refl _) (Nat.le_refl _) ⟨_, rfl, rfl, h⟩
set_option maxRecDepth 100000 in
set_option maxHeartbeats 4000000 in
theorem gX11_slack_0 {G : GE} {d : Nat} {K : Int → Mem → Prop} {M : Mem} {v1 v2 : Int}  (h : (0 ≤ 8 + v1 ∧ 8 + v1 < 92) ∧ CalI G miX11_gap d [.inr (.inr (some 66)), .inl v1, .inl v2] M (fun x2 M1 => CalI G miX11_followsBy d [.inr (.inr (some 66)), .inl v1, .inl v2] M1 (fun x4 M3 => ((¬ x4 = 2 → CalI G miX11_sit d [.inr (.inr (some 66)), .inl (M 67 (8 + v1).toNat)] M3 (fun x6 M5 => K (w32 (x2 - x6)) M5)) ∧ (x4 = 2 → CalI G miX11_rest d [.inr (.inr (some 66)), .inl (M 67 (8 + v1).toNat)] M3 (fun x8 M7 => K (w32 (x2 - x8)) M7)))))) : OkI G miX11_slack (d + 1) K 0 [some (.inr (.inr (some 66))), some (.inl v1), some (.inl v2), none] [] M := by
  refine r_aload_n (pc := 0) (tb_at tkX11_slack 0 rfl) rfl rfl ?_
  refine r_get 10 0 (pc := 1) (tb_at tkX11_slack 1 rfl) ly_66 flX11_11 rfl ?_
  refine r_bipush (pc := 4) (tb_at tkX11_slack 2 rfl) ⟨by decide, by decide, by decide⟩ ?_
  refine r_iload_n (pc := 6) (tb_at tkX11_slack 3 rfl) rfl rfl ?_
  refine r_iadd (pc := 7) (tb_at tkX11_slack 4 rfl) ?_
  refine r_iald_w (pc := 8) (tb_at tkX11_slack 5 rfl) ly_67 (by decide) h.1.1 h.1.2 ?_
  replace h := h.2
  refine r_istore_n (L' := [some (.inr (.inr (some 66))), some (.inl v1), some (.inl v2), some (.inl (M 67 (8 + v1).toNat))]) (pc := 9) (tb_at tkX11_slack 6 rfl) rfl (by decide) rfl ?_
  refine r_aload_n (pc := 10) (tb_at tkX11_slack 7 rfl) rfl rfl ?_
  refine r_iload_n (pc := 11) (tb_at tkX11_slack 8 rfl) rfl rfl ?_
  refine r_iload_n (pc := 12) (tb_at tkX11_slack 9 rfl) rfl rfl ?_
  refine r_invV (mc' := 0) (ms' := 0) [.inl v1, .inl v2] (S := []) (pc := 13) (tb_at tkX11_slack 10 rfl) rfl ly_66 rfl rfl clX11_159 (Nat.le_of_ble_eq_true rfl) (Nat.le_refl _) (Nat.le_refl _) ?_
  refine Cal.mono h ?_
  rintro _ _ M1 ⟨x2, rfl, rfl, h⟩
  show OkI G miX11_slack (d + 1) K 16 [some (.inr (.inr (some 66))), some (.inl v1), some (.inl v2), some (.inl (M 67 (8 + v1).toNat))] [.inl x2] M1
  refine r_aload_n (pc := 16) (tb_at tkX11_slack 11 rfl) rfl rfl ?_
  refine r_iload_n (pc := 17) (tb_at tkX11_slack 12 rfl) rfl rfl ?_
  refine r_iload_n (pc := 18) (tb_at tkX11_slack 13 rfl) rfl rfl ?_
  refine r_invV (mc' := 0) (ms' := 0) [.inl v1, .inl v2] (S := [.inl x2]) (pc := 19) (tb_at tkX11_slack 14 rfl) rfl ly_66 rfl rfl clX11_162 (Nat.le_of_ble_eq_true rfl) (Nat.le_refl _) (Nat.le_refl _) ?_
  refine Cal.mono h ?_
  rintro _ _ M3 ⟨x4, rfl, rfl, h⟩
  show OkI G miX11_slack (d + 1) K 22 [some (.inr (.inr (some 66))), some (.inl v1), some (.inl v2), some (.inl (M 67 (8 + v1).toNat))] [.inl x4, .inl x2] M3
  refine r_iconst (pc := 22) (tb_at tkX11_slack 15 rfl) ⟨by decide, by decide⟩ ?_
  refine q_icmp_ne (tgt := 34) (pc := 23) (tb_at tkX11_slack 16 rfl) (by decide) (fun c => ?_) (fun c => ?_)
  · replace h := h.1 c
    refine r_aload_n (pc := 34) (tb_at tkX11_slack 21 rfl) rfl rfl ?_
    refine r_iload_n (pc := 35) (tb_at tkX11_slack 22 rfl) rfl rfl ?_
    refine r_invV (mc' := 0) (ms' := 0) [.inl (M 67 (8 + v1).toNat)] (S := [.inl x2]) (pc := 36) (tb_at tkX11_slack 23 rfl) rfl ly_66 rfl rfl clX11_130 (Nat.le_of_ble_eq_true rfl) (Nat.le_refl _) (Nat.le_refl _) ?_
    refine Cal.mono h ?_
    rintro _ _ M5 ⟨x6, rfl, rfl, h⟩
    show OkI G miX11_slack (d + 1) K 39 [some (.inr (.inr (some 66))), some (.inl v1), some (.inl v2), some (.inl (M 67 (8 + v1).toNat))] [.inl x6, .inl x2] M5
    refine r_isub (pc := 39) (tb_at tkX11_slack 24 rfl) ?_
    exact r_iret (pc := 40) (tb_at tkX11_slack 25 rfl) rfl (Nat.le_refl _) (Nat.le_refl _) ⟨_, rfl, rfl, h⟩
  · replace h := h.2 c
    refine r_aload_n (pc := 26) (tb_at tkX11_slack 17 rfl) rfl rfl ?_
    refine r_iload_n (pc := 27) (tb_at tkX11_slack 18 rfl) rfl rfl ?_
    refine r_invV (mc' := 0) (ms' := 0) [.inl (M 67 (8 + v1).toNat)] (S := [.inl x2]) (pc := 28) (tb_at tkX11_slack 19 rfl) rfl ly_66 rfl rfl clX11_134 (Nat.le_of_ble_eq_true rfl) (Nat.le_refl _) (Nat.le_refl _) ?_
    refine Cal.mono h ?_
    rintro _ _ M7 ⟨x8, rfl, rfl, h⟩
    show OkI G miX11_slack (d + 1) K 31 [some (.inr (.inr (some 66))), some (.inl v1), some (.inl v2), some (.inl (M 67 (8 + v1).toNat))] [.inl x8, .inl x2] M7
    refine r_goto (tgt := 39) (pc := 31) (tb_at tkX11_slack 20 rfl) (by decide) ?_
    refine r_isub (pc := 39) (tb_at tkX11_slack 24 rfl) ?_
    exact r_iret (pc := 40) (tb_at tkX11_slack 25 rfl) rfl (Nat.le_refl _) (Nat.le_refl _) ⟨_, rfl, rfl, h⟩
set_option maxRecDepth 100000 in
set_option maxHeartbeats 4000000 in
theorem gX11_isTight_0 {G : GE} {d : Nat} {K : Int → Mem → Prop} {M : Mem} {v1 v2 : Int}  (h : CalI G miX11_followsBy d [.inr (.inr (some 66)), .inl v1, .inl v2] M (fun x2 M1 => ((¬ x2 = 1 → K 0 M1) ∧ (x2 = 1 → CalI G miX11_slack d [.inr (.inr (some 66)), .inl v1, .inl v2] M1 (fun x4 M3 => (((M3 67 91) ≤ x4 → K 0 M3) ∧ (x4 < (M3 67 91) → K 1 M3))))))) : OkI G miX11_isTight (d + 1) K 0 [some (.inr (.inr (some 66))), some (.inl v1), some (.inl v2)] [] M := by
  refine r_aload_n (pc := 0) (tb_at tkX11_isTight 0 rfl) rfl rfl ?_
  refine r_iload_n (pc := 1) (tb_at tkX11_isTight 1 rfl) rfl rfl ?_
  refine r_iload_n (pc := 2) (tb_at tkX11_isTight 2 rfl) rfl rfl ?_
  refine r_invV (mc' := 0) (ms' := 0) [.inl v1, .inl v2] (S := []) (pc := 3) (tb_at tkX11_isTight 3 rfl) rfl ly_66 rfl rfl clX11_162 (Nat.le_of_ble_eq_true rfl) (Nat.le_refl _) (Nat.le_refl _) ?_
  refine Cal.mono h ?_
  rintro _ _ M1 ⟨x2, rfl, rfl, h⟩
  show OkI G miX11_isTight (d + 1) K 6 [some (.inr (.inr (some 66))), some (.inl v1), some (.inl v2)] [.inl x2] M1
  refine r_iconst (pc := 6) (tb_at tkX11_isTight 4 rfl) ⟨by decide, by decide⟩ ?_
  refine q_icmp_ne (tgt := 30) (pc := 7) (tb_at tkX11_isTight 5 rfl) (by decide) (fun c => ?_) (fun c => ?_)
  · replace h := h.1 c
    refine r_iconst (pc := 30) (tb_at tkX11_isTight 17 rfl) ⟨by decide, by decide⟩ ?_
    exact r_zret (pc := 31) (tb_at tkX11_isTight 18 rfl) rfl (by decide) (Nat.le_refl _) (Nat.le_refl _) ⟨_, rfl, rfl, h⟩
  · replace h := h.2 c
    refine r_aload_n (pc := 10) (tb_at tkX11_isTight 6 rfl) rfl rfl ?_
    refine r_iload_n (pc := 11) (tb_at tkX11_isTight 7 rfl) rfl rfl ?_
    refine r_iload_n (pc := 12) (tb_at tkX11_isTight 8 rfl) rfl rfl ?_
    refine r_invV (mc' := 0) (ms' := 0) [.inl v1, .inl v2] (S := []) (pc := 13) (tb_at tkX11_isTight 9 rfl) rfl ly_66 rfl rfl clX11_165 (Nat.le_of_ble_eq_true rfl) (Nat.le_refl _) (Nat.le_refl _) ?_
    refine Cal.mono h ?_
    rintro _ _ M3 ⟨x4, rfl, rfl, h⟩
    show OkI G miX11_isTight (d + 1) K 16 [some (.inr (.inr (some 66))), some (.inl v1), some (.inl v2)] [.inl x4] M3
    refine r_aload_n (pc := 16) (tb_at tkX11_isTight 10 rfl) rfl rfl ?_
    refine r_get 10 0 (pc := 17) (tb_at tkX11_isTight 11 rfl) ly_66 flX11_11 rfl ?_
    refine r_bipush (pc := 20) (tb_at tkX11_isTight 12 rfl) ⟨by decide, by decide, by decide⟩ ?_
    refine r_iald_k (k0 := 91) (pc := 22) (tb_at tkX11_isTight 13 rfl) ly_67 rfl (by decide) (by decide) ?_
    refine q_icmp_ge (tgt := 30) (pc := 23) (tb_at tkX11_isTight 14 rfl) (by decide) (fun c => ?_) (fun c => ?_)
    · replace h := h.1 c
      refine r_iconst (pc := 30) (tb_at tkX11_isTight 17 rfl) ⟨by decide, by decide⟩ ?_
      exact r_zret (pc := 31) (tb_at tkX11_isTight 18 rfl) rfl (by decide) (Nat.le_refl _) (Nat.le_refl _) ⟨_, rfl, rfl, h⟩
    · replace h := h.2 c
      refine r_iconst (pc := 26) (tb_at tkX11_isTight 15 rfl) ⟨by decide, by decide⟩ ?_
      refine r_goto (tgt := 31) (pc := 27) (tb_at tkX11_isTight 16 rfl) (by decide) ?_
      exact r_zret (pc := 31) (tb_at tkX11_isTight 18 rfl) rfl (by decide) (Nat.le_refl _) (Nat.le_refl _) ⟨_, rfl, rfl, h⟩
set_option maxRecDepth 100000 in
set_option maxHeartbeats 4000000 in
theorem gX11_follows_0 {G : GE} {d : Nat} {K : Int → Mem → Prop} {M : Mem} {v1 v2 : Int}  (h : CalI G miX11_areTwo d [.inr (.inr (some 66)), .inl v1, .inl v2] M (fun x2 M1 => ((x2 = 0 → K (-2) M1) ∧ (¬ x2 = 0 → CalI G miX11_followsBy d [.inr (.inr (some 66)), .inl v1, .inl v2] M1 (fun x4 M3 => K x4 M3))))) : OkI G miX11_follows (d + 1) K 0 [some (.inr (.inr (some 66))), some (.inl v1), some (.inl v2)] [] M := by
  refine r_aload_n (pc := 0) (tb_at tkX11_follows 0 rfl) rfl rfl ?_
  refine r_iload_n (pc := 1) (tb_at tkX11_follows 1 rfl) rfl rfl ?_
  refine r_iload_n (pc := 2) (tb_at tkX11_follows 2 rfl) rfl rfl ?_
  refine r_invV (mc' := 0) (ms' := 0) [.inl v1, .inl v2] (S := []) (pc := 3) (tb_at tkX11_follows 3 rfl) rfl ly_66 rfl rfl clX11_154 (Nat.le_of_ble_eq_true rfl) (Nat.le_refl _) (Nat.le_refl _) ?_
  refine Cal.mono h ?_
  rintro _ _ M1 ⟨x2, rfl, rfl, h⟩
  show OkI G miX11_follows (d + 1) K 6 [some (.inr (.inr (some 66))), some (.inl v1), some (.inl v2)] [.inl x2] M1
  refine q_if_eq (tgt := 18) (pc := 6) (tb_at tkX11_follows 4 rfl) (by decide) (fun c => ?_) (fun c => ?_)
  · replace h := h.1 c
    refine r_bipush (pc := 18) (tb_at tkX11_follows 10 rfl) ⟨by decide, by decide, by decide⟩ ?_
    exact r_iret (pc := 20) (tb_at tkX11_follows 11 rfl) rfl (Nat.le_refl _) (Nat.le_refl _) ⟨_, rfl, rfl, h⟩
  · replace h := h.2 c
    refine r_aload_n (pc := 9) (tb_at tkX11_follows 5 rfl) rfl rfl ?_
    refine r_iload_n (pc := 10) (tb_at tkX11_follows 6 rfl) rfl rfl ?_
    refine r_iload_n (pc := 11) (tb_at tkX11_follows 7 rfl) rfl rfl ?_
    refine r_invV (mc' := 0) (ms' := 0) [.inl v1, .inl v2] (S := []) (pc := 12) (tb_at tkX11_follows 8 rfl) rfl ly_66 rfl rfl clX11_162 (Nat.le_of_ble_eq_true rfl) (Nat.le_refl _) (Nat.le_refl _) ?_
    refine Cal.mono h ?_
    rintro _ _ M3 ⟨x4, rfl, rfl, h⟩
    show OkI G miX11_follows (d + 1) K 15 [some (.inr (.inr (some 66))), some (.inl v1), some (.inl v2)] [.inl x4] M3
    refine r_goto (tgt := 20) (pc := 15) (tb_at tkX11_follows 9 rfl) (by decide) ?_
    exact r_iret (pc := 20) (tb_at tkX11_follows 11 rfl) rfl (Nat.le_refl _) (Nat.le_refl _) ⟨_, rfl, rfl, h⟩
set_option maxRecDepth 100000 in
set_option maxHeartbeats 4000000 in
theorem gX11_followers_0 {G : GE} {d : Nat} {K : Int → Mem → Prop} {M : Mem} {v1 v2 : Int}  (h : OkI G miX11_followers (d + 1) K 5 [some (.inr (.inr (some 66))), some (.inl v1), some (.inl v2), some (.inl 0), some (.inl 0), none] [] M) : OkI G miX11_followers (d + 1) K 0 [some (.inr (.inr (some 66))), some (.inl v1), some (.inl v2), none, none, none] [] M := by
  refine r_iconst (pc := 0) (tb_at tkX11_followers 0 rfl) ⟨by decide, by decide⟩ ?_
  refine r_istore_n (L' := [some (.inr (.inr (some 66))), some (.inl v1), some (.inl v2), some (.inl 0), none, none]) (pc := 1) (tb_at tkX11_followers 1 rfl) rfl (by decide) rfl ?_
  refine r_iconst (pc := 2) (tb_at tkX11_followers 2 rfl) ⟨by decide, by decide⟩ ?_
  refine r_istore (L' := [some (.inr (.inr (some 66))), some (.inl v1), some (.inl v2), some (.inl 0), some (.inl 0), none]) (pc := 3) (tb_at tkX11_followers 3 rfl) (by decide) rfl ?_
  exact h
set_option maxRecDepth 100000 in
set_option maxHeartbeats 4000000 in
theorem gX11_followers_5 {G : GE} {d : Nat} {K : Int → Mem → Prop} {M : Mem} {v1 v2 v3 v4 : Int}  (h : (((M 67 0) ≤ v4 → K v3 M) ∧ (v4 < (M 67 0) → ((¬ v2 = 6 → CalI G miX11_followsBy d [.inr (.inr (some 66)), .inl v1, .inl v4] M (fun x2 M1 => OkI G miX11_followers (d + 1) K 5 [some (.inr (.inr (some 66))), some (.inl v1), some (.inl v2), some (.inl (ior v3 (if (if x2 = (if v2 = 4 then (1 : Int) else 2) then (1 : Int) else 0) = 0 then (0 : Int) else ishl 1 v4))), some (.inl (w32 (v4 + 1))), none] [] M1)) ∧ (v2 = 6 → CalI G miX11_isTight d [.inr (.inr (some 66)), .inl v1, .inl v4] M (fun x10 M9 => OkI G miX11_followers (d + 1) K 5 [some (.inr (.inr (some 66))), some (.inl v1), some (.inl v2), some (.inl (ior v3 (if x10 = 0 then (0 : Int) else ishl 1 v4))), some (.inl (w32 (v4 + 1))), none] [] M9)))))) : OkI G miX11_followers (d + 1) K 5 [some (.inr (.inr (some 66))), some (.inl v1), some (.inl v2), some (.inl v3), some (.inl v4), none] [] M := by
  refine r_iload (pc := 5) (tb_at tkX11_followers 4 rfl) rfl ?_
  refine r_aload_n (pc := 7) (tb_at tkX11_followers 5 rfl) rfl rfl ?_
  refine r_get 10 0 (pc := 8) (tb_at tkX11_followers 6 rfl) ly_66 flX11_11 rfl ?_
  refine r_iconst (pc := 11) (tb_at tkX11_followers 7 rfl) ⟨by decide, by decide⟩ ?_
  refine r_iald_k (k0 := 0) (pc := 12) (tb_at tkX11_followers 8 rfl) ly_67 rfl (by decide) (by decide) ?_
  refine q_icmp_ge (tgt := 81) (pc := 13) (tb_at tkX11_followers 9 rfl) (by decide) (fun c => ?_) (fun c => ?_)
  · replace h := h.1 c
    refine r_iload_n (pc := 81) (tb_at tkX11_followers 45 rfl) rfl rfl ?_
    exact r_iret (pc := 82) (tb_at tkX11_followers 46 rfl) rfl (Nat.le_refl _) (Nat.le_refl _) ⟨_, rfl, rfl, h⟩
  · replace h := h.2 c
    refine r_iload_n (pc := 16) (tb_at tkX11_followers 10 rfl) rfl rfl ?_
    refine r_bipush (pc := 17) (tb_at tkX11_followers 11 rfl) ⟨by decide, by decide, by decide⟩ ?_
    refine q_icmp_ne (tgt := 32) (pc := 19) (tb_at tkX11_followers 12 rfl) (by decide) (fun c => ?_) (fun c => ?_)
    · replace h := h.1 c
      refine r_aload_n (pc := 32) (tb_at tkX11_followers 18 rfl) rfl rfl ?_
      refine r_iload_n (pc := 33) (tb_at tkX11_followers 19 rfl) rfl rfl ?_
      refine r_iload (pc := 34) (tb_at tkX11_followers 20 rfl) rfl ?_
      refine r_invV (mc' := 0) (ms' := 0) [.inl v1, .inl v4] (S := []) (pc := 36) (tb_at tkX11_followers 21 rfl) rfl ly_66 rfl rfl clX11_162 (Nat.le_of_ble_eq_true rfl) (Nat.le_refl _) (Nat.le_refl _) ?_
      refine Cal.mono h ?_
      rintro _ _ M1 ⟨x2, rfl, rfl, h⟩
      show OkI G miX11_followers (d + 1) K 39 [some (.inr (.inr (some 66))), some (.inl v1), some (.inl v2), some (.inl v3), some (.inl v4), none] [.inl x2] M1
      refine r_iload_n (pc := 39) (tb_at tkX11_followers 22 rfl) rfl rfl ?_
      refine r_iconst (pc := 40) (tb_at tkX11_followers 23 rfl) ⟨by decide, by decide⟩ ?_
      have hJ7 : ∀ t0 : Int, t0 = (if v2 = 4 then (1 : Int) else 2) → OkI G miX11_followers (d + 1) K 49 [some (.inr (.inr (some 66))), some (.inl v1), some (.inl v2), some (.inl v3), some (.inl v4), none] [.inl t0, .inl x2] M1 := by
        rintro _ rfl
        have hJ5 : ∀ t0 : Int, t0 = (if x2 = (if v2 = 4 then (1 : Int) else 2) then (1 : Int) else 0) → OkI G miX11_followers (d + 1) K 57 [some (.inr (.inr (some 66))), some (.inl v1), some (.inl v2), some (.inl v3), some (.inl v4), none] [.inl t0] M1 := by
          rintro _ rfl
          refine r_istore (L' := [some (.inr (.inr (some 66))), some (.inl v1), some (.inl v2), some (.inl v3), some (.inl v4), some (.inl (if x2 = (if v2 = 4 then (1 : Int) else 2) then (1 : Int) else 0))]) (pc := 57) (tb_at tkX11_followers 32 rfl) (by decide) rfl ?_
          refine r_iload_n (pc := 59) (tb_at tkX11_followers 33 rfl) rfl rfl ?_
          refine r_iload (pc := 60) (tb_at tkX11_followers 34 rfl) rfl ?_
          have hJ3 : ∀ t0 : Int, t0 = (if (if x2 = (if v2 = 4 then (1 : Int) else 2) then (1 : Int) else 0) = 0 then (0 : Int) else ishl 1 v4) → OkI G miX11_followers (d + 1) K 73 [some (.inr (.inr (some 66))), some (.inl v1), some (.inl v2), some (.inl v3), some (.inl v4), some (.inl (if x2 = (if v2 = 4 then (1 : Int) else 2) then (1 : Int) else 0))] [.inl t0, .inl v3] M1 := by
            rintro _ rfl
            refine r_ior (pc := 73) (tb_at tkX11_followers 41 rfl) ?_
            refine r_istore_n (L' := [some (.inr (.inr (some 66))), some (.inl v1), some (.inl v2), some (.inl (ior v3 (if (if x2 = (if v2 = 4 then (1 : Int) else 2) then (1 : Int) else 0) = 0 then (0 : Int) else ishl 1 v4))), some (.inl v4), some (.inl (if x2 = (if v2 = 4 then (1 : Int) else 2) then (1 : Int) else 0))]) (pc := 74) (tb_at tkX11_followers 42 rfl) rfl (by decide) rfl ?_
            refine r_iinc (L' := [some (.inr (.inr (some 66))), some (.inl v1), some (.inl v2), some (.inl (ior v3 (if (if x2 = (if v2 = 4 then (1 : Int) else 2) then (1 : Int) else 0) = 0 then (0 : Int) else ishl 1 v4))), some (.inl (w32 (v4 + 1))), some (.inl (if x2 = (if v2 = 4 then (1 : Int) else 2) then (1 : Int) else 0))]) (pc := 75) (tb_at tkX11_followers 43 rfl) rfl (by decide) rfl ?_
            refine r_goto (tgt := 5) (pc := 78) (tb_at tkX11_followers 44 rfl) (by decide) ?_
            exact Ok.forget h (And.intro rfl (And.intro rfl (And.intro rfl (And.intro rfl (And.intro rfl trivial)))))
          refine q_if_eq (tgt := 72) (pc := 62) (tb_at tkX11_followers 35 rfl) (by decide) (fun c4 => ?_) (fun c4 => ?_)
          · refine r_iconst (pc := 72) (tb_at tkX11_followers 40 rfl) ⟨by decide, by decide⟩ ?_
            exact hJ3 _ (by simp only [if_pos c4])
          · refine r_iconst (pc := 65) (tb_at tkX11_followers 36 rfl) ⟨by decide, by decide⟩ ?_
            refine r_iload (pc := 66) (tb_at tkX11_followers 37 rfl) rfl ?_
            refine r_ishl (pc := 68) (tb_at tkX11_followers 38 rfl) ?_
            refine r_goto (tgt := 73) (pc := 69) (tb_at tkX11_followers 39 rfl) (by decide) ?_
            exact hJ3 _ (by simp only [if_neg c4])
        refine q_icmp_ne (tgt := 56) (pc := 49) (tb_at tkX11_followers 28 rfl) (by decide) (fun c6 => ?_) (fun c6 => ?_)
        · refine r_iconst (pc := 56) (tb_at tkX11_followers 31 rfl) ⟨by decide, by decide⟩ ?_
          exact hJ5 _ (by simp only [if_neg c6])
        · refine r_iconst (pc := 52) (tb_at tkX11_followers 29 rfl) ⟨by decide, by decide⟩ ?_
          refine r_goto (tgt := 57) (pc := 53) (tb_at tkX11_followers 30 rfl) (by decide) ?_
          exact hJ5 _ (by simp only [if_pos c6])
      refine q_icmp_ne (tgt := 48) (pc := 41) (tb_at tkX11_followers 24 rfl) (by decide) (fun c8 => ?_) (fun c8 => ?_)
      · refine r_iconst (pc := 48) (tb_at tkX11_followers 27 rfl) ⟨by decide, by decide⟩ ?_
        exact hJ7 _ (by simp only [if_neg c8])
      · refine r_iconst (pc := 44) (tb_at tkX11_followers 25 rfl) ⟨by decide, by decide⟩ ?_
        refine r_goto (tgt := 49) (pc := 45) (tb_at tkX11_followers 26 rfl) (by decide) ?_
        exact hJ7 _ (by simp only [if_pos c8])
    · replace h := h.2 c
      refine r_aload_n (pc := 22) (tb_at tkX11_followers 13 rfl) rfl rfl ?_
      refine r_iload_n (pc := 23) (tb_at tkX11_followers 14 rfl) rfl rfl ?_
      refine r_iload (pc := 24) (tb_at tkX11_followers 15 rfl) rfl ?_
      refine r_invV (mc' := 0) (ms' := 0) [.inl v1, .inl v4] (S := []) (pc := 26) (tb_at tkX11_followers 16 rfl) rfl ly_66 rfl rfl clX11_168 (Nat.le_of_ble_eq_true rfl) (Nat.le_refl _) (Nat.le_refl _) ?_
      refine Cal.mono h ?_
      rintro _ _ M9 ⟨x10, rfl, rfl, h⟩
      show OkI G miX11_followers (d + 1) K 29 [some (.inr (.inr (some 66))), some (.inl v1), some (.inl v2), some (.inl v3), some (.inl v4), none] [.inl x10] M9
      refine r_goto (tgt := 57) (pc := 29) (tb_at tkX11_followers 17 rfl) (by decide) ?_
      refine r_istore (L' := [some (.inr (.inr (some 66))), some (.inl v1), some (.inl v2), some (.inl v3), some (.inl v4), some (.inl x10)]) (pc := 57) (tb_at tkX11_followers 32 rfl) (by decide) rfl ?_
      refine r_iload_n (pc := 59) (tb_at tkX11_followers 33 rfl) rfl rfl ?_
      refine r_iload (pc := 60) (tb_at tkX11_followers 34 rfl) rfl ?_
      have hJ11 : ∀ t0 : Int, t0 = (if x10 = 0 then (0 : Int) else ishl 1 v4) → OkI G miX11_followers (d + 1) K 73 [some (.inr (.inr (some 66))), some (.inl v1), some (.inl v2), some (.inl v3), some (.inl v4), some (.inl x10)] [.inl t0, .inl v3] M9 := by
        rintro _ rfl
        refine r_ior (pc := 73) (tb_at tkX11_followers 41 rfl) ?_
        refine r_istore_n (L' := [some (.inr (.inr (some 66))), some (.inl v1), some (.inl v2), some (.inl (ior v3 (if x10 = 0 then (0 : Int) else ishl 1 v4))), some (.inl v4), some (.inl x10)]) (pc := 74) (tb_at tkX11_followers 42 rfl) rfl (by decide) rfl ?_
        refine r_iinc (L' := [some (.inr (.inr (some 66))), some (.inl v1), some (.inl v2), some (.inl (ior v3 (if x10 = 0 then (0 : Int) else ishl 1 v4))), some (.inl (w32 (v4 + 1))), some (.inl x10)]) (pc := 75) (tb_at tkX11_followers 43 rfl) rfl (by decide) rfl ?_
        refine r_goto (tgt := 5) (pc := 78) (tb_at tkX11_followers 44 rfl) (by decide) ?_
        exact Ok.forget h (And.intro rfl (And.intro rfl (And.intro rfl (And.intro rfl (And.intro rfl trivial)))))
      refine q_if_eq (tgt := 72) (pc := 62) (tb_at tkX11_followers 35 rfl) (by decide) (fun c12 => ?_) (fun c12 => ?_)
      · refine r_iconst (pc := 72) (tb_at tkX11_followers 40 rfl) ⟨by decide, by decide⟩ ?_
        exact hJ11 _ (by simp only [if_pos c12])
      · refine r_iconst (pc := 65) (tb_at tkX11_followers 36 rfl) ⟨by decide, by decide⟩ ?_
        refine r_iload (pc := 66) (tb_at tkX11_followers 37 rfl) rfl ?_
        refine r_ishl (pc := 68) (tb_at tkX11_followers 38 rfl) ?_
        refine r_goto (tgt := 73) (pc := 69) (tb_at tkX11_followers 39 rfl) (by decide) ?_
        exact hJ11 _ (by simp only [if_neg c12])
set_option maxRecDepth 100000 in
set_option maxHeartbeats 4000000 in
theorem gX11_of_0 {G : GE} {d : Nat} {K : Int → Mem → Prop} {M : Mem} {v1 v2 : Int}  (h : CalI G miX11_isFlight d [.inr (.inr (some 66)), .inl v1] M (fun x2 M1 => ((x2 = 0 → K (-2) M1) ∧ (¬ x2 = 0 → CalI G miX11_in d [.inr (.inl v2), .inr (.inl 0), .inr (.inl 6)] M1 (fun x4 M3 => ((¬ x4 = 0 → ((v2 ≤ 3 → (0 ≤ (1 + (7 * v2)) + v1 ∧ (1 + (7 * v2)) + v1 < 92) ∧ K (M3 67 ((1 + (7 * v2)) + v1).toNat) M3) ∧ (3 < v2 → CalI G miX11_followers d [.inr (.inr (some 66)), .inl v1, .inl v2] M3 (fun x6 M5 => K x6 M5)))) ∧ (x4 = 0 → K (-2) M3))))))) : OkI G miX11_of (d + 1) K 0 [some (.inr (.inr (some 66))), some (.inl v1), some (.inl v2)] [] M := by
  refine r_aload_n (pc := 0) (tb_at tkX11_of 0 rfl) rfl rfl ?_
  refine r_iload_n (pc := 1) (tb_at tkX11_of 1 rfl) rfl rfl ?_
  refine r_invV (mc' := 0) (ms' := 0) [.inl v1] (S := []) (pc := 2) (tb_at tkX11_of 2 rfl) rfl ly_66 rfl rfl clX11_109 (Nat.le_of_ble_eq_true rfl) (Nat.le_refl _) (Nat.le_refl _) ?_
  refine Cal.mono h ?_
  rintro _ _ M1 ⟨x2, rfl, rfl, h⟩
  show OkI G miX11_of (d + 1) K 5 [some (.inr (.inr (some 66))), some (.inl v1), some (.inl v2)] [.inl x2] M1
  refine q_if_eq (tgt := 20) (pc := 5) (tb_at tkX11_of 3 rfl) (by decide) (fun c => ?_) (fun c => ?_)
  · replace h := h.1 c
    refine r_bipush (pc := 20) (tb_at tkX11_of 10 rfl) ⟨by decide, by decide, by decide⟩ ?_
    exact r_iret (pc := 22) (tb_at tkX11_of 11 rfl) rfl (Nat.le_refl _) (Nat.le_refl _) ⟨_, rfl, rfl, h⟩
  · replace h := h.2 c
    refine r_iload_n (pc := 8) (tb_at tkX11_of 4 rfl) rfl rfl ?_
    refine r_i2l (pc := 9) (tb_at tkX11_of 5 rfl) ?_
    refine r_lconst (v := 0) (pc := 10) (tb_at tkX11_of 6 rfl) ⟨by decide, by decide, by decide⟩ ?_
    refine r_ldc2 (n := 6) (pc := 11) (tb_at tkX11_of 7 rfl) kcX11_171 ⟨by decide, by decide⟩ ?_
    refine r_invS (mc' := 0) (ms' := 0) [.inr (.inl v2), .inr (.inl 0), .inr (.inl 6)] (S := []) (pc := 14) (tb_at tkX11_of 8 rfl) rfl clX11_103 (Nat.le_of_ble_eq_true rfl) (Nat.le_refl _) (Nat.le_refl _) ?_
    refine Cal.mono h ?_
    rintro _ _ M3 ⟨x4, rfl, rfl, h⟩
    show OkI G miX11_of (d + 1) K 17 [some (.inr (.inr (some 66))), some (.inl v1), some (.inl v2)] [.inl x4] M3
    refine q_if_ne (tgt := 23) (pc := 17) (tb_at tkX11_of 9 rfl) (by decide) (fun c => ?_) (fun c => ?_)
    · replace h := h.1 c
      refine r_iload_n (pc := 23) (tb_at tkX11_of 12 rfl) rfl rfl ?_
      refine r_iconst (pc := 24) (tb_at tkX11_of 13 rfl) ⟨by decide, by decide⟩ ?_
      refine q_icmp_le (tgt := 37) (pc := 25) (tb_at tkX11_of 14 rfl) (by decide) (fun c => ?_) (fun c => ?_)
      · replace h := h.1 c
        refine r_aload_n (pc := 37) (tb_at tkX11_of 20 rfl) rfl rfl ?_
        refine r_get 10 0 (pc := 38) (tb_at tkX11_of 21 rfl) ly_66 flX11_11 rfl ?_
        refine r_iconst (pc := 41) (tb_at tkX11_of 22 rfl) ⟨by decide, by decide⟩ ?_
        refine r_bipush (pc := 42) (tb_at tkX11_of 23 rfl) ⟨by decide, by decide, by decide⟩ ?_
        refine r_iload_n (pc := 44) (tb_at tkX11_of 24 rfl) rfl rfl ?_
        refine r_imul (pc := 45) (tb_at tkX11_of 25 rfl) ?_
        refine r_iadd_r (pc := 46) (tb_at tkX11_of 26 rfl) ?_
        refine r_iload_n (pc := 47) (tb_at tkX11_of 27 rfl) rfl rfl ?_
        refine r_iadd_l (pc := 48) (tb_at tkX11_of 28 rfl) ?_
        refine r_iald_w (pc := 49) (tb_at tkX11_of 29 rfl) ly_67 (by decide) h.1.1 h.1.2 ?_
        replace h := h.2
        exact r_iret (pc := 50) (tb_at tkX11_of 30 rfl) rfl (Nat.le_refl _) (Nat.le_refl _) ⟨_, rfl, rfl, h⟩
      · replace h := h.2 c
        refine r_aload_n (pc := 28) (tb_at tkX11_of 15 rfl) rfl rfl ?_
        refine r_iload_n (pc := 29) (tb_at tkX11_of 16 rfl) rfl rfl ?_
        refine r_iload_n (pc := 30) (tb_at tkX11_of 17 rfl) rfl rfl ?_
        refine r_invV (mc' := 0) (ms' := 0) [.inl v1, .inl v2] (S := []) (pc := 31) (tb_at tkX11_of 18 rfl) rfl ly_66 rfl rfl clX11_173 (Nat.le_of_ble_eq_true rfl) (Nat.le_refl _) (Nat.le_refl _) ?_
        refine Cal.mono h ?_
        rintro _ _ M5 ⟨x6, rfl, rfl, h⟩
        show OkI G miX11_of (d + 1) K 34 [some (.inr (.inr (some 66))), some (.inl v1), some (.inl v2)] [.inl x6] M5
        refine r_goto (tgt := 50) (pc := 34) (tb_at tkX11_of 19 rfl) (by decide) ?_
        exact r_iret (pc := 50) (tb_at tkX11_of 30 rfl) rfl (Nat.le_refl _) (Nat.le_refl _) ⟨_, rfl, rfl, h⟩
    · replace h := h.2 c
      refine r_bipush (pc := 20) (tb_at tkX11_of 10 rfl) ⟨by decide, by decide, by decide⟩ ?_
      exact r_iret (pc := 22) (tb_at tkX11_of 11 rfl) rfl (Nat.le_refl _) (Nat.le_refl _) ⟨_, rfl, rfl, h⟩
set_option maxRecDepth 100000 in
set_option maxHeartbeats 4000000 in
theorem gX11_shift_0 {G : GE} {d : Nat} {K : Int → Mem → Prop} {M : Mem} {v1 v2 v3 : Int}  (h : CalI G miX11_isFlight d [.inr (.inr (some 66)), .inl v1] M (fun x2 M1 => ((x2 = 0 → K (-2) M1) ∧ (¬ x2 = 0 → CalI G miX11_areTimes d [.inl v2, .inl v3] M1 (fun x4 M3 => ((¬ x4 = 0 → (0 ≤ 22 + v1 ∧ 22 + v1 < 92) ∧ CalI G miX11_becomes d [.inr (.inr (some 66)), .inl (w32 (15 + v1)), .inl v2] (mup M3 67 (22 + v1).toNat v3) (fun x6 M5 => K x6 M5)) ∧ (x4 = 0 → K (-2) M3))))))) : OkI G miX11_shift (d + 1) K 0 [some (.inr (.inr (some 66))), some (.inl v1), some (.inl v2), some (.inl v3)] [] M := by
  refine r_aload_n (pc := 0) (tb_at tkX11_shift 0 rfl) rfl rfl ?_
  refine r_iload_n (pc := 1) (tb_at tkX11_shift 1 rfl) rfl rfl ?_
  refine r_invV (mc' := 0) (ms' := 0) [.inl v1] (S := []) (pc := 2) (tb_at tkX11_shift 2 rfl) rfl ly_66 rfl rfl clX11_109 (Nat.le_of_ble_eq_true rfl) (Nat.le_refl _) (Nat.le_refl _) ?_
  refine Cal.mono h ?_
  rintro _ _ M1 ⟨x2, rfl, rfl, h⟩
  show OkI G miX11_shift (d + 1) K 5 [some (.inr (.inr (some 66))), some (.inl v1), some (.inl v2), some (.inl v3)] [.inl x2] M1
  refine q_if_eq (tgt := 16) (pc := 5) (tb_at tkX11_shift 3 rfl) (by decide) (fun c => ?_) (fun c => ?_)
  · replace h := h.1 c
    refine r_bipush (pc := 16) (tb_at tkX11_shift 8 rfl) ⟨by decide, by decide, by decide⟩ ?_
    exact r_iret (pc := 18) (tb_at tkX11_shift 9 rfl) rfl (Nat.le_refl _) (Nat.le_refl _) ⟨_, rfl, rfl, h⟩
  · replace h := h.2 c
    refine r_iload_n (pc := 8) (tb_at tkX11_shift 4 rfl) rfl rfl ?_
    refine r_iload_n (pc := 9) (tb_at tkX11_shift 5 rfl) rfl rfl ?_
    refine r_invS (mc' := 0) (ms' := 0) [.inl v2, .inl v3] (S := []) (pc := 10) (tb_at tkX11_shift 6 rfl) rfl clX11_118 (Nat.le_of_ble_eq_true rfl) (Nat.le_refl _) (Nat.le_refl _) ?_
    refine Cal.mono h ?_
    rintro _ _ M3 ⟨x4, rfl, rfl, h⟩
    show OkI G miX11_shift (d + 1) K 13 [some (.inr (.inr (some 66))), some (.inl v1), some (.inl v2), some (.inl v3)] [.inl x4] M3
    refine q_if_ne (tgt := 19) (pc := 13) (tb_at tkX11_shift 7 rfl) (by decide) (fun c => ?_) (fun c => ?_)
    · replace h := h.1 c
      refine r_aload_n (pc := 19) (tb_at tkX11_shift 10 rfl) rfl rfl ?_
      refine r_get 10 0 (pc := 20) (tb_at tkX11_shift 11 rfl) ly_66 flX11_11 rfl ?_
      refine r_bipush (pc := 23) (tb_at tkX11_shift 12 rfl) ⟨by decide, by decide, by decide⟩ ?_
      refine r_iload_n (pc := 25) (tb_at tkX11_shift 13 rfl) rfl rfl ?_
      refine r_iadd (pc := 26) (tb_at tkX11_shift 14 rfl) ?_
      refine r_iload_n (pc := 27) (tb_at tkX11_shift 15 rfl) rfl rfl ?_
      refine r_iast_w (pc := 28) (tb_at tkX11_shift 16 rfl) ly_67 (by decide) h.1.1 h.1.2 rfl ?_
      replace h := h.2
      refine r_aload_n (pc := 29) (tb_at tkX11_shift 17 rfl) rfl rfl ?_
      refine r_bipush (pc := 30) (tb_at tkX11_shift 18 rfl) ⟨by decide, by decide, by decide⟩ ?_
      refine r_iload_n (pc := 32) (tb_at tkX11_shift 19 rfl) rfl rfl ?_
      refine r_iadd (pc := 33) (tb_at tkX11_shift 20 rfl) ?_
      refine r_iload_n (pc := 34) (tb_at tkX11_shift 21 rfl) rfl rfl ?_
      refine r_invV (mc' := 0) (ms' := 0) [.inl (w32 (15 + v1)), .inl v2] (S := []) (pc := 35) (tb_at tkX11_shift 22 rfl) rfl ly_66 rfl rfl clX11_126 (Nat.le_of_ble_eq_true rfl) (Nat.le_refl _) (Nat.le_refl _) ?_
      refine Cal.mono h ?_
      rintro _ _ M5 ⟨x6, rfl, rfl, h⟩
      show OkI G miX11_shift (d + 1) K 38 [some (.inr (.inr (some 66))), some (.inl v1), some (.inl v2), some (.inl v3)] [.inl x6] M5
      exact r_iret (pc := 38) (tb_at tkX11_shift 23 rfl) rfl (Nat.le_refl _) (Nat.le_refl _) ⟨_, rfl, rfl, h⟩
    · replace h := h.2 c
      refine r_bipush (pc := 16) (tb_at tkX11_shift 8 rfl) ⟨by decide, by decide, by decide⟩ ?_
      exact r_iret (pc := 18) (tb_at tkX11_shift 9 rfl) rfl (Nat.le_refl _) (Nat.le_refl _) ⟨_, rfl, rfl, h⟩
set_option maxRecDepth 100000 in
set_option maxHeartbeats 4000000 in
theorem gX11_orders_0 {G : GE} {d : Nat} {K : Mem → Prop} {M : Mem}  (h : OkV G miX11_orders d K 2 [some (.inr (.inr (some 66))), some (.inl 0), none] [] M) : OkV G miX11_orders d K 0 [some (.inr (.inr (some 66))), none, none] [] M := by
  refine r_iconst (pc := 0) (tb_at tkX11_orders 0 rfl) ⟨by decide, by decide⟩ ?_
  refine r_istore_n (L' := [some (.inr (.inr (some 66))), some (.inl 0), none]) (pc := 1) (tb_at tkX11_orders 1 rfl) rfl (by decide) rfl ?_
  exact h
set_option maxRecDepth 100000 in
set_option maxHeartbeats 4000000 in
theorem gX11_orders_2 {G : GE} {d : Nat} {K : Mem → Prop} {M : Mem} {v1 : Int}  (h : (((M 67 0) ≤ v1 → K M) ∧ (v1 < (M 67 0) → OkV G miX11_orders d K 14 [some (.inr (.inr (some 66))), some (.inl v1), some (.inl v1)] [] M))) : OkV G miX11_orders d K 2 [some (.inr (.inr (some 66))), some (.inl v1), none] [] M := by
  refine r_iload_n (pc := 2) (tb_at tkX11_orders 2 rfl) rfl rfl ?_
  refine r_aload_n (pc := 3) (tb_at tkX11_orders 3 rfl) rfl rfl ?_
  refine r_get 10 0 (pc := 4) (tb_at tkX11_orders 4 rfl) ly_66 flX11_11 rfl ?_
  refine r_iconst (pc := 7) (tb_at tkX11_orders 5 rfl) ⟨by decide, by decide⟩ ?_
  refine r_iald_k (k0 := 0) (pc := 8) (tb_at tkX11_orders 6 rfl) ly_67 rfl (by decide) (by decide) ?_
  refine q_icmp_ge (tgt := 79) (pc := 9) (tb_at tkX11_orders 7 rfl) (by decide) (fun c => ?_) (fun c => ?_)
  · replace h := h.1 c
    exact r_vret (pc := 79) (tb_at tkX11_orders 49 rfl) rfl (Nat.le_refl _) (Nat.le_refl _) ⟨rfl, rfl, h⟩
  · replace h := h.2 c
    refine r_iload_n (pc := 12) (tb_at tkX11_orders 8 rfl) rfl rfl ?_
    refine r_istore_n (L' := [some (.inr (.inr (some 66))), some (.inl v1), some (.inl v1)]) (pc := 13) (tb_at tkX11_orders 9 rfl) rfl (by decide) rfl ?_
    exact h
set_option maxRecDepth 100000 in
set_option maxHeartbeats 4000000 in
theorem gX11_orders_14 {G : GE} {d : Nat} {K : Mem → Prop} {M : Mem} {v1 v2 : Int}  (h : ((v2 ≤ 0 → OkV G miX11_orders d K 66 [some (.inr (.inr (some 66))), some (.inl v1), some (.inl v2)] [] M) ∧ (0 < v2 → (0 ≤ v2 - 1 ∧ v2 - 1 < 7) ∧ (0 ≤ 15 + (M 69 (v2 - 1).toNat) ∧ 15 + (M 69 (v2 - 1).toNat) < 92) ∧ (0 ≤ 15 + v1 ∧ 15 + v1 < 92) ∧ (((M 67 (15 + (M 69 (v2 - 1).toNat)).toNat) ≤ (M 67 (15 + v1).toNat) → OkV G miX11_orders d K 66 [some (.inr (.inr (some 66))), some (.inl v1), some (.inl v2)] [] M) ∧ ((M 67 (15 + v1).toNat) < (M 67 (15 + (M 69 (v2 - 1).toNat)).toNat) → (0 ≤ v2 - 1 ∧ v2 - 1 < 7) ∧ (0 ≤ v2 ∧ v2 < 7) ∧ OkV G miX11_orders d K 14 [some (.inr (.inr (some 66))), some (.inl v1), some (.inl (w32 (v2 + (-1))))] [] (mup M 69 (v2).toNat (M 69 (v2 - 1).toNat))))))) : OkV G miX11_orders d K 14 [some (.inr (.inr (some 66))), some (.inl v1), some (.inl v2)] [] M := by
  refine r_iload_n (pc := 14) (tb_at tkX11_orders 10 rfl) rfl rfl ?_
  refine q_if_le (tgt := 66) (pc := 15) (tb_at tkX11_orders 11 rfl) (by decide) (fun c => ?_) (fun c => ?_)
  · replace h := h.1 c
    exact h
  · replace h := h.2 c
    refine r_aload_n (pc := 18) (tb_at tkX11_orders 12 rfl) rfl rfl ?_
    refine r_get 10 0 (pc := 19) (tb_at tkX11_orders 13 rfl) ly_66 flX11_11 rfl ?_
    refine r_bipush (pc := 22) (tb_at tkX11_orders 14 rfl) ⟨by decide, by decide, by decide⟩ ?_
    refine r_aload_n (pc := 24) (tb_at tkX11_orders 15 rfl) rfl rfl ?_
    refine r_get 10 3 (pc := 25) (tb_at tkX11_orders 16 rfl) ly_66 flX11_18 rfl ?_
    refine r_iload_n (pc := 28) (tb_at tkX11_orders 17 rfl) rfl rfl ?_
    refine r_iconst (pc := 29) (tb_at tkX11_orders 18 rfl) ⟨by decide, by decide⟩ ?_
    refine r_isub (pc := 30) (tb_at tkX11_orders 19 rfl) ?_
    refine r_iald_w (pc := 31) (tb_at tkX11_orders 20 rfl) ly_69 (by decide) h.1.1 h.1.2 ?_
    replace h := h.2
    refine r_iadd (pc := 32) (tb_at tkX11_orders 21 rfl) ?_
    refine r_iald_w (pc := 33) (tb_at tkX11_orders 22 rfl) ly_67 (by decide) h.1.1 h.1.2 ?_
    replace h := h.2
    refine r_aload_n (pc := 34) (tb_at tkX11_orders 23 rfl) rfl rfl ?_
    refine r_get 10 0 (pc := 35) (tb_at tkX11_orders 24 rfl) ly_66 flX11_11 rfl ?_
    refine r_bipush (pc := 38) (tb_at tkX11_orders 25 rfl) ⟨by decide, by decide, by decide⟩ ?_
    refine r_iload_n (pc := 40) (tb_at tkX11_orders 26 rfl) rfl rfl ?_
    refine r_iadd (pc := 41) (tb_at tkX11_orders 27 rfl) ?_
    refine r_iald_w (pc := 42) (tb_at tkX11_orders 28 rfl) ly_67 (by decide) h.1.1 h.1.2 ?_
    replace h := h.2
    refine q_icmp_le (tgt := 66) (pc := 43) (tb_at tkX11_orders 29 rfl) (by decide) (fun c => ?_) (fun c => ?_)
    · replace h := h.1 c
      exact h
    · replace h := h.2 c
      refine r_aload_n (pc := 46) (tb_at tkX11_orders 30 rfl) rfl rfl ?_
      refine r_get 10 3 (pc := 47) (tb_at tkX11_orders 31 rfl) ly_66 flX11_18 rfl ?_
      refine r_iload_n (pc := 50) (tb_at tkX11_orders 32 rfl) rfl rfl ?_
      refine r_aload_n (pc := 51) (tb_at tkX11_orders 33 rfl) rfl rfl ?_
      refine r_get 10 3 (pc := 52) (tb_at tkX11_orders 34 rfl) ly_66 flX11_18 rfl ?_
      refine r_iload_n (pc := 55) (tb_at tkX11_orders 35 rfl) rfl rfl ?_
      refine r_iconst (pc := 56) (tb_at tkX11_orders 36 rfl) ⟨by decide, by decide⟩ ?_
      refine r_isub (pc := 57) (tb_at tkX11_orders 37 rfl) ?_
      refine r_iald_w (pc := 58) (tb_at tkX11_orders 38 rfl) ly_69 (by decide) h.1.1 h.1.2 ?_
      replace h := h.2
      refine r_iast (pc := 59) (tb_at tkX11_orders 39 rfl) ly_69 h.1.1 h.1.2 rfl ?_
      replace h := h.2
      refine r_iinc (L' := [some (.inr (.inr (some 66))), some (.inl v1), some (.inl (w32 (v2 + (-1))))]) (pc := 60) (tb_at tkX11_orders 40 rfl) rfl (by decide) rfl ?_
      refine r_goto (tgt := 14) (pc := 63) (tb_at tkX11_orders 41 rfl) (by decide) ?_
      exact h
set_option maxRecDepth 100000 in
set_option maxHeartbeats 4000000 in
theorem gX11_orders_66 {G : GE} {d : Nat} {K : Mem → Prop} {M : Mem} {v1 v2 : Int}  (h : (0 ≤ v2 ∧ v2 < 7) ∧ OkV G miX11_orders d K 2 [some (.inr (.inr (some 66))), some (.inl (w32 (v1 + 1))), none] [] (mup M 69 (v2).toNat v1)) : OkV G miX11_orders d K 66 [some (.inr (.inr (some 66))), some (.inl v1), some (.inl v2)] [] M := by
  refine r_aload_n (pc := 66) (tb_at tkX11_orders 42 rfl) rfl rfl ?_
  refine r_get 10 3 (pc := 67) (tb_at tkX11_orders 43 rfl) ly_66 flX11_18 rfl ?_
  refine r_iload_n (pc := 70) (tb_at tkX11_orders 44 rfl) rfl rfl ?_
  refine r_iload_n (pc := 71) (tb_at tkX11_orders 45 rfl) rfl rfl ?_
  refine r_iast (pc := 72) (tb_at tkX11_orders 46 rfl) ly_69 h.1.1 h.1.2 rfl ?_
  replace h := h.2
  refine r_iinc (L' := [some (.inr (.inr (some 66))), some (.inl (w32 (v1 + 1))), some (.inl v2)]) (pc := 73) (tb_at tkX11_orders 47 rfl) rfl (by decide) rfl ?_
  refine r_goto (tgt := 2) (pc := 76) (tb_at tkX11_orders 48 rfl) (by decide) ?_
  exact Ok.forget h (And.intro rfl (And.intro rfl trivial))
set_option maxRecDepth 100000 in
set_option maxHeartbeats 4000000 in
theorem gX11_lines_0 {G : GE} {d : Nat} {K : Mem → Prop} {M : Mem} {v1 : Int}  (h : OkV G miX11_lines (d + 1) K 4 [some (.inr (.inr (some 66))), some (.inl v1), some (.inl (-1)), some (.inl 0), none] [] M) : OkV G miX11_lines (d + 1) K 0 [some (.inr (.inr (some 66))), some (.inl v1), none, none, none] [] M := by
  refine r_iconst (pc := 0) (tb_at tkX11_lines 0 rfl) ⟨by decide, by decide⟩ ?_
  refine r_istore_n (L' := [some (.inr (.inr (some 66))), some (.inl v1), some (.inl (-1)), none, none]) (pc := 1) (tb_at tkX11_lines 1 rfl) rfl (by decide) rfl ?_
  refine r_iconst (pc := 2) (tb_at tkX11_lines 2 rfl) ⟨by decide, by decide⟩ ?_
  refine r_istore_n (L' := [some (.inr (.inr (some 66))), some (.inl v1), some (.inl (-1)), some (.inl 0), none]) (pc := 3) (tb_at tkX11_lines 3 rfl) rfl (by decide) rfl ?_
  exact h
set_option maxRecDepth 100000 in
set_option maxHeartbeats 4000000 in
theorem gX11_lines_4 {G : GE} {d : Nat} {K : Mem → Prop} {M : Mem} {v1 v2 v3 : Int}  (h : (((M 67 0) ≤ v3 → K M) ∧ (v3 < (M 67 0) → (0 ≤ v3 ∧ v3 < 7) ∧ CalI G miX11_has d [.inl v1, .inl (M 69 (v3).toNat)] M (fun x2 M1 => (0 ≤ M 69 (v3).toNat ∧ M 69 (v3).toNat < 7) ∧ CalI G miX11_has d [.inl v1, .inl (M 69 (v3).toNat)] (mup M1 70 (M 69 (v3).toNat).toNat (if x2 = 0 then (-1 : Int) else v2)) (fun x4 M3 => OkV G miX11_lines (d + 1) K 4 [some (.inr (.inr (some 66))), some (.inl v1), some (.inl (if x4 = 0 then v2 else M 69 (v3).toNat)), some (.inl (w32 (v3 + 1))), none] [] M3))))) : OkV G miX11_lines (d + 1) K 4 [some (.inr (.inr (some 66))), some (.inl v1), some (.inl v2), some (.inl v3), none] [] M := by
  refine r_iload_n (pc := 4) (tb_at tkX11_lines 4 rfl) rfl rfl ?_
  refine r_aload_n (pc := 5) (tb_at tkX11_lines 5 rfl) rfl rfl ?_
  refine r_get 10 0 (pc := 6) (tb_at tkX11_lines 6 rfl) ly_66 flX11_11 rfl ?_
  refine r_iconst (pc := 9) (tb_at tkX11_lines 7 rfl) ⟨by decide, by decide⟩ ?_
  refine r_iald_k (k0 := 0) (pc := 10) (tb_at tkX11_lines 8 rfl) ly_67 rfl (by decide) (by decide) ?_
  refine q_icmp_ge (tgt := 65) (pc := 11) (tb_at tkX11_lines 9 rfl) (by decide) (fun c => ?_) (fun c => ?_)
  · replace h := h.1 c
    exact r_vret (pc := 65) (tb_at tkX11_lines 36 rfl) rfl (Nat.le_refl _) (Nat.le_refl _) ⟨rfl, rfl, h⟩
  · replace h := h.2 c
    refine r_aload_n (pc := 14) (tb_at tkX11_lines 10 rfl) rfl rfl ?_
    refine r_get 10 3 (pc := 15) (tb_at tkX11_lines 11 rfl) ly_66 flX11_18 rfl ?_
    refine r_iload_n (pc := 18) (tb_at tkX11_lines 12 rfl) rfl rfl ?_
    refine r_iald (pc := 19) (tb_at tkX11_lines 13 rfl) ly_69 h.1.1 h.1.2 ?_
    replace h := h.2
    refine r_istore (L' := [some (.inr (.inr (some 66))), some (.inl v1), some (.inl v2), some (.inl v3), some (.inl (M 69 (v3).toNat))]) (pc := 20) (tb_at tkX11_lines 14 rfl) (by decide) rfl ?_
    refine r_aload_n (pc := 22) (tb_at tkX11_lines 15 rfl) rfl rfl ?_
    refine r_get 10 4 (pc := 23) (tb_at tkX11_lines 16 rfl) ly_66 flX11_21 rfl ?_
    refine r_iload (pc := 26) (tb_at tkX11_lines 17 rfl) rfl ?_
    refine r_iload_n (pc := 28) (tb_at tkX11_lines 18 rfl) rfl rfl ?_
    refine r_iload (pc := 29) (tb_at tkX11_lines 19 rfl) rfl ?_
    refine r_invS (mc' := 0) (ms' := 0) [.inl v1, .inl (M 69 (v3).toNat)] (S := [.inl (M 69 (v3).toNat), .inr (.inr (some 70))]) (pc := 31) (tb_at tkX11_lines 20 rfl) rfl clX11_176 (Nat.le_of_ble_eq_true rfl) (Nat.le_refl _) (Nat.le_refl _) ?_
    refine Cal.mono h ?_
    rintro _ _ M1 ⟨x2, rfl, rfl, h⟩
    show OkV G miX11_lines (d + 1) K 34 [some (.inr (.inr (some 66))), some (.inl v1), some (.inl v2), some (.inl v3), some (.inl (M 69 (v3).toNat))] [.inl x2, .inl (M 69 (v3).toNat), .inr (.inr (some 70))] M1
    have hJ7 : ∀ t0 : Int, t0 = (if x2 = 0 then (-1 : Int) else v2) → OkV G miX11_lines (d + 1) K 42 [some (.inr (.inr (some 66))), some (.inl v1), some (.inl v2), some (.inl v3), some (.inl (M 69 (v3).toNat))] [.inl t0, .inl (M 69 (v3).toNat), .inr (.inr (some 70))] M1 := by
      rintro _ rfl
      refine r_iast (pc := 42) (tb_at tkX11_lines 25 rfl) ly_70 h.1.1 h.1.2 rfl ?_
      replace h := h.2
      refine r_iload_n (pc := 43) (tb_at tkX11_lines 26 rfl) rfl rfl ?_
      refine r_iload (pc := 44) (tb_at tkX11_lines 27 rfl) rfl ?_
      refine r_invS (mc' := 0) (ms' := 0) [.inl v1, .inl (M 69 (v3).toNat)] (S := []) (pc := 46) (tb_at tkX11_lines 28 rfl) rfl clX11_176 (Nat.le_of_ble_eq_true rfl) (Nat.le_refl _) (Nat.le_refl _) ?_
      refine Cal.mono h ?_
      rintro _ _ M3 ⟨x4, rfl, rfl, h⟩
      show OkV G miX11_lines (d + 1) K 49 [some (.inr (.inr (some 66))), some (.inl v1), some (.inl v2), some (.inl v3), some (.inl (M 69 (v3).toNat))] [.inl x4] M3
      have hJ5 : ∀ t0 : Int, t0 = (if x4 = 0 then v2 else M 69 (v3).toNat) → OkV G miX11_lines (d + 1) K 58 [some (.inr (.inr (some 66))), some (.inl v1), some (.inl v2), some (.inl v3), some (.inl (M 69 (v3).toNat))] [.inl t0] M3 := by
        rintro _ rfl
        refine r_istore_n (L' := [some (.inr (.inr (some 66))), some (.inl v1), some (.inl (if x4 = 0 then v2 else M 69 (v3).toNat)), some (.inl v3), some (.inl (M 69 (v3).toNat))]) (pc := 58) (tb_at tkX11_lines 33 rfl) rfl (by decide) rfl ?_
        refine r_iinc (L' := [some (.inr (.inr (some 66))), some (.inl v1), some (.inl (if x4 = 0 then v2 else M 69 (v3).toNat)), some (.inl (w32 (v3 + 1))), some (.inl (M 69 (v3).toNat))]) (pc := 59) (tb_at tkX11_lines 34 rfl) rfl (by decide) rfl ?_
        refine r_goto (tgt := 4) (pc := 62) (tb_at tkX11_lines 35 rfl) (by decide) ?_
        exact Ok.forget h (And.intro rfl (And.intro rfl (And.intro rfl (And.intro rfl trivial))))
      refine q_if_eq (tgt := 57) (pc := 49) (tb_at tkX11_lines 29 rfl) (by decide) (fun c6 => ?_) (fun c6 => ?_)
      · refine r_iload_n (pc := 57) (tb_at tkX11_lines 32 rfl) rfl rfl ?_
        exact hJ5 _ (by simp only [if_pos c6])
      · refine r_iload (pc := 52) (tb_at tkX11_lines 30 rfl) rfl ?_
        refine r_goto (tgt := 58) (pc := 54) (tb_at tkX11_lines 31 rfl) (by decide) ?_
        exact hJ5 _ (by simp only [if_neg c6])
    refine q_if_eq (tgt := 41) (pc := 34) (tb_at tkX11_lines 21 rfl) (by decide) (fun c8 => ?_) (fun c8 => ?_)
    · refine r_iconst (pc := 41) (tb_at tkX11_lines 24 rfl) ⟨by decide, by decide⟩ ?_
      exact hJ7 _ (by simp only [if_pos c8])
    · refine r_iload_n (pc := 37) (tb_at tkX11_lines 22 rfl) rfl rfl ?_
      refine r_goto (tgt := 42) (pc := 38) (tb_at tkX11_lines 23 rfl) (by decide) ?_
      exact hJ7 _ (by simp only [if_neg c8])
set_option maxRecDepth 100000 in
set_option maxHeartbeats 4000000 in
theorem gX11_isMarked_0 {G : GE} {d : Nat} {K : Int → Mem → Prop} {M : Mem} {v1 : Int}  (h : OkI G miX11_isMarked (d + 1) K 4 [some (.inr (.inr (some 66))), some (.inl v1), some (.inl 1), some (.inl 0), none, none, none] [] M) : OkI G miX11_isMarked (d + 1) K 0 [some (.inr (.inr (some 66))), some (.inl v1), none, none, none, none, none] [] M := by
  refine r_iconst (pc := 0) (tb_at tkX11_isMarked 0 rfl) ⟨by decide, by decide⟩ ?_
  refine r_istore_n (L' := [some (.inr (.inr (some 66))), some (.inl v1), some (.inl 1), none, none, none, none]) (pc := 1) (tb_at tkX11_isMarked 1 rfl) rfl (by decide) rfl ?_
  refine r_iconst (pc := 2) (tb_at tkX11_isMarked 2 rfl) ⟨by decide, by decide⟩ ?_
  refine r_istore_n (L' := [some (.inr (.inr (some 66))), some (.inl v1), some (.inl 1), some (.inl 0), none, none, none]) (pc := 3) (tb_at tkX11_isMarked 3 rfl) rfl (by decide) rfl ?_
  exact h
set_option maxRecDepth 100000 in
set_option maxHeartbeats 4000000 in
theorem gX11_isMarked_4 {G : GE} {d : Nat} {K : Int → Mem → Prop} {M : Mem} {v1 v2 v3 : Int}  (h : (((M 67 0) ≤ v3 → ((v2 = 0 ∨ v2 = 1) ∧ K v2 M)) ∧ (v3 < (M 67 0) → OkI G miX11_isMarked (d + 1) K 17 [some (.inr (.inr (some 66))), some (.inl v1), some (.inl v2), some (.inl v3), some (.inl 0), none, none] [] M))) : OkI G miX11_isMarked (d + 1) K 4 [some (.inr (.inr (some 66))), some (.inl v1), some (.inl v2), some (.inl v3), none, none, none] [] M := by
  refine r_iload_n (pc := 4) (tb_at tkX11_isMarked 4 rfl) rfl rfl ?_
  refine r_aload_n (pc := 5) (tb_at tkX11_isMarked 5 rfl) rfl rfl ?_
  refine r_get 10 0 (pc := 6) (tb_at tkX11_isMarked 6 rfl) ly_66 flX11_11 rfl ?_
  refine r_iconst (pc := 9) (tb_at tkX11_isMarked 7 rfl) ⟨by decide, by decide⟩ ?_
  refine r_iald_k (k0 := 0) (pc := 10) (tb_at tkX11_isMarked 8 rfl) ly_67 rfl (by decide) (by decide) ?_
  refine q_icmp_ge (tgt := 125) (pc := 11) (tb_at tkX11_isMarked 9 rfl) (by decide) (fun c => ?_) (fun c => ?_)
  · replace h := h.1 c
    refine r_iload_n (pc := 125) (tb_at tkX11_isMarked 65 rfl) rfl rfl ?_
    exact r_zret (pc := 126) (tb_at tkX11_isMarked 66 rfl) rfl h.1 (Nat.le_refl _) (Nat.le_refl _) ⟨_, rfl, rfl, h.2⟩
  · replace h := h.2 c
    refine r_iconst (pc := 14) (tb_at tkX11_isMarked 10 rfl) ⟨by decide, by decide⟩ ?_
    refine r_istore (L' := [some (.inr (.inr (some 66))), some (.inl v1), some (.inl v2), some (.inl v3), some (.inl 0), none, none]) (pc := 15) (tb_at tkX11_isMarked 11 rfl) (by decide) rfl ?_
    exact h
set_option maxRecDepth 100000 in
set_option maxHeartbeats 4000000 in
theorem gX11_isMarked_17 {G : GE} {d : Nat} {K : Int → Mem → Prop} {M : Mem} {v1 v2 v3 v4 : Int}  (h : (((M 67 0) ≤ v4 → OkI G miX11_isMarked (d + 1) K 4 [some (.inr (.inr (some 66))), some (.inl v1), some (.inl v2), some (.inl (w32 (v3 + 1))), none, none, none] [] M) ∧ (v4 < (M 67 0) → CalI G miX11_has d [.inl v1, .inl v4] M (fun x2 M1 => ((x2 = 0 → OkI G miX11_isMarked (d + 1) K 52 [some (.inr (.inr (some 66))), some (.inl v1), some (.inl v2), some (.inl v3), some (.inl v4), none, none] [] M1) ∧ (¬ x2 = 0 → (0 ≤ v4 ∧ v4 < 7) ∧ CalI G miX11_markOf d [.inr (.inr (some 66)), .inl v3, .inl v4] M1 (fun x4 M3 => ((v2 = 0 → OkI G miX11_isMarked (d + 1) K 17 [some (.inr (.inr (some 66))), some (.inl v1), some (.inl 0), some (.inl v3), some (.inl (w32 (v4 + 1))), none, none] [] M3) ∧ (¬ v2 = 0 → ((¬ x4 = 2 → OkI G miX11_isMarked (d + 1) K 79 [some (.inr (.inr (some 66))), some (.inl v1), none, some (.inl v3), some (.inl v4), some (.inl (if (M1 70 (v4).toNat) = v3 then (1 : Int) else 0)), some (.inl x4)] [] M3) ∧ (x4 = 2 → (((M1 70 (v4).toNat) = v3 → OkI G miX11_isMarked (d + 1) K 17 [some (.inr (.inr (some 66))), some (.inl v1), some (.inl 0), some (.inl v3), some (.inl (w32 (v4 + 1))), none, none] [] M3) ∧ (¬ ((M1 70 (v4).toNat) = v3) → OkI G miX11_isMarked (d + 1) K 79 [some (.inr (.inr (some 66))), some (.inl v1), none, some (.inl v3), some (.inl v4), some (.inl (if (M1 70 (v4).toNat) = v3 then (1 : Int) else 0)), some (.inl x4)] [] M3))))))))))))) : OkI G miX11_isMarked (d + 1) K 17 [some (.inr (.inr (some 66))), some (.inl v1), some (.inl v2), some (.inl v3), some (.inl v4), none, none] [] M := by
  refine r_iload (pc := 17) (tb_at tkX11_isMarked 12 rfl) rfl ?_
  refine r_aload_n (pc := 19) (tb_at tkX11_isMarked 13 rfl) rfl rfl ?_
  refine r_get 10 0 (pc := 20) (tb_at tkX11_isMarked 14 rfl) ly_66 flX11_11 rfl ?_
  refine r_iconst (pc := 23) (tb_at tkX11_isMarked 15 rfl) ⟨by decide, by decide⟩ ?_
  refine r_iald_k (k0 := 0) (pc := 24) (tb_at tkX11_isMarked 16 rfl) ly_67 rfl (by decide) (by decide) ?_
  refine q_icmp_ge (tgt := 119) (pc := 25) (tb_at tkX11_isMarked 17 rfl) (by decide) (fun c => ?_) (fun c => ?_)
  · replace h := h.1 c
    refine r_iinc (L' := [some (.inr (.inr (some 66))), some (.inl v1), some (.inl v2), some (.inl (w32 (v3 + 1))), some (.inl v4), none, none]) (pc := 119) (tb_at tkX11_isMarked 63 rfl) rfl (by decide) rfl ?_
    refine r_goto (tgt := 4) (pc := 122) (tb_at tkX11_isMarked 64 rfl) (by decide) ?_
    exact Ok.forget h (And.intro rfl (And.intro rfl (And.intro rfl (And.intro rfl trivial))))
  · replace h := h.2 c
    refine r_iload_n (pc := 28) (tb_at tkX11_isMarked 18 rfl) rfl rfl ?_
    refine r_iload (pc := 29) (tb_at tkX11_isMarked 19 rfl) rfl ?_
    refine r_invS (mc' := 0) (ms' := 0) [.inl v1, .inl v4] (S := []) (pc := 31) (tb_at tkX11_isMarked 20 rfl) rfl clX11_176 (Nat.le_of_ble_eq_true rfl) (Nat.le_refl _) (Nat.le_refl _) ?_
    refine Cal.mono h ?_
    rintro _ _ M1 ⟨x2, rfl, rfl, h⟩
    show OkI G miX11_isMarked (d + 1) K 34 [some (.inr (.inr (some 66))), some (.inl v1), some (.inl v2), some (.inl v3), some (.inl v4), none, none] [.inl x2] M1
    refine q_if_eq (tgt := 52) (pc := 34) (tb_at tkX11_isMarked 21 rfl) (by decide) (fun c => ?_) (fun c => ?_)
    · replace h := h.1 c
      exact h
    · replace h := h.2 c
      refine r_aload_n (pc := 37) (tb_at tkX11_isMarked 22 rfl) rfl rfl ?_
      refine r_get 10 4 (pc := 38) (tb_at tkX11_isMarked 23 rfl) ly_66 flX11_21 rfl ?_
      refine r_iload (pc := 41) (tb_at tkX11_isMarked 24 rfl) rfl ?_
      refine r_iald (pc := 43) (tb_at tkX11_isMarked 25 rfl) ly_70 h.1.1 h.1.2 ?_
      replace h := h.2
      refine r_iload_n (pc := 44) (tb_at tkX11_isMarked 26 rfl) rfl rfl ?_
      have hJ5 : ∀ t0 : Int, t0 = (if (M1 70 (v4).toNat) = v3 then (1 : Int) else 0) → OkI G miX11_isMarked (d + 1) K 53 [some (.inr (.inr (some 66))), some (.inl v1), some (.inl v2), some (.inl v3), some (.inl v4), none, none] [.inl t0] M1 := by
        rintro _ rfl
        refine r_istore (L' := [some (.inr (.inr (some 66))), some (.inl v1), some (.inl v2), some (.inl v3), some (.inl v4), some (.inl (if (M1 70 (v4).toNat) = v3 then (1 : Int) else 0)), none]) (pc := 53) (tb_at tkX11_isMarked 31 rfl) (by decide) rfl ?_
        refine r_aload_n (pc := 55) (tb_at tkX11_isMarked 32 rfl) rfl rfl ?_
        refine r_iload_n (pc := 56) (tb_at tkX11_isMarked 33 rfl) rfl rfl ?_
        refine r_iload (pc := 57) (tb_at tkX11_isMarked 34 rfl) rfl ?_
        refine r_invV (mc' := 0) (ms' := 0) [.inl v3, .inl v4] (S := []) (pc := 59) (tb_at tkX11_isMarked 35 rfl) rfl ly_66 rfl rfl clX11_179 (Nat.le_of_ble_eq_true rfl) (Nat.le_refl _) (Nat.le_refl _) ?_
        refine Cal.mono h ?_
        rintro _ _ M3 ⟨x4, rfl, rfl, h⟩
        show OkI G miX11_isMarked (d + 1) K 62 [some (.inr (.inr (some 66))), some (.inl v1), some (.inl v2), some (.inl v3), some (.inl v4), some (.inl (if (M1 70 (v4).toNat) = v3 then (1 : Int) else 0)), none] [.inl x4] M3
        refine r_istore (L' := [some (.inr (.inr (some 66))), some (.inl v1), some (.inl v2), some (.inl v3), some (.inl v4), some (.inl (if (M1 70 (v4).toNat) = v3 then (1 : Int) else 0)), some (.inl x4)]) (pc := 62) (tb_at tkX11_isMarked 36 rfl) (by decide) rfl ?_
        refine r_iload_n (pc := 64) (tb_at tkX11_isMarked 37 rfl) rfl rfl ?_
        refine q_if_eq (tgt := 111) (pc := 65) (tb_at tkX11_isMarked 38 rfl) (by decide) (fun c => ?_) (fun c => ?_)
        · replace h := h.1 c
          refine r_iconst (pc := 111) (tb_at tkX11_isMarked 59 rfl) ⟨by decide, by decide⟩ ?_
          refine r_istore_n (L' := [some (.inr (.inr (some 66))), some (.inl v1), some (.inl 0), some (.inl v3), some (.inl v4), some (.inl (if (M1 70 (v4).toNat) = v3 then (1 : Int) else 0)), some (.inl x4)]) (pc := 112) (tb_at tkX11_isMarked 60 rfl) rfl (by decide) rfl ?_
          refine r_iinc (L' := [some (.inr (.inr (some 66))), some (.inl v1), some (.inl 0), some (.inl v3), some (.inl (w32 (v4 + 1))), some (.inl (if (M1 70 (v4).toNat) = v3 then (1 : Int) else 0)), some (.inl x4)]) (pc := 113) (tb_at tkX11_isMarked 61 rfl) rfl (by decide) rfl ?_
          refine r_goto (tgt := 17) (pc := 116) (tb_at tkX11_isMarked 62 rfl) (by decide) ?_
          exact Ok.forget h (And.intro rfl (And.intro rfl (And.intro rfl (And.intro rfl (And.intro rfl trivial)))))
        · replace h := h.2 c
          refine r_iload (pc := 68) (tb_at tkX11_isMarked 39 rfl) rfl ?_
          refine r_iconst (pc := 70) (tb_at tkX11_isMarked 40 rfl) ⟨by decide, by decide⟩ ?_
          refine q_icmp_ne (tgt := 79) (pc := 71) (tb_at tkX11_isMarked 41 rfl) (by decide) (fun c => ?_) (fun c => ?_)
          · replace h := h.1 c
            exact Ok.forget h (And.intro rfl (And.intro rfl (And.intro rfl (And.intro rfl (And.intro rfl (And.intro rfl trivial))))))
          · replace h := h.2 c
            refine r_iload (pc := 74) (tb_at tkX11_isMarked 42 rfl) rfl ?_
            refine q_bif_ne (tgt := 111) (pc := 76) (tb_at tkX11_isMarked 43 rfl) (by decide) (fun c => ?_) (fun c => ?_)
            · replace h := h.1 c
              refine r_iconst (pc := 111) (tb_at tkX11_isMarked 59 rfl) ⟨by decide, by decide⟩ ?_
              refine r_istore_n (L' := [some (.inr (.inr (some 66))), some (.inl v1), some (.inl 0), some (.inl v3), some (.inl v4), some (.inl (if (M1 70 (v4).toNat) = v3 then (1 : Int) else 0)), some (.inl x4)]) (pc := 112) (tb_at tkX11_isMarked 60 rfl) rfl (by decide) rfl ?_
              refine r_iinc (L' := [some (.inr (.inr (some 66))), some (.inl v1), some (.inl 0), some (.inl v3), some (.inl (w32 (v4 + 1))), some (.inl (if (M1 70 (v4).toNat) = v3 then (1 : Int) else 0)), some (.inl x4)]) (pc := 113) (tb_at tkX11_isMarked 61 rfl) rfl (by decide) rfl ?_
              refine r_goto (tgt := 17) (pc := 116) (tb_at tkX11_isMarked 62 rfl) (by decide) ?_
              exact Ok.forget h (And.intro rfl (And.intro rfl (And.intro rfl (And.intro rfl (And.intro rfl trivial)))))
            · replace h := h.2 c
              exact Ok.forget h (And.intro rfl (And.intro rfl (And.intro rfl (And.intro rfl (And.intro rfl (And.intro rfl trivial))))))
      refine q_icmp_ne (tgt := 52) (pc := 45) (tb_at tkX11_isMarked 27 rfl) (by decide) (fun c6 => ?_) (fun c6 => ?_)
      · refine r_iconst (pc := 52) (tb_at tkX11_isMarked 30 rfl) ⟨by decide, by decide⟩ ?_
        exact hJ5 _ (by simp only [if_neg c6])
      · refine r_iconst (pc := 48) (tb_at tkX11_isMarked 28 rfl) ⟨by decide, by decide⟩ ?_
        refine r_goto (tgt := 53) (pc := 49) (tb_at tkX11_isMarked 29 rfl) (by decide) ?_
        exact hJ5 _ (by simp only [if_pos c6])
set_option maxRecDepth 100000 in
set_option maxHeartbeats 4000000 in
theorem gX11_isMarked_52 {G : GE} {d : Nat} {K : Int → Mem → Prop} {M : Mem} {v1 v2 v3 v4 : Int}  (h : CalI G miX11_markOf d [.inr (.inr (some 66)), .inl v3, .inl v4] M (fun x2 M1 => ((v2 = 0 → OkI G miX11_isMarked (d + 1) K 17 [some (.inr (.inr (some 66))), some (.inl v1), some (.inl 0), some (.inl v3), some (.inl (w32 (v4 + 1))), none, none] [] M1) ∧ (¬ v2 = 0 → ((¬ x2 = 2 → OkI G miX11_isMarked (d + 1) K 79 [some (.inr (.inr (some 66))), some (.inl v1), none, some (.inl v3), some (.inl v4), some (.inl 0), some (.inl x2)] [] M1) ∧ (x2 = 2 → ((¬ (0 : Int) = 0 → OkI G miX11_isMarked (d + 1) K 17 [some (.inr (.inr (some 66))), some (.inl v1), some (.inl 0), some (.inl v3), some (.inl (w32 (v4 + 1))), none, none] [] M1) ∧ ((0 : Int) = 0 → OkI G miX11_isMarked (d + 1) K 79 [some (.inr (.inr (some 66))), some (.inl v1), none, some (.inl v3), some (.inl v4), some (.inl 0), some (.inl x2)] [] M1)))))))) : OkI G miX11_isMarked (d + 1) K 52 [some (.inr (.inr (some 66))), some (.inl v1), some (.inl v2), some (.inl v3), some (.inl v4), none, none] [] M := by
  refine r_iconst (pc := 52) (tb_at tkX11_isMarked 30 rfl) ⟨by decide, by decide⟩ ?_
  refine r_istore (L' := [some (.inr (.inr (some 66))), some (.inl v1), some (.inl v2), some (.inl v3), some (.inl v4), some (.inl 0), none]) (pc := 53) (tb_at tkX11_isMarked 31 rfl) (by decide) rfl ?_
  refine r_aload_n (pc := 55) (tb_at tkX11_isMarked 32 rfl) rfl rfl ?_
  refine r_iload_n (pc := 56) (tb_at tkX11_isMarked 33 rfl) rfl rfl ?_
  refine r_iload (pc := 57) (tb_at tkX11_isMarked 34 rfl) rfl ?_
  refine r_invV (mc' := 0) (ms' := 0) [.inl v3, .inl v4] (S := []) (pc := 59) (tb_at tkX11_isMarked 35 rfl) rfl ly_66 rfl rfl clX11_179 (Nat.le_of_ble_eq_true rfl) (Nat.le_refl _) (Nat.le_refl _) ?_
  refine Cal.mono h ?_
  rintro _ _ M1 ⟨x2, rfl, rfl, h⟩
  show OkI G miX11_isMarked (d + 1) K 62 [some (.inr (.inr (some 66))), some (.inl v1), some (.inl v2), some (.inl v3), some (.inl v4), some (.inl 0), none] [.inl x2] M1
  refine r_istore (L' := [some (.inr (.inr (some 66))), some (.inl v1), some (.inl v2), some (.inl v3), some (.inl v4), some (.inl 0), some (.inl x2)]) (pc := 62) (tb_at tkX11_isMarked 36 rfl) (by decide) rfl ?_
  refine r_iload_n (pc := 64) (tb_at tkX11_isMarked 37 rfl) rfl rfl ?_
  refine q_if_eq (tgt := 111) (pc := 65) (tb_at tkX11_isMarked 38 rfl) (by decide) (fun c => ?_) (fun c => ?_)
  · replace h := h.1 c
    refine r_iconst (pc := 111) (tb_at tkX11_isMarked 59 rfl) ⟨by decide, by decide⟩ ?_
    refine r_istore_n (L' := [some (.inr (.inr (some 66))), some (.inl v1), some (.inl 0), some (.inl v3), some (.inl v4), some (.inl 0), some (.inl x2)]) (pc := 112) (tb_at tkX11_isMarked 60 rfl) rfl (by decide) rfl ?_
    refine r_iinc (L' := [some (.inr (.inr (some 66))), some (.inl v1), some (.inl 0), some (.inl v3), some (.inl (w32 (v4 + 1))), some (.inl 0), some (.inl x2)]) (pc := 113) (tb_at tkX11_isMarked 61 rfl) rfl (by decide) rfl ?_
    refine r_goto (tgt := 17) (pc := 116) (tb_at tkX11_isMarked 62 rfl) (by decide) ?_
    exact Ok.forget h (And.intro rfl (And.intro rfl (And.intro rfl (And.intro rfl (And.intro rfl trivial)))))
  · replace h := h.2 c
    refine r_iload (pc := 68) (tb_at tkX11_isMarked 39 rfl) rfl ?_
    refine r_iconst (pc := 70) (tb_at tkX11_isMarked 40 rfl) ⟨by decide, by decide⟩ ?_
    refine q_icmp_ne (tgt := 79) (pc := 71) (tb_at tkX11_isMarked 41 rfl) (by decide) (fun c => ?_) (fun c => ?_)
    · replace h := h.1 c
      exact Ok.forget h (And.intro rfl (And.intro rfl (And.intro rfl (And.intro rfl (And.intro rfl (And.intro rfl trivial))))))
    · replace h := h.2 c
      refine r_iload (pc := 74) (tb_at tkX11_isMarked 42 rfl) rfl ?_
      refine q_if_ne (tgt := 111) (pc := 76) (tb_at tkX11_isMarked 43 rfl) (by decide) (fun c => ?_) (fun c => ?_)
      · replace h := h.1 c
        refine r_iconst (pc := 111) (tb_at tkX11_isMarked 59 rfl) ⟨by decide, by decide⟩ ?_
        refine r_istore_n (L' := [some (.inr (.inr (some 66))), some (.inl v1), some (.inl 0), some (.inl v3), some (.inl v4), some (.inl 0), some (.inl x2)]) (pc := 112) (tb_at tkX11_isMarked 60 rfl) rfl (by decide) rfl ?_
        refine r_iinc (L' := [some (.inr (.inr (some 66))), some (.inl v1), some (.inl 0), some (.inl v3), some (.inl (w32 (v4 + 1))), some (.inl 0), some (.inl x2)]) (pc := 113) (tb_at tkX11_isMarked 61 rfl) rfl (by decide) rfl ?_
        refine r_goto (tgt := 17) (pc := 116) (tb_at tkX11_isMarked 62 rfl) (by decide) ?_
        exact Ok.forget h (And.intro rfl (And.intro rfl (And.intro rfl (And.intro rfl (And.intro rfl trivial)))))
      · replace h := h.2 c
        exact Ok.forget h (And.intro rfl (And.intro rfl (And.intro rfl (And.intro rfl (And.intro rfl (And.intro rfl trivial))))))
set_option maxRecDepth 100000 in
set_option maxHeartbeats 4000000 in
theorem gX11_isMarked_79 {G : GE} {d : Nat} {K : Int → Mem → Prop} {M : Mem} {v1 v3 v4 v5 v6 : Int}  (h : ((¬ v6 = 1 → OkI G miX11_isMarked (d + 1) K 17 [some (.inr (.inr (some 66))), some (.inl v1), some (.inl 1), some (.inl v3), some (.inl (w32 (v4 + 1))), none, none] [] M) ∧ (v6 = 1 → ((¬ v5 = 0 → OkI G miX11_isMarked (d + 1) K 17 [some (.inr (.inr (some 66))), some (.inl v1), some (.inl 1), some (.inl v3), some (.inl (w32 (v4 + 1))), none, none] [] M) ∧ (v5 = 0 → CalI G miX11_has d [.inl v1, .inl v3] M (fun x2 M1 => ((¬ x2 = 0 → OkI G miX11_isMarked (d + 1) K 17 [some (.inr (.inr (some 66))), some (.inl v1), some (.inl 0), some (.inl v3), some (.inl (w32 (v4 + 1))), none, none] [] M1) ∧ (x2 = 0 → CalI G miX11_has d [.inl v1, .inl v4] M1 (fun x4 M3 => OkI G miX11_isMarked (d + 1) K 17 [some (.inr (.inr (some 66))), some (.inl v1), some (.inl (if x4 = 0 then (1 : Int) else 0)), some (.inl v3), some (.inl (w32 (v4 + 1))), none, none] [] M3))))))))) : OkI G miX11_isMarked (d + 1) K 79 [some (.inr (.inr (some 66))), some (.inl v1), none, some (.inl v3), some (.inl v4), some (.inl v5), some (.inl v6)] [] M := by
  refine r_iload (pc := 79) (tb_at tkX11_isMarked 44 rfl) rfl ?_
  refine r_iconst (pc := 81) (tb_at tkX11_isMarked 45 rfl) ⟨by decide, by decide⟩ ?_
  refine q_icmp_ne (tgt := 107) (pc := 82) (tb_at tkX11_isMarked 46 rfl) (by decide) (fun c => ?_) (fun c => ?_)
  · replace h := h.1 c
    refine r_iconst (pc := 107) (tb_at tkX11_isMarked 57 rfl) ⟨by decide, by decide⟩ ?_
    refine r_goto (tgt := 112) (pc := 108) (tb_at tkX11_isMarked 58 rfl) (by decide) ?_
    refine r_istore_n (L' := [some (.inr (.inr (some 66))), some (.inl v1), some (.inl 1), some (.inl v3), some (.inl v4), some (.inl v5), some (.inl v6)]) (pc := 112) (tb_at tkX11_isMarked 60 rfl) rfl (by decide) rfl ?_
    refine r_iinc (L' := [some (.inr (.inr (some 66))), some (.inl v1), some (.inl 1), some (.inl v3), some (.inl (w32 (v4 + 1))), some (.inl v5), some (.inl v6)]) (pc := 113) (tb_at tkX11_isMarked 61 rfl) rfl (by decide) rfl ?_
    refine r_goto (tgt := 17) (pc := 116) (tb_at tkX11_isMarked 62 rfl) (by decide) ?_
    exact Ok.forget h (And.intro rfl (And.intro rfl (And.intro rfl (And.intro rfl (And.intro rfl trivial)))))
  · replace h := h.2 c
    refine r_iload (pc := 85) (tb_at tkX11_isMarked 47 rfl) rfl ?_
    refine q_if_ne (tgt := 107) (pc := 87) (tb_at tkX11_isMarked 48 rfl) (by decide) (fun c => ?_) (fun c => ?_)
    · replace h := h.1 c
      refine r_iconst (pc := 107) (tb_at tkX11_isMarked 57 rfl) ⟨by decide, by decide⟩ ?_
      refine r_goto (tgt := 112) (pc := 108) (tb_at tkX11_isMarked 58 rfl) (by decide) ?_
      refine r_istore_n (L' := [some (.inr (.inr (some 66))), some (.inl v1), some (.inl 1), some (.inl v3), some (.inl v4), some (.inl v5), some (.inl v6)]) (pc := 112) (tb_at tkX11_isMarked 60 rfl) rfl (by decide) rfl ?_
      refine r_iinc (L' := [some (.inr (.inr (some 66))), some (.inl v1), some (.inl 1), some (.inl v3), some (.inl (w32 (v4 + 1))), some (.inl v5), some (.inl v6)]) (pc := 113) (tb_at tkX11_isMarked 61 rfl) rfl (by decide) rfl ?_
      refine r_goto (tgt := 17) (pc := 116) (tb_at tkX11_isMarked 62 rfl) (by decide) ?_
      exact Ok.forget h (And.intro rfl (And.intro rfl (And.intro rfl (And.intro rfl (And.intro rfl trivial)))))
    · replace h := h.2 c
      refine r_iload_n (pc := 90) (tb_at tkX11_isMarked 49 rfl) rfl rfl ?_
      refine r_iload_n (pc := 91) (tb_at tkX11_isMarked 50 rfl) rfl rfl ?_
      refine r_invS (mc' := 0) (ms' := 0) [.inl v1, .inl v3] (S := []) (pc := 92) (tb_at tkX11_isMarked 51 rfl) rfl clX11_176 (Nat.le_of_ble_eq_true rfl) (Nat.le_refl _) (Nat.le_refl _) ?_
      refine Cal.mono h ?_
      rintro _ _ M1 ⟨x2, rfl, rfl, h⟩
      show OkI G miX11_isMarked (d + 1) K 95 [some (.inr (.inr (some 66))), some (.inl v1), none, some (.inl v3), some (.inl v4), some (.inl v5), some (.inl v6)] [.inl x2] M1
      refine q_if_ne (tgt := 111) (pc := 95) (tb_at tkX11_isMarked 52 rfl) (by decide) (fun c => ?_) (fun c => ?_)
      · replace h := h.1 c
        refine r_iconst (pc := 111) (tb_at tkX11_isMarked 59 rfl) ⟨by decide, by decide⟩ ?_
        refine r_istore_n (L' := [some (.inr (.inr (some 66))), some (.inl v1), some (.inl 0), some (.inl v3), some (.inl v4), some (.inl v5), some (.inl v6)]) (pc := 112) (tb_at tkX11_isMarked 60 rfl) rfl (by decide) rfl ?_
        refine r_iinc (L' := [some (.inr (.inr (some 66))), some (.inl v1), some (.inl 0), some (.inl v3), some (.inl (w32 (v4 + 1))), some (.inl v5), some (.inl v6)]) (pc := 113) (tb_at tkX11_isMarked 61 rfl) rfl (by decide) rfl ?_
        refine r_goto (tgt := 17) (pc := 116) (tb_at tkX11_isMarked 62 rfl) (by decide) ?_
        exact Ok.forget h (And.intro rfl (And.intro rfl (And.intro rfl (And.intro rfl (And.intro rfl trivial)))))
      · replace h := h.2 c
        refine r_iload_n (pc := 98) (tb_at tkX11_isMarked 53 rfl) rfl rfl ?_
        refine r_iload (pc := 99) (tb_at tkX11_isMarked 54 rfl) rfl ?_
        refine r_invS (mc' := 0) (ms' := 0) [.inl v1, .inl v4] (S := []) (pc := 101) (tb_at tkX11_isMarked 55 rfl) rfl clX11_176 (Nat.le_of_ble_eq_true rfl) (Nat.le_refl _) (Nat.le_refl _) ?_
        refine Cal.mono h ?_
        rintro _ _ M3 ⟨x4, rfl, rfl, h⟩
        show OkI G miX11_isMarked (d + 1) K 104 [some (.inr (.inr (some 66))), some (.inl v1), none, some (.inl v3), some (.inl v4), some (.inl v5), some (.inl v6)] [.inl x4] M3
        have hJ5 : ∀ t0 : Int, t0 = (if x4 = 0 then (1 : Int) else 0) → OkI G miX11_isMarked (d + 1) K 112 [some (.inr (.inr (some 66))), some (.inl v1), none, some (.inl v3), some (.inl v4), some (.inl v5), some (.inl v6)] [.inl t0] M3 := by
          rintro _ rfl
          refine r_istore_n (L' := [some (.inr (.inr (some 66))), some (.inl v1), some (.inl (if x4 = 0 then (1 : Int) else 0)), some (.inl v3), some (.inl v4), some (.inl v5), some (.inl v6)]) (pc := 112) (tb_at tkX11_isMarked 60 rfl) rfl (by decide) rfl ?_
          refine r_iinc (L' := [some (.inr (.inr (some 66))), some (.inl v1), some (.inl (if x4 = 0 then (1 : Int) else 0)), some (.inl v3), some (.inl (w32 (v4 + 1))), some (.inl v5), some (.inl v6)]) (pc := 113) (tb_at tkX11_isMarked 61 rfl) rfl (by decide) rfl ?_
          refine r_goto (tgt := 17) (pc := 116) (tb_at tkX11_isMarked 62 rfl) (by decide) ?_
          exact Ok.forget h (And.intro rfl (And.intro rfl (And.intro rfl (And.intro rfl (And.intro rfl trivial)))))
        refine q_if_ne (tgt := 111) (pc := 104) (tb_at tkX11_isMarked 56 rfl) (by decide) (fun c6 => ?_) (fun c6 => ?_)
        · refine r_iconst (pc := 111) (tb_at tkX11_isMarked 59 rfl) ⟨by decide, by decide⟩ ?_
          exact hJ5 _ (by simp only [if_neg c6])
        · refine r_iconst (pc := 107) (tb_at tkX11_isMarked 57 rfl) ⟨by decide, by decide⟩ ?_
          refine r_goto (tgt := 112) (pc := 108) (tb_at tkX11_isMarked 58 rfl) (by decide) ?_
          exact hJ5 _ (by simp only [if_pos c6])
set_option maxRecDepth 100000 in
set_option maxHeartbeats 4000000 in
theorem gX11_costOf_0 {G : GE} {d : Nat} {K : Int → Mem → Prop} {M : Mem} {v1 : Int}  (h : CalV G miX11_lines d [.inr (.inr (some 66)), .inl v1] M (fun M1 => OkI G miX11_costOf (d + 1) K 28 [some (.inr (.inr (some 66))), some (.inl v1), some (.inl (-1)), some (.inl (-1)), some (.inl 0), some (.inl 0), some (.inl 0), none, none] [] (mup (mup M1 66 5 0) 66 6 0))) : OkI G miX11_costOf (d + 1) K 0 [some (.inr (.inr (some 66))), some (.inl v1), none, none, none, none, none, none, none] [] M := by
  refine r_aload_n (pc := 0) (tb_at tkX11_costOf 0 rfl) rfl rfl ?_
  refine r_iload_n (pc := 1) (tb_at tkX11_costOf 1 rfl) rfl rfl ?_
  refine r_invV (mc' := 0) (ms' := 0) [.inl v1] (S := []) (pc := 2) (tb_at tkX11_costOf 2 rfl) rfl ly_66 rfl rfl clX11_182 (Nat.le_of_ble_eq_true rfl) (Nat.le_refl _) (Nat.le_refl _) ?_
  refine Cal.mono h ?_
  rintro _ _ M1 ⟨rfl, rfl, h⟩
  show OkI G miX11_costOf (d + 1) K 5 [some (.inr (.inr (some 66))), some (.inl v1), none, none, none, none, none, none, none] [] M1
  refine r_iconst (pc := 5) (tb_at tkX11_costOf 3 rfl) ⟨by decide, by decide⟩ ?_
  refine r_istore_n (L' := [some (.inr (.inr (some 66))), some (.inl v1), some (.inl (-1)), none, none, none, none, none, none]) (pc := 6) (tb_at tkX11_costOf 4 rfl) rfl (by decide) rfl ?_
  refine r_iconst (pc := 7) (tb_at tkX11_costOf 5 rfl) ⟨by decide, by decide⟩ ?_
  refine r_istore_n (L' := [some (.inr (.inr (some 66))), some (.inl v1), some (.inl (-1)), some (.inl (-1)), none, none, none, none, none]) (pc := 8) (tb_at tkX11_costOf 6 rfl) rfl (by decide) rfl ?_
  refine r_iconst (pc := 9) (tb_at tkX11_costOf 7 rfl) ⟨by decide, by decide⟩ ?_
  refine r_istore (L' := [some (.inr (.inr (some 66))), some (.inl v1), some (.inl (-1)), some (.inl (-1)), some (.inl 0), none, none, none, none]) (pc := 10) (tb_at tkX11_costOf 8 rfl) (by decide) rfl ?_
  refine r_iconst (pc := 12) (tb_at tkX11_costOf 9 rfl) ⟨by decide, by decide⟩ ?_
  refine r_istore (L' := [some (.inr (.inr (some 66))), some (.inl v1), some (.inl (-1)), some (.inl (-1)), some (.inl 0), some (.inl 0), none, none, none]) (pc := 13) (tb_at tkX11_costOf 10 rfl) (by decide) rfl ?_
  refine r_aload_n (pc := 15) (tb_at tkX11_costOf 11 rfl) rfl rfl ?_
  refine r_iconst (pc := 16) (tb_at tkX11_costOf 12 rfl) ⟨by decide, by decide⟩ ?_
  refine r_put 10 5 0 (pc := 17) (tb_at tkX11_costOf 13 rfl) ly_66 flX11_186 (fun r h => by cases h; rfl) (.inl rfl) rfl (fun h => by cases h) rfl ?_
  refine r_aload_n (pc := 20) (tb_at tkX11_costOf 14 rfl) rfl rfl ?_
  refine r_iconst (pc := 21) (tb_at tkX11_costOf 15 rfl) ⟨by decide, by decide⟩ ?_
  refine r_put 10 6 0 (pc := 22) (tb_at tkX11_costOf 16 rfl) ly_66 flX11_190 (fun r h => by cases h; rfl) (.inl rfl) rfl (fun h => by cases h) rfl ?_
  refine r_iconst (pc := 25) (tb_at tkX11_costOf 17 rfl) ⟨by decide, by decide⟩ ?_
  refine r_istore (L' := [some (.inr (.inr (some 66))), some (.inl v1), some (.inl (-1)), some (.inl (-1)), some (.inl 0), some (.inl 0), some (.inl 0), none, none]) (pc := 26) (tb_at tkX11_costOf 18 rfl) (by decide) rfl ?_
  exact h
set_option maxRecDepth 100000 in
set_option maxHeartbeats 4000000 in
theorem gX11_costOf_28 {G : GE} {d : Nat} {K : Int → Mem → Prop} {M : Mem} {v1 v2 v3 v4 v5 v6 : Int}  (h : (((M 67 0) ≤ v6 → CalI G miX11_has d [.inl (M 67 86), .inl (M 66 7)] M (fun x2 M1 => ((x2 = 0 → K (-1) M1) ∧ (¬ x2 = 0 → (0 ≤ 8 + v3 ∧ 8 + v3 < 92) ∧ ((¬ (M1 67 (8 + v3).toNat) = (M1 66 7) → K (-1) M1) ∧ ((M1 67 (8 + v3).toNat) = (M1 66 7) → CalI G miX11_isMarked d [.inr (.inr (some 66)), .inl v1] M1 (fun x4 M3 => ((¬ x4 = 0 → (0 ≤ 22 + v3 ∧ 22 + v3 < 92) ∧ (0 ≤ 15 + v2 ∧ 15 + v2 < 92) ∧ K (w32 ((((M3 67 87) * (M3 66 5)) + ((M3 67 88) * ((M3 67 (22 + v3).toNat) - (M3 67 (15 + v2).toNat)))) + ((M3 67 89) * (M3 66 6)))) M3) ∧ (x4 = 0 → K (-1) M3))))))))) ∧ (v6 < (M 67 0) → (0 ≤ v6 ∧ v6 < 7) ∧ CalI G miX11_has d [.inl v1, .inl (M 69 (v6).toNat)] M (fun x6 M5 => ((¬ x6 = 0 → ((0 ≤ v3 → CalI G miX11_followsBy d [.inr (.inr (some 66)), .inl v3, .inl (M 69 (v6).toNat)] M5 (fun x8 M7 => OkI G miX11_costOf (d + 1) K 75 [some (.inr (.inr (some 66))), some (.inl v1), some (.inl v2), some (.inl v3), some (.inl v4), some (.inl v5), some (.inl v6), some (.inl (M 69 (v6).toNat)), none] [.inl x8] M7)) ∧ (v3 < 0 → OkI G miX11_costOf (d + 1) K 75 [some (.inr (.inr (some 66))), some (.inl v1), some (.inl v2), some (.inl v3), some (.inl v4), some (.inl v5), some (.inl v6), some (.inl (M 69 (v6).toNat)), none] [.inl 2] M5))) ∧ (x6 = 0 → OkI G miX11_costOf (d + 1) K 28 [some (.inr (.inr (some 66))), some (.inl v1), some (.inl v2), some (.inl v3), some (.inl v4), some (.inl v5), some (.inl (w32 (v6 + 1))), none, none] [] M5)))))) : OkI G miX11_costOf (d + 1) K 28 [some (.inr (.inr (some 66))), some (.inl v1), some (.inl v2), some (.inl v3), some (.inl v4), some (.inl v5), some (.inl v6), none, none] [] M := by
  refine r_iload (pc := 28) (tb_at tkX11_costOf 19 rfl) rfl ?_
  refine r_aload_n (pc := 30) (tb_at tkX11_costOf 20 rfl) rfl rfl ?_
  refine r_get 10 0 (pc := 31) (tb_at tkX11_costOf 21 rfl) ly_66 flX11_11 rfl ?_
  refine r_iconst (pc := 34) (tb_at tkX11_costOf 22 rfl) ⟨by decide, by decide⟩ ?_
  refine r_iald_k (k0 := 0) (pc := 35) (tb_at tkX11_costOf 23 rfl) ly_67 rfl (by decide) (by decide) ?_
  refine q_icmp_ge (tgt := 255) (pc := 36) (tb_at tkX11_costOf 24 rfl) (by decide) (fun c => ?_) (fun c => ?_)
  · replace h := h.1 c
    refine r_aload_n (pc := 255) (tb_at tkX11_costOf 139 rfl) rfl rfl ?_
    refine r_get 10 0 (pc := 256) (tb_at tkX11_costOf 140 rfl) ly_66 flX11_11 rfl ?_
    refine r_bipush (pc := 259) (tb_at tkX11_costOf 141 rfl) ⟨by decide, by decide, by decide⟩ ?_
    refine r_iald_k (k0 := 86) (pc := 261) (tb_at tkX11_costOf 142 rfl) ly_67 rfl (by decide) (by decide) ?_
    refine r_aload_n (pc := 262) (tb_at tkX11_costOf 143 rfl) rfl rfl ?_
    refine r_get 10 7 (pc := 263) (tb_at tkX11_costOf 144 rfl) ly_66 flX11_193 rfl ?_
    refine r_invS (mc' := 0) (ms' := 0) [.inl (M 67 86), .inl (M 66 7)] (S := []) (pc := 266) (tb_at tkX11_costOf 145 rfl) rfl clX11_176 (Nat.le_of_ble_eq_true rfl) (Nat.le_refl _) (Nat.le_refl _) ?_
    refine Cal.mono h ?_
    rintro _ _ M1 ⟨x2, rfl, rfl, h⟩
    show OkI G miX11_costOf (d + 1) K 269 [some (.inr (.inr (some 66))), some (.inl v1), some (.inl v2), some (.inl v3), some (.inl v4), some (.inl v5), some (.inl v6), none, none] [.inl x2] M1
    refine q_if_eq (tgt := 296) (pc := 269) (tb_at tkX11_costOf 146 rfl) (by decide) (fun c => ?_) (fun c => ?_)
    · replace h := h.1 c
      refine r_iconst (pc := 296) (tb_at tkX11_costOf 160 rfl) ⟨by decide, by decide⟩ ?_
      exact r_iret (pc := 297) (tb_at tkX11_costOf 161 rfl) rfl (Nat.le_refl _) (Nat.le_refl _) ⟨_, rfl, rfl, h⟩
    · replace h := h.2 c
      refine r_aload_n (pc := 272) (tb_at tkX11_costOf 147 rfl) rfl rfl ?_
      refine r_get 10 0 (pc := 273) (tb_at tkX11_costOf 148 rfl) ly_66 flX11_11 rfl ?_
      refine r_bipush (pc := 276) (tb_at tkX11_costOf 149 rfl) ⟨by decide, by decide, by decide⟩ ?_
      refine r_iload_n (pc := 278) (tb_at tkX11_costOf 150 rfl) rfl rfl ?_
      refine r_iadd (pc := 279) (tb_at tkX11_costOf 151 rfl) ?_
      refine r_iald_w (pc := 280) (tb_at tkX11_costOf 152 rfl) ly_67 (by decide) h.1.1 h.1.2 ?_
      replace h := h.2
      refine r_aload_n (pc := 281) (tb_at tkX11_costOf 153 rfl) rfl rfl ?_
      refine r_get 10 7 (pc := 282) (tb_at tkX11_costOf 154 rfl) ly_66 flX11_193 rfl ?_
      refine q_icmp_ne (tgt := 296) (pc := 285) (tb_at tkX11_costOf 155 rfl) (by decide) (fun c => ?_) (fun c => ?_)
      · replace h := h.1 c
        refine r_iconst (pc := 296) (tb_at tkX11_costOf 160 rfl) ⟨by decide, by decide⟩ ?_
        exact r_iret (pc := 297) (tb_at tkX11_costOf 161 rfl) rfl (Nat.le_refl _) (Nat.le_refl _) ⟨_, rfl, rfl, h⟩
      · replace h := h.2 c
        refine r_aload_n (pc := 288) (tb_at tkX11_costOf 156 rfl) rfl rfl ?_
        refine r_iload_n (pc := 289) (tb_at tkX11_costOf 157 rfl) rfl rfl ?_
        refine r_invV (mc' := 0) (ms' := 0) [.inl v1] (S := []) (pc := 290) (tb_at tkX11_costOf 158 rfl) rfl ly_66 rfl rfl clX11_196 (Nat.le_of_ble_eq_true rfl) (Nat.le_refl _) (Nat.le_refl _) ?_
        refine Cal.mono h ?_
        rintro _ _ M3 ⟨x4, rfl, rfl, h⟩
        show OkI G miX11_costOf (d + 1) K 293 [some (.inr (.inr (some 66))), some (.inl v1), some (.inl v2), some (.inl v3), some (.inl v4), some (.inl v5), some (.inl v6), none, none] [.inl x4] M3
        refine q_if_ne (tgt := 298) (pc := 293) (tb_at tkX11_costOf 159 rfl) (by decide) (fun c => ?_) (fun c => ?_)
        · replace h := h.1 c
          refine r_aload_n (pc := 298) (tb_at tkX11_costOf 162 rfl) rfl rfl ?_
          refine r_get 10 0 (pc := 299) (tb_at tkX11_costOf 163 rfl) ly_66 flX11_11 rfl ?_
          refine r_bipush (pc := 302) (tb_at tkX11_costOf 164 rfl) ⟨by decide, by decide, by decide⟩ ?_
          refine r_iald_k (k0 := 87) (pc := 304) (tb_at tkX11_costOf 165 rfl) ly_67 rfl (by decide) (by decide) ?_
          refine r_aload_n (pc := 305) (tb_at tkX11_costOf 166 rfl) rfl rfl ?_
          refine r_get 10 5 (pc := 306) (tb_at tkX11_costOf 167 rfl) ly_66 flX11_186 rfl ?_
          refine r_imul (pc := 309) (tb_at tkX11_costOf 168 rfl) ?_
          refine r_aload_n (pc := 310) (tb_at tkX11_costOf 169 rfl) rfl rfl ?_
          refine r_get 10 0 (pc := 311) (tb_at tkX11_costOf 170 rfl) ly_66 flX11_11 rfl ?_
          refine r_bipush (pc := 314) (tb_at tkX11_costOf 171 rfl) ⟨by decide, by decide, by decide⟩ ?_
          refine r_iald_k (k0 := 88) (pc := 316) (tb_at tkX11_costOf 172 rfl) ly_67 rfl (by decide) (by decide) ?_
          refine r_aload_n (pc := 317) (tb_at tkX11_costOf 173 rfl) rfl rfl ?_
          refine r_get 10 0 (pc := 318) (tb_at tkX11_costOf 174 rfl) ly_66 flX11_11 rfl ?_
          refine r_bipush (pc := 321) (tb_at tkX11_costOf 175 rfl) ⟨by decide, by decide, by decide⟩ ?_
          refine r_iload_n (pc := 323) (tb_at tkX11_costOf 176 rfl) rfl rfl ?_
          refine r_iadd (pc := 324) (tb_at tkX11_costOf 177 rfl) ?_
          refine r_iald_w (pc := 325) (tb_at tkX11_costOf 178 rfl) ly_67 (by decide) h.1.1 h.1.2 ?_
          replace h := h.2
          refine r_aload_n (pc := 326) (tb_at tkX11_costOf 179 rfl) rfl rfl ?_
          refine r_get 10 0 (pc := 327) (tb_at tkX11_costOf 180 rfl) ly_66 flX11_11 rfl ?_
          refine r_bipush (pc := 330) (tb_at tkX11_costOf 181 rfl) ⟨by decide, by decide, by decide⟩ ?_
          refine r_iload_n (pc := 332) (tb_at tkX11_costOf 182 rfl) rfl rfl ?_
          refine r_iadd (pc := 333) (tb_at tkX11_costOf 183 rfl) ?_
          refine r_iald_w (pc := 334) (tb_at tkX11_costOf 184 rfl) ly_67 (by decide) h.1.1 h.1.2 ?_
          replace h := h.2
          refine r_isub (pc := 335) (tb_at tkX11_costOf 185 rfl) ?_
          refine r_imul_r (pc := 336) (tb_at tkX11_costOf 186 rfl) ?_
          refine r_iadd_lr (pc := 337) (tb_at tkX11_costOf 187 rfl) ?_
          refine r_aload_n (pc := 338) (tb_at tkX11_costOf 188 rfl) rfl rfl ?_
          refine r_get 10 0 (pc := 339) (tb_at tkX11_costOf 189 rfl) ly_66 flX11_11 rfl ?_
          refine r_bipush (pc := 342) (tb_at tkX11_costOf 190 rfl) ⟨by decide, by decide, by decide⟩ ?_
          refine r_iald_k (k0 := 89) (pc := 344) (tb_at tkX11_costOf 191 rfl) ly_67 rfl (by decide) (by decide) ?_
          refine r_aload_n (pc := 345) (tb_at tkX11_costOf 192 rfl) rfl rfl ?_
          refine r_get 10 6 (pc := 346) (tb_at tkX11_costOf 193 rfl) ly_66 flX11_190 rfl ?_
          refine r_imul (pc := 349) (tb_at tkX11_costOf 194 rfl) ?_
          refine r_iadd_lr (pc := 350) (tb_at tkX11_costOf 195 rfl) ?_
          exact r_iret (pc := 351) (tb_at tkX11_costOf 196 rfl) rfl (Nat.le_refl _) (Nat.le_refl _) ⟨_, rfl, rfl, h⟩
        · replace h := h.2 c
          refine r_iconst (pc := 296) (tb_at tkX11_costOf 160 rfl) ⟨by decide, by decide⟩ ?_
          exact r_iret (pc := 297) (tb_at tkX11_costOf 161 rfl) rfl (Nat.le_refl _) (Nat.le_refl _) ⟨_, rfl, rfl, h⟩
  · replace h := h.2 c
    refine r_aload_n (pc := 39) (tb_at tkX11_costOf 25 rfl) rfl rfl ?_
    refine r_get 10 3 (pc := 40) (tb_at tkX11_costOf 26 rfl) ly_66 flX11_18 rfl ?_
    refine r_iload (pc := 43) (tb_at tkX11_costOf 27 rfl) rfl ?_
    refine r_iald (pc := 45) (tb_at tkX11_costOf 28 rfl) ly_69 h.1.1 h.1.2 ?_
    replace h := h.2
    refine r_istore (L' := [some (.inr (.inr (some 66))), some (.inl v1), some (.inl v2), some (.inl v3), some (.inl v4), some (.inl v5), some (.inl v6), some (.inl (M 69 (v6).toNat)), none]) (pc := 46) (tb_at tkX11_costOf 29 rfl) (by decide) rfl ?_
    refine r_iload_n (pc := 48) (tb_at tkX11_costOf 30 rfl) rfl rfl ?_
    refine r_iload (pc := 49) (tb_at tkX11_costOf 31 rfl) rfl ?_
    refine r_invS (mc' := 0) (ms' := 0) [.inl v1, .inl (M 69 (v6).toNat)] (S := []) (pc := 51) (tb_at tkX11_costOf 32 rfl) rfl clX11_176 (Nat.le_of_ble_eq_true rfl) (Nat.le_refl _) (Nat.le_refl _) ?_
    refine Cal.mono h ?_
    rintro _ _ M5 ⟨x6, rfl, rfl, h⟩
    show OkI G miX11_costOf (d + 1) K 54 [some (.inr (.inr (some 66))), some (.inl v1), some (.inl v2), some (.inl v3), some (.inl v4), some (.inl v5), some (.inl v6), some (.inl (M 69 (v6).toNat)), none] [.inl x6] M5
    refine q_if_ne (tgt := 60) (pc := 54) (tb_at tkX11_costOf 33 rfl) (by decide) (fun c => ?_) (fun c => ?_)
    · replace h := h.1 c
      refine r_iload_n (pc := 60) (tb_at tkX11_costOf 35 rfl) rfl rfl ?_
      refine q_if_ge (tgt := 68) (pc := 61) (tb_at tkX11_costOf 36 rfl) (by decide) (fun c => ?_) (fun c => ?_)
      · replace h := h.1 c
        refine r_aload_n (pc := 68) (tb_at tkX11_costOf 39 rfl) rfl rfl ?_
        refine r_iload_n (pc := 69) (tb_at tkX11_costOf 40 rfl) rfl rfl ?_
        refine r_iload (pc := 70) (tb_at tkX11_costOf 41 rfl) rfl ?_
        refine r_invV (mc' := 0) (ms' := 0) [.inl v3, .inl (M 69 (v6).toNat)] (S := []) (pc := 72) (tb_at tkX11_costOf 42 rfl) rfl ly_66 rfl rfl clX11_162 (Nat.le_of_ble_eq_true rfl) (Nat.le_refl _) (Nat.le_refl _) ?_
        refine Cal.mono h ?_
        rintro _ _ M7 ⟨x8, rfl, rfl, h⟩
        show OkI G miX11_costOf (d + 1) K 75 [some (.inr (.inr (some 66))), some (.inl v1), some (.inl v2), some (.inl v3), some (.inl v4), some (.inl v5), some (.inl v6), some (.inl (M 69 (v6).toNat)), none] [.inl x8] M7
        exact h
      · replace h := h.2 c
        refine r_iconst (pc := 64) (tb_at tkX11_costOf 37 rfl) ⟨by decide, by decide⟩ ?_
        refine r_goto (tgt := 75) (pc := 65) (tb_at tkX11_costOf 38 rfl) (by decide) ?_
        exact h
    · replace h := h.2 c
      refine r_goto (tgt := 249) (pc := 57) (tb_at tkX11_costOf 34 rfl) (by decide) ?_
      refine r_iinc (L' := [some (.inr (.inr (some 66))), some (.inl v1), some (.inl v2), some (.inl v3), some (.inl v4), some (.inl v5), some (.inl (w32 (v6 + 1))), some (.inl (M 69 (v6).toNat)), none]) (pc := 249) (tb_at tkX11_costOf 137 rfl) rfl (by decide) rfl ?_
      refine r_goto (tgt := 28) (pc := 252) (tb_at tkX11_costOf 138 rfl) (by decide) ?_
      exact Ok.forget h (And.intro rfl (And.intro rfl (And.intro rfl (And.intro rfl (And.intro rfl (And.intro rfl (And.intro rfl trivial)))))))
set_option maxRecDepth 100000 in
set_option maxHeartbeats 4000000 in
theorem gX11_costOf_75 {G : GE} {d : Nat} {K : Int → Mem → Prop} {M : Mem} {v1 v2 v3 v4 v5 v6 v7 s0 : Int}  (h : (0 ≤ 1 + (if v3 < 0 then v7 else v2) ∧ 1 + (if v3 < 0 then v7 else v2) < 92) ∧ ((v3 < 0 → OkI G miX11_costOf (d + 1) K 123 [some (.inr (.inr (some 66))), some (.inl v1), some (.inl (if v3 < 0 then v7 else v2)), none, some (.inl v4), some (.inl v5), some (.inl v6), some (.inl v7), some (.inl s0)] [.inl ((mup M 66 7 (M 67 (1 + (if v3 < 0 then v7 else v2)).toNat)) 66 6), .inr (.inr (some 66))] (mup M 66 7 (M 67 (1 + (if v3 < 0 then v7 else v2)).toNat))) ∧ (0 ≤ v3 → CalI G miX11_isTight d [.inr (.inr (some 66)), .inl v3, .inl v7] (mup M 66 7 (M 67 (1 + (if v3 < 0 then v7 else v2)).toNat)) (fun x2 M1 => ((¬ s0 = 2 → OkI G miX11_costOf (d + 1) K 185 [some (.inr (.inr (some 66))), some (.inl v1), some (.inl (if v3 < 0 then v7 else v2)), none, some (.inl (if s0 = 2 then (1 : Int) else w32 (v4 + 1))), none, some (.inl v6), some (.inl v7), some (.inl s0)] [.inl v5] (mup (mup M1 66 6 (w32 (((mup M 66 7 (M 67 (1 + (if v3 < 0 then v7 else v2)).toNat)) 66 6) + (if ¬ (x2 = 0) then (1 : Int) else 0)))) 66 5 (w32 (((mup M1 66 6 (w32 (((mup M 66 7 (M 67 (1 + (if v3 < 0 then v7 else v2)).toNat)) 66 6) + (if ¬ (x2 = 0) then (1 : Int) else 0)))) 66 5) + (if s0 = 2 then (1 : Int) else 0))))) ∧ (s0 = 2 → (0 ≤ 15 + v7 ∧ 15 + v7 < 92) ∧ OkI G miX11_costOf (d + 1) K 185 [some (.inr (.inr (some 66))), some (.inl v1), some (.inl (if v3 < 0 then v7 else v2)), none, some (.inl (if s0 = 2 then (1 : Int) else w32 (v4 + 1))), none, some (.inl v6), some (.inl v7), some (.inl s0)] [.inl ((mup (mup M1 66 6 (w32 (((mup M 66 7 (M 67 (1 + (if v3 < 0 then v7 else v2)).toNat)) 66 6) + (if ¬ (x2 = 0) then (1 : Int) else 0)))) 66 5 (w32 (((mup M1 66 6 (w32 (((mup M 66 7 (M 67 (1 + (if v3 < 0 then v7 else v2)).toNat)) 66 6) + (if ¬ (x2 = 0) then (1 : Int) else 0)))) 66 5) + (if s0 = 2 then (1 : Int) else 0)))) 67 (15 + v7).toNat)] (mup (mup M1 66 6 (w32 (((mup M 66 7 (M 67 (1 + (if v3 < 0 then v7 else v2)).toNat)) 66 6) + (if ¬ (x2 = 0) then (1 : Int) else 0)))) 66 5 (w32 (((mup M1 66 6 (w32 (((mup M 66 7 (M 67 (1 + (if v3 < 0 then v7 else v2)).toNat)) 66 6) + (if ¬ (x2 = 0) then (1 : Int) else 0)))) 66 5) + (if s0 = 2 then (1 : Int) else 0)))))))))) : OkI G miX11_costOf (d + 1) K 75 [some (.inr (.inr (some 66))), some (.inl v1), some (.inl v2), some (.inl v3), some (.inl v4), some (.inl v5), some (.inl v6), some (.inl v7), none] [.inl s0] M := by
  refine r_istore (L' := [some (.inr (.inr (some 66))), some (.inl v1), some (.inl v2), some (.inl v3), some (.inl v4), some (.inl v5), some (.inl v6), some (.inl v7), some (.inl s0)]) (pc := 75) (tb_at tkX11_costOf 43 rfl) (by decide) rfl ?_
  refine r_iload_n (pc := 77) (tb_at tkX11_costOf 44 rfl) rfl rfl ?_
  have hJ9 : ∀ t0 : Int, t0 = (if v3 < 0 then v7 else v2) → OkI G miX11_costOf (d + 1) K 87 [some (.inr (.inr (some 66))), some (.inl v1), some (.inl v2), some (.inl v3), some (.inl v4), some (.inl v5), some (.inl v6), some (.inl v7), some (.inl s0)] [.inl t0] M := by
    rintro _ rfl
    refine r_istore_n (L' := [some (.inr (.inr (some 66))), some (.inl v1), some (.inl (if v3 < 0 then v7 else v2)), some (.inl v3), some (.inl v4), some (.inl v5), some (.inl v6), some (.inl v7), some (.inl s0)]) (pc := 87) (tb_at tkX11_costOf 49 rfl) rfl (by decide) rfl ?_
    refine r_aload_n (pc := 88) (tb_at tkX11_costOf 50 rfl) rfl rfl ?_
    refine r_aload_n (pc := 89) (tb_at tkX11_costOf 51 rfl) rfl rfl ?_
    refine r_get 10 0 (pc := 90) (tb_at tkX11_costOf 52 rfl) ly_66 flX11_11 rfl ?_
    refine r_iconst (pc := 93) (tb_at tkX11_costOf 53 rfl) ⟨by decide, by decide⟩ ?_
    refine r_iload_n (pc := 94) (tb_at tkX11_costOf 54 rfl) rfl rfl ?_
    refine r_iadd (pc := 95) (tb_at tkX11_costOf 55 rfl) ?_
    refine r_iald_w (pc := 96) (tb_at tkX11_costOf 56 rfl) ly_67 (by decide) h.1.1 h.1.2 ?_
    replace h := h.2
    refine r_put 10 7 (M 67 (1 + (if v3 < 0 then v7 else v2)).toNat) (pc := 97) (tb_at tkX11_costOf 57 rfl) ly_66 flX11_193 (fun r h => by cases h; rfl) (.inl rfl) rfl (fun h => by cases h) rfl ?_
    refine r_aload_n (pc := 100) (tb_at tkX11_costOf 58 rfl) rfl rfl ?_
    refine r_dup (pc := 101) (tb_at tkX11_costOf 59 rfl) (fun _ h => by cases h) ?_
    refine r_get 10 6 (pc := 102) (tb_at tkX11_costOf 60 rfl) ly_66 flX11_190 rfl ?_
    refine r_iload_n (pc := 105) (tb_at tkX11_costOf 61 rfl) rfl rfl ?_
    refine q_if_lt (tgt := 123) (pc := 106) (tb_at tkX11_costOf 62 rfl) (by decide) (fun c => ?_) (fun c => ?_)
    · replace h := h.1 c
      exact Ok.forget h (And.intro rfl (And.intro rfl (And.intro rfl (And.intro rfl (And.intro rfl (And.intro rfl (And.intro rfl (And.intro rfl trivial))))))))
    · replace h := h.2 c
      refine r_aload_n (pc := 109) (tb_at tkX11_costOf 63 rfl) rfl rfl ?_
      refine r_iload_n (pc := 110) (tb_at tkX11_costOf 64 rfl) rfl rfl ?_
      refine r_iload (pc := 111) (tb_at tkX11_costOf 65 rfl) rfl ?_
      refine r_invV (mc' := 0) (ms' := 0) [.inl v3, .inl v7] (S := [.inl ((mup M 66 7 (M 67 (1 + (if v3 < 0 then v7 else v2)).toNat)) 66 6), .inr (.inr (some 66))]) (pc := 113) (tb_at tkX11_costOf 66 rfl) rfl ly_66 rfl rfl clX11_168 (Nat.le_of_ble_eq_true rfl) (Nat.le_refl _) (Nat.le_refl _) ?_
      refine Cal.mono h ?_
      rintro _ _ M1 ⟨x2, rfl, rfl, h⟩
      show OkI G miX11_costOf (d + 1) K 116 [some (.inr (.inr (some 66))), some (.inl v1), some (.inl (if v3 < 0 then v7 else v2)), some (.inl v3), some (.inl v4), some (.inl v5), some (.inl v6), some (.inl v7), some (.inl s0)] [.inl x2, .inl ((mup M 66 7 (M 67 (1 + (if v3 < 0 then v7 else v2)).toNat)) 66 6), .inr (.inr (some 66))] M1
      have hJ7 : ∀ t0 : Int, t0 = (if ¬ (x2 = 0) then (1 : Int) else 0) → OkI G miX11_costOf (d + 1) K 124 [some (.inr (.inr (some 66))), some (.inl v1), some (.inl (if v3 < 0 then v7 else v2)), some (.inl v3), some (.inl v4), some (.inl v5), some (.inl v6), some (.inl v7), some (.inl s0)] [.inl t0, .inl ((mup M 66 7 (M 67 (1 + (if v3 < 0 then v7 else v2)).toNat)) 66 6), .inr (.inr (some 66))] M1 := by
        rintro _ rfl
        refine r_iadd (pc := 124) (tb_at tkX11_costOf 71 rfl) ?_
        refine r_put 10 6 (w32 (((mup M 66 7 (M 67 (1 + (if v3 < 0 then v7 else v2)).toNat)) 66 6) + (if ¬ (x2 = 0) then (1 : Int) else 0))) (pc := 125) (tb_at tkX11_costOf 72 rfl) ly_66 flX11_190 (fun r h => by cases h; rfl) (.inl rfl) rfl (fun h => by cases h) rfl ?_
        refine r_aload_n (pc := 128) (tb_at tkX11_costOf 73 rfl) rfl rfl ?_
        refine r_dup (pc := 129) (tb_at tkX11_costOf 74 rfl) (fun _ h => by cases h) ?_
        refine r_get 10 5 (pc := 130) (tb_at tkX11_costOf 75 rfl) ly_66 flX11_186 rfl ?_
        refine r_iload (pc := 133) (tb_at tkX11_costOf 76 rfl) rfl ?_
        refine r_iconst (pc := 135) (tb_at tkX11_costOf 77 rfl) ⟨by decide, by decide⟩ ?_
        have hJ5 : ∀ t0 : Int, t0 = (if s0 = 2 then (1 : Int) else 0) → OkI G miX11_costOf (d + 1) K 144 [some (.inr (.inr (some 66))), some (.inl v1), some (.inl (if v3 < 0 then v7 else v2)), some (.inl v3), some (.inl v4), some (.inl v5), some (.inl v6), some (.inl v7), some (.inl s0)] [.inl t0, .inl ((mup M1 66 6 (w32 (((mup M 66 7 (M 67 (1 + (if v3 < 0 then v7 else v2)).toNat)) 66 6) + (if ¬ (x2 = 0) then (1 : Int) else 0)))) 66 5), .inr (.inr (some 66))] (mup M1 66 6 (w32 (((mup M 66 7 (M 67 (1 + (if v3 < 0 then v7 else v2)).toNat)) 66 6) + (if ¬ (x2 = 0) then (1 : Int) else 0)))) := by
          rintro _ rfl
          refine r_iadd (pc := 144) (tb_at tkX11_costOf 82 rfl) ?_
          refine r_put 10 5 (w32 (((mup M1 66 6 (w32 (((mup M 66 7 (M 67 (1 + (if v3 < 0 then v7 else v2)).toNat)) 66 6) + (if ¬ (x2 = 0) then (1 : Int) else 0)))) 66 5) + (if s0 = 2 then (1 : Int) else 0))) (pc := 145) (tb_at tkX11_costOf 83 rfl) ly_66 flX11_186 (fun r h => by cases h; rfl) (.inl rfl) rfl (fun h => by cases h) rfl ?_
          refine r_iload (pc := 148) (tb_at tkX11_costOf 84 rfl) rfl ?_
          refine r_iconst (pc := 150) (tb_at tkX11_costOf 85 rfl) ⟨by decide, by decide⟩ ?_
          have hJ3 : ∀ t0 : Int, t0 = (if s0 = 2 then (1 : Int) else w32 (v4 + 1)) → OkI G miX11_costOf (d + 1) K 162 [some (.inr (.inr (some 66))), some (.inl v1), some (.inl (if v3 < 0 then v7 else v2)), some (.inl v3), some (.inl v4), some (.inl v5), some (.inl v6), some (.inl v7), some (.inl s0)] [.inl t0] (mup (mup M1 66 6 (w32 (((mup M 66 7 (M 67 (1 + (if v3 < 0 then v7 else v2)).toNat)) 66 6) + (if ¬ (x2 = 0) then (1 : Int) else 0)))) 66 5 (w32 (((mup M1 66 6 (w32 (((mup M 66 7 (M 67 (1 + (if v3 < 0 then v7 else v2)).toNat)) 66 6) + (if ¬ (x2 = 0) then (1 : Int) else 0)))) 66 5) + (if s0 = 2 then (1 : Int) else 0)))) := by
            rintro _ rfl
            refine r_istore (L' := [some (.inr (.inr (some 66))), some (.inl v1), some (.inl (if v3 < 0 then v7 else v2)), some (.inl v3), some (.inl (if s0 = 2 then (1 : Int) else w32 (v4 + 1))), some (.inl v5), some (.inl v6), some (.inl v7), some (.inl s0)]) (pc := 162) (tb_at tkX11_costOf 92 rfl) (by decide) rfl ?_
            refine r_iload (pc := 164) (tb_at tkX11_costOf 93 rfl) rfl ?_
            refine r_iconst (pc := 166) (tb_at tkX11_costOf 94 rfl) ⟨by decide, by decide⟩ ?_
            refine q_icmp_ne (tgt := 183) (pc := 167) (tb_at tkX11_costOf 95 rfl) (by decide) (fun c => ?_) (fun c => ?_)
            · replace h := h.1 c
              refine r_iload (pc := 183) (tb_at tkX11_costOf 103 rfl) rfl ?_
              exact Ok.forget h (And.intro rfl (And.intro rfl (And.intro rfl (And.intro rfl (And.intro rfl (And.intro rfl (And.intro rfl trivial)))))))
            · replace h := h.2 c
              refine r_aload_n (pc := 170) (tb_at tkX11_costOf 96 rfl) rfl rfl ?_
              refine r_get 10 0 (pc := 171) (tb_at tkX11_costOf 97 rfl) ly_66 flX11_11 rfl ?_
              refine r_bipush (pc := 174) (tb_at tkX11_costOf 98 rfl) ⟨by decide, by decide, by decide⟩ ?_
              refine r_iload (pc := 176) (tb_at tkX11_costOf 99 rfl) rfl ?_
              refine r_iadd (pc := 178) (tb_at tkX11_costOf 100 rfl) ?_
              refine r_iald_w (pc := 179) (tb_at tkX11_costOf 101 rfl) ly_67 (by decide) h.1.1 h.1.2 ?_
              replace h := h.2
              refine r_goto (tgt := 185) (pc := 180) (tb_at tkX11_costOf 102 rfl) (by decide) ?_
              exact Ok.forget h (And.intro rfl (And.intro rfl (And.intro rfl (And.intro rfl (And.intro rfl (And.intro rfl (And.intro rfl trivial)))))))
          refine q_icmp_ne (tgt := 158) (pc := 151) (tb_at tkX11_costOf 86 rfl) (by decide) (fun c4 => ?_) (fun c4 => ?_)
          · refine r_iload (pc := 158) (tb_at tkX11_costOf 89 rfl) rfl ?_
            refine r_iconst (pc := 160) (tb_at tkX11_costOf 90 rfl) ⟨by decide, by decide⟩ ?_
            refine r_iadd (pc := 161) (tb_at tkX11_costOf 91 rfl) ?_
            exact hJ3 _ (by simp only [if_neg c4])
          · refine r_iconst (pc := 154) (tb_at tkX11_costOf 87 rfl) ⟨by decide, by decide⟩ ?_
            refine r_goto (tgt := 162) (pc := 155) (tb_at tkX11_costOf 88 rfl) (by decide) ?_
            exact hJ3 _ (by simp only [if_pos c4])
        refine q_icmp_ne (tgt := 143) (pc := 136) (tb_at tkX11_costOf 78 rfl) (by decide) (fun c6 => ?_) (fun c6 => ?_)
        · refine r_iconst (pc := 143) (tb_at tkX11_costOf 81 rfl) ⟨by decide, by decide⟩ ?_
          exact hJ5 _ (by simp only [if_neg c6])
        · refine r_iconst (pc := 139) (tb_at tkX11_costOf 79 rfl) ⟨by decide, by decide⟩ ?_
          refine r_goto (tgt := 144) (pc := 140) (tb_at tkX11_costOf 80 rfl) (by decide) ?_
          exact hJ5 _ (by simp only [if_pos c6])
      refine q_if_eq (tgt := 123) (pc := 116) (tb_at tkX11_costOf 67 rfl) (by decide) (fun c8 => ?_) (fun c8 => ?_)
      · refine r_iconst (pc := 123) (tb_at tkX11_costOf 70 rfl) ⟨by decide, by decide⟩ ?_
        exact hJ7 _ (by simp only [if_neg (not_not_intro c8)])
      · refine r_iconst (pc := 119) (tb_at tkX11_costOf 68 rfl) ⟨by decide, by decide⟩ ?_
        refine r_goto (tgt := 124) (pc := 120) (tb_at tkX11_costOf 69 rfl) (by decide) ?_
        exact hJ7 _ (by simp only [if_pos c8])
  refine q_if_ge (tgt := 86) (pc := 78) (tb_at tkX11_costOf 45 rfl) (by decide) (fun c10 => ?_) (fun c10 => ?_)
  · refine r_iload_n (pc := 86) (tb_at tkX11_costOf 48 rfl) rfl rfl ?_
    exact hJ9 _ (by simp only [if_neg (Int.not_lt.mpr c10)])
  · refine r_iload (pc := 81) (tb_at tkX11_costOf 46 rfl) rfl ?_
    refine r_goto (tgt := 87) (pc := 83) (tb_at tkX11_costOf 47 rfl) (by decide) ?_
    exact hJ9 _ (by simp only [if_pos c10])
set_option maxRecDepth 100000 in
set_option maxHeartbeats 4000000 in
theorem gX11_costOf_123 {G : GE} {d : Nat} {K : Int → Mem → Prop} {M : Mem} {v1 v2 v4 v5 v6 v7 v8 s1 : Int}  (h : ((¬ v8 = 2 → OkI G miX11_costOf (d + 1) K 185 [some (.inr (.inr (some 66))), some (.inl v1), some (.inl v2), none, some (.inl (if v8 = 2 then (1 : Int) else w32 (v4 + 1))), none, some (.inl v6), some (.inl v7), some (.inl v8)] [.inl v5] (mup (mup M 66 6 (w32 (s1 + 0))) 66 5 (w32 (((mup M 66 6 (w32 (s1 + 0))) 66 5) + (if v8 = 2 then (1 : Int) else 0))))) ∧ (v8 = 2 → (0 ≤ 15 + v7 ∧ 15 + v7 < 92) ∧ OkI G miX11_costOf (d + 1) K 185 [some (.inr (.inr (some 66))), some (.inl v1), some (.inl v2), none, some (.inl (if v8 = 2 then (1 : Int) else w32 (v4 + 1))), none, some (.inl v6), some (.inl v7), some (.inl v8)] [.inl ((mup (mup M 66 6 (w32 (s1 + 0))) 66 5 (w32 (((mup M 66 6 (w32 (s1 + 0))) 66 5) + (if v8 = 2 then (1 : Int) else 0)))) 67 (15 + v7).toNat)] (mup (mup M 66 6 (w32 (s1 + 0))) 66 5 (w32 (((mup M 66 6 (w32 (s1 + 0))) 66 5) + (if v8 = 2 then (1 : Int) else 0))))))) : OkI G miX11_costOf (d + 1) K 123 [some (.inr (.inr (some 66))), some (.inl v1), some (.inl v2), none, some (.inl v4), some (.inl v5), some (.inl v6), some (.inl v7), some (.inl v8)] [.inl s1, .inr (.inr (some 66))] M := by
  refine r_iconst (pc := 123) (tb_at tkX11_costOf 70 rfl) ⟨by decide, by decide⟩ ?_
  refine r_iadd (pc := 124) (tb_at tkX11_costOf 71 rfl) ?_
  refine r_put 10 6 (w32 (s1 + 0)) (pc := 125) (tb_at tkX11_costOf 72 rfl) ly_66 flX11_190 (fun r h => by cases h; rfl) (.inl rfl) rfl (fun h => by cases h) rfl ?_
  refine r_aload_n (pc := 128) (tb_at tkX11_costOf 73 rfl) rfl rfl ?_
  refine r_dup (pc := 129) (tb_at tkX11_costOf 74 rfl) (fun _ h => by cases h) ?_
  refine r_get 10 5 (pc := 130) (tb_at tkX11_costOf 75 rfl) ly_66 flX11_186 rfl ?_
  refine r_iload (pc := 133) (tb_at tkX11_costOf 76 rfl) rfl ?_
  refine r_iconst (pc := 135) (tb_at tkX11_costOf 77 rfl) ⟨by decide, by decide⟩ ?_
  have hJ3 : ∀ t0 : Int, t0 = (if v8 = 2 then (1 : Int) else 0) → OkI G miX11_costOf (d + 1) K 144 [some (.inr (.inr (some 66))), some (.inl v1), some (.inl v2), none, some (.inl v4), some (.inl v5), some (.inl v6), some (.inl v7), some (.inl v8)] [.inl t0, .inl ((mup M 66 6 (w32 (s1 + 0))) 66 5), .inr (.inr (some 66))] (mup M 66 6 (w32 (s1 + 0))) := by
    rintro _ rfl
    refine r_iadd (pc := 144) (tb_at tkX11_costOf 82 rfl) ?_
    refine r_put 10 5 (w32 (((mup M 66 6 (w32 (s1 + 0))) 66 5) + (if v8 = 2 then (1 : Int) else 0))) (pc := 145) (tb_at tkX11_costOf 83 rfl) ly_66 flX11_186 (fun r h => by cases h; rfl) (.inl rfl) rfl (fun h => by cases h) rfl ?_
    refine r_iload (pc := 148) (tb_at tkX11_costOf 84 rfl) rfl ?_
    refine r_iconst (pc := 150) (tb_at tkX11_costOf 85 rfl) ⟨by decide, by decide⟩ ?_
    have hJ1 : ∀ t0 : Int, t0 = (if v8 = 2 then (1 : Int) else w32 (v4 + 1)) → OkI G miX11_costOf (d + 1) K 162 [some (.inr (.inr (some 66))), some (.inl v1), some (.inl v2), none, some (.inl v4), some (.inl v5), some (.inl v6), some (.inl v7), some (.inl v8)] [.inl t0] (mup (mup M 66 6 (w32 (s1 + 0))) 66 5 (w32 (((mup M 66 6 (w32 (s1 + 0))) 66 5) + (if v8 = 2 then (1 : Int) else 0)))) := by
      rintro _ rfl
      refine r_istore (L' := [some (.inr (.inr (some 66))), some (.inl v1), some (.inl v2), none, some (.inl (if v8 = 2 then (1 : Int) else w32 (v4 + 1))), some (.inl v5), some (.inl v6), some (.inl v7), some (.inl v8)]) (pc := 162) (tb_at tkX11_costOf 92 rfl) (by decide) rfl ?_
      refine r_iload (pc := 164) (tb_at tkX11_costOf 93 rfl) rfl ?_
      refine r_iconst (pc := 166) (tb_at tkX11_costOf 94 rfl) ⟨by decide, by decide⟩ ?_
      refine q_icmp_ne (tgt := 183) (pc := 167) (tb_at tkX11_costOf 95 rfl) (by decide) (fun c => ?_) (fun c => ?_)
      · replace h := h.1 c
        refine r_iload (pc := 183) (tb_at tkX11_costOf 103 rfl) rfl ?_
        exact Ok.forget h (And.intro rfl (And.intro rfl (And.intro rfl (And.intro rfl (And.intro rfl (And.intro rfl (And.intro rfl trivial)))))))
      · replace h := h.2 c
        refine r_aload_n (pc := 170) (tb_at tkX11_costOf 96 rfl) rfl rfl ?_
        refine r_get 10 0 (pc := 171) (tb_at tkX11_costOf 97 rfl) ly_66 flX11_11 rfl ?_
        refine r_bipush (pc := 174) (tb_at tkX11_costOf 98 rfl) ⟨by decide, by decide, by decide⟩ ?_
        refine r_iload (pc := 176) (tb_at tkX11_costOf 99 rfl) rfl ?_
        refine r_iadd (pc := 178) (tb_at tkX11_costOf 100 rfl) ?_
        refine r_iald_w (pc := 179) (tb_at tkX11_costOf 101 rfl) ly_67 (by decide) h.1.1 h.1.2 ?_
        replace h := h.2
        refine r_goto (tgt := 185) (pc := 180) (tb_at tkX11_costOf 102 rfl) (by decide) ?_
        exact Ok.forget h (And.intro rfl (And.intro rfl (And.intro rfl (And.intro rfl (And.intro rfl (And.intro rfl (And.intro rfl trivial)))))))
    refine q_icmp_ne (tgt := 158) (pc := 151) (tb_at tkX11_costOf 86 rfl) (by decide) (fun c2 => ?_) (fun c2 => ?_)
    · refine r_iload (pc := 158) (tb_at tkX11_costOf 89 rfl) rfl ?_
      refine r_iconst (pc := 160) (tb_at tkX11_costOf 90 rfl) ⟨by decide, by decide⟩ ?_
      refine r_iadd (pc := 161) (tb_at tkX11_costOf 91 rfl) ?_
      exact hJ1 _ (by simp only [if_neg c2])
    · refine r_iconst (pc := 154) (tb_at tkX11_costOf 87 rfl) ⟨by decide, by decide⟩ ?_
      refine r_goto (tgt := 162) (pc := 155) (tb_at tkX11_costOf 88 rfl) (by decide) ?_
      exact hJ1 _ (by simp only [if_pos c2])
  refine q_icmp_ne (tgt := 143) (pc := 136) (tb_at tkX11_costOf 78 rfl) (by decide) (fun c4 => ?_) (fun c4 => ?_)
  · refine r_iconst (pc := 143) (tb_at tkX11_costOf 81 rfl) ⟨by decide, by decide⟩ ?_
    exact hJ3 _ (by simp only [if_neg c4])
  · refine r_iconst (pc := 139) (tb_at tkX11_costOf 79 rfl) ⟨by decide, by decide⟩ ?_
    refine r_goto (tgt := 144) (pc := 140) (tb_at tkX11_costOf 80 rfl) (by decide) ?_
    exact hJ3 _ (by simp only [if_pos c4])
set_option maxRecDepth 100000 in
set_option maxHeartbeats 4000000 in
theorem gX11_costOf_185 {G : GE} {d : Nat} {K : Int → Mem → Prop} {M : Mem} {v1 v2 v4 v6 v7 v8 s0 : Int}  (h : ((v8 = 0 → K (-1) M) ∧ (¬ v8 = 0 → CalI G miX11_legs d [.inr (.inr (some 66)), .inl (M 66 7)] M (fun x2 M1 => ((x2 < v4 → K (-1) M1) ∧ (v4 ≤ x2 → (0 ≤ 22 + v7 ∧ 22 + v7 < 92) ∧ CalI G miX11_span d [.inr (.inr (some 66)), .inl (M1 66 7)] M1 (fun x4 M3 => ((x4 < (w32 ((M1 67 (22 + v7).toNat) - s0)) → K (-1) M3) ∧ ((w32 ((M1 67 (22 + v7).toNat) - s0)) ≤ x4 → CalI G miX11_duties d [.inr (.inr (some 66)), .inl (M3 66 7)] M3 (fun x6 M5 => (((M3 66 5) ≤ x6 → OkI G miX11_costOf (d + 1) K 28 [some (.inr (.inr (some 66))), some (.inl v1), some (.inl v2), some (.inl v7), some (.inl v4), some (.inl s0), some (.inl (w32 (v6 + 1))), none, none] [] M5) ∧ (x6 < (M3 66 5) → K (-1) M5)))))))))))) : OkI G miX11_costOf (d + 1) K 185 [some (.inr (.inr (some 66))), some (.inl v1), some (.inl v2), none, some (.inl v4), none, some (.inl v6), some (.inl v7), some (.inl v8)] [.inl s0] M := by
  refine r_istore (L' := [some (.inr (.inr (some 66))), some (.inl v1), some (.inl v2), none, some (.inl v4), some (.inl s0), some (.inl v6), some (.inl v7), some (.inl v8)]) (pc := 185) (tb_at tkX11_costOf 104 rfl) (by decide) rfl ?_
  refine r_iload (pc := 187) (tb_at tkX11_costOf 105 rfl) rfl ?_
  refine q_if_eq (tgt := 244) (pc := 189) (tb_at tkX11_costOf 106 rfl) (by decide) (fun c => ?_) (fun c => ?_)
  · replace h := h.1 c
    refine r_iconst (pc := 244) (tb_at tkX11_costOf 133 rfl) ⟨by decide, by decide⟩ ?_
    exact r_iret (pc := 245) (tb_at tkX11_costOf 134 rfl) rfl (Nat.le_refl _) (Nat.le_refl _) ⟨_, rfl, rfl, h⟩
  · replace h := h.2 c
    refine r_iload (pc := 192) (tb_at tkX11_costOf 107 rfl) rfl ?_
    refine r_aload_n (pc := 194) (tb_at tkX11_costOf 108 rfl) rfl rfl ?_
    refine r_aload_n (pc := 195) (tb_at tkX11_costOf 109 rfl) rfl rfl ?_
    refine r_get 10 7 (pc := 196) (tb_at tkX11_costOf 110 rfl) ly_66 flX11_193 rfl ?_
    refine r_invV (mc' := 0) (ms' := 0) [.inl (M 66 7)] (S := [.inl v4]) (pc := 199) (tb_at tkX11_costOf 111 rfl) rfl ly_66 rfl rfl clX11_137 (Nat.le_of_ble_eq_true rfl) (Nat.le_refl _) (Nat.le_refl _) ?_
    refine Cal.mono h ?_
    rintro _ _ M1 ⟨x2, rfl, rfl, h⟩
    show OkI G miX11_costOf (d + 1) K 202 [some (.inr (.inr (some 66))), some (.inl v1), some (.inl v2), none, some (.inl v4), some (.inl s0), some (.inl v6), some (.inl v7), some (.inl v8)] [.inl x2, .inl v4] M1
    refine q_icmp_gt (tgt := 244) (pc := 202) (tb_at tkX11_costOf 112 rfl) (by decide) (fun c => ?_) (fun c => ?_)
    · replace h := h.1 c
      refine r_iconst (pc := 244) (tb_at tkX11_costOf 133 rfl) ⟨by decide, by decide⟩ ?_
      exact r_iret (pc := 245) (tb_at tkX11_costOf 134 rfl) rfl (Nat.le_refl _) (Nat.le_refl _) ⟨_, rfl, rfl, h⟩
    · replace h := h.2 c
      refine r_aload_n (pc := 205) (tb_at tkX11_costOf 113 rfl) rfl rfl ?_
      refine r_get 10 0 (pc := 206) (tb_at tkX11_costOf 114 rfl) ly_66 flX11_11 rfl ?_
      refine r_bipush (pc := 209) (tb_at tkX11_costOf 115 rfl) ⟨by decide, by decide, by decide⟩ ?_
      refine r_iload (pc := 211) (tb_at tkX11_costOf 116 rfl) rfl ?_
      refine r_iadd (pc := 213) (tb_at tkX11_costOf 117 rfl) ?_
      refine r_iald_w (pc := 214) (tb_at tkX11_costOf 118 rfl) ly_67 (by decide) h.1.1 h.1.2 ?_
      replace h := h.2
      refine r_iload (pc := 215) (tb_at tkX11_costOf 119 rfl) rfl ?_
      refine r_isub (pc := 217) (tb_at tkX11_costOf 120 rfl) ?_
      refine r_aload_n (pc := 218) (tb_at tkX11_costOf 121 rfl) rfl rfl ?_
      refine r_aload_n (pc := 219) (tb_at tkX11_costOf 122 rfl) rfl rfl ?_
      refine r_get 10 7 (pc := 220) (tb_at tkX11_costOf 123 rfl) ly_66 flX11_193 rfl ?_
      refine r_invV (mc' := 0) (ms' := 0) [.inl (M1 66 7)] (S := [.inl (w32 ((M1 67 (22 + v7).toNat) - s0))]) (pc := 223) (tb_at tkX11_costOf 124 rfl) rfl ly_66 rfl rfl clX11_140 (Nat.le_of_ble_eq_true rfl) (Nat.le_refl _) (Nat.le_refl _) ?_
      refine Cal.mono h ?_
      rintro _ _ M3 ⟨x4, rfl, rfl, h⟩
      show OkI G miX11_costOf (d + 1) K 226 [some (.inr (.inr (some 66))), some (.inl v1), some (.inl v2), none, some (.inl v4), some (.inl s0), some (.inl v6), some (.inl v7), some (.inl v8)] [.inl x4, .inl (w32 ((M1 67 (22 + v7).toNat) - s0))] M3
      refine q_icmp_gt (tgt := 244) (pc := 226) (tb_at tkX11_costOf 125 rfl) (by decide) (fun c => ?_) (fun c => ?_)
      · replace h := h.1 c
        refine r_iconst (pc := 244) (tb_at tkX11_costOf 133 rfl) ⟨by decide, by decide⟩ ?_
        exact r_iret (pc := 245) (tb_at tkX11_costOf 134 rfl) rfl (Nat.le_refl _) (Nat.le_refl _) ⟨_, rfl, rfl, h⟩
      · replace h := h.2 c
        refine r_aload_n (pc := 229) (tb_at tkX11_costOf 126 rfl) rfl rfl ?_
        refine r_get 10 5 (pc := 230) (tb_at tkX11_costOf 127 rfl) ly_66 flX11_186 rfl ?_
        refine r_aload_n (pc := 233) (tb_at tkX11_costOf 128 rfl) rfl rfl ?_
        refine r_aload_n (pc := 234) (tb_at tkX11_costOf 129 rfl) rfl rfl ?_
        refine r_get 10 7 (pc := 235) (tb_at tkX11_costOf 130 rfl) ly_66 flX11_193 rfl ?_
        refine r_invV (mc' := 0) (ms' := 0) [.inl (M3 66 7)] (S := [.inl (M3 66 5)]) (pc := 238) (tb_at tkX11_costOf 131 rfl) rfl ly_66 rfl rfl clX11_143 (Nat.le_of_ble_eq_true rfl) (Nat.le_refl _) (Nat.le_refl _) ?_
        refine Cal.mono h ?_
        rintro _ _ M5 ⟨x6, rfl, rfl, h⟩
        show OkI G miX11_costOf (d + 1) K 241 [some (.inr (.inr (some 66))), some (.inl v1), some (.inl v2), none, some (.inl v4), some (.inl s0), some (.inl v6), some (.inl v7), some (.inl v8)] [.inl x6, .inl (M3 66 5)] M5
        refine q_icmp_le (tgt := 246) (pc := 241) (tb_at tkX11_costOf 132 rfl) (by decide) (fun c => ?_) (fun c => ?_)
        · replace h := h.1 c
          refine r_iload (pc := 246) (tb_at tkX11_costOf 135 rfl) rfl ?_
          refine r_istore_n (L' := [some (.inr (.inr (some 66))), some (.inl v1), some (.inl v2), some (.inl v7), some (.inl v4), some (.inl s0), some (.inl v6), some (.inl v7), some (.inl v8)]) (pc := 248) (tb_at tkX11_costOf 136 rfl) rfl (by decide) rfl ?_
          refine r_iinc (L' := [some (.inr (.inr (some 66))), some (.inl v1), some (.inl v2), some (.inl v7), some (.inl v4), some (.inl s0), some (.inl (w32 (v6 + 1))), some (.inl v7), some (.inl v8)]) (pc := 249) (tb_at tkX11_costOf 137 rfl) rfl (by decide) rfl ?_
          refine r_goto (tgt := 28) (pc := 252) (tb_at tkX11_costOf 138 rfl) (by decide) ?_
          exact Ok.forget h (And.intro rfl (And.intro rfl (And.intro rfl (And.intro rfl (And.intro rfl (And.intro rfl (And.intro rfl trivial)))))))
        · replace h := h.2 c
          refine r_iconst (pc := 244) (tb_at tkX11_costOf 133 rfl) ⟨by decide, by decide⟩ ?_
          exact r_iret (pc := 245) (tb_at tkX11_costOf 134 rfl) rfl (Nat.le_refl _) (Nat.le_refl _) ⟨_, rfl, rfl, h⟩
set_option maxRecDepth 100000 in
set_option maxHeartbeats 4000000 in
theorem gX11_reckons_0 {G : GE} {d : Nat} {K : Mem → Prop} {M : Mem}  (h : CalV G miX11_orders d [.inr (.inr (some 66))] M (fun M1 => OkV G miX11_reckons (d + 1) K 15 [some (.inr (.inr (some 66))), some (.inl (ishl 1 (M1 67 0))), some (.inl 1), none, none] [] M1)) : OkV G miX11_reckons (d + 1) K 0 [some (.inr (.inr (some 66))), none, none, none, none] [] M := by
  refine r_aload_n (pc := 0) (tb_at tkX11_reckons 0 rfl) rfl rfl ?_
  refine r_invV (mc' := 0) (ms' := 0) [] (S := []) (pc := 1) (tb_at tkX11_reckons 1 rfl) rfl ly_66 rfl rfl clX11_199 (Nat.le_of_ble_eq_true rfl) (Nat.le_refl _) (Nat.le_refl _) ?_
  refine Cal.mono h ?_
  rintro _ _ M1 ⟨rfl, rfl, h⟩
  show OkV G miX11_reckons (d + 1) K 4 [some (.inr (.inr (some 66))), none, none, none, none] [] M1
  refine r_iconst (pc := 4) (tb_at tkX11_reckons 2 rfl) ⟨by decide, by decide⟩ ?_
  refine r_aload_n (pc := 5) (tb_at tkX11_reckons 3 rfl) rfl rfl ?_
  refine r_get 10 0 (pc := 6) (tb_at tkX11_reckons 4 rfl) ly_66 flX11_11 rfl ?_
  refine r_iconst (pc := 9) (tb_at tkX11_reckons 5 rfl) ⟨by decide, by decide⟩ ?_
  refine r_iald_k (k0 := 0) (pc := 10) (tb_at tkX11_reckons 6 rfl) ly_67 rfl (by decide) (by decide) ?_
  refine r_ishl (pc := 11) (tb_at tkX11_reckons 7 rfl) ?_
  refine r_istore_n (L' := [some (.inr (.inr (some 66))), some (.inl (ishl 1 (M1 67 0))), none, none, none]) (pc := 12) (tb_at tkX11_reckons 8 rfl) rfl (by decide) rfl ?_
  refine r_iconst (pc := 13) (tb_at tkX11_reckons 9 rfl) ⟨by decide, by decide⟩ ?_
  refine r_istore_n (L' := [some (.inr (.inr (some 66))), some (.inl (ishl 1 (M1 67 0))), some (.inl 1), none, none]) (pc := 14) (tb_at tkX11_reckons 10 rfl) rfl (by decide) rfl ?_
  exact h
set_option maxRecDepth 100000 in
set_option maxHeartbeats 4000000 in
theorem gX11_reckons_15 {G : GE} {d : Nat} {K : Mem → Prop} {M : Mem} {v1 v2 : Int}  (h : ((v1 ≤ v2 → OkV G miX11_reckons (d + 1) K 39 [some (.inr (.inr (some 66))), some (.inl v1), some (.inl 1), none, none] [] M) ∧ (v2 < v1 → CalI G miX11_costOf d [.inr (.inr (some 66)), .inl v2] M (fun x2 M1 => (0 ≤ v2 ∧ v2 < 128) ∧ OkV G miX11_reckons (d + 1) K 15 [some (.inr (.inr (some 66))), some (.inl v1), some (.inl (w32 (v2 + 1))), none, none] [] (mup M1 71 (v2).toNat x2))))) : OkV G miX11_reckons (d + 1) K 15 [some (.inr (.inr (some 66))), some (.inl v1), some (.inl v2), none, none] [] M := by
  refine r_iload_n (pc := 15) (tb_at tkX11_reckons 11 rfl) rfl rfl ?_
  refine r_iload_n (pc := 16) (tb_at tkX11_reckons 12 rfl) rfl rfl ?_
  refine q_icmp_ge (tgt := 37) (pc := 17) (tb_at tkX11_reckons 13 rfl) (by decide) (fun c => ?_) (fun c => ?_)
  · replace h := h.1 c
    refine r_iconst (pc := 37) (tb_at tkX11_reckons 23 rfl) ⟨by decide, by decide⟩ ?_
    refine r_istore_n (L' := [some (.inr (.inr (some 66))), some (.inl v1), some (.inl 1), none, none]) (pc := 38) (tb_at tkX11_reckons 24 rfl) rfl (by decide) rfl ?_
    exact h
  · replace h := h.2 c
    refine r_aload_n (pc := 20) (tb_at tkX11_reckons 14 rfl) rfl rfl ?_
    refine r_get 10 8 (pc := 21) (tb_at tkX11_reckons 15 rfl) ly_66 flX11_24 rfl ?_
    refine r_iload_n (pc := 24) (tb_at tkX11_reckons 16 rfl) rfl rfl ?_
    refine r_aload_n (pc := 25) (tb_at tkX11_reckons 17 rfl) rfl rfl ?_
    refine r_iload_n (pc := 26) (tb_at tkX11_reckons 18 rfl) rfl rfl ?_
    refine r_invV (mc' := 0) (ms' := 0) [.inl v2] (S := [.inl v2, .inr (.inr (some 71))]) (pc := 27) (tb_at tkX11_reckons 19 rfl) rfl ly_66 rfl rfl clX11_202 (Nat.le_of_ble_eq_true rfl) (Nat.le_refl _) (Nat.le_refl _) ?_
    refine Cal.mono h ?_
    rintro _ _ M1 ⟨x2, rfl, rfl, h⟩
    show OkV G miX11_reckons (d + 1) K 30 [some (.inr (.inr (some 66))), some (.inl v1), some (.inl v2), none, none] [.inl x2, .inl v2, .inr (.inr (some 71))] M1
    refine r_iast (pc := 30) (tb_at tkX11_reckons 20 rfl) ly_71 h.1.1 h.1.2 rfl ?_
    replace h := h.2
    refine r_iinc (L' := [some (.inr (.inr (some 66))), some (.inl v1), some (.inl (w32 (v2 + 1))), none, none]) (pc := 31) (tb_at tkX11_reckons 21 rfl) rfl (by decide) rfl ?_
    refine r_goto (tgt := 15) (pc := 34) (tb_at tkX11_reckons 22 rfl) (by decide) ?_
    exact h
set_option maxRecDepth 100000 in
set_option maxHeartbeats 4000000 in
theorem gX11_reckons_39 {G : GE} {d : Nat} {K : Mem → Prop} {M : Mem} {v1 v2 : Int}  (h : ((v1 ≤ v2 → K M) ∧ (v2 < v1 → (0 ≤ v2 ∧ v2 < 128) ∧ (0 ≤ v2 ∧ v2 < 128) ∧ OkV G miX11_reckons (d + 1) K 60 [some (.inr (.inr (some 66))), some (.inl v1), some (.inl v2), some (.inl v2), none] [] (mup (mup M 72 (v2).toNat (-1)) 73 (v2).toNat (-1))))) : OkV G miX11_reckons (d + 1) K 39 [some (.inr (.inr (some 66))), some (.inl v1), some (.inl v2), none, none] [] M := by
  refine r_iload_n (pc := 39) (tb_at tkX11_reckons 25 rfl) rfl rfl ?_
  refine r_iload_n (pc := 40) (tb_at tkX11_reckons 26 rfl) rfl rfl ?_
  refine q_icmp_ge (tgt := 163) (pc := 41) (tb_at tkX11_reckons 27 rfl) (by decide) (fun c => ?_) (fun c => ?_)
  · replace h := h.1 c
    exact r_vret (pc := 163) (tb_at tkX11_reckons 98 rfl) rfl (Nat.le_refl _) (Nat.le_refl _) ⟨rfl, rfl, h⟩
  · replace h := h.2 c
    refine r_aload_n (pc := 44) (tb_at tkX11_reckons 28 rfl) rfl rfl ?_
    refine r_get 10 9 (pc := 45) (tb_at tkX11_reckons 29 rfl) ly_66 flX11_27 rfl ?_
    refine r_iload_n (pc := 48) (tb_at tkX11_reckons 30 rfl) rfl rfl ?_
    refine r_iconst (pc := 49) (tb_at tkX11_reckons 31 rfl) ⟨by decide, by decide⟩ ?_
    refine r_iast (pc := 50) (tb_at tkX11_reckons 32 rfl) ly_72 h.1.1 h.1.2 rfl ?_
    replace h := h.2
    refine r_aload_n (pc := 51) (tb_at tkX11_reckons 33 rfl) rfl rfl ?_
    refine r_get 10 10 (pc := 52) (tb_at tkX11_reckons 34 rfl) ly_66 flX11_30 rfl ?_
    refine r_iload_n (pc := 55) (tb_at tkX11_reckons 35 rfl) rfl rfl ?_
    refine r_iconst (pc := 56) (tb_at tkX11_reckons 36 rfl) ⟨by decide, by decide⟩ ?_
    refine r_iast (pc := 57) (tb_at tkX11_reckons 37 rfl) ly_73 h.1.1 h.1.2 rfl ?_
    replace h := h.2
    refine r_iload_n (pc := 58) (tb_at tkX11_reckons 38 rfl) rfl rfl ?_
    refine r_istore_n (L' := [some (.inr (.inr (some 66))), some (.inl v1), some (.inl v2), some (.inl v2), none]) (pc := 59) (tb_at tkX11_reckons 39 rfl) rfl (by decide) rfl ?_
    exact h
set_option maxRecDepth 100000 in
set_option maxHeartbeats 4000000 in
theorem gX11_reckons_60 {G : GE} {d : Nat} {K : Mem → Prop} {M : Mem} {v1 v2 v3 : Int}  (h : ((v1 ≤ v3 → OkV G miX11_reckons (d + 1) K 39 [some (.inr (.inr (some 66))), some (.inl v1), some (.inl (w32 (v2 + 1))), none, none] [] M) ∧ (v3 < v1 → ((¬ (iand v3 v2) = v2 → OkV G miX11_reckons (d + 1) K 108 [some (.inr (.inr (some 66))), some (.inl v1), some (.inl v2), some (.inl v3), none] [] M) ∧ ((iand v3 v2) = v2 → (0 ≤ v3 ∧ v3 < 128) ∧ (((M 71 (v3).toNat) < 0 → OkV G miX11_reckons (d + 1) K 108 [some (.inr (.inr (some 66))), some (.inl v1), some (.inl v2), some (.inl v3), none] [] M) ∧ (0 ≤ (M 71 (v3).toNat) → (0 ≤ v3 ∧ v3 < 128) ∧ CalI G miX11_ones d [.inl v3] M (fun x2 M1 => CalI G miX11_ones d [.inl v2] M1 (fun x4 M3 => OkV G miX11_reckons (d + 1) K 109 [some (.inr (.inr (some 66))), some (.inl v1), some (.inl v2), some (.inl v3), none] [.inl (w32 ((M 71 (v3).toNat) + ((M 67 90) * (x2 - x4))))] M3))))))))) : OkV G miX11_reckons (d + 1) K 60 [some (.inr (.inr (some 66))), some (.inl v1), some (.inl v2), some (.inl v3), none] [] M := by
  refine r_iload_n (pc := 60) (tb_at tkX11_reckons 40 rfl) rfl rfl ?_
  refine r_iload_n (pc := 61) (tb_at tkX11_reckons 41 rfl) rfl rfl ?_
  refine q_icmp_ge (tgt := 157) (pc := 62) (tb_at tkX11_reckons 42 rfl) (by decide) (fun c => ?_) (fun c => ?_)
  · replace h := h.1 c
    refine r_iinc (L' := [some (.inr (.inr (some 66))), some (.inl v1), some (.inl (w32 (v2 + 1))), some (.inl v3), none]) (pc := 157) (tb_at tkX11_reckons 96 rfl) rfl (by decide) rfl ?_
    refine r_goto (tgt := 39) (pc := 160) (tb_at tkX11_reckons 97 rfl) (by decide) ?_
    exact Ok.forget h (And.intro rfl (And.intro rfl (And.intro rfl trivial)))
  · replace h := h.2 c
    refine r_iload_n (pc := 65) (tb_at tkX11_reckons 43 rfl) rfl rfl ?_
    refine r_iload_n (pc := 66) (tb_at tkX11_reckons 44 rfl) rfl rfl ?_
    refine r_iand (pc := 67) (tb_at tkX11_reckons 45 rfl) ?_
    refine r_iload_n (pc := 68) (tb_at tkX11_reckons 46 rfl) rfl rfl ?_
    refine q_icmp_ne (tgt := 108) (pc := 69) (tb_at tkX11_reckons 47 rfl) (by decide) (fun c => ?_) (fun c => ?_)
    · replace h := h.1 c
      exact h
    · replace h := h.2 c
      refine r_aload_n (pc := 72) (tb_at tkX11_reckons 48 rfl) rfl rfl ?_
      refine r_get 10 8 (pc := 73) (tb_at tkX11_reckons 49 rfl) ly_66 flX11_24 rfl ?_
      refine r_iload_n (pc := 76) (tb_at tkX11_reckons 50 rfl) rfl rfl ?_
      refine r_iald (pc := 77) (tb_at tkX11_reckons 51 rfl) ly_71 h.1.1 h.1.2 ?_
      replace h := h.2
      refine q_if_lt (tgt := 108) (pc := 78) (tb_at tkX11_reckons 52 rfl) (by decide) (fun c => ?_) (fun c => ?_)
      · replace h := h.1 c
        exact h
      · replace h := h.2 c
        refine r_aload_n (pc := 81) (tb_at tkX11_reckons 53 rfl) rfl rfl ?_
        refine r_get 10 8 (pc := 82) (tb_at tkX11_reckons 54 rfl) ly_66 flX11_24 rfl ?_
        refine r_iload_n (pc := 85) (tb_at tkX11_reckons 55 rfl) rfl rfl ?_
        refine r_iald (pc := 86) (tb_at tkX11_reckons 56 rfl) ly_71 h.1.1 h.1.2 ?_
        replace h := h.2
        refine r_aload_n (pc := 87) (tb_at tkX11_reckons 57 rfl) rfl rfl ?_
        refine r_get 10 0 (pc := 88) (tb_at tkX11_reckons 58 rfl) ly_66 flX11_11 rfl ?_
        refine r_bipush (pc := 91) (tb_at tkX11_reckons 59 rfl) ⟨by decide, by decide, by decide⟩ ?_
        refine r_iald_k (k0 := 90) (pc := 93) (tb_at tkX11_reckons 60 rfl) ly_67 rfl (by decide) (by decide) ?_
        refine r_iload_n (pc := 94) (tb_at tkX11_reckons 61 rfl) rfl rfl ?_
        refine r_invS (mc' := 0) (ms' := 0) [.inl v3] (S := [.inl (M 67 90), .inl (M 71 (v3).toNat)]) (pc := 95) (tb_at tkX11_reckons 62 rfl) rfl clX11_205 (Nat.le_of_ble_eq_true rfl) (Nat.le_refl _) (Nat.le_refl _) ?_
        refine Cal.mono h ?_
        rintro _ _ M1 ⟨x2, rfl, rfl, h⟩
        show OkV G miX11_reckons (d + 1) K 98 [some (.inr (.inr (some 66))), some (.inl v1), some (.inl v2), some (.inl v3), none] [.inl x2, .inl (M 67 90), .inl (M 71 (v3).toNat)] M1
        refine r_iload_n (pc := 98) (tb_at tkX11_reckons 63 rfl) rfl rfl ?_
        refine r_invS (mc' := 0) (ms' := 0) [.inl v2] (S := [.inl x2, .inl (M 67 90), .inl (M 71 (v3).toNat)]) (pc := 99) (tb_at tkX11_reckons 64 rfl) rfl clX11_205 (Nat.le_of_ble_eq_true rfl) (Nat.le_refl _) (Nat.le_refl _) ?_
        refine Cal.mono h ?_
        rintro _ _ M3 ⟨x4, rfl, rfl, h⟩
        show OkV G miX11_reckons (d + 1) K 102 [some (.inr (.inr (some 66))), some (.inl v1), some (.inl v2), some (.inl v3), none] [.inl x4, .inl x2, .inl (M 67 90), .inl (M 71 (v3).toNat)] M3
        refine r_isub (pc := 102) (tb_at tkX11_reckons 65 rfl) ?_
        refine r_imul_r (pc := 103) (tb_at tkX11_reckons 66 rfl) ?_
        refine r_iadd_r (pc := 104) (tb_at tkX11_reckons 67 rfl) ?_
        refine r_goto (tgt := 109) (pc := 105) (tb_at tkX11_reckons 68 rfl) (by decide) ?_
        exact h
set_option maxRecDepth 100000 in
set_option maxHeartbeats 4000000 in
theorem gX11_reckons_108 {G : GE} {d : Nat} {K : Mem → Prop} {M : Mem} {v1 v2 v3 : Int}  (h : OkV G miX11_reckons (d + 1) K 109 [some (.inr (.inr (some 66))), some (.inl v1), some (.inl v2), some (.inl v3), none] [.inl (-1)] M) : OkV G miX11_reckons (d + 1) K 108 [some (.inr (.inr (some 66))), some (.inl v1), some (.inl v2), some (.inl v3), none] [] M := by
  refine r_iconst (pc := 108) (tb_at tkX11_reckons 69 rfl) ⟨by decide, by decide⟩ ?_
  exact h
set_option maxRecDepth 100000 in
set_option maxHeartbeats 4000000 in
theorem gX11_reckons_109 {G : GE} {d : Nat} {K : Mem → Prop} {M : Mem} {v1 v2 v3 s0 : Int}  (h : ((s0 < 0 → OkV G miX11_reckons (d + 1) K 60 [some (.inr (.inr (some 66))), some (.inl v1), some (.inl v2), some (.inl (w32 (v3 + 1))), none] [] M) ∧ (0 ≤ s0 → (0 ≤ v2 ∧ v2 < 128) ∧ (((M 72 (v2).toNat) < 0 → OkV G miX11_reckons (d + 1) K 136 [some (.inr (.inr (some 66))), some (.inl v1), some (.inl v2), some (.inl v3), some (.inl s0)] [] M) ∧ (0 ≤ (M 72 (v2).toNat) → (0 ≤ v2 ∧ v2 < 128) ∧ (((M 72 (v2).toNat) ≤ s0 → OkV G miX11_reckons (d + 1) K 60 [some (.inr (.inr (some 66))), some (.inl v1), some (.inl v2), some (.inl (w32 (v3 + 1))), none] [] M) ∧ (s0 < (M 72 (v2).toNat) → OkV G miX11_reckons (d + 1) K 136 [some (.inr (.inr (some 66))), some (.inl v1), some (.inl v2), some (.inl v3), some (.inl s0)] [] M))))))) : OkV G miX11_reckons (d + 1) K 109 [some (.inr (.inr (some 66))), some (.inl v1), some (.inl v2), some (.inl v3), none] [.inl s0] M := by
  refine r_istore (L' := [some (.inr (.inr (some 66))), some (.inl v1), some (.inl v2), some (.inl v3), some (.inl s0)]) (pc := 109) (tb_at tkX11_reckons 70 rfl) (by decide) rfl ?_
  refine r_iload (pc := 111) (tb_at tkX11_reckons 71 rfl) rfl ?_
  refine q_if_lt (tgt := 151) (pc := 113) (tb_at tkX11_reckons 72 rfl) (by decide) (fun c => ?_) (fun c => ?_)
  · replace h := h.1 c
    refine r_iinc (L' := [some (.inr (.inr (some 66))), some (.inl v1), some (.inl v2), some (.inl (w32 (v3 + 1))), some (.inl s0)]) (pc := 151) (tb_at tkX11_reckons 94 rfl) rfl (by decide) rfl ?_
    refine r_goto (tgt := 60) (pc := 154) (tb_at tkX11_reckons 95 rfl) (by decide) ?_
    exact Ok.forget h (And.intro rfl (And.intro rfl (And.intro rfl (And.intro rfl trivial))))
  · replace h := h.2 c
    refine r_aload_n (pc := 116) (tb_at tkX11_reckons 73 rfl) rfl rfl ?_
    refine r_get 10 9 (pc := 117) (tb_at tkX11_reckons 74 rfl) ly_66 flX11_27 rfl ?_
    refine r_iload_n (pc := 120) (tb_at tkX11_reckons 75 rfl) rfl rfl ?_
    refine r_iald (pc := 121) (tb_at tkX11_reckons 76 rfl) ly_72 h.1.1 h.1.2 ?_
    replace h := h.2
    refine q_if_lt (tgt := 136) (pc := 122) (tb_at tkX11_reckons 77 rfl) (by decide) (fun c => ?_) (fun c => ?_)
    · replace h := h.1 c
      exact h
    · replace h := h.2 c
      refine r_iload (pc := 125) (tb_at tkX11_reckons 78 rfl) rfl ?_
      refine r_aload_n (pc := 127) (tb_at tkX11_reckons 79 rfl) rfl rfl ?_
      refine r_get 10 9 (pc := 128) (tb_at tkX11_reckons 80 rfl) ly_66 flX11_27 rfl ?_
      refine r_iload_n (pc := 131) (tb_at tkX11_reckons 81 rfl) rfl rfl ?_
      refine r_iald (pc := 132) (tb_at tkX11_reckons 82 rfl) ly_72 h.1.1 h.1.2 ?_
      replace h := h.2
      refine q_icmp_ge (tgt := 151) (pc := 133) (tb_at tkX11_reckons 83 rfl) (by decide) (fun c => ?_) (fun c => ?_)
      · replace h := h.1 c
        refine r_iinc (L' := [some (.inr (.inr (some 66))), some (.inl v1), some (.inl v2), some (.inl (w32 (v3 + 1))), some (.inl s0)]) (pc := 151) (tb_at tkX11_reckons 94 rfl) rfl (by decide) rfl ?_
        refine r_goto (tgt := 60) (pc := 154) (tb_at tkX11_reckons 95 rfl) (by decide) ?_
        exact Ok.forget h (And.intro rfl (And.intro rfl (And.intro rfl (And.intro rfl trivial))))
      · replace h := h.2 c
        exact h
set_option maxRecDepth 100000 in
set_option maxHeartbeats 4000000 in
theorem gX11_reckons_136 {G : GE} {d : Nat} {K : Mem → Prop} {M : Mem} {v1 v2 v3 v4 : Int}  (h : (0 ≤ v2 ∧ v2 < 128) ∧ (0 ≤ v2 ∧ v2 < 128) ∧ OkV G miX11_reckons (d + 1) K 60 [some (.inr (.inr (some 66))), some (.inl v1), some (.inl v2), some (.inl (w32 (v3 + 1))), none] [] (mup (mup M 72 (v2).toNat v4) 73 (v2).toNat v3)) : OkV G miX11_reckons (d + 1) K 136 [some (.inr (.inr (some 66))), some (.inl v1), some (.inl v2), some (.inl v3), some (.inl v4)] [] M := by
  refine r_aload_n (pc := 136) (tb_at tkX11_reckons 84 rfl) rfl rfl ?_
  refine r_get 10 9 (pc := 137) (tb_at tkX11_reckons 85 rfl) ly_66 flX11_27 rfl ?_
  refine r_iload_n (pc := 140) (tb_at tkX11_reckons 86 rfl) rfl rfl ?_
  refine r_iload (pc := 141) (tb_at tkX11_reckons 87 rfl) rfl ?_
  refine r_iast (pc := 143) (tb_at tkX11_reckons 88 rfl) ly_72 h.1.1 h.1.2 rfl ?_
  replace h := h.2
  refine r_aload_n (pc := 144) (tb_at tkX11_reckons 89 rfl) rfl rfl ?_
  refine r_get 10 10 (pc := 145) (tb_at tkX11_reckons 90 rfl) ly_66 flX11_30 rfl ?_
  refine r_iload_n (pc := 148) (tb_at tkX11_reckons 91 rfl) rfl rfl ?_
  refine r_iload_n (pc := 149) (tb_at tkX11_reckons 92 rfl) rfl rfl ?_
  refine r_iast (pc := 150) (tb_at tkX11_reckons 93 rfl) ly_73 h.1.1 h.1.2 rfl ?_
  replace h := h.2
  refine r_iinc (L' := [some (.inr (.inr (some 66))), some (.inl v1), some (.inl v2), some (.inl (w32 (v3 + 1))), some (.inl v4)]) (pc := 151) (tb_at tkX11_reckons 94 rfl) rfl (by decide) rfl ?_
  refine r_goto (tgt := 60) (pc := 154) (tb_at tkX11_reckons 95 rfl) (by decide) ?_
  exact Ok.forget h (And.intro rfl (And.intro rfl (And.intro rfl (And.intro rfl trivial))))
set_option maxRecDepth 100000 in
set_option maxHeartbeats 4000000 in
theorem gX11_pairing_0 {G : GE} {d : Nat} {K : Int → Mem → Prop} {M : Mem} {v1 v2 : Int}  (h : CalI G miX11_isSet d [.inr (.inr (some 66)), .inr (.inl v1)] M (fun x2 M1 => ((x2 = 0 → K (-2) M1) ∧ (¬ x2 = 0 → CalI G miX11_in d [.inr (.inl v2), .inr (.inl 0), .inr (.inl 3)] M1 (fun x4 M3 => ((¬ x4 = 0 → CalV G miX11_orders d [.inr (.inr (some 66))] M3 (fun M5 => CalI G miX11_costOf d [.inr (.inr (some 66)), .inl v1] M5 (fun x7 M6 => ((x7 < 0 → K x7 M6) ∧ (0 ≤ x7 → ((¬ v2 = 0 → ((¬ v2 = 1 → ((¬ v2 = 2 → K (M6 66 7) M6) ∧ (v2 = 2 → K (M6 66 6) M6))) ∧ (v2 = 1 → K (M6 66 5) M6))) ∧ (v2 = 0 → K x7 M6))))))) ∧ (x4 = 0 → K (-2) M3))))))) : OkI G miX11_pairing (d + 1) K 0 [some (.inr (.inr (some 66))), some (.inl v1), some (.inl v2), none] [] M := by
  refine r_aload_n (pc := 0) (tb_at tkX11_pairing 0 rfl) rfl rfl ?_
  refine r_iload_n (pc := 1) (tb_at tkX11_pairing 1 rfl) rfl rfl ?_
  refine r_i2l (pc := 2) (tb_at tkX11_pairing 2 rfl) ?_
  refine r_invV (mc' := 0) (ms' := 0) [.inr (.inl v1)] (S := []) (pc := 3) (tb_at tkX11_pairing 3 rfl) rfl ly_66 rfl rfl clX11_208 (Nat.le_of_ble_eq_true rfl) (Nat.le_refl _) (Nat.le_refl _) ?_
  refine Cal.mono h ?_
  rintro _ _ M1 ⟨x2, rfl, rfl, h⟩
  show OkI G miX11_pairing (d + 1) K 6 [some (.inr (.inr (some 66))), some (.inl v1), some (.inl v2), none] [.inl x2] M1
  refine q_if_eq (tgt := 21) (pc := 6) (tb_at tkX11_pairing 4 rfl) (by decide) (fun c => ?_) (fun c => ?_)
  · replace h := h.1 c
    refine r_bipush (pc := 21) (tb_at tkX11_pairing 11 rfl) ⟨by decide, by decide, by decide⟩ ?_
    exact r_iret (pc := 23) (tb_at tkX11_pairing 12 rfl) rfl (Nat.le_refl _) (Nat.le_refl _) ⟨_, rfl, rfl, h⟩
  · replace h := h.2 c
    refine r_iload_n (pc := 9) (tb_at tkX11_pairing 5 rfl) rfl rfl ?_
    refine r_i2l (pc := 10) (tb_at tkX11_pairing 6 rfl) ?_
    refine r_lconst (v := 0) (pc := 11) (tb_at tkX11_pairing 7 rfl) ⟨by decide, by decide, by decide⟩ ?_
    refine r_ldc2 (n := 3) (pc := 12) (tb_at tkX11_pairing 8 rfl) kcX11_107 ⟨by decide, by decide⟩ ?_
    refine r_invS (mc' := 0) (ms' := 0) [.inr (.inl v2), .inr (.inl 0), .inr (.inl 3)] (S := []) (pc := 15) (tb_at tkX11_pairing 9 rfl) rfl clX11_103 (Nat.le_of_ble_eq_true rfl) (Nat.le_refl _) (Nat.le_refl _) ?_
    refine Cal.mono h ?_
    rintro _ _ M3 ⟨x4, rfl, rfl, h⟩
    show OkI G miX11_pairing (d + 1) K 18 [some (.inr (.inr (some 66))), some (.inl v1), some (.inl v2), none] [.inl x4] M3
    refine q_if_ne (tgt := 24) (pc := 18) (tb_at tkX11_pairing 10 rfl) (by decide) (fun c => ?_) (fun c => ?_)
    · replace h := h.1 c
      refine r_aload_n (pc := 24) (tb_at tkX11_pairing 13 rfl) rfl rfl ?_
      refine r_invV (mc' := 0) (ms' := 0) [] (S := []) (pc := 25) (tb_at tkX11_pairing 14 rfl) rfl ly_66 rfl rfl clX11_199 (Nat.le_of_ble_eq_true rfl) (Nat.le_refl _) (Nat.le_refl _) ?_
      refine Cal.mono h ?_
      rintro _ _ M5 ⟨rfl, rfl, h⟩
      show OkI G miX11_pairing (d + 1) K 28 [some (.inr (.inr (some 66))), some (.inl v1), some (.inl v2), none] [] M5
      refine r_aload_n (pc := 28) (tb_at tkX11_pairing 15 rfl) rfl rfl ?_
      refine r_iload_n (pc := 29) (tb_at tkX11_pairing 16 rfl) rfl rfl ?_
      refine r_invV (mc' := 0) (ms' := 0) [.inl v1] (S := []) (pc := 30) (tb_at tkX11_pairing 17 rfl) rfl ly_66 rfl rfl clX11_202 (Nat.le_of_ble_eq_true rfl) (Nat.le_refl _) (Nat.le_refl _) ?_
      refine Cal.mono h ?_
      rintro _ _ M6 ⟨x7, rfl, rfl, h⟩
      show OkI G miX11_pairing (d + 1) K 33 [some (.inr (.inr (some 66))), some (.inl v1), some (.inl v2), none] [.inl x7] M6
      refine r_istore_n (L' := [some (.inr (.inr (some 66))), some (.inl v1), some (.inl v2), some (.inl x7)]) (pc := 33) (tb_at tkX11_pairing 18 rfl) rfl (by decide) rfl ?_
      refine r_iload_n (pc := 34) (tb_at tkX11_pairing 19 rfl) rfl rfl ?_
      refine q_if_lt (tgt := 42) (pc := 35) (tb_at tkX11_pairing 20 rfl) (by decide) (fun c => ?_) (fun c => ?_)
      · replace h := h.1 c
        refine r_iload_n (pc := 42) (tb_at tkX11_pairing 23 rfl) rfl rfl ?_
        refine r_goto (tgt := 74) (pc := 43) (tb_at tkX11_pairing 24 rfl) (by decide) ?_
        exact r_iret (pc := 74) (tb_at tkX11_pairing 39 rfl) rfl (Nat.le_refl _) (Nat.le_refl _) ⟨_, rfl, rfl, h⟩
      · replace h := h.2 c
        refine r_iload_n (pc := 38) (tb_at tkX11_pairing 21 rfl) rfl rfl ?_
        refine q_if_ne (tgt := 46) (pc := 39) (tb_at tkX11_pairing 22 rfl) (by decide) (fun c => ?_) (fun c => ?_)
        · replace h := h.1 c
          refine r_iload_n (pc := 46) (tb_at tkX11_pairing 25 rfl) rfl rfl ?_
          refine r_iconst (pc := 47) (tb_at tkX11_pairing 26 rfl) ⟨by decide, by decide⟩ ?_
          refine q_icmp_ne (tgt := 58) (pc := 48) (tb_at tkX11_pairing 27 rfl) (by decide) (fun c => ?_) (fun c => ?_)
          · replace h := h.1 c
            refine r_iload_n (pc := 58) (tb_at tkX11_pairing 31 rfl) rfl rfl ?_
            refine r_iconst (pc := 59) (tb_at tkX11_pairing 32 rfl) ⟨by decide, by decide⟩ ?_
            refine q_icmp_ne (tgt := 70) (pc := 60) (tb_at tkX11_pairing 33 rfl) (by decide) (fun c => ?_) (fun c => ?_)
            · replace h := h.1 c
              refine r_aload_n (pc := 70) (tb_at tkX11_pairing 37 rfl) rfl rfl ?_
              refine r_get 10 7 (pc := 71) (tb_at tkX11_pairing 38 rfl) ly_66 flX11_193 rfl ?_
              exact r_iret (pc := 74) (tb_at tkX11_pairing 39 rfl) rfl (Nat.le_refl _) (Nat.le_refl _) ⟨_, rfl, rfl, h⟩
            · replace h := h.2 c
              refine r_aload_n (pc := 63) (tb_at tkX11_pairing 34 rfl) rfl rfl ?_
              refine r_get 10 6 (pc := 64) (tb_at tkX11_pairing 35 rfl) ly_66 flX11_190 rfl ?_
              refine r_goto (tgt := 74) (pc := 67) (tb_at tkX11_pairing 36 rfl) (by decide) ?_
              exact r_iret (pc := 74) (tb_at tkX11_pairing 39 rfl) rfl (Nat.le_refl _) (Nat.le_refl _) ⟨_, rfl, rfl, h⟩
          · replace h := h.2 c
            refine r_aload_n (pc := 51) (tb_at tkX11_pairing 28 rfl) rfl rfl ?_
            refine r_get 10 5 (pc := 52) (tb_at tkX11_pairing 29 rfl) ly_66 flX11_186 rfl ?_
            refine r_goto (tgt := 74) (pc := 55) (tb_at tkX11_pairing 30 rfl) (by decide) ?_
            exact r_iret (pc := 74) (tb_at tkX11_pairing 39 rfl) rfl (Nat.le_refl _) (Nat.le_refl _) ⟨_, rfl, rfl, h⟩
        · replace h := h.2 c
          refine r_iload_n (pc := 42) (tb_at tkX11_pairing 23 rfl) rfl rfl ?_
          refine r_goto (tgt := 74) (pc := 43) (tb_at tkX11_pairing 24 rfl) (by decide) ?_
          exact r_iret (pc := 74) (tb_at tkX11_pairing 39 rfl) rfl (Nat.le_refl _) (Nat.le_refl _) ⟨_, rfl, rfl, h⟩
    · replace h := h.2 c
      refine r_bipush (pc := 21) (tb_at tkX11_pairing 11 rfl) ⟨by decide, by decide, by decide⟩ ?_
      exact r_iret (pc := 23) (tb_at tkX11_pairing 12 rfl) rfl (Nat.le_refl _) (Nat.le_refl _) ⟨_, rfl, rfl, h⟩
set_option maxRecDepth 100000 in
set_option maxHeartbeats 4000000 in
theorem gX11_pairings_0 {G : GE} {d : Nat} {K : Int → Mem → Prop} {M : Mem} {v1 : Int}  (h : CalV G miX11_reckons d [.inr (.inr (some 66))] M (fun M1 => OkI G miX11_pairings (d + 1) K 8 [some (.inr (.inr (some 66))), some (.inl v1), some (.inl 0), some (.inl 1)] [] M1)) : OkI G miX11_pairings (d + 1) K 0 [some (.inr (.inr (some 66))), some (.inl v1), none, none] [] M := by
  refine r_aload_n (pc := 0) (tb_at tkX11_pairings 0 rfl) rfl rfl ?_
  refine r_invV (mc' := 0) (ms' := 0) [] (S := []) (pc := 1) (tb_at tkX11_pairings 1 rfl) rfl ly_66 rfl rfl clX11_212 (Nat.le_of_ble_eq_true rfl) (Nat.le_refl _) (Nat.le_refl _) ?_
  refine Cal.mono h ?_
  rintro _ _ M1 ⟨rfl, rfl, h⟩
  show OkI G miX11_pairings (d + 1) K 4 [some (.inr (.inr (some 66))), some (.inl v1), none, none] [] M1
  refine r_iconst (pc := 4) (tb_at tkX11_pairings 2 rfl) ⟨by decide, by decide⟩ ?_
  refine r_istore_n (L' := [some (.inr (.inr (some 66))), some (.inl v1), some (.inl 0), none]) (pc := 5) (tb_at tkX11_pairings 3 rfl) rfl (by decide) rfl ?_
  refine r_iconst (pc := 6) (tb_at tkX11_pairings 4 rfl) ⟨by decide, by decide⟩ ?_
  refine r_istore_n (L' := [some (.inr (.inr (some 66))), some (.inl v1), some (.inl 0), some (.inl 1)]) (pc := 7) (tb_at tkX11_pairings 5 rfl) rfl (by decide) rfl ?_
  exact h
set_option maxRecDepth 100000 in
set_option maxHeartbeats 4000000 in
theorem gX11_pairings_8 {G : GE} {d : Nat} {K : Int → Mem → Prop} {M : Mem} {v1 v2 v3 : Int}  (h : (((ishl 1 (M 67 0)) ≤ v3 → ((¬ v1 = (-1) → K (-12) M) ∧ (v1 = (-1) → K v2 M))) ∧ (v3 < (ishl 1 (M 67 0)) → (0 ≤ v3 ∧ v3 < 128) ∧ (((M 71 (v3).toNat) < 0 → OkI G miX11_pairings (d + 1) K 8 [some (.inr (.inr (some 66))), some (.inl v1), some (.inl v2), some (.inl (w32 (v3 + 1)))] [] M) ∧ (0 ≤ (M 71 (v3).toNat) → ((¬ v2 = v1 → OkI G miX11_pairings (d + 1) K 8 [some (.inr (.inr (some 66))), some (.inl v1), some (.inl (w32 (v2 + 1))), some (.inl (w32 (v3 + 1)))] [] M) ∧ (v2 = v1 → K v3 M))))))) : OkI G miX11_pairings (d + 1) K 8 [some (.inr (.inr (some 66))), some (.inl v1), some (.inl v2), some (.inl v3)] [] M := by
  refine r_iload_n (pc := 8) (tb_at tkX11_pairings 6 rfl) rfl rfl ?_
  refine r_iconst (pc := 9) (tb_at tkX11_pairings 7 rfl) ⟨by decide, by decide⟩ ?_
  refine r_aload_n (pc := 10) (tb_at tkX11_pairings 8 rfl) rfl rfl ?_
  refine r_get 10 0 (pc := 11) (tb_at tkX11_pairings 9 rfl) ly_66 flX11_11 rfl ?_
  refine r_iconst (pc := 14) (tb_at tkX11_pairings 10 rfl) ⟨by decide, by decide⟩ ?_
  refine r_iald_k (k0 := 0) (pc := 15) (tb_at tkX11_pairings 11 rfl) ly_67 rfl (by decide) (by decide) ?_
  refine r_ishl (pc := 16) (tb_at tkX11_pairings 12 rfl) ?_
  refine q_icmp_ge (tgt := 45) (pc := 17) (tb_at tkX11_pairings 13 rfl) (by decide) (fun c => ?_) (fun c => ?_)
  · replace h := h.1 c
    refine r_iload_n (pc := 45) (tb_at tkX11_pairings 27 rfl) rfl rfl ?_
    refine r_iconst (pc := 46) (tb_at tkX11_pairings 28 rfl) ⟨by decide, by decide⟩ ?_
    refine q_icmp_ne (tgt := 54) (pc := 47) (tb_at tkX11_pairings 29 rfl) (by decide) (fun c => ?_) (fun c => ?_)
    · replace h := h.1 c
      refine r_bipush (pc := 54) (tb_at tkX11_pairings 32 rfl) ⟨by decide, by decide, by decide⟩ ?_
      exact r_iret (pc := 56) (tb_at tkX11_pairings 33 rfl) rfl (Nat.le_refl _) (Nat.le_refl _) ⟨_, rfl, rfl, h⟩
    · replace h := h.2 c
      refine r_iload_n (pc := 50) (tb_at tkX11_pairings 30 rfl) rfl rfl ?_
      refine r_goto (tgt := 56) (pc := 51) (tb_at tkX11_pairings 31 rfl) (by decide) ?_
      exact r_iret (pc := 56) (tb_at tkX11_pairings 33 rfl) rfl (Nat.le_refl _) (Nat.le_refl _) ⟨_, rfl, rfl, h⟩
  · replace h := h.2 c
    refine r_aload_n (pc := 20) (tb_at tkX11_pairings 14 rfl) rfl rfl ?_
    refine r_get 10 8 (pc := 21) (tb_at tkX11_pairings 15 rfl) ly_66 flX11_24 rfl ?_
    refine r_iload_n (pc := 24) (tb_at tkX11_pairings 16 rfl) rfl rfl ?_
    refine r_iald (pc := 25) (tb_at tkX11_pairings 17 rfl) ly_71 h.1.1 h.1.2 ?_
    replace h := h.2
    refine q_if_lt (tgt := 39) (pc := 26) (tb_at tkX11_pairings 18 rfl) (by decide) (fun c => ?_) (fun c => ?_)
    · replace h := h.1 c
      refine r_iinc (L' := [some (.inr (.inr (some 66))), some (.inl v1), some (.inl v2), some (.inl (w32 (v3 + 1)))]) (pc := 39) (tb_at tkX11_pairings 25 rfl) rfl (by decide) rfl ?_
      refine r_goto (tgt := 8) (pc := 42) (tb_at tkX11_pairings 26 rfl) (by decide) ?_
      exact h
    · replace h := h.2 c
      refine r_iload_n (pc := 29) (tb_at tkX11_pairings 19 rfl) rfl rfl ?_
      refine r_iload_n (pc := 30) (tb_at tkX11_pairings 20 rfl) rfl rfl ?_
      refine q_icmp_ne (tgt := 36) (pc := 31) (tb_at tkX11_pairings 21 rfl) (by decide) (fun c => ?_) (fun c => ?_)
      · replace h := h.1 c
        refine r_iinc (L' := [some (.inr (.inr (some 66))), some (.inl v1), some (.inl (w32 (v2 + 1))), some (.inl v3)]) (pc := 36) (tb_at tkX11_pairings 24 rfl) rfl (by decide) rfl ?_
        refine r_iinc (L' := [some (.inr (.inr (some 66))), some (.inl v1), some (.inl (w32 (v2 + 1))), some (.inl (w32 (v3 + 1)))]) (pc := 39) (tb_at tkX11_pairings 25 rfl) rfl (by decide) rfl ?_
        refine r_goto (tgt := 8) (pc := 42) (tb_at tkX11_pairings 26 rfl) (by decide) ?_
        exact h
      · replace h := h.2 c
        refine r_iload_n (pc := 34) (tb_at tkX11_pairings 22 rfl) rfl rfl ?_
        exact r_iret (pc := 35) (tb_at tkX11_pairings 23 rfl) rfl (Nat.le_refl _) (Nat.le_refl _) ⟨_, rfl, rfl, h⟩
set_option maxRecDepth 100000 in
set_option maxHeartbeats 4000000 in
theorem gX11_had_0 {G : GE} {d : Nat} {K : Int → Mem → Prop} {M : Mem} {v1 v2 : Int}  (h : CalI G miX11_isSet d [.inr (.inr (some 66)), .inr (.inl v1)] M (fun x2 M1 => ((x2 = 0 → K (-2) M1) ∧ (¬ x2 = 0 → CalI G miX11_in d [.inr (.inl v2), .inr (.inl 0), .inr (.inl 1)] M1 (fun x4 M3 => ((¬ x4 = 0 → CalV G miX11_reckons d [.inr (.inr (some 66))] M3 (fun M5 => ((¬ v2 = 0 → (0 ≤ v1 ∧ v1 < 128) ∧ K (M5 73 (v1).toNat) M5) ∧ (v2 = 0 → (0 ≤ v1 ∧ v1 < 128) ∧ K (M5 72 (v1).toNat) M5)))) ∧ (x4 = 0 → K (-2) M3))))))) : OkI G miX11_had (d + 1) K 0 [some (.inr (.inr (some 66))), some (.inl v1), some (.inl v2)] [] M := by
  refine r_aload_n (pc := 0) (tb_at tkX11_had 0 rfl) rfl rfl ?_
  refine r_iload_n (pc := 1) (tb_at tkX11_had 1 rfl) rfl rfl ?_
  refine r_i2l (pc := 2) (tb_at tkX11_had 2 rfl) ?_
  refine r_invV (mc' := 0) (ms' := 0) [.inr (.inl v1)] (S := []) (pc := 3) (tb_at tkX11_had 3 rfl) rfl ly_66 rfl rfl clX11_208 (Nat.le_of_ble_eq_true rfl) (Nat.le_refl _) (Nat.le_refl _) ?_
  refine Cal.mono h ?_
  rintro _ _ M1 ⟨x2, rfl, rfl, h⟩
  show OkI G miX11_had (d + 1) K 6 [some (.inr (.inr (some 66))), some (.inl v1), some (.inl v2)] [.inl x2] M1
  refine q_if_eq (tgt := 19) (pc := 6) (tb_at tkX11_had 4 rfl) (by decide) (fun c => ?_) (fun c => ?_)
  · replace h := h.1 c
    refine r_bipush (pc := 19) (tb_at tkX11_had 11 rfl) ⟨by decide, by decide, by decide⟩ ?_
    exact r_iret (pc := 21) (tb_at tkX11_had 12 rfl) rfl (Nat.le_refl _) (Nat.le_refl _) ⟨_, rfl, rfl, h⟩
  · replace h := h.2 c
    refine r_iload_n (pc := 9) (tb_at tkX11_had 5 rfl) rfl rfl ?_
    refine r_i2l (pc := 10) (tb_at tkX11_had 6 rfl) ?_
    refine r_lconst (v := 0) (pc := 11) (tb_at tkX11_had 7 rfl) ⟨by decide, by decide, by decide⟩ ?_
    refine r_lconst (v := 1) (pc := 12) (tb_at tkX11_had 8 rfl) ⟨by decide, by decide, by decide⟩ ?_
    refine r_invS (mc' := 0) (ms' := 0) [.inr (.inl v2), .inr (.inl 0), .inr (.inl 1)] (S := []) (pc := 13) (tb_at tkX11_had 9 rfl) rfl clX11_103 (Nat.le_of_ble_eq_true rfl) (Nat.le_refl _) (Nat.le_refl _) ?_
    refine Cal.mono h ?_
    rintro _ _ M3 ⟨x4, rfl, rfl, h⟩
    show OkI G miX11_had (d + 1) K 16 [some (.inr (.inr (some 66))), some (.inl v1), some (.inl v2)] [.inl x4] M3
    refine q_if_ne (tgt := 22) (pc := 16) (tb_at tkX11_had 10 rfl) (by decide) (fun c => ?_) (fun c => ?_)
    · replace h := h.1 c
      refine r_aload_n (pc := 22) (tb_at tkX11_had 13 rfl) rfl rfl ?_
      refine r_invV (mc' := 0) (ms' := 0) [] (S := []) (pc := 23) (tb_at tkX11_had 14 rfl) rfl ly_66 rfl rfl clX11_212 (Nat.le_of_ble_eq_true rfl) (Nat.le_refl _) (Nat.le_refl _) ?_
      refine Cal.mono h ?_
      rintro _ _ M5 ⟨rfl, rfl, h⟩
      show OkI G miX11_had (d + 1) K 26 [some (.inr (.inr (some 66))), some (.inl v1), some (.inl v2)] [] M5
      refine r_iload_n (pc := 26) (tb_at tkX11_had 15 rfl) rfl rfl ?_
      refine q_if_ne (tgt := 39) (pc := 27) (tb_at tkX11_had 16 rfl) (by decide) (fun c => ?_) (fun c => ?_)
      · replace h := h.1 c
        refine r_aload_n (pc := 39) (tb_at tkX11_had 22 rfl) rfl rfl ?_
        refine r_get 10 10 (pc := 40) (tb_at tkX11_had 23 rfl) ly_66 flX11_30 rfl ?_
        refine r_iload_n (pc := 43) (tb_at tkX11_had 24 rfl) rfl rfl ?_
        refine r_iald (pc := 44) (tb_at tkX11_had 25 rfl) ly_73 h.1.1 h.1.2 ?_
        replace h := h.2
        exact r_iret (pc := 45) (tb_at tkX11_had 26 rfl) rfl (Nat.le_refl _) (Nat.le_refl _) ⟨_, rfl, rfl, h⟩
      · replace h := h.2 c
        refine r_aload_n (pc := 30) (tb_at tkX11_had 17 rfl) rfl rfl ?_
        refine r_get 10 9 (pc := 31) (tb_at tkX11_had 18 rfl) ly_66 flX11_27 rfl ?_
        refine r_iload_n (pc := 34) (tb_at tkX11_had 19 rfl) rfl rfl ?_
        refine r_iald (pc := 35) (tb_at tkX11_had 20 rfl) ly_72 h.1.1 h.1.2 ?_
        replace h := h.2
        refine r_goto (tgt := 45) (pc := 36) (tb_at tkX11_had 21 rfl) (by decide) ?_
        exact r_iret (pc := 45) (tb_at tkX11_had 26 rfl) rfl (Nat.le_refl _) (Nat.le_refl _) ⟨_, rfl, rfl, h⟩
    · replace h := h.2 c
      refine r_bipush (pc := 19) (tb_at tkX11_had 11 rfl) ⟨by decide, by decide, by decide⟩ ?_
      exact r_iret (pc := 21) (tb_at tkX11_had 12 rfl) rfl (Nat.le_refl _) (Nat.le_refl _) ⟨_, rfl, rfl, h⟩
set_option maxRecDepth 100000 in
set_option maxHeartbeats 4000000 in
theorem gX11_finds_0 {G : GE} {d : Nat} {K : Mem → Prop} {M : Mem} {v1 : Int}  (h : (0 ≤ v1 ∧ v1 < 128) ∧ (0 ≤ v1 ∧ v1 < 128) ∧ OkV G miX11_finds d K 30 [some (.inr (.inr (some 66))), some (.inl v1), some (.inl (iand v1 (w32 (-v1)))), some (.inl (iand v1 (w32 (-v1)))), none] [] (mup (mup M 74 (v1).toNat (if v1 = 0 then (0 : Int) else 1000000)) 75 (v1).toNat 0)) : OkV G miX11_finds d K 0 [some (.inr (.inr (some 66))), some (.inl v1), none, none, none] [] M := by
  refine r_iload_n (pc := 0) (tb_at tkX11_finds 0 rfl) rfl rfl ?_
  refine r_iload_n (pc := 1) (tb_at tkX11_finds 1 rfl) rfl rfl ?_
  refine r_ineg (pc := 2) (tb_at tkX11_finds 2 rfl) ?_
  refine r_iand (pc := 3) (tb_at tkX11_finds 3 rfl) ?_
  refine r_istore_n (L' := [some (.inr (.inr (some 66))), some (.inl v1), some (.inl (iand v1 (w32 (-v1)))), none, none]) (pc := 4) (tb_at tkX11_finds 4 rfl) rfl (by decide) rfl ?_
  refine r_aload_n (pc := 5) (tb_at tkX11_finds 5 rfl) rfl rfl ?_
  refine r_get 10 11 (pc := 6) (tb_at tkX11_finds 6 rfl) ly_66 flX11_33 rfl ?_
  refine r_iload_n (pc := 9) (tb_at tkX11_finds 7 rfl) rfl rfl ?_
  refine r_iload_n (pc := 10) (tb_at tkX11_finds 8 rfl) rfl rfl ?_
  have hJ1 : ∀ t0 : Int, t0 = (if v1 = 0 then (0 : Int) else 1000000) → OkV G miX11_finds d K 20 [some (.inr (.inr (some 66))), some (.inl v1), some (.inl (iand v1 (w32 (-v1)))), none, none] [.inl t0, .inl v1, .inr (.inr (some 74))] M := by
    rintro _ rfl
    refine r_iast (pc := 20) (tb_at tkX11_finds 13 rfl) ly_74 h.1.1 h.1.2 rfl ?_
    replace h := h.2
    refine r_aload_n (pc := 21) (tb_at tkX11_finds 14 rfl) rfl rfl ?_
    refine r_get 10 12 (pc := 22) (tb_at tkX11_finds 15 rfl) ly_66 flX11_36 rfl ?_
    refine r_iload_n (pc := 25) (tb_at tkX11_finds 16 rfl) rfl rfl ?_
    refine r_iconst (pc := 26) (tb_at tkX11_finds 17 rfl) ⟨by decide, by decide⟩ ?_
    refine r_iast (pc := 27) (tb_at tkX11_finds 18 rfl) ly_75 h.1.1 h.1.2 rfl ?_
    replace h := h.2
    refine r_iload_n (pc := 28) (tb_at tkX11_finds 19 rfl) rfl rfl ?_
    refine r_istore_n (L' := [some (.inr (.inr (some 66))), some (.inl v1), some (.inl (iand v1 (w32 (-v1)))), some (.inl (iand v1 (w32 (-v1)))), none]) (pc := 29) (tb_at tkX11_finds 20 rfl) rfl (by decide) rfl ?_
    exact h
  refine q_if_ne (tgt := 18) (pc := 11) (tb_at tkX11_finds 9 rfl) (by decide) (fun c2 => ?_) (fun c2 => ?_)
  · refine r_ldc (n := 1000000) (pc := 18) (tb_at tkX11_finds 12 rfl) kcX11_215 ⟨by decide, by decide⟩ ?_
    exact hJ1 _ (by simp only [if_neg c2])
  · refine r_iconst (pc := 14) (tb_at tkX11_finds 10 rfl) ⟨by decide, by decide⟩ ?_
    refine r_goto (tgt := 20) (pc := 15) (tb_at tkX11_finds 11 rfl) (by decide) ?_
    exact hJ1 _ (by simp only [if_pos c2])
set_option maxRecDepth 100000 in
set_option maxHeartbeats 4000000 in
theorem gX11_finds_30 {G : GE} {d : Nat} {K : Mem → Prop} {M : Mem} {v1 v2 v3 : Int}  (h : ((v1 < v3 → K M) ∧ (v3 ≤ v1 → ((v1 ≤ 0 → K M) ∧ (0 < v1 → (((iand v3 v2) = 0 → OkV G miX11_finds d K 30 [some (.inr (.inr (some 66))), some (.inl v1), some (.inl v2), some (.inl (w32 (v3 + 1))), none] [] M) ∧ (¬ (iand v3 v2) = 0 → ((¬ (iand v3 (ixor v1 (-1))) = 0 → OkV G miX11_finds d K 30 [some (.inr (.inr (some 66))), some (.inl v1), some (.inl v2), some (.inl (w32 (v3 + 1))), none] [] M) ∧ ((iand v3 (ixor v1 (-1))) = 0 → (0 ≤ v3 ∧ v3 < 128) ∧ ((0 ≤ (M 72 (v3).toNat) → (0 ≤ v3 ∧ v3 < 128) ∧ (0 ≤ iand v1 (ixor v3 (-1)) ∧ iand v1 (ixor v3 (-1)) < 128) ∧ (0 ≤ v1 ∧ v1 < 128) ∧ (((M 74 (v1).toNat) ≤ (w32 ((M 72 (v3).toNat) + (M 74 (iand v1 (ixor v3 (-1))).toNat))) → OkV G miX11_finds d K 30 [some (.inr (.inr (some 66))), some (.inl v1), some (.inl v2), some (.inl (w32 (v3 + 1))), none] [] M) ∧ ((w32 ((M 72 (v3).toNat) + (M 74 (iand v1 (ixor v3 (-1))).toNat))) < (M 74 (v1).toNat) → (0 ≤ v1 ∧ v1 < 128) ∧ (0 ≤ v1 ∧ v1 < 128) ∧ OkV G miX11_finds d K 30 [some (.inr (.inr (some 66))), some (.inl v1), some (.inl v2), some (.inl (w32 (v3 + 1))), none] [] (mup (mup M 74 (v1).toNat (w32 ((M 72 (v3).toNat) + (M 74 (iand v1 (ixor v3 (-1))).toNat)))) 75 (v1).toNat v3)))) ∧ ((M 72 (v3).toNat) < 0 → OkV G miX11_finds d K 30 [some (.inr (.inr (some 66))), some (.inl v1), some (.inl v2), some (.inl (w32 (v3 + 1))), none] [] M))))))))))) : OkV G miX11_finds d K 30 [some (.inr (.inr (some 66))), some (.inl v1), some (.inl v2), some (.inl v3), none] [] M := by
  refine r_iload_n (pc := 30) (tb_at tkX11_finds 21 rfl) rfl rfl ?_
  refine r_iload_n (pc := 31) (tb_at tkX11_finds 22 rfl) rfl rfl ?_
  refine q_icmp_gt (tgt := 116) (pc := 32) (tb_at tkX11_finds 23 rfl) (by decide) (fun c => ?_) (fun c => ?_)
  · replace h := h.1 c
    exact r_vret (pc := 116) (tb_at tkX11_finds 74 rfl) rfl (Nat.le_refl _) (Nat.le_refl _) ⟨rfl, rfl, h⟩
  · replace h := h.2 c
    refine r_iload_n (pc := 35) (tb_at tkX11_finds 24 rfl) rfl rfl ?_
    refine q_if_le (tgt := 116) (pc := 36) (tb_at tkX11_finds 25 rfl) (by decide) (fun c => ?_) (fun c => ?_)
    · replace h := h.1 c
      exact r_vret (pc := 116) (tb_at tkX11_finds 74 rfl) rfl (Nat.le_refl _) (Nat.le_refl _) ⟨rfl, rfl, h⟩
    · replace h := h.2 c
      refine r_iload_n (pc := 39) (tb_at tkX11_finds 26 rfl) rfl rfl ?_
      refine r_iload_n (pc := 40) (tb_at tkX11_finds 27 rfl) rfl rfl ?_
      refine r_iand (pc := 41) (tb_at tkX11_finds 28 rfl) ?_
      refine q_if_eq (tgt := 110) (pc := 42) (tb_at tkX11_finds 29 rfl) (by decide) (fun c => ?_) (fun c => ?_)
      · replace h := h.1 c
        refine r_iinc (L' := [some (.inr (.inr (some 66))), some (.inl v1), some (.inl v2), some (.inl (w32 (v3 + 1))), none]) (pc := 110) (tb_at tkX11_finds 72 rfl) rfl (by decide) rfl ?_
        refine r_goto (tgt := 30) (pc := 113) (tb_at tkX11_finds 73 rfl) (by decide) ?_
        exact h
      · replace h := h.2 c
        refine r_iload_n (pc := 45) (tb_at tkX11_finds 30 rfl) rfl rfl ?_
        refine r_iload_n (pc := 46) (tb_at tkX11_finds 31 rfl) rfl rfl ?_
        refine r_iconst (pc := 47) (tb_at tkX11_finds 32 rfl) ⟨by decide, by decide⟩ ?_
        refine r_ixor (pc := 48) (tb_at tkX11_finds 33 rfl) ?_
        refine r_iand (pc := 49) (tb_at tkX11_finds 34 rfl) ?_
        refine q_if_ne (tgt := 110) (pc := 50) (tb_at tkX11_finds 35 rfl) (by decide) (fun c => ?_) (fun c => ?_)
        · replace h := h.1 c
          refine r_iinc (L' := [some (.inr (.inr (some 66))), some (.inl v1), some (.inl v2), some (.inl (w32 (v3 + 1))), none]) (pc := 110) (tb_at tkX11_finds 72 rfl) rfl (by decide) rfl ?_
          refine r_goto (tgt := 30) (pc := 113) (tb_at tkX11_finds 73 rfl) (by decide) ?_
          exact h
        · replace h := h.2 c
          refine r_aload_n (pc := 53) (tb_at tkX11_finds 36 rfl) rfl rfl ?_
          refine r_get 10 9 (pc := 54) (tb_at tkX11_finds 37 rfl) ly_66 flX11_27 rfl ?_
          refine r_iload_n (pc := 57) (tb_at tkX11_finds 38 rfl) rfl rfl ?_
          refine r_iald (pc := 58) (tb_at tkX11_finds 39 rfl) ly_72 h.1.1 h.1.2 ?_
          replace h := h.2
          refine q_if_ge (tgt := 65) (pc := 59) (tb_at tkX11_finds 40 rfl) (by decide) (fun c => ?_) (fun c => ?_)
          · replace h := h.1 c
            refine r_aload_n (pc := 65) (tb_at tkX11_finds 42 rfl) rfl rfl ?_
            refine r_get 10 9 (pc := 66) (tb_at tkX11_finds 43 rfl) ly_66 flX11_27 rfl ?_
            refine r_iload_n (pc := 69) (tb_at tkX11_finds 44 rfl) rfl rfl ?_
            refine r_iald (pc := 70) (tb_at tkX11_finds 45 rfl) ly_72 h.1.1 h.1.2 ?_
            replace h := h.2
            refine r_aload_n (pc := 71) (tb_at tkX11_finds 46 rfl) rfl rfl ?_
            refine r_get 10 11 (pc := 72) (tb_at tkX11_finds 47 rfl) ly_66 flX11_33 rfl ?_
            refine r_iload_n (pc := 75) (tb_at tkX11_finds 48 rfl) rfl rfl ?_
            refine r_iload_n (pc := 76) (tb_at tkX11_finds 49 rfl) rfl rfl ?_
            refine r_iconst (pc := 77) (tb_at tkX11_finds 50 rfl) ⟨by decide, by decide⟩ ?_
            refine r_ixor (pc := 78) (tb_at tkX11_finds 51 rfl) ?_
            refine r_iand (pc := 79) (tb_at tkX11_finds 52 rfl) ?_
            refine r_iald (pc := 80) (tb_at tkX11_finds 53 rfl) ly_74 h.1.1 h.1.2 ?_
            replace h := h.2
            refine r_iadd (pc := 81) (tb_at tkX11_finds 54 rfl) ?_
            refine r_istore (L' := [some (.inr (.inr (some 66))), some (.inl v1), some (.inl v2), some (.inl v3), some (.inl (w32 ((M 72 (v3).toNat) + (M 74 (iand v1 (ixor v3 (-1))).toNat))))]) (pc := 82) (tb_at tkX11_finds 55 rfl) (by decide) rfl ?_
            refine r_iload (pc := 84) (tb_at tkX11_finds 56 rfl) rfl ?_
            refine r_aload_n (pc := 86) (tb_at tkX11_finds 57 rfl) rfl rfl ?_
            refine r_get 10 11 (pc := 87) (tb_at tkX11_finds 58 rfl) ly_66 flX11_33 rfl ?_
            refine r_iload_n (pc := 90) (tb_at tkX11_finds 59 rfl) rfl rfl ?_
            refine r_iald (pc := 91) (tb_at tkX11_finds 60 rfl) ly_74 h.1.1 h.1.2 ?_
            replace h := h.2
            refine q_icmp_ge (tgt := 110) (pc := 92) (tb_at tkX11_finds 61 rfl) (by decide) (fun c => ?_) (fun c => ?_)
            · replace h := h.1 c
              refine r_iinc (L' := [some (.inr (.inr (some 66))), some (.inl v1), some (.inl v2), some (.inl (w32 (v3 + 1))), some (.inl (w32 ((M 72 (v3).toNat) + (M 74 (iand v1 (ixor v3 (-1))).toNat))))]) (pc := 110) (tb_at tkX11_finds 72 rfl) rfl (by decide) rfl ?_
              refine r_goto (tgt := 30) (pc := 113) (tb_at tkX11_finds 73 rfl) (by decide) ?_
              exact Ok.forget h (And.intro rfl (And.intro rfl (And.intro rfl (And.intro rfl trivial))))
            · replace h := h.2 c
              refine r_aload_n (pc := 95) (tb_at tkX11_finds 62 rfl) rfl rfl ?_
              refine r_get 10 11 (pc := 96) (tb_at tkX11_finds 63 rfl) ly_66 flX11_33 rfl ?_
              refine r_iload_n (pc := 99) (tb_at tkX11_finds 64 rfl) rfl rfl ?_
              refine r_iload (pc := 100) (tb_at tkX11_finds 65 rfl) rfl ?_
              refine r_iast (pc := 102) (tb_at tkX11_finds 66 rfl) ly_74 h.1.1 h.1.2 rfl ?_
              replace h := h.2
              refine r_aload_n (pc := 103) (tb_at tkX11_finds 67 rfl) rfl rfl ?_
              refine r_get 10 12 (pc := 104) (tb_at tkX11_finds 68 rfl) ly_66 flX11_36 rfl ?_
              refine r_iload_n (pc := 107) (tb_at tkX11_finds 69 rfl) rfl rfl ?_
              refine r_iload_n (pc := 108) (tb_at tkX11_finds 70 rfl) rfl rfl ?_
              refine r_iast (pc := 109) (tb_at tkX11_finds 71 rfl) ly_75 h.1.1 h.1.2 rfl ?_
              replace h := h.2
              refine r_iinc (L' := [some (.inr (.inr (some 66))), some (.inl v1), some (.inl v2), some (.inl (w32 (v3 + 1))), some (.inl (w32 ((M 72 (v3).toNat) + (M 74 (iand v1 (ixor v3 (-1))).toNat))))]) (pc := 110) (tb_at tkX11_finds 72 rfl) rfl (by decide) rfl ?_
              refine r_goto (tgt := 30) (pc := 113) (tb_at tkX11_finds 73 rfl) (by decide) ?_
              exact Ok.forget h (And.intro rfl (And.intro rfl (And.intro rfl (And.intro rfl trivial))))
          · replace h := h.2 c
            refine r_goto (tgt := 110) (pc := 62) (tb_at tkX11_finds 41 rfl) (by decide) ?_
            refine r_iinc (L' := [some (.inr (.inr (some 66))), some (.inl v1), some (.inl v2), some (.inl (w32 (v3 + 1))), none]) (pc := 110) (tb_at tkX11_finds 72 rfl) rfl (by decide) rfl ?_
            refine r_goto (tgt := 30) (pc := 113) (tb_at tkX11_finds 73 rfl) (by decide) ?_
            exact h
set_option maxRecDepth 100000 in
set_option maxHeartbeats 4000000 in
theorem gX11_covers_0 {G : GE} {d : Nat} {K : Int → Mem → Prop} {M : Mem}  (h : OkI G miX11_covers (d + 1) K 13 [some (.inr (.inr (some 66))), some (.inl (w32 ((ishl 1 (M 67 0)) - 1))), some (.inl 0)] [] M) : OkI G miX11_covers (d + 1) K 0 [some (.inr (.inr (some 66))), none, none] [] M := by
  refine r_iconst (pc := 0) (tb_at tkX11_covers 0 rfl) ⟨by decide, by decide⟩ ?_
  refine r_aload_n (pc := 1) (tb_at tkX11_covers 1 rfl) rfl rfl ?_
  refine r_get 10 0 (pc := 2) (tb_at tkX11_covers 2 rfl) ly_66 flX11_11 rfl ?_
  refine r_iconst (pc := 5) (tb_at tkX11_covers 3 rfl) ⟨by decide, by decide⟩ ?_
  refine r_iald_k (k0 := 0) (pc := 6) (tb_at tkX11_covers 4 rfl) ly_67 rfl (by decide) (by decide) ?_
  refine r_ishl (pc := 7) (tb_at tkX11_covers 5 rfl) ?_
  refine r_iconst (pc := 8) (tb_at tkX11_covers 6 rfl) ⟨by decide, by decide⟩ ?_
  refine r_isub (pc := 9) (tb_at tkX11_covers 7 rfl) ?_
  refine r_istore_n (L' := [some (.inr (.inr (some 66))), some (.inl (w32 ((ishl 1 (M 67 0)) - 1))), none]) (pc := 10) (tb_at tkX11_covers 8 rfl) rfl (by decide) rfl ?_
  refine r_iconst (pc := 11) (tb_at tkX11_covers 9 rfl) ⟨by decide, by decide⟩ ?_
  refine r_istore_n (L' := [some (.inr (.inr (some 66))), some (.inl (w32 ((ishl 1 (M 67 0)) - 1))), some (.inl 0)]) (pc := 12) (tb_at tkX11_covers 10 rfl) rfl (by decide) rfl ?_
  exact h
set_option maxRecDepth 100000 in
set_option maxHeartbeats 4000000 in
theorem gX11_covers_13 {G : GE} {d : Nat} {K : Int → Mem → Prop} {M : Mem} {v1 v2 : Int}  (h : ((v1 < v2 → (0 ≤ v1 ∧ v1 < 128) ∧ ((((mup M 66 14 0) 74 (v1).toNat) < 1000000 → OkI G miX11_covers (d + 1) K 49 [some (.inr (.inr (some 66))), some (.inl v1), some (.inl v1)] [] (mup M 66 14 0)) ∧ (1000000 ≤ ((mup M 66 14 0) 74 (v1).toNat) → K (-1) (mup M 66 14 0)))) ∧ (v2 ≤ v1 → CalV G miX11_finds d [.inr (.inr (some 66)), .inl v2] M (fun M1 => OkI G miX11_covers (d + 1) K 13 [some (.inr (.inr (some 66))), some (.inl v1), some (.inl (w32 (v2 + 1)))] [] M1)))) : OkI G miX11_covers (d + 1) K 13 [some (.inr (.inr (some 66))), some (.inl v1), some (.inl v2)] [] M := by
  refine r_iload_n (pc := 13) (tb_at tkX11_covers 11 rfl) rfl rfl ?_
  refine r_iload_n (pc := 14) (tb_at tkX11_covers 12 rfl) rfl rfl ?_
  refine q_icmp_gt (tgt := 29) (pc := 15) (tb_at tkX11_covers 13 rfl) (by decide) (fun c => ?_) (fun c => ?_)
  · replace h := h.1 c
    refine r_aload_n (pc := 29) (tb_at tkX11_covers 19 rfl) rfl rfl ?_
    refine r_iconst (pc := 30) (tb_at tkX11_covers 20 rfl) ⟨by decide, by decide⟩ ?_
    refine r_put 10 14 0 (pc := 31) (tb_at tkX11_covers 21 rfl) ly_66 flX11_219 (fun r h => by cases h; rfl) (.inl rfl) rfl (fun h => by cases h) rfl ?_
    refine r_aload_n (pc := 34) (tb_at tkX11_covers 22 rfl) rfl rfl ?_
    refine r_get 10 11 (pc := 35) (tb_at tkX11_covers 23 rfl) ly_66 flX11_33 rfl ?_
    refine r_iload_n (pc := 38) (tb_at tkX11_covers 24 rfl) rfl rfl ?_
    refine r_iald (pc := 39) (tb_at tkX11_covers 25 rfl) ly_74 h.1.1 h.1.2 ?_
    replace h := h.2
    refine r_ldc (n := 1000000) (pc := 40) (tb_at tkX11_covers 26 rfl) kcX11_215 ⟨by decide, by decide⟩ ?_
    refine q_icmp_lt (tgt := 47) (pc := 42) (tb_at tkX11_covers 27 rfl) (by decide) (fun c => ?_) (fun c => ?_)
    · replace h := h.1 c
      refine r_iload_n (pc := 47) (tb_at tkX11_covers 30 rfl) rfl rfl ?_
      refine r_istore_n (L' := [some (.inr (.inr (some 66))), some (.inl v1), some (.inl v1)]) (pc := 48) (tb_at tkX11_covers 31 rfl) rfl (by decide) rfl ?_
      exact h
    · replace h := h.2 c
      refine r_iconst (pc := 45) (tb_at tkX11_covers 28 rfl) ⟨by decide, by decide⟩ ?_
      exact r_iret (pc := 46) (tb_at tkX11_covers 29 rfl) rfl (Nat.le_refl _) (Nat.le_refl _) ⟨_, rfl, rfl, h⟩
  · replace h := h.2 c
    refine r_aload_n (pc := 18) (tb_at tkX11_covers 14 rfl) rfl rfl ?_
    refine r_iload_n (pc := 19) (tb_at tkX11_covers 15 rfl) rfl rfl ?_
    refine r_invV (mc' := 0) (ms' := 0) [.inl v2] (S := []) (pc := 20) (tb_at tkX11_covers 16 rfl) rfl ly_66 rfl rfl clX11_216 (Nat.le_of_ble_eq_true rfl) (Nat.le_refl _) (Nat.le_refl _) ?_
    refine Cal.mono h ?_
    rintro _ _ M1 ⟨rfl, rfl, h⟩
    show OkI G miX11_covers (d + 1) K 23 [some (.inr (.inr (some 66))), some (.inl v1), some (.inl v2)] [] M1
    refine r_iinc (L' := [some (.inr (.inr (some 66))), some (.inl v1), some (.inl (w32 (v2 + 1)))]) (pc := 23) (tb_at tkX11_covers 17 rfl) rfl (by decide) rfl ?_
    refine r_goto (tgt := 13) (pc := 26) (tb_at tkX11_covers 18 rfl) (by decide) ?_
    exact h
set_option maxRecDepth 100000 in
set_option maxHeartbeats 4000000 in
theorem gX11_covers_49 {G : GE} {d : Nat} {K : Int → Mem → Prop} {M : Mem} {v1 v2 : Int}  (h : ((v2 ≤ 0 → (0 ≤ v1 ∧ v1 < 128) ∧ K (M 74 (v1).toNat) M) ∧ (0 < v2 → (0 ≤ v2 ∧ v2 < 128) ∧ (0 ≤ M 66 14 ∧ M 66 14 < 7) ∧ (0 ≤ v2 ∧ v2 < 128) ∧ OkI G miX11_covers (d + 1) K 49 [some (.inr (.inr (some 66))), some (.inl v1), some (.inl (iand v2 (ixor ((mup (mup M 76 (M 66 14).toNat (M 75 (v2).toNat)) 66 14 (w32 (((mup M 76 (M 66 14).toNat (M 75 (v2).toNat)) 66 14) + 1))) 75 (v2).toNat) (-1))))] [] (mup (mup M 76 (M 66 14).toNat (M 75 (v2).toNat)) 66 14 (w32 (((mup M 76 (M 66 14).toNat (M 75 (v2).toNat)) 66 14) + 1)))))) : OkI G miX11_covers (d + 1) K 49 [some (.inr (.inr (some 66))), some (.inl v1), some (.inl v2)] [] M := by
  refine r_iload_n (pc := 49) (tb_at tkX11_covers 32 rfl) rfl rfl ?_
  refine q_if_le (tgt := 92) (pc := 50) (tb_at tkX11_covers 33 rfl) (by decide) (fun c => ?_) (fun c => ?_)
  · replace h := h.1 c
    refine r_aload_n (pc := 92) (tb_at tkX11_covers 59 rfl) rfl rfl ?_
    refine r_get 10 11 (pc := 93) (tb_at tkX11_covers 60 rfl) ly_66 flX11_33 rfl ?_
    refine r_iload_n (pc := 96) (tb_at tkX11_covers 61 rfl) rfl rfl ?_
    refine r_iald (pc := 97) (tb_at tkX11_covers 62 rfl) ly_74 h.1.1 h.1.2 ?_
    replace h := h.2
    exact r_iret (pc := 98) (tb_at tkX11_covers 63 rfl) rfl (Nat.le_refl _) (Nat.le_refl _) ⟨_, rfl, rfl, h⟩
  · replace h := h.2 c
    refine r_aload_n (pc := 53) (tb_at tkX11_covers 34 rfl) rfl rfl ?_
    refine r_get 10 13 (pc := 54) (tb_at tkX11_covers 35 rfl) ly_66 flX11_39 rfl ?_
    refine r_aload_n (pc := 57) (tb_at tkX11_covers 36 rfl) rfl rfl ?_
    refine r_get 10 14 (pc := 58) (tb_at tkX11_covers 37 rfl) ly_66 flX11_219 rfl ?_
    refine r_aload_n (pc := 61) (tb_at tkX11_covers 38 rfl) rfl rfl ?_
    refine r_get 10 12 (pc := 62) (tb_at tkX11_covers 39 rfl) ly_66 flX11_36 rfl ?_
    refine r_iload_n (pc := 65) (tb_at tkX11_covers 40 rfl) rfl rfl ?_
    refine r_iald (pc := 66) (tb_at tkX11_covers 41 rfl) ly_75 h.1.1 h.1.2 ?_
    replace h := h.2
    refine r_iast (pc := 67) (tb_at tkX11_covers 42 rfl) ly_76 h.1.1 h.1.2 rfl ?_
    replace h := h.2
    refine r_aload_n (pc := 68) (tb_at tkX11_covers 43 rfl) rfl rfl ?_
    refine r_dup (pc := 69) (tb_at tkX11_covers 44 rfl) (fun _ h => by cases h) ?_
    refine r_get 10 14 (pc := 70) (tb_at tkX11_covers 45 rfl) ly_66 flX11_219 rfl ?_
    refine r_iconst (pc := 73) (tb_at tkX11_covers 46 rfl) ⟨by decide, by decide⟩ ?_
    refine r_iadd (pc := 74) (tb_at tkX11_covers 47 rfl) ?_
    refine r_put 10 14 (w32 (((mup M 76 (M 66 14).toNat (M 75 (v2).toNat)) 66 14) + 1)) (pc := 75) (tb_at tkX11_covers 48 rfl) ly_66 flX11_219 (fun r h => by cases h; rfl) (.inl rfl) rfl (fun h => by cases h) rfl ?_
    refine r_iload_n (pc := 78) (tb_at tkX11_covers 49 rfl) rfl rfl ?_
    refine r_aload_n (pc := 79) (tb_at tkX11_covers 50 rfl) rfl rfl ?_
    refine r_get 10 12 (pc := 80) (tb_at tkX11_covers 51 rfl) ly_66 flX11_36 rfl ?_
    refine r_iload_n (pc := 83) (tb_at tkX11_covers 52 rfl) rfl rfl ?_
    refine r_iald (pc := 84) (tb_at tkX11_covers 53 rfl) ly_75 h.1.1 h.1.2 ?_
    replace h := h.2
    refine r_iconst (pc := 85) (tb_at tkX11_covers 54 rfl) ⟨by decide, by decide⟩ ?_
    refine r_ixor (pc := 86) (tb_at tkX11_covers 55 rfl) ?_
    refine r_iand (pc := 87) (tb_at tkX11_covers 56 rfl) ?_
    refine r_istore_n (L' := [some (.inr (.inr (some 66))), some (.inl v1), some (.inl (iand v2 (ixor ((mup (mup M 76 (M 66 14).toNat (M 75 (v2).toNat)) 66 14 (w32 (((mup M 76 (M 66 14).toNat (M 75 (v2).toNat)) 66 14) + 1))) 75 (v2).toNat) (-1))))]) (pc := 88) (tb_at tkX11_covers 57 rfl) rfl (by decide) rfl ?_
    refine r_goto (tgt := 49) (pc := 89) (tb_at tkX11_covers 58 rfl) (by decide) ?_
    exact h
set_option maxRecDepth 100000 in
set_option maxHeartbeats 4000000 in
theorem gX11_along_0 {G : GE} {d : Nat} {K : Int → Mem → Prop} {M : Mem} {v1 : Int}  (h : (0 ≤ v1 ∧ v1 < 128) ∧ CalI G miX11_ones d [.inl (M 73 (v1).toNat)] M (fun x2 M1 => CalI G miX11_ones d [.inl v1] M1 (fun x4 M3 => K (w32 (x2 - x4)) M3))) : OkI G miX11_along (d + 1) K 0 [some (.inr (.inr (some 66))), some (.inl v1)] [] M := by
  refine r_aload_n (pc := 0) (tb_at tkX11_along 0 rfl) rfl rfl ?_
  refine r_get 10 10 (pc := 1) (tb_at tkX11_along 1 rfl) ly_66 flX11_30 rfl ?_
  refine r_iload_n (pc := 4) (tb_at tkX11_along 2 rfl) rfl rfl ?_
  refine r_iald (pc := 5) (tb_at tkX11_along 3 rfl) ly_73 h.1.1 h.1.2 ?_
  replace h := h.2
  refine r_invS (mc' := 0) (ms' := 0) [.inl (M 73 (v1).toNat)] (S := []) (pc := 6) (tb_at tkX11_along 4 rfl) rfl clX11_205 (Nat.le_of_ble_eq_true rfl) (Nat.le_refl _) (Nat.le_refl _) ?_
  refine Cal.mono h ?_
  rintro _ _ M1 ⟨x2, rfl, rfl, h⟩
  show OkI G miX11_along (d + 1) K 9 [some (.inr (.inr (some 66))), some (.inl v1)] [.inl x2] M1
  refine r_iload_n (pc := 9) (tb_at tkX11_along 5 rfl) rfl rfl ?_
  refine r_invS (mc' := 0) (ms' := 0) [.inl v1] (S := [.inl x2]) (pc := 10) (tb_at tkX11_along 6 rfl) rfl clX11_205 (Nat.le_of_ble_eq_true rfl) (Nat.le_refl _) (Nat.le_refl _) ?_
  refine Cal.mono h ?_
  rintro _ _ M3 ⟨x4, rfl, rfl, h⟩
  show OkI G miX11_along (d + 1) K 13 [some (.inr (.inr (some 66))), some (.inl v1)] [.inl x4, .inl x2] M3
  refine r_isub (pc := 13) (tb_at tkX11_along 7 rfl) ?_
  exact r_iret (pc := 14) (tb_at tkX11_along 8 rfl) rfl (Nat.le_refl _) (Nat.le_refl _) ⟨_, rfl, rfl, h⟩
set_option maxRecDepth 100000 in
set_option maxHeartbeats 4000000 in
theorem gX11_best_0 {G : GE} {d : Nat} {K : Int → Mem → Prop} {M : Mem} {v1 : Int}  (h : CalI G miX11_in d [.inr (.inl v1), .inr (.inl 0), .inr (.inl 2)] M (fun x2 M1 => ((¬ x2 = 0 → CalV G miX11_reckons d [.inr (.inr (some 66))] M1 (fun M3 => CalI G miX11_covers d [.inr (.inr (some 66))] M3 (fun x5 M4 => OkI G miX11_best (d + 1) K 29 [some (.inr (.inr (some 66))), some (.inl v1), some (.inl x5), some (.inl 0), some (.inl 0)] [] M4))) ∧ (x2 = 0 → K (-2) M1)))) : OkI G miX11_best (d + 1) K 0 [some (.inr (.inr (some 66))), some (.inl v1), none, none, none] [] M := by
  refine r_iload_n (pc := 0) (tb_at tkX11_best 0 rfl) rfl rfl ?_
  refine r_i2l (pc := 1) (tb_at tkX11_best 1 rfl) ?_
  refine r_lconst (v := 0) (pc := 2) (tb_at tkX11_best 2 rfl) ⟨by decide, by decide, by decide⟩ ?_
  refine r_ldc2 (n := 2) (pc := 3) (tb_at tkX11_best 3 rfl) kcX11_157 ⟨by decide, by decide⟩ ?_
  refine r_invS (mc' := 0) (ms' := 0) [.inr (.inl v1), .inr (.inl 0), .inr (.inl 2)] (S := []) (pc := 6) (tb_at tkX11_best 4 rfl) rfl clX11_103 (Nat.le_of_ble_eq_true rfl) (Nat.le_refl _) (Nat.le_refl _) ?_
  refine Cal.mono h ?_
  rintro _ _ M1 ⟨x2, rfl, rfl, h⟩
  show OkI G miX11_best (d + 1) K 9 [some (.inr (.inr (some 66))), some (.inl v1), none, none, none] [.inl x2] M1
  refine q_if_ne (tgt := 15) (pc := 9) (tb_at tkX11_best 5 rfl) (by decide) (fun c => ?_) (fun c => ?_)
  · replace h := h.1 c
    refine r_aload_n (pc := 15) (tb_at tkX11_best 8 rfl) rfl rfl ?_
    refine r_invV (mc' := 0) (ms' := 0) [] (S := []) (pc := 16) (tb_at tkX11_best 9 rfl) rfl ly_66 rfl rfl clX11_212 (Nat.le_of_ble_eq_true rfl) (Nat.le_refl _) (Nat.le_refl _) ?_
    refine Cal.mono h ?_
    rintro _ _ M3 ⟨rfl, rfl, h⟩
    show OkI G miX11_best (d + 1) K 19 [some (.inr (.inr (some 66))), some (.inl v1), none, none, none] [] M3
    refine r_aload_n (pc := 19) (tb_at tkX11_best 10 rfl) rfl rfl ?_
    refine r_invV (mc' := 0) (ms' := 0) [] (S := []) (pc := 20) (tb_at tkX11_best 11 rfl) rfl ly_66 rfl rfl clX11_222 (Nat.le_of_ble_eq_true rfl) (Nat.le_refl _) (Nat.le_refl _) ?_
    refine Cal.mono h ?_
    rintro _ _ M4 ⟨x5, rfl, rfl, h⟩
    show OkI G miX11_best (d + 1) K 23 [some (.inr (.inr (some 66))), some (.inl v1), none, none, none] [.inl x5] M4
    refine r_istore_n (L' := [some (.inr (.inr (some 66))), some (.inl v1), some (.inl x5), none, none]) (pc := 23) (tb_at tkX11_best 12 rfl) rfl (by decide) rfl ?_
    refine r_iconst (pc := 24) (tb_at tkX11_best 13 rfl) ⟨by decide, by decide⟩ ?_
    refine r_istore_n (L' := [some (.inr (.inr (some 66))), some (.inl v1), some (.inl x5), some (.inl 0), none]) (pc := 25) (tb_at tkX11_best 14 rfl) rfl (by decide) rfl ?_
    refine r_iconst (pc := 26) (tb_at tkX11_best 15 rfl) ⟨by decide, by decide⟩ ?_
    refine r_istore (L' := [some (.inr (.inr (some 66))), some (.inl v1), some (.inl x5), some (.inl 0), some (.inl 0)]) (pc := 27) (tb_at tkX11_best 16 rfl) (by decide) rfl ?_
    exact h
  · replace h := h.2 c
    refine r_bipush (pc := 12) (tb_at tkX11_best 6 rfl) ⟨by decide, by decide, by decide⟩ ?_
    exact r_iret (pc := 14) (tb_at tkX11_best 7 rfl) rfl (Nat.le_refl _) (Nat.le_refl _) ⟨_, rfl, rfl, h⟩
set_option maxRecDepth 100000 in
set_option maxHeartbeats 4000000 in
theorem gX11_best_29 {G : GE} {d : Nat} {K : Int → Mem → Prop} {M : Mem} {v1 v2 v3 v4 : Int}  (h : (((M 66 14) ≤ v4 → ((v2 < 0 → K v2 M) ∧ (0 ≤ v2 → ((¬ v1 = 0 → ((¬ v1 = 1 → K v3 M) ∧ (v1 = 1 → K (M 66 14) M))) ∧ (v1 = 0 → K v2 M))))) ∧ (v4 < (M 66 14) → (0 ≤ v4 ∧ v4 < 7) ∧ CalI G miX11_along d [.inr (.inr (some 66)), .inl (M 76 (v4).toNat)] M (fun x2 M1 => OkI G miX11_best (d + 1) K 29 [some (.inr (.inr (some 66))), some (.inl v1), some (.inl v2), some (.inl (w32 (v3 + x2))), some (.inl (w32 (v4 + 1)))] [] M1)))) : OkI G miX11_best (d + 1) K 29 [some (.inr (.inr (some 66))), some (.inl v1), some (.inl v2), some (.inl v3), some (.inl v4)] [] M := by
  refine r_iload (pc := 29) (tb_at tkX11_best 17 rfl) rfl ?_
  refine r_aload_n (pc := 31) (tb_at tkX11_best 18 rfl) rfl rfl ?_
  refine r_get 10 14 (pc := 32) (tb_at tkX11_best 19 rfl) ly_66 flX11_219 rfl ?_
  refine q_icmp_ge (tgt := 58) (pc := 35) (tb_at tkX11_best 20 rfl) (by decide) (fun c => ?_) (fun c => ?_)
  · replace h := h.1 c
    refine r_iload_n (pc := 58) (tb_at tkX11_best 32 rfl) rfl rfl ?_
    refine q_if_lt (tgt := 66) (pc := 59) (tb_at tkX11_best 33 rfl) (by decide) (fun c => ?_) (fun c => ?_)
    · replace h := h.1 c
      refine r_iload_n (pc := 66) (tb_at tkX11_best 36 rfl) rfl rfl ?_
      refine r_goto (tgt := 83) (pc := 67) (tb_at tkX11_best 37 rfl) (by decide) ?_
      exact r_iret (pc := 83) (tb_at tkX11_best 45 rfl) rfl (Nat.le_refl _) (Nat.le_refl _) ⟨_, rfl, rfl, h⟩
    · replace h := h.2 c
      refine r_iload_n (pc := 62) (tb_at tkX11_best 34 rfl) rfl rfl ?_
      refine q_if_ne (tgt := 70) (pc := 63) (tb_at tkX11_best 35 rfl) (by decide) (fun c => ?_) (fun c => ?_)
      · replace h := h.1 c
        refine r_iload_n (pc := 70) (tb_at tkX11_best 38 rfl) rfl rfl ?_
        refine r_iconst (pc := 71) (tb_at tkX11_best 39 rfl) ⟨by decide, by decide⟩ ?_
        refine q_icmp_ne (tgt := 82) (pc := 72) (tb_at tkX11_best 40 rfl) (by decide) (fun c => ?_) (fun c => ?_)
        · replace h := h.1 c
          refine r_iload_n (pc := 82) (tb_at tkX11_best 44 rfl) rfl rfl ?_
          exact r_iret (pc := 83) (tb_at tkX11_best 45 rfl) rfl (Nat.le_refl _) (Nat.le_refl _) ⟨_, rfl, rfl, h⟩
        · replace h := h.2 c
          refine r_aload_n (pc := 75) (tb_at tkX11_best 41 rfl) rfl rfl ?_
          refine r_get 10 14 (pc := 76) (tb_at tkX11_best 42 rfl) ly_66 flX11_219 rfl ?_
          refine r_goto (tgt := 83) (pc := 79) (tb_at tkX11_best 43 rfl) (by decide) ?_
          exact r_iret (pc := 83) (tb_at tkX11_best 45 rfl) rfl (Nat.le_refl _) (Nat.le_refl _) ⟨_, rfl, rfl, h⟩
      · replace h := h.2 c
        refine r_iload_n (pc := 66) (tb_at tkX11_best 36 rfl) rfl rfl ?_
        refine r_goto (tgt := 83) (pc := 67) (tb_at tkX11_best 37 rfl) (by decide) ?_
        exact r_iret (pc := 83) (tb_at tkX11_best 45 rfl) rfl (Nat.le_refl _) (Nat.le_refl _) ⟨_, rfl, rfl, h⟩
  · replace h := h.2 c
    refine r_iload_n (pc := 38) (tb_at tkX11_best 21 rfl) rfl rfl ?_
    refine r_aload_n (pc := 39) (tb_at tkX11_best 22 rfl) rfl rfl ?_
    refine r_aload_n (pc := 40) (tb_at tkX11_best 23 rfl) rfl rfl ?_
    refine r_get 10 13 (pc := 41) (tb_at tkX11_best 24 rfl) ly_66 flX11_39 rfl ?_
    refine r_iload (pc := 44) (tb_at tkX11_best 25 rfl) rfl ?_
    refine r_iald (pc := 46) (tb_at tkX11_best 26 rfl) ly_76 h.1.1 h.1.2 ?_
    replace h := h.2
    refine r_invV (mc' := 0) (ms' := 0) [.inl (M 76 (v4).toNat)] (S := [.inl v3]) (pc := 47) (tb_at tkX11_best 27 rfl) rfl ly_66 rfl rfl clX11_226 (Nat.le_of_ble_eq_true rfl) (Nat.le_refl _) (Nat.le_refl _) ?_
    refine Cal.mono h ?_
    rintro _ _ M1 ⟨x2, rfl, rfl, h⟩
    show OkI G miX11_best (d + 1) K 50 [some (.inr (.inr (some 66))), some (.inl v1), some (.inl v2), some (.inl v3), some (.inl v4)] [.inl x2, .inl v3] M1
    refine r_iadd (pc := 50) (tb_at tkX11_best 28 rfl) ?_
    refine r_istore_n (L' := [some (.inr (.inr (some 66))), some (.inl v1), some (.inl v2), some (.inl (w32 (v3 + x2))), some (.inl v4)]) (pc := 51) (tb_at tkX11_best 29 rfl) rfl (by decide) rfl ?_
    refine r_iinc (L' := [some (.inr (.inr (some 66))), some (.inl v1), some (.inl v2), some (.inl (w32 (v3 + x2))), some (.inl (w32 (v4 + 1)))]) (pc := 52) (tb_at tkX11_best 30 rfl) rfl (by decide) rfl ?_
    refine r_goto (tgt := 29) (pc := 55) (tb_at tkX11_best 31 rfl) (by decide) ?_
    exact h
set_option maxRecDepth 100000 in
set_option maxHeartbeats 4000000 in
theorem gX11_bestOf_0 {G : GE} {d : Nat} {K : Int → Mem → Prop} {M : Mem} {v1 v2 : Int}  (h : CalI G miX11_isFlight d [.inr (.inr (some 66)), .inl v1] M (fun x2 M1 => ((x2 = 0 → K (-2) M1) ∧ (¬ x2 = 0 → CalI G miX11_in d [.inr (.inl v2), .inr (.inl 0), .inr (.inl 1)] M1 (fun x4 M3 => ((¬ x4 = 0 → CalV G miX11_reckons d [.inr (.inr (some 66))] M3 (fun M5 => CalI G miX11_covers d [.inr (.inr (some 66))] M5 (fun x7 M6 => OkI G miX11_bestOf (d + 1) K 36 [some (.inr (.inr (some 66))), some (.inl v1), some (.inl v2), some (.inl (-1)), some (.inl x7), some (.inl 0)] [] M6))) ∧ (x4 = 0 → K (-2) M3))))))) : OkI G miX11_bestOf (d + 1) K 0 [some (.inr (.inr (some 66))), some (.inl v1), some (.inl v2), none, none, none] [] M := by
  refine r_aload_n (pc := 0) (tb_at tkX11_bestOf 0 rfl) rfl rfl ?_
  refine r_iload_n (pc := 1) (tb_at tkX11_bestOf 1 rfl) rfl rfl ?_
  refine r_invV (mc' := 0) (ms' := 0) [.inl v1] (S := []) (pc := 2) (tb_at tkX11_bestOf 2 rfl) rfl ly_66 rfl rfl clX11_109 (Nat.le_of_ble_eq_true rfl) (Nat.le_refl _) (Nat.le_refl _) ?_
  refine Cal.mono h ?_
  rintro _ _ M1 ⟨x2, rfl, rfl, h⟩
  show OkI G miX11_bestOf (d + 1) K 5 [some (.inr (.inr (some 66))), some (.inl v1), some (.inl v2), none, none, none] [.inl x2] M1
  refine q_if_eq (tgt := 18) (pc := 5) (tb_at tkX11_bestOf 3 rfl) (by decide) (fun c => ?_) (fun c => ?_)
  · replace h := h.1 c
    refine r_bipush (pc := 18) (tb_at tkX11_bestOf 10 rfl) ⟨by decide, by decide, by decide⟩ ?_
    exact r_iret (pc := 20) (tb_at tkX11_bestOf 11 rfl) rfl (Nat.le_refl _) (Nat.le_refl _) ⟨_, rfl, rfl, h⟩
  · replace h := h.2 c
    refine r_iload_n (pc := 8) (tb_at tkX11_bestOf 4 rfl) rfl rfl ?_
    refine r_i2l (pc := 9) (tb_at tkX11_bestOf 5 rfl) ?_
    refine r_lconst (v := 0) (pc := 10) (tb_at tkX11_bestOf 6 rfl) ⟨by decide, by decide, by decide⟩ ?_
    refine r_lconst (v := 1) (pc := 11) (tb_at tkX11_bestOf 7 rfl) ⟨by decide, by decide, by decide⟩ ?_
    refine r_invS (mc' := 0) (ms' := 0) [.inr (.inl v2), .inr (.inl 0), .inr (.inl 1)] (S := []) (pc := 12) (tb_at tkX11_bestOf 8 rfl) rfl clX11_103 (Nat.le_of_ble_eq_true rfl) (Nat.le_refl _) (Nat.le_refl _) ?_
    refine Cal.mono h ?_
    rintro _ _ M3 ⟨x4, rfl, rfl, h⟩
    show OkI G miX11_bestOf (d + 1) K 15 [some (.inr (.inr (some 66))), some (.inl v1), some (.inl v2), none, none, none] [.inl x4] M3
    refine q_if_ne (tgt := 21) (pc := 15) (tb_at tkX11_bestOf 9 rfl) (by decide) (fun c => ?_) (fun c => ?_)
    · replace h := h.1 c
      refine r_aload_n (pc := 21) (tb_at tkX11_bestOf 12 rfl) rfl rfl ?_
      refine r_invV (mc' := 0) (ms' := 0) [] (S := []) (pc := 22) (tb_at tkX11_bestOf 13 rfl) rfl ly_66 rfl rfl clX11_212 (Nat.le_of_ble_eq_true rfl) (Nat.le_refl _) (Nat.le_refl _) ?_
      refine Cal.mono h ?_
      rintro _ _ M5 ⟨rfl, rfl, h⟩
      show OkI G miX11_bestOf (d + 1) K 25 [some (.inr (.inr (some 66))), some (.inl v1), some (.inl v2), none, none, none] [] M5
      refine r_iconst (pc := 25) (tb_at tkX11_bestOf 14 rfl) ⟨by decide, by decide⟩ ?_
      refine r_istore_n (L' := [some (.inr (.inr (some 66))), some (.inl v1), some (.inl v2), some (.inl (-1)), none, none]) (pc := 26) (tb_at tkX11_bestOf 15 rfl) rfl (by decide) rfl ?_
      refine r_aload_n (pc := 27) (tb_at tkX11_bestOf 16 rfl) rfl rfl ?_
      refine r_invV (mc' := 0) (ms' := 0) [] (S := []) (pc := 28) (tb_at tkX11_bestOf 17 rfl) rfl ly_66 rfl rfl clX11_222 (Nat.le_of_ble_eq_true rfl) (Nat.le_refl _) (Nat.le_refl _) ?_
      refine Cal.mono h ?_
      rintro _ _ M6 ⟨x7, rfl, rfl, h⟩
      show OkI G miX11_bestOf (d + 1) K 31 [some (.inr (.inr (some 66))), some (.inl v1), some (.inl v2), some (.inl (-1)), none, none] [.inl x7] M6
      refine r_istore (L' := [some (.inr (.inr (some 66))), some (.inl v1), some (.inl v2), some (.inl (-1)), some (.inl x7), none]) (pc := 31) (tb_at tkX11_bestOf 18 rfl) (by decide) rfl ?_
      refine r_iconst (pc := 33) (tb_at tkX11_bestOf 19 rfl) ⟨by decide, by decide⟩ ?_
      refine r_istore (L' := [some (.inr (.inr (some 66))), some (.inl v1), some (.inl v2), some (.inl (-1)), some (.inl x7), some (.inl 0)]) (pc := 34) (tb_at tkX11_bestOf 20 rfl) (by decide) rfl ?_
      exact h
    · replace h := h.2 c
      refine r_bipush (pc := 18) (tb_at tkX11_bestOf 10 rfl) ⟨by decide, by decide, by decide⟩ ?_
      exact r_iret (pc := 20) (tb_at tkX11_bestOf 11 rfl) rfl (Nat.le_refl _) (Nat.le_refl _) ⟨_, rfl, rfl, h⟩
set_option maxRecDepth 100000 in
set_option maxHeartbeats 4000000 in
theorem gX11_bestOf_36 {G : GE} {d : Nat} {K : Int → Mem → Prop} {M : Mem} {v1 v2 v3 v4 v5 : Int}  (h : (((M 66 14) ≤ v5 → OkI G miX11_bestOf (d + 1) K 82 [some (.inr (.inr (some 66))), none, some (.inl v2), some (.inl v3), none, none] [] M) ∧ (v5 < (M 66 14) → ((v4 < 0 → OkI G miX11_bestOf (d + 1) K 82 [some (.inr (.inr (some 66))), none, some (.inl v2), some (.inl v3), none, none] [] M) ∧ (0 ≤ v4 → (0 ≤ v5 ∧ v5 < 7) ∧ CalI G miX11_has d [.inl (M 76 (v5).toNat), .inl v1] M (fun x2 M1 => ((x2 = 0 → OkI G miX11_bestOf (d + 1) K 36 [some (.inr (.inr (some 66))), some (.inl v1), some (.inl v2), some (.inl v3), some (.inl v4), some (.inl (w32 (v5 + 1)))] [] M1) ∧ (¬ x2 = 0 → (0 ≤ v5 ∧ v5 < 7) ∧ OkI G miX11_bestOf (d + 1) K 36 [some (.inr (.inr (some 66))), some (.inl v1), some (.inl v2), some (.inl (M1 76 (v5).toNat)), some (.inl v4), some (.inl (w32 (v5 + 1)))] [] M1)))))))) : OkI G miX11_bestOf (d + 1) K 36 [some (.inr (.inr (some 66))), some (.inl v1), some (.inl v2), some (.inl v3), some (.inl v4), some (.inl v5)] [] M := by
  refine r_iload (pc := 36) (tb_at tkX11_bestOf 21 rfl) rfl ?_
  refine r_aload_n (pc := 38) (tb_at tkX11_bestOf 22 rfl) rfl rfl ?_
  refine r_get 10 14 (pc := 39) (tb_at tkX11_bestOf 23 rfl) ly_66 flX11_219 rfl ?_
  refine q_icmp_ge (tgt := 82) (pc := 42) (tb_at tkX11_bestOf 24 rfl) (by decide) (fun c => ?_) (fun c => ?_)
  · replace h := h.1 c
    exact Ok.forget h (And.intro rfl (And.intro rfl (And.intro rfl trivial)))
  · replace h := h.2 c
    refine r_iload (pc := 45) (tb_at tkX11_bestOf 25 rfl) rfl ?_
    refine q_if_lt (tgt := 82) (pc := 47) (tb_at tkX11_bestOf 26 rfl) (by decide) (fun c => ?_) (fun c => ?_)
    · replace h := h.1 c
      exact Ok.forget h (And.intro rfl (And.intro rfl (And.intro rfl trivial)))
    · replace h := h.2 c
      refine r_aload_n (pc := 50) (tb_at tkX11_bestOf 27 rfl) rfl rfl ?_
      refine r_get 10 13 (pc := 51) (tb_at tkX11_bestOf 28 rfl) ly_66 flX11_39 rfl ?_
      refine r_iload (pc := 54) (tb_at tkX11_bestOf 29 rfl) rfl ?_
      refine r_iald (pc := 56) (tb_at tkX11_bestOf 30 rfl) ly_76 h.1.1 h.1.2 ?_
      replace h := h.2
      refine r_iload_n (pc := 57) (tb_at tkX11_bestOf 31 rfl) rfl rfl ?_
      refine r_invS (mc' := 0) (ms' := 0) [.inl (M 76 (v5).toNat), .inl v1] (S := []) (pc := 58) (tb_at tkX11_bestOf 32 rfl) rfl clX11_176 (Nat.le_of_ble_eq_true rfl) (Nat.le_refl _) (Nat.le_refl _) ?_
      refine Cal.mono h ?_
      rintro _ _ M1 ⟨x2, rfl, rfl, h⟩
      show OkI G miX11_bestOf (d + 1) K 61 [some (.inr (.inr (some 66))), some (.inl v1), some (.inl v2), some (.inl v3), some (.inl v4), some (.inl v5)] [.inl x2] M1
      refine q_if_eq (tgt := 74) (pc := 61) (tb_at tkX11_bestOf 33 rfl) (by decide) (fun c => ?_) (fun c => ?_)
      · replace h := h.1 c
        refine r_iload_n (pc := 74) (tb_at tkX11_bestOf 39 rfl) rfl rfl ?_
        refine r_istore_n (L' := [some (.inr (.inr (some 66))), some (.inl v1), some (.inl v2), some (.inl v3), some (.inl v4), some (.inl v5)]) (pc := 75) (tb_at tkX11_bestOf 40 rfl) rfl (by decide) rfl ?_
        refine r_iinc (L' := [some (.inr (.inr (some 66))), some (.inl v1), some (.inl v2), some (.inl v3), some (.inl v4), some (.inl (w32 (v5 + 1)))]) (pc := 76) (tb_at tkX11_bestOf 41 rfl) rfl (by decide) rfl ?_
        refine r_goto (tgt := 36) (pc := 79) (tb_at tkX11_bestOf 42 rfl) (by decide) ?_
        exact h
      · replace h := h.2 c
        refine r_aload_n (pc := 64) (tb_at tkX11_bestOf 34 rfl) rfl rfl ?_
        refine r_get 10 13 (pc := 65) (tb_at tkX11_bestOf 35 rfl) ly_66 flX11_39 rfl ?_
        refine r_iload (pc := 68) (tb_at tkX11_bestOf 36 rfl) rfl ?_
        refine r_iald (pc := 70) (tb_at tkX11_bestOf 37 rfl) ly_76 h.1.1 h.1.2 ?_
        replace h := h.2
        refine r_goto (tgt := 75) (pc := 71) (tb_at tkX11_bestOf 38 rfl) (by decide) ?_
        refine r_istore_n (L' := [some (.inr (.inr (some 66))), some (.inl v1), some (.inl v2), some (.inl (M1 76 (v5).toNat)), some (.inl v4), some (.inl v5)]) (pc := 75) (tb_at tkX11_bestOf 40 rfl) rfl (by decide) rfl ?_
        refine r_iinc (L' := [some (.inr (.inr (some 66))), some (.inl v1), some (.inl v2), some (.inl (M1 76 (v5).toNat)), some (.inl v4), some (.inl (w32 (v5 + 1)))]) (pc := 76) (tb_at tkX11_bestOf 41 rfl) rfl (by decide) rfl ?_
        refine r_goto (tgt := 36) (pc := 79) (tb_at tkX11_bestOf 42 rfl) (by decide) ?_
        exact h
set_option maxRecDepth 100000 in
set_option maxHeartbeats 4000000 in
theorem gX11_bestOf_82 {G : GE} {d : Nat} {K : Int → Mem → Prop} {M : Mem} {v2 v3 : Int}  (h : ((v3 < 0 → K v3 M) ∧ (0 ≤ v3 → ((¬ v2 = 0 → (0 ≤ v3 ∧ v3 < 128) ∧ K (M 73 (v3).toNat) M) ∧ (v2 = 0 → K v3 M))))) : OkI G miX11_bestOf (d + 1) K 82 [some (.inr (.inr (some 66))), none, some (.inl v2), some (.inl v3), none, none] [] M := by
  refine r_iload_n (pc := 82) (tb_at tkX11_bestOf 43 rfl) rfl rfl ?_
  refine q_if_lt (tgt := 90) (pc := 83) (tb_at tkX11_bestOf 44 rfl) (by decide) (fun c => ?_) (fun c => ?_)
  · replace h := h.1 c
    refine r_iload_n (pc := 90) (tb_at tkX11_bestOf 47 rfl) rfl rfl ?_
    refine r_goto (tgt := 100) (pc := 91) (tb_at tkX11_bestOf 48 rfl) (by decide) ?_
    exact r_iret (pc := 100) (tb_at tkX11_bestOf 53 rfl) rfl (Nat.le_refl _) (Nat.le_refl _) ⟨_, rfl, rfl, h⟩
  · replace h := h.2 c
    refine r_iload_n (pc := 86) (tb_at tkX11_bestOf 45 rfl) rfl rfl ?_
    refine q_if_ne (tgt := 94) (pc := 87) (tb_at tkX11_bestOf 46 rfl) (by decide) (fun c => ?_) (fun c => ?_)
    · replace h := h.1 c
      refine r_aload_n (pc := 94) (tb_at tkX11_bestOf 49 rfl) rfl rfl ?_
      refine r_get 10 10 (pc := 95) (tb_at tkX11_bestOf 50 rfl) ly_66 flX11_30 rfl ?_
      refine r_iload_n (pc := 98) (tb_at tkX11_bestOf 51 rfl) rfl rfl ?_
      refine r_iald (pc := 99) (tb_at tkX11_bestOf 52 rfl) ly_73 h.1.1 h.1.2 ?_
      replace h := h.2
      exact r_iret (pc := 100) (tb_at tkX11_bestOf 53 rfl) rfl (Nat.le_refl _) (Nat.le_refl _) ⟨_, rfl, rfl, h⟩
    · replace h := h.2 c
      refine r_iload_n (pc := 90) (tb_at tkX11_bestOf 47 rfl) rfl rfl ?_
      refine r_goto (tgt := 100) (pc := 91) (tb_at tkX11_bestOf 48 rfl) (by decide) ?_
      exact r_iret (pc := 100) (tb_at tkX11_bestOf 53 rfl) rfl (Nat.le_refl _) (Nat.le_refl _) ⟨_, rfl, rfl, h⟩
set_option maxRecDepth 100000 in
set_option maxHeartbeats 4000000 in
theorem gX11_isInSome_0 {G : GE} {d : Nat} {K : Int → Mem → Prop} {M : Mem} {v1 : Int}  (h : OkI G miX11_isInSome (d + 1) K 4 [some (.inr (.inr (some 66))), some (.inl v1), some (.inl 0), some (.inl 1)] [] M) : OkI G miX11_isInSome (d + 1) K 0 [some (.inr (.inr (some 66))), some (.inl v1), none, none] [] M := by
  refine r_iconst (pc := 0) (tb_at tkX11_isInSome 0 rfl) ⟨by decide, by decide⟩ ?_
  refine r_istore_n (L' := [some (.inr (.inr (some 66))), some (.inl v1), some (.inl 0), none]) (pc := 1) (tb_at tkX11_isInSome 1 rfl) rfl (by decide) rfl ?_
  refine r_iconst (pc := 2) (tb_at tkX11_isInSome 2 rfl) ⟨by decide, by decide⟩ ?_
  refine r_istore_n (L' := [some (.inr (.inr (some 66))), some (.inl v1), some (.inl 0), some (.inl 1)]) (pc := 3) (tb_at tkX11_isInSome 3 rfl) rfl (by decide) rfl ?_
  exact h
set_option maxRecDepth 100000 in
set_option maxHeartbeats 4000000 in
theorem gX11_isInSome_4 {G : GE} {d : Nat} {K : Int → Mem → Prop} {M : Mem} {v1 v2 v3 : Int}  (h : (((ishl 1 (M 67 0)) ≤ v3 → ((v2 = 0 ∨ v2 = 1) ∧ K v2 M)) ∧ (v3 < (ishl 1 (M 67 0)) → ((¬ v2 = 0 → OkI G miX11_isInSome (d + 1) K 4 [some (.inr (.inr (some 66))), some (.inl v1), some (.inl 1), some (.inl (w32 (v3 + 1)))] [] M) ∧ (v2 = 0 → CalI G miX11_has d [.inl v3, .inl v1] M (fun x2 M1 => ((x2 = 0 → OkI G miX11_isInSome (d + 1) K 4 [some (.inr (.inr (some 66))), some (.inl v1), some (.inl 0), some (.inl (w32 (v3 + 1)))] [] M1) ∧ (¬ x2 = 0 → (0 ≤ v3 ∧ v3 < 128) ∧ OkI G miX11_isInSome (d + 1) K 4 [some (.inr (.inr (some 66))), some (.inl v1), some (.inl (if ¬ ((M1 72 (v3).toNat) < 0) then (1 : Int) else 0)), some (.inl (w32 (v3 + 1)))] [] M1)))))))) : OkI G miX11_isInSome (d + 1) K 4 [some (.inr (.inr (some 66))), some (.inl v1), some (.inl v2), some (.inl v3)] [] M := by
  refine r_iload_n (pc := 4) (tb_at tkX11_isInSome 4 rfl) rfl rfl ?_
  refine r_iconst (pc := 5) (tb_at tkX11_isInSome 5 rfl) ⟨by decide, by decide⟩ ?_
  refine r_aload_n (pc := 6) (tb_at tkX11_isInSome 6 rfl) rfl rfl ?_
  refine r_get 10 0 (pc := 7) (tb_at tkX11_isInSome 7 rfl) ly_66 flX11_11 rfl ?_
  refine r_iconst (pc := 10) (tb_at tkX11_isInSome 8 rfl) ⟨by decide, by decide⟩ ?_
  refine r_iald_k (k0 := 0) (pc := 11) (tb_at tkX11_isInSome 9 rfl) ly_67 rfl (by decide) (by decide) ?_
  refine r_ishl (pc := 12) (tb_at tkX11_isInSome 10 rfl) ?_
  refine q_icmp_ge (tgt := 49) (pc := 13) (tb_at tkX11_isInSome 11 rfl) (by decide) (fun c => ?_) (fun c => ?_)
  · replace h := h.1 c
    refine r_iload_n (pc := 49) (tb_at tkX11_isInSome 29 rfl) rfl rfl ?_
    exact r_zret (pc := 50) (tb_at tkX11_isInSome 30 rfl) rfl h.1 (Nat.le_refl _) (Nat.le_refl _) ⟨_, rfl, rfl, h.2⟩
  · replace h := h.2 c
    refine r_iload_n (pc := 16) (tb_at tkX11_isInSome 12 rfl) rfl rfl ?_
    refine q_if_ne (tgt := 37) (pc := 17) (tb_at tkX11_isInSome 13 rfl) (by decide) (fun c => ?_) (fun c => ?_)
    · replace h := h.1 c
      refine r_iconst (pc := 37) (tb_at tkX11_isInSome 23 rfl) ⟨by decide, by decide⟩ ?_
      refine r_goto (tgt := 42) (pc := 38) (tb_at tkX11_isInSome 24 rfl) (by decide) ?_
      refine r_istore_n (L' := [some (.inr (.inr (some 66))), some (.inl v1), some (.inl 1), some (.inl v3)]) (pc := 42) (tb_at tkX11_isInSome 26 rfl) rfl (by decide) rfl ?_
      refine r_iinc (L' := [some (.inr (.inr (some 66))), some (.inl v1), some (.inl 1), some (.inl (w32 (v3 + 1)))]) (pc := 43) (tb_at tkX11_isInSome 27 rfl) rfl (by decide) rfl ?_
      refine r_goto (tgt := 4) (pc := 46) (tb_at tkX11_isInSome 28 rfl) (by decide) ?_
      exact h
    · replace h := h.2 c
      refine r_iload_n (pc := 20) (tb_at tkX11_isInSome 14 rfl) rfl rfl ?_
      refine r_iload_n (pc := 21) (tb_at tkX11_isInSome 15 rfl) rfl rfl ?_
      refine r_invS (mc' := 0) (ms' := 0) [.inl v3, .inl v1] (S := []) (pc := 22) (tb_at tkX11_isInSome 16 rfl) rfl clX11_176 (Nat.le_of_ble_eq_true rfl) (Nat.le_refl _) (Nat.le_refl _) ?_
      refine Cal.mono h ?_
      rintro _ _ M1 ⟨x2, rfl, rfl, h⟩
      show OkI G miX11_isInSome (d + 1) K 25 [some (.inr (.inr (some 66))), some (.inl v1), some (.inl v2), some (.inl v3)] [.inl x2] M1
      refine q_if_eq (tgt := 41) (pc := 25) (tb_at tkX11_isInSome 17 rfl) (by decide) (fun c => ?_) (fun c => ?_)
      · replace h := h.1 c
        refine r_iconst (pc := 41) (tb_at tkX11_isInSome 25 rfl) ⟨by decide, by decide⟩ ?_
        refine r_istore_n (L' := [some (.inr (.inr (some 66))), some (.inl v1), some (.inl 0), some (.inl v3)]) (pc := 42) (tb_at tkX11_isInSome 26 rfl) rfl (by decide) rfl ?_
        refine r_iinc (L' := [some (.inr (.inr (some 66))), some (.inl v1), some (.inl 0), some (.inl (w32 (v3 + 1)))]) (pc := 43) (tb_at tkX11_isInSome 27 rfl) rfl (by decide) rfl ?_
        refine r_goto (tgt := 4) (pc := 46) (tb_at tkX11_isInSome 28 rfl) (by decide) ?_
        exact h
      · replace h := h.2 c
        refine r_aload_n (pc := 28) (tb_at tkX11_isInSome 18 rfl) rfl rfl ?_
        refine r_get 10 9 (pc := 29) (tb_at tkX11_isInSome 19 rfl) ly_66 flX11_27 rfl ?_
        refine r_iload_n (pc := 32) (tb_at tkX11_isInSome 20 rfl) rfl rfl ?_
        refine r_iald (pc := 33) (tb_at tkX11_isInSome 21 rfl) ly_72 h.1.1 h.1.2 ?_
        replace h := h.2
        have hJ3 : ∀ t0 : Int, t0 = (if ¬ ((M1 72 (v3).toNat) < 0) then (1 : Int) else 0) → OkI G miX11_isInSome (d + 1) K 42 [some (.inr (.inr (some 66))), some (.inl v1), some (.inl v2), some (.inl v3)] [.inl t0] M1 := by
          rintro _ rfl
          refine r_istore_n (L' := [some (.inr (.inr (some 66))), some (.inl v1), some (.inl (if ¬ ((M1 72 (v3).toNat) < 0) then (1 : Int) else 0)), some (.inl v3)]) (pc := 42) (tb_at tkX11_isInSome 26 rfl) rfl (by decide) rfl ?_
          refine r_iinc (L' := [some (.inr (.inr (some 66))), some (.inl v1), some (.inl (if ¬ ((M1 72 (v3).toNat) < 0) then (1 : Int) else 0)), some (.inl (w32 (v3 + 1)))]) (pc := 43) (tb_at tkX11_isInSome 27 rfl) rfl (by decide) rfl ?_
          refine r_goto (tgt := 4) (pc := 46) (tb_at tkX11_isInSome 28 rfl) (by decide) ?_
          exact h
        refine q_if_lt (tgt := 41) (pc := 34) (tb_at tkX11_isInSome 22 rfl) (by decide) (fun c4 => ?_) (fun c4 => ?_)
        · refine r_iconst (pc := 41) (tb_at tkX11_isInSome 25 rfl) ⟨by decide, by decide⟩ ?_
          exact hJ3 _ (by simp only [if_neg (not_not_intro c4)])
        · refine r_iconst (pc := 37) (tb_at tkX11_isInSome 23 rfl) ⟨by decide, by decide⟩ ?_
          refine r_goto (tgt := 42) (pc := 38) (tb_at tkX11_isInSome 24 rfl) (by decide) ?_
          exact hJ3 _ (by simp only [if_pos (Int.not_lt.mpr c4)])
set_option maxRecDepth 100000 in
set_option maxHeartbeats 4000000 in
theorem gX11_areInSome_0 {G : GE} {d : Nat} {K : Int → Mem → Prop} {M : Mem}  (h : OkI G miX11_areInSome (d + 1) K 4 [some (.inr (.inr (some 66))), some (.inl 1), some (.inl 0)] [] M) : OkI G miX11_areInSome (d + 1) K 0 [some (.inr (.inr (some 66))), none, none] [] M := by
  refine r_iconst (pc := 0) (tb_at tkX11_areInSome 0 rfl) ⟨by decide, by decide⟩ ?_
  refine r_istore_n (L' := [some (.inr (.inr (some 66))), some (.inl 1), none]) (pc := 1) (tb_at tkX11_areInSome 1 rfl) rfl (by decide) rfl ?_
  refine r_iconst (pc := 2) (tb_at tkX11_areInSome 2 rfl) ⟨by decide, by decide⟩ ?_
  refine r_istore_n (L' := [some (.inr (.inr (some 66))), some (.inl 1), some (.inl 0)]) (pc := 3) (tb_at tkX11_areInSome 3 rfl) rfl (by decide) rfl ?_
  exact h
set_option maxRecDepth 100000 in
set_option maxHeartbeats 4000000 in
theorem gX11_areInSome_4 {G : GE} {d : Nat} {K : Int → Mem → Prop} {M : Mem} {v1 v2 : Int}  (h : (((M 67 0) ≤ v2 → ((v1 = 0 ∨ v1 = 1) ∧ K v1 M)) ∧ (v2 < (M 67 0) → ((v1 = 0 → OkI G miX11_areInSome (d + 1) K 4 [some (.inr (.inr (some 66))), some (.inl 0), some (.inl (w32 (v2 + 1)))] [] M) ∧ (¬ v1 = 0 → CalI G miX11_isInSome d [.inr (.inr (some 66)), .inl v2] M (fun x2 M1 => OkI G miX11_areInSome (d + 1) K 4 [some (.inr (.inr (some 66))), some (.inl (if ¬ (x2 = 0) then (1 : Int) else 0)), some (.inl (w32 (v2 + 1)))] [] M1)))))) : OkI G miX11_areInSome (d + 1) K 4 [some (.inr (.inr (some 66))), some (.inl v1), some (.inl v2)] [] M := by
  refine r_iload_n (pc := 4) (tb_at tkX11_areInSome 4 rfl) rfl rfl ?_
  refine r_aload_n (pc := 5) (tb_at tkX11_areInSome 5 rfl) rfl rfl ?_
  refine r_get 10 0 (pc := 6) (tb_at tkX11_areInSome 6 rfl) ly_66 flX11_11 rfl ?_
  refine r_iconst (pc := 9) (tb_at tkX11_areInSome 7 rfl) ⟨by decide, by decide⟩ ?_
  refine r_iald_k (k0 := 0) (pc := 10) (tb_at tkX11_areInSome 8 rfl) ly_67 rfl (by decide) (by decide) ?_
  refine q_icmp_ge (tgt := 38) (pc := 11) (tb_at tkX11_areInSome 9 rfl) (by decide) (fun c => ?_) (fun c => ?_)
  · replace h := h.1 c
    refine r_iload_n (pc := 38) (tb_at tkX11_areInSome 22 rfl) rfl rfl ?_
    exact r_zret (pc := 39) (tb_at tkX11_areInSome 23 rfl) rfl h.1 (Nat.le_refl _) (Nat.le_refl _) ⟨_, rfl, rfl, h.2⟩
  · replace h := h.2 c
    refine r_iload_n (pc := 14) (tb_at tkX11_areInSome 10 rfl) rfl rfl ?_
    refine q_if_eq (tgt := 30) (pc := 15) (tb_at tkX11_areInSome 11 rfl) (by decide) (fun c => ?_) (fun c => ?_)
    · replace h := h.1 c
      refine r_iconst (pc := 30) (tb_at tkX11_areInSome 18 rfl) ⟨by decide, by decide⟩ ?_
      refine r_istore_n (L' := [some (.inr (.inr (some 66))), some (.inl 0), some (.inl v2)]) (pc := 31) (tb_at tkX11_areInSome 19 rfl) rfl (by decide) rfl ?_
      refine r_iinc (L' := [some (.inr (.inr (some 66))), some (.inl 0), some (.inl (w32 (v2 + 1)))]) (pc := 32) (tb_at tkX11_areInSome 20 rfl) rfl (by decide) rfl ?_
      refine r_goto (tgt := 4) (pc := 35) (tb_at tkX11_areInSome 21 rfl) (by decide) ?_
      exact h
    · replace h := h.2 c
      refine r_aload_n (pc := 18) (tb_at tkX11_areInSome 12 rfl) rfl rfl ?_
      refine r_iload_n (pc := 19) (tb_at tkX11_areInSome 13 rfl) rfl rfl ?_
      refine r_invV (mc' := 0) (ms' := 0) [.inl v2] (S := []) (pc := 20) (tb_at tkX11_areInSome 14 rfl) rfl ly_66 rfl rfl clX11_229 (Nat.le_of_ble_eq_true rfl) (Nat.le_refl _) (Nat.le_refl _) ?_
      refine Cal.mono h ?_
      rintro _ _ M1 ⟨x2, rfl, rfl, h⟩
      show OkI G miX11_areInSome (d + 1) K 23 [some (.inr (.inr (some 66))), some (.inl v1), some (.inl v2)] [.inl x2] M1
      have hJ3 : ∀ t0 : Int, t0 = (if ¬ (x2 = 0) then (1 : Int) else 0) → OkI G miX11_areInSome (d + 1) K 31 [some (.inr (.inr (some 66))), some (.inl v1), some (.inl v2)] [.inl t0] M1 := by
        rintro _ rfl
        refine r_istore_n (L' := [some (.inr (.inr (some 66))), some (.inl (if ¬ (x2 = 0) then (1 : Int) else 0)), some (.inl v2)]) (pc := 31) (tb_at tkX11_areInSome 19 rfl) rfl (by decide) rfl ?_
        refine r_iinc (L' := [some (.inr (.inr (some 66))), some (.inl (if ¬ (x2 = 0) then (1 : Int) else 0)), some (.inl (w32 (v2 + 1)))]) (pc := 32) (tb_at tkX11_areInSome 20 rfl) rfl (by decide) rfl ?_
        refine r_goto (tgt := 4) (pc := 35) (tb_at tkX11_areInSome 21 rfl) (by decide) ?_
        exact h
      refine q_if_eq (tgt := 30) (pc := 23) (tb_at tkX11_areInSome 15 rfl) (by decide) (fun c4 => ?_) (fun c4 => ?_)
      · refine r_iconst (pc := 30) (tb_at tkX11_areInSome 18 rfl) ⟨by decide, by decide⟩ ?_
        exact hJ3 _ (by simp only [if_neg (not_not_intro c4)])
      · refine r_iconst (pc := 26) (tb_at tkX11_areInSome 16 rfl) ⟨by decide, by decide⟩ ?_
        refine r_goto (tgt := 31) (pc := 27) (tb_at tkX11_areInSome 17 rfl) (by decide) ?_
        exact hJ3 _ (by simp only [if_pos c4])
set_option maxRecDepth 100000 in
set_option maxHeartbeats 4000000 in
theorem gX11_laysTable_0 {G : GE} {d : Nat} {K : Mem → Prop} {M : Mem}  (h : OkV G miX11_laysTable (d + 1) K 7 [some (.inr (.inr (some 66))), some (.inl 1), none] [] (mup M 66 18 0)) : OkV G miX11_laysTable (d + 1) K 0 [some (.inr (.inr (some 66))), none, none] [] M := by
  refine r_aload_n (pc := 0) (tb_at tkX11_laysTable 0 rfl) rfl rfl ?_
  refine r_iconst (pc := 1) (tb_at tkX11_laysTable 1 rfl) ⟨by decide, by decide⟩ ?_
  refine r_put 10 18 0 (pc := 2) (tb_at tkX11_laysTable 2 rfl) ly_66 flX11_232 (fun r h => by cases h; rfl) (.inl rfl) rfl (fun h => by cases h) rfl ?_
  refine r_iconst (pc := 5) (tb_at tkX11_laysTable 3 rfl) ⟨by decide, by decide⟩ ?_
  refine r_istore_n (L' := [some (.inr (.inr (some 66))), some (.inl 1), none]) (pc := 6) (tb_at tkX11_laysTable 4 rfl) rfl (by decide) rfl ?_
  exact h
set_option maxRecDepth 100000 in
set_option maxHeartbeats 4000000 in
theorem gX11_laysTable_7 {G : GE} {d : Nat} {K : Mem → Prop} {M : Mem} {v1 : Int}  (h : (((ishl 1 (M 67 0)) ≤ v1 → OkV G miX11_laysTable (d + 1) K 153 [some (.inr (.inr (some 66))), some (.inl ((mup M 66 19 (w32 (((M 66 18) + 1) + (M 67 0)))) 66 18)), none] [] (mup M 66 19 (w32 (((M 66 18) + 1) + (M 67 0))))) ∧ (v1 < (ishl 1 (M 67 0)) → (0 ≤ v1 ∧ v1 < 128) ∧ (((M 72 (v1).toNat) < 0 → OkV G miX11_laysTable (d + 1) K 7 [some (.inr (.inr (some 66))), some (.inl (w32 (v1 + 1))), none] [] M) ∧ (0 ≤ (M 72 (v1).toNat) → OkV G miX11_laysTable (d + 1) K 30 [some (.inr (.inr (some 66))), some (.inl v1), some (.inl 0)] [] M))))) : OkV G miX11_laysTable (d + 1) K 7 [some (.inr (.inr (some 66))), some (.inl v1), none] [] M := by
  refine r_iload_n (pc := 7) (tb_at tkX11_laysTable 5 rfl) rfl rfl ?_
  refine r_iconst (pc := 8) (tb_at tkX11_laysTable 6 rfl) ⟨by decide, by decide⟩ ?_
  refine r_aload_n (pc := 9) (tb_at tkX11_laysTable 7 rfl) rfl rfl ?_
  refine r_get 10 0 (pc := 10) (tb_at tkX11_laysTable 8 rfl) ly_66 flX11_11 rfl ?_
  refine r_iconst (pc := 13) (tb_at tkX11_laysTable 9 rfl) ⟨by decide, by decide⟩ ?_
  refine r_iald_k (k0 := 0) (pc := 14) (tb_at tkX11_laysTable 10 rfl) ly_67 rfl (by decide) (by decide) ?_
  refine r_ishl (pc := 15) (tb_at tkX11_laysTable 11 rfl) ?_
  refine q_icmp_ge (tgt := 131) (pc := 16) (tb_at tkX11_laysTable 12 rfl) (by decide) (fun c => ?_) (fun c => ?_)
  · replace h := h.1 c
    refine r_aload_n (pc := 131) (tb_at tkX11_laysTable 78 rfl) rfl rfl ?_
    refine r_aload_n (pc := 132) (tb_at tkX11_laysTable 79 rfl) rfl rfl ?_
    refine r_get 10 18 (pc := 133) (tb_at tkX11_laysTable 80 rfl) ly_66 flX11_232 rfl ?_
    refine r_iconst (pc := 136) (tb_at tkX11_laysTable 81 rfl) ⟨by decide, by decide⟩ ?_
    refine r_iadd (pc := 137) (tb_at tkX11_laysTable 82 rfl) ?_
    refine r_aload_n (pc := 138) (tb_at tkX11_laysTable 83 rfl) rfl rfl ?_
    refine r_get 10 0 (pc := 139) (tb_at tkX11_laysTable 84 rfl) ly_66 flX11_11 rfl ?_
    refine r_iconst (pc := 142) (tb_at tkX11_laysTable 85 rfl) ⟨by decide, by decide⟩ ?_
    refine r_iald_k (k0 := 0) (pc := 143) (tb_at tkX11_laysTable 86 rfl) ly_67 rfl (by decide) (by decide) ?_
    refine r_iadd_l (pc := 144) (tb_at tkX11_laysTable 87 rfl) ?_
    refine r_put 10 19 (w32 (((M 66 18) + 1) + (M 67 0))) (pc := 145) (tb_at tkX11_laysTable 88 rfl) ly_66 flX11_235 (fun r h => by cases h; rfl) (.inl rfl) rfl (fun h => by cases h) rfl ?_
    refine r_aload_n (pc := 148) (tb_at tkX11_laysTable 89 rfl) rfl rfl ?_
    refine r_get 10 18 (pc := 149) (tb_at tkX11_laysTable 90 rfl) ly_66 flX11_232 rfl ?_
    refine r_istore_n (L' := [some (.inr (.inr (some 66))), some (.inl ((mup M 66 19 (w32 (((M 66 18) + 1) + (M 67 0)))) 66 18)), none]) (pc := 152) (tb_at tkX11_laysTable 91 rfl) rfl (by decide) rfl ?_
    exact h
  · replace h := h.2 c
    refine r_aload_n (pc := 19) (tb_at tkX11_laysTable 13 rfl) rfl rfl ?_
    refine r_get 10 9 (pc := 20) (tb_at tkX11_laysTable 14 rfl) ly_66 flX11_27 rfl ?_
    refine r_iload_n (pc := 23) (tb_at tkX11_laysTable 15 rfl) rfl rfl ?_
    refine r_iald (pc := 24) (tb_at tkX11_laysTable 16 rfl) ly_72 h.1.1 h.1.2 ?_
    replace h := h.2
    refine q_if_lt (tgt := 125) (pc := 25) (tb_at tkX11_laysTable 17 rfl) (by decide) (fun c => ?_) (fun c => ?_)
    · replace h := h.1 c
      refine r_iinc (L' := [some (.inr (.inr (some 66))), some (.inl (w32 (v1 + 1))), none]) (pc := 125) (tb_at tkX11_laysTable 76 rfl) rfl (by decide) rfl ?_
      refine r_goto (tgt := 7) (pc := 128) (tb_at tkX11_laysTable 77 rfl) (by decide) ?_
      exact h
    · replace h := h.2 c
      refine r_iconst (pc := 28) (tb_at tkX11_laysTable 18 rfl) ⟨by decide, by decide⟩ ?_
      refine r_istore_n (L' := [some (.inr (.inr (some 66))), some (.inl v1), some (.inl 0)]) (pc := 29) (tb_at tkX11_laysTable 19 rfl) rfl (by decide) rfl ?_
      exact h
set_option maxRecDepth 100000 in
set_option maxHeartbeats 4000000 in
theorem gX11_laysTable_153 {G : GE} {d : Nat} {K : Mem → Prop} {M : Mem} {v1 : Int}  (h : (((M 66 19) ≤ v1 → OkV G miX11_laysTable (d + 1) K 235 [some (.inr (.inr (some 66))), some (.inl 0), none] [] M) ∧ (v1 < (M 66 19) → OkV G miX11_laysTable (d + 1) K 163 [some (.inr (.inr (some 66))), some (.inl v1), some (.inl 0)] [] M))) : OkV G miX11_laysTable (d + 1) K 153 [some (.inr (.inr (some 66))), some (.inl v1), none] [] M := by
  refine r_iload_n (pc := 153) (tb_at tkX11_laysTable 92 rfl) rfl rfl ?_
  refine r_aload_n (pc := 154) (tb_at tkX11_laysTable 93 rfl) rfl rfl ?_
  refine r_get 10 19 (pc := 155) (tb_at tkX11_laysTable 94 rfl) ly_66 flX11_235 rfl ?_
  refine q_icmp_ge (tgt := 233) (pc := 158) (tb_at tkX11_laysTable 95 rfl) (by decide) (fun c => ?_) (fun c => ?_)
  · replace h := h.1 c
    refine r_iconst (pc := 233) (tb_at tkX11_laysTable 137 rfl) ⟨by decide, by decide⟩ ?_
    refine r_istore_n (L' := [some (.inr (.inr (some 66))), some (.inl 0), none]) (pc := 234) (tb_at tkX11_laysTable 138 rfl) rfl (by decide) rfl ?_
    exact h
  · replace h := h.2 c
    refine r_iconst (pc := 161) (tb_at tkX11_laysTable 96 rfl) ⟨by decide, by decide⟩ ?_
    refine r_istore_n (L' := [some (.inr (.inr (some 66))), some (.inl v1), some (.inl 0)]) (pc := 162) (tb_at tkX11_laysTable 97 rfl) rfl (by decide) rfl ?_
    exact h
set_option maxRecDepth 100000 in
set_option maxHeartbeats 4000000 in
theorem gX11_laysTable_30 {G : GE} {d : Nat} {K : Mem → Prop} {M : Mem} {v1 v2 : Int}  (h : (((M 67 0) ≤ v2 → (0 ≤ v1 ∧ v1 < 128) ∧ (0 ≤ (8 * (M 66 18)) + (M 67 0) ∧ (8 * (M 66 18)) + (M 67 0) < 1088) ∧ (0 ≤ (mup M 77 ((8 * (M 66 18)) + (M 67 0)).toNat (M 72 (v1).toNat)) 66 18 ∧ (mup M 77 ((8 * (M 66 18)) + (M 67 0)).toNat (M 72 (v1).toNat)) 66 18 < 128) ∧ OkV G miX11_laysTable (d + 1) K 7 [some (.inr (.inr (some 66))), some (.inl (w32 (v1 + 1))), none] [] (mup (mup (mup M 77 ((8 * (M 66 18)) + (M 67 0)).toNat (M 72 (v1).toNat)) 79 ((mup M 77 ((8 * (M 66 18)) + (M 67 0)).toNat (M 72 (v1).toNat)) 66 18).toNat (w32 (7 + ((mup M 77 ((8 * (M 66 18)) + (M 67 0)).toNat (M 72 (v1).toNat)) 66 18)))) 66 18 (w32 (((mup (mup M 77 ((8 * (M 66 18)) + (M 67 0)).toNat (M 72 (v1).toNat)) 79 ((mup M 77 ((8 * (M 66 18)) + (M 67 0)).toNat (M 72 (v1).toNat)) 66 18).toNat (w32 (7 + ((mup M 77 ((8 * (M 66 18)) + (M 67 0)).toNat (M 72 (v1).toNat)) 66 18)))) 66 18) + 1)))) ∧ (v2 < (M 67 0) → CalI G miX11_has d [.inl v1, .inl v2] M (fun x2 M1 => (0 ≤ (8 * (M 66 18)) + v2 ∧ (8 * (M 66 18)) + v2 < 1088) ∧ OkV G miX11_laysTable (d + 1) K 30 [some (.inr (.inr (some 66))), some (.inl v1), some (.inl (w32 (v2 + 1)))] [] (mup M1 77 ((8 * (M 66 18)) + v2).toNat (if ¬ (x2 = 0) then (1 : Int) else 0)))))) : OkV G miX11_laysTable (d + 1) K 30 [some (.inr (.inr (some 66))), some (.inl v1), some (.inl v2)] [] M := by
  refine r_iload_n (pc := 30) (tb_at tkX11_laysTable 20 rfl) rfl rfl ?_
  refine r_aload_n (pc := 31) (tb_at tkX11_laysTable 21 rfl) rfl rfl ?_
  refine r_get 10 0 (pc := 32) (tb_at tkX11_laysTable 22 rfl) ly_66 flX11_11 rfl ?_
  refine r_iconst (pc := 35) (tb_at tkX11_laysTable 23 rfl) ⟨by decide, by decide⟩ ?_
  refine r_iald_k (k0 := 0) (pc := 36) (tb_at tkX11_laysTable 24 rfl) ly_67 rfl (by decide) (by decide) ?_
  refine q_icmp_ge (tgt := 73) (pc := 37) (tb_at tkX11_laysTable 25 rfl) (by decide) (fun c => ?_) (fun c => ?_)
  · replace h := h.1 c
    refine r_aload_n (pc := 73) (tb_at tkX11_laysTable 44 rfl) rfl rfl ?_
    refine r_get 10 15 (pc := 74) (tb_at tkX11_laysTable 45 rfl) ly_66 flX11_42 rfl ?_
    refine r_bipush (pc := 77) (tb_at tkX11_laysTable 46 rfl) ⟨by decide, by decide, by decide⟩ ?_
    refine r_aload_n (pc := 79) (tb_at tkX11_laysTable 47 rfl) rfl rfl ?_
    refine r_get 10 18 (pc := 80) (tb_at tkX11_laysTable 48 rfl) ly_66 flX11_232 rfl ?_
    refine r_imul (pc := 83) (tb_at tkX11_laysTable 49 rfl) ?_
    refine r_aload_n (pc := 84) (tb_at tkX11_laysTable 50 rfl) rfl rfl ?_
    refine r_get 10 0 (pc := 85) (tb_at tkX11_laysTable 51 rfl) ly_66 flX11_11 rfl ?_
    refine r_iconst (pc := 88) (tb_at tkX11_laysTable 52 rfl) ⟨by decide, by decide⟩ ?_
    refine r_iald_k (k0 := 0) (pc := 89) (tb_at tkX11_laysTable 53 rfl) ly_67 rfl (by decide) (by decide) ?_
    refine r_iadd_l (pc := 90) (tb_at tkX11_laysTable 54 rfl) ?_
    refine r_aload_n (pc := 91) (tb_at tkX11_laysTable 55 rfl) rfl rfl ?_
    refine r_get 10 9 (pc := 92) (tb_at tkX11_laysTable 56 rfl) ly_66 flX11_27 rfl ?_
    refine r_iload_n (pc := 95) (tb_at tkX11_laysTable 57 rfl) rfl rfl ?_
    refine r_iald (pc := 96) (tb_at tkX11_laysTable 58 rfl) ly_72 h.1.1 h.1.2 ?_
    replace h := h.2
    refine r_i2l (pc := 97) (tb_at tkX11_laysTable 59 rfl) ?_
    refine r_last_w (pc := 98) (tb_at tkX11_laysTable 60 rfl) ly_77 (by decide) h.1.1 h.1.2 rfl ?_
    replace h := h.2
    refine r_aload_n (pc := 99) (tb_at tkX11_laysTable 61 rfl) rfl rfl ?_
    refine r_get 10 17 (pc := 100) (tb_at tkX11_laysTable 62 rfl) ly_66 flX11_49 rfl ?_
    refine r_aload_n (pc := 103) (tb_at tkX11_laysTable 63 rfl) rfl rfl ?_
    refine r_get 10 18 (pc := 104) (tb_at tkX11_laysTable 64 rfl) ly_66 flX11_232 rfl ?_
    refine r_bipush (pc := 107) (tb_at tkX11_laysTable 65 rfl) ⟨by decide, by decide, by decide⟩ ?_
    refine r_aload_n (pc := 109) (tb_at tkX11_laysTable 66 rfl) rfl rfl ?_
    refine r_get 10 18 (pc := 110) (tb_at tkX11_laysTable 67 rfl) ly_66 flX11_232 rfl ?_
    refine r_iadd (pc := 113) (tb_at tkX11_laysTable 68 rfl) ?_
    refine r_iast (pc := 114) (tb_at tkX11_laysTable 69 rfl) ly_79 h.1.1 h.1.2 rfl ?_
    replace h := h.2
    refine r_aload_n (pc := 115) (tb_at tkX11_laysTable 70 rfl) rfl rfl ?_
    refine r_dup (pc := 116) (tb_at tkX11_laysTable 71 rfl) (fun _ h => by cases h) ?_
    refine r_get 10 18 (pc := 117) (tb_at tkX11_laysTable 72 rfl) ly_66 flX11_232 rfl ?_
    refine r_iconst (pc := 120) (tb_at tkX11_laysTable 73 rfl) ⟨by decide, by decide⟩ ?_
    refine r_iadd (pc := 121) (tb_at tkX11_laysTable 74 rfl) ?_
    refine r_put 10 18 (w32 (((mup (mup M 77 ((8 * (M 66 18)) + (M 67 0)).toNat (M 72 (v1).toNat)) 79 ((mup M 77 ((8 * (M 66 18)) + (M 67 0)).toNat (M 72 (v1).toNat)) 66 18).toNat (w32 (7 + ((mup M 77 ((8 * (M 66 18)) + (M 67 0)).toNat (M 72 (v1).toNat)) 66 18)))) 66 18) + 1)) (pc := 122) (tb_at tkX11_laysTable 75 rfl) ly_66 flX11_232 (fun r h => by cases h; rfl) (.inl rfl) rfl (fun h => by cases h) rfl ?_
    refine r_iinc (L' := [some (.inr (.inr (some 66))), some (.inl (w32 (v1 + 1))), some (.inl v2)]) (pc := 125) (tb_at tkX11_laysTable 76 rfl) rfl (by decide) rfl ?_
    refine r_goto (tgt := 7) (pc := 128) (tb_at tkX11_laysTable 77 rfl) (by decide) ?_
    exact Ok.forget h (And.intro rfl (And.intro rfl trivial))
  · replace h := h.2 c
    refine r_aload_n (pc := 40) (tb_at tkX11_laysTable 26 rfl) rfl rfl ?_
    refine r_get 10 15 (pc := 41) (tb_at tkX11_laysTable 27 rfl) ly_66 flX11_42 rfl ?_
    refine r_bipush (pc := 44) (tb_at tkX11_laysTable 28 rfl) ⟨by decide, by decide, by decide⟩ ?_
    refine r_aload_n (pc := 46) (tb_at tkX11_laysTable 29 rfl) rfl rfl ?_
    refine r_get 10 18 (pc := 47) (tb_at tkX11_laysTable 30 rfl) ly_66 flX11_232 rfl ?_
    refine r_imul (pc := 50) (tb_at tkX11_laysTable 31 rfl) ?_
    refine r_iload_n (pc := 51) (tb_at tkX11_laysTable 32 rfl) rfl rfl ?_
    refine r_iadd_l (pc := 52) (tb_at tkX11_laysTable 33 rfl) ?_
    refine r_iload_n (pc := 53) (tb_at tkX11_laysTable 34 rfl) rfl rfl ?_
    refine r_iload_n (pc := 54) (tb_at tkX11_laysTable 35 rfl) rfl rfl ?_
    refine r_invS (mc' := 0) (ms' := 0) [.inl v1, .inl v2] (S := [.inl (w32 ((8 * (M 66 18)) + v2)), .inr (.inr (some 77))]) (pc := 55) (tb_at tkX11_laysTable 36 rfl) rfl clX11_176 (Nat.le_of_ble_eq_true rfl) (Nat.le_refl _) (Nat.le_refl _) ?_
    refine Cal.mono h ?_
    rintro _ _ M1 ⟨x2, rfl, rfl, h⟩
    show OkV G miX11_laysTable (d + 1) K 58 [some (.inr (.inr (some 66))), some (.inl v1), some (.inl v2)] [.inl x2, .inl (w32 ((8 * (M 66 18)) + v2)), .inr (.inr (some 77))] M1
    have hJ3 : ∀ t0 : Int, t0 = (if ¬ (x2 = 0) then (1 : Int) else 0) → OkV G miX11_laysTable (d + 1) K 66 [some (.inr (.inr (some 66))), some (.inl v1), some (.inl v2)] [.inr (.inl t0), .inl (w32 ((8 * (M 66 18)) + v2)), .inr (.inr (some 77))] M1 := by
      rintro _ rfl
      refine r_last_w (pc := 66) (tb_at tkX11_laysTable 41 rfl) ly_77 (by decide) h.1.1 h.1.2 rfl ?_
      replace h := h.2
      refine r_iinc (L' := [some (.inr (.inr (some 66))), some (.inl v1), some (.inl (w32 (v2 + 1)))]) (pc := 67) (tb_at tkX11_laysTable 42 rfl) rfl (by decide) rfl ?_
      refine r_goto (tgt := 30) (pc := 70) (tb_at tkX11_laysTable 43 rfl) (by decide) ?_
      exact h
    refine q_if_eq (tgt := 65) (pc := 58) (tb_at tkX11_laysTable 37 rfl) (by decide) (fun c4 => ?_) (fun c4 => ?_)
    · refine r_lconst (v := 0) (pc := 65) (tb_at tkX11_laysTable 40 rfl) ⟨by decide, by decide, by decide⟩ ?_
      exact hJ3 _ (by simp only [if_neg (not_not_intro c4)])
    · refine r_lconst (v := 1) (pc := 61) (tb_at tkX11_laysTable 38 rfl) ⟨by decide, by decide, by decide⟩ ?_
      refine r_goto (tgt := 66) (pc := 62) (tb_at tkX11_laysTable 39 rfl) (by decide) ?_
      exact hJ3 _ (by simp only [if_pos c4])
set_option maxRecDepth 100000 in
set_option maxHeartbeats 4000000 in
theorem gX11_laysTable_235 {G : GE} {d : Nat} {K : Mem → Prop} {M : Mem} {v1 : Int}  (h : (((M 67 0) ≤ v1 → K (mup M 66 20 1)) ∧ (v1 < (M 67 0) → (0 ≤ v1 ∧ v1 < 7) ∧ OkV G miX11_laysTable (d + 1) K 235 [some (.inr (.inr (some 66))), some (.inl (w32 (v1 + 1))), none] [] (mup M 78 (v1).toNat v1)))) : OkV G miX11_laysTable (d + 1) K 235 [some (.inr (.inr (some 66))), some (.inl v1), none] [] M := by
  refine r_iload_n (pc := 235) (tb_at tkX11_laysTable 139 rfl) rfl rfl ?_
  refine r_aload_n (pc := 236) (tb_at tkX11_laysTable 140 rfl) rfl rfl ?_
  refine r_get 10 0 (pc := 237) (tb_at tkX11_laysTable 141 rfl) ly_66 flX11_11 rfl ?_
  refine r_iconst (pc := 240) (tb_at tkX11_laysTable 142 rfl) ⟨by decide, by decide⟩ ?_
  refine r_iald_k (k0 := 0) (pc := 241) (tb_at tkX11_laysTable 143 rfl) ly_67 rfl (by decide) (by decide) ?_
  refine q_icmp_ge (tgt := 258) (pc := 242) (tb_at tkX11_laysTable 144 rfl) (by decide) (fun c => ?_) (fun c => ?_)
  · replace h := h.1 c
    refine r_aload_n (pc := 258) (tb_at tkX11_laysTable 152 rfl) rfl rfl ?_
    refine r_lconst (v := 1) (pc := 259) (tb_at tkX11_laysTable 153 rfl) ⟨by decide, by decide, by decide⟩ ?_
    refine r_put 10 20 1 (pc := 260) (tb_at tkX11_laysTable 154 rfl) ly_66 flX11_240 (fun r h => by cases h; rfl) (.inr (.inr rfl)) rfl (fun h => by cases h) rfl ?_
    exact r_vret (pc := 263) (tb_at tkX11_laysTable 155 rfl) rfl (Nat.le_refl _) (Nat.le_refl _) ⟨rfl, rfl, h⟩
  · replace h := h.2 c
    refine r_aload_n (pc := 245) (tb_at tkX11_laysTable 145 rfl) rfl rfl ?_
    refine r_get 10 16 (pc := 246) (tb_at tkX11_laysTable 146 rfl) ly_66 flX11_46 rfl ?_
    refine r_iload_n (pc := 249) (tb_at tkX11_laysTable 147 rfl) rfl rfl ?_
    refine r_iload_n (pc := 250) (tb_at tkX11_laysTable 148 rfl) rfl rfl ?_
    refine r_iast (pc := 251) (tb_at tkX11_laysTable 149 rfl) ly_78 h.1.1 h.1.2 rfl ?_
    replace h := h.2
    refine r_iinc (L' := [some (.inr (.inr (some 66))), some (.inl (w32 (v1 + 1))), none]) (pc := 252) (tb_at tkX11_laysTable 150 rfl) rfl (by decide) rfl ?_
    refine r_goto (tgt := 235) (pc := 255) (tb_at tkX11_laysTable 151 rfl) (by decide) ?_
    exact h
set_option maxRecDepth 100000 in
set_option maxHeartbeats 4000000 in
theorem gX11_laysTable_163 {G : GE} {d : Nat} {K : Mem → Prop} {M : Mem} {v1 v2 : Int}  (h : (((M 67 0) < v2 → OkV G miX11_laysTable (d + 1) K 153 [some (.inr (.inr (some 66))), some (.inl (w32 (v1 + 1))), none] [] M) ∧ (v2 ≤ (M 67 0) → (0 ≤ (8 * v1) + v2 ∧ (8 * v1) + v2 < 1088) ∧ OkV G miX11_laysTable (d + 1) K 163 [some (.inr (.inr (some 66))), some (.inl v1), some (.inl (w32 (v2 + 1)))] [] (mup M 77 ((8 * v1) + v2).toNat (if v2 < (M 67 0) then (if v1 = (M 66 18) then (-1 : Int) else (if v1 = (w32 (((M 66 18) + 1) + v2)) then (-1 : Int) else 0)) else 0))))) : OkV G miX11_laysTable (d + 1) K 163 [some (.inr (.inr (some 66))), some (.inl v1), some (.inl v2)] [] M := by
  refine r_iload_n (pc := 163) (tb_at tkX11_laysTable 98 rfl) rfl rfl ?_
  refine r_aload_n (pc := 164) (tb_at tkX11_laysTable 99 rfl) rfl rfl ?_
  refine r_get 10 0 (pc := 165) (tb_at tkX11_laysTable 100 rfl) ly_66 flX11_11 rfl ?_
  refine r_iconst (pc := 168) (tb_at tkX11_laysTable 101 rfl) ⟨by decide, by decide⟩ ?_
  refine r_iald_k (k0 := 0) (pc := 169) (tb_at tkX11_laysTable 102 rfl) ly_67 rfl (by decide) (by decide) ?_
  refine q_icmp_gt (tgt := 227) (pc := 170) (tb_at tkX11_laysTable 103 rfl) (by decide) (fun c => ?_) (fun c => ?_)
  · replace h := h.1 c
    refine r_iinc (L' := [some (.inr (.inr (some 66))), some (.inl (w32 (v1 + 1))), some (.inl v2)]) (pc := 227) (tb_at tkX11_laysTable 135 rfl) rfl (by decide) rfl ?_
    refine r_goto (tgt := 153) (pc := 230) (tb_at tkX11_laysTable 136 rfl) (by decide) ?_
    exact Ok.forget h (And.intro rfl (And.intro rfl trivial))
  · replace h := h.2 c
    refine r_aload_n (pc := 173) (tb_at tkX11_laysTable 104 rfl) rfl rfl ?_
    refine r_get 10 15 (pc := 174) (tb_at tkX11_laysTable 105 rfl) ly_66 flX11_42 rfl ?_
    refine r_bipush (pc := 177) (tb_at tkX11_laysTable 106 rfl) ⟨by decide, by decide, by decide⟩ ?_
    refine r_iload_n (pc := 179) (tb_at tkX11_laysTable 107 rfl) rfl rfl ?_
    refine r_imul (pc := 180) (tb_at tkX11_laysTable 108 rfl) ?_
    refine r_iload_n (pc := 181) (tb_at tkX11_laysTable 109 rfl) rfl rfl ?_
    refine r_iadd_l (pc := 182) (tb_at tkX11_laysTable 110 rfl) ?_
    refine r_iload_n (pc := 183) (tb_at tkX11_laysTable 111 rfl) rfl rfl ?_
    refine r_aload_n (pc := 184) (tb_at tkX11_laysTable 112 rfl) rfl rfl ?_
    refine r_get 10 0 (pc := 185) (tb_at tkX11_laysTable 113 rfl) ly_66 flX11_11 rfl ?_
    refine r_iconst (pc := 188) (tb_at tkX11_laysTable 114 rfl) ⟨by decide, by decide⟩ ?_
    refine r_iald_k (k0 := 0) (pc := 189) (tb_at tkX11_laysTable 115 rfl) ly_67 rfl (by decide) (by decide) ?_
    have hJ1 : ∀ t0 : Int, t0 = (if v2 < (M 67 0) then (if v1 = (M 66 18) then (-1 : Int) else (if v1 = (w32 (((M 66 18) + 1) + v2)) then (-1 : Int) else 0)) else 0) → OkV G miX11_laysTable (d + 1) K 220 [some (.inr (.inr (some 66))), some (.inl v1), some (.inl v2)] [.inr (.inl t0), .inl (w32 ((8 * v1) + v2)), .inr (.inr (some 77))] M := by
      rintro _ rfl
      refine r_last_w (pc := 220) (tb_at tkX11_laysTable 132 rfl) ly_77 (by decide) h.1.1 h.1.2 rfl ?_
      replace h := h.2
      refine r_iinc (L' := [some (.inr (.inr (some 66))), some (.inl v1), some (.inl (w32 (v2 + 1)))]) (pc := 221) (tb_at tkX11_laysTable 133 rfl) rfl (by decide) rfl ?_
      refine r_goto (tgt := 163) (pc := 224) (tb_at tkX11_laysTable 134 rfl) (by decide) ?_
      exact h
    refine q_icmp_ge (tgt := 219) (pc := 190) (tb_at tkX11_laysTable 116 rfl) (by decide) (fun c2 => ?_) (fun c2 => ?_)
    · refine r_lconst (v := 0) (pc := 219) (tb_at tkX11_laysTable 131 rfl) ⟨by decide, by decide, by decide⟩ ?_
      exact hJ1 _ (by simp only [if_neg (Int.not_lt.mpr c2)])
    · refine r_iload_n (pc := 193) (tb_at tkX11_laysTable 117 rfl) rfl rfl ?_
      refine r_aload_n (pc := 194) (tb_at tkX11_laysTable 118 rfl) rfl rfl ?_
      refine r_get 10 18 (pc := 195) (tb_at tkX11_laysTable 119 rfl) ly_66 flX11_232 rfl ?_
      refine q_icmp_eq (tgt := 213) (pc := 198) (tb_at tkX11_laysTable 120 rfl) (by decide) (fun c3 => ?_) (fun c3 => ?_)
      · refine r_ldc2 (n := -1) (pc := 213) (tb_at tkX11_laysTable 129 rfl) kcX11_238 ⟨by decide, by decide⟩ ?_
        refine r_goto (tgt := 220) (pc := 216) (tb_at tkX11_laysTable 130 rfl) (by decide) ?_
        exact hJ1 _ (by simp only [if_pos c2, if_pos c3])
      · refine r_iload_n (pc := 201) (tb_at tkX11_laysTable 121 rfl) rfl rfl ?_
        refine r_aload_n (pc := 202) (tb_at tkX11_laysTable 122 rfl) rfl rfl ?_
        refine r_get 10 18 (pc := 203) (tb_at tkX11_laysTable 123 rfl) ly_66 flX11_232 rfl ?_
        refine r_iconst (pc := 206) (tb_at tkX11_laysTable 124 rfl) ⟨by decide, by decide⟩ ?_
        refine r_iadd (pc := 207) (tb_at tkX11_laysTable 125 rfl) ?_
        refine r_iload_n (pc := 208) (tb_at tkX11_laysTable 126 rfl) rfl rfl ?_
        refine r_iadd_l (pc := 209) (tb_at tkX11_laysTable 127 rfl) ?_
        refine q_icmp_ne (tgt := 219) (pc := 210) (tb_at tkX11_laysTable 128 rfl) (by decide) (fun c4 => ?_) (fun c4 => ?_)
        · refine r_lconst (v := 0) (pc := 219) (tb_at tkX11_laysTable 131 rfl) ⟨by decide, by decide, by decide⟩ ?_
          exact hJ1 _ (by simp only [if_pos c2, if_neg c3, if_neg c4])
        · refine r_ldc2 (n := -1) (pc := 213) (tb_at tkX11_laysTable 129 rfl) kcX11_238 ⟨by decide, by decide⟩ ?_
          refine r_goto (tgt := 220) (pc := 216) (tb_at tkX11_laysTable 130 rfl) (by decide) ?_
          exact hJ1 _ (by simp only [if_pos c2, if_neg c3, if_pos c4])
set_option maxRecDepth 100000 in
set_option maxHeartbeats 4000000 in
theorem gX11_mayCome_0 {G : GE} {d : Nat} {K : Int → Mem → Prop} {M : Mem} {v1 : Int}  (h : OkI G miX11_mayCome d K 5 [some (.inr (.inr (some 66))), some (.inl v1), some (.inl (M 66 18))] [] M) : OkI G miX11_mayCome d K 0 [some (.inr (.inr (some 66))), some (.inl v1), none] [] M := by
  refine r_aload_n (pc := 0) (tb_at tkX11_mayCome 0 rfl) rfl rfl ?_
  refine r_get 10 18 (pc := 1) (tb_at tkX11_mayCome 1 rfl) ly_66 flX11_232 rfl ?_
  refine r_istore_n (L' := [some (.inr (.inr (some 66))), some (.inl v1), some (.inl (M 66 18))]) (pc := 4) (tb_at tkX11_mayCome 2 rfl) rfl (by decide) rfl ?_
  exact h
set_option maxRecDepth 100000 in
set_option maxHeartbeats 4000000 in
theorem gX11_mayCome_5 {G : GE} {d : Nat} {K : Int → Mem → Prop} {M : Mem} {v1 v2 : Int}  (h : (((M 66 19) ≤ v2 → OkI G miX11_mayCome d K 35 [some (.inr (.inr (some 66))), some (.inl v1), some (.inl v2)] [] M) ∧ (v2 < (M 66 19) → (0 ≤ (8 * v2) + v1 ∧ (8 * v2) + v1 < 1088) ∧ ((¬ (M 77 ((8 * v2) + v1).toNat) = 0 → OkI G miX11_mayCome d K 35 [some (.inr (.inr (some 66))), some (.inl v1), some (.inl v2)] [] M) ∧ ((M 77 ((8 * v2) + v1).toNat) = 0 → OkI G miX11_mayCome d K 5 [some (.inr (.inr (some 66))), some (.inl v1), some (.inl (w32 (v2 + 1)))] [] M))))) : OkI G miX11_mayCome d K 5 [some (.inr (.inr (some 66))), some (.inl v1), some (.inl v2)] [] M := by
  refine r_iload_n (pc := 5) (tb_at tkX11_mayCome 3 rfl) rfl rfl ?_
  refine r_aload_n (pc := 6) (tb_at tkX11_mayCome 4 rfl) rfl rfl ?_
  refine r_get 10 19 (pc := 7) (tb_at tkX11_mayCome 5 rfl) ly_66 flX11_235 rfl ?_
  refine q_icmp_ge (tgt := 35) (pc := 10) (tb_at tkX11_mayCome 6 rfl) (by decide) (fun c => ?_) (fun c => ?_)
  · replace h := h.1 c
    exact h
  · replace h := h.2 c
    refine r_aload_n (pc := 13) (tb_at tkX11_mayCome 7 rfl) rfl rfl ?_
    refine r_get 10 15 (pc := 14) (tb_at tkX11_mayCome 8 rfl) ly_66 flX11_42 rfl ?_
    refine r_bipush (pc := 17) (tb_at tkX11_mayCome 9 rfl) ⟨by decide, by decide, by decide⟩ ?_
    refine r_iload_n (pc := 19) (tb_at tkX11_mayCome 10 rfl) rfl rfl ?_
    refine r_imul (pc := 20) (tb_at tkX11_mayCome 11 rfl) ?_
    refine r_iload_n (pc := 21) (tb_at tkX11_mayCome 12 rfl) rfl rfl ?_
    refine r_iadd_l (pc := 22) (tb_at tkX11_mayCome 13 rfl) ?_
    refine r_lald_w (pc := 23) (tb_at tkX11_mayCome 14 rfl) ly_77 (by decide) h.1.1 h.1.2 ?_
    replace h := h.2
    refine r_lconst (v := 0) (pc := 24) (tb_at tkX11_mayCome 15 rfl) ⟨by decide, by decide, by decide⟩ ?_
    refine r_lcmp (pc := 25) (tb_at tkX11_mayCome 16 rfl) ?_
    refine q_lif_ne (tgt := 35) (pc := 26) (tb_at tkX11_mayCome 17 rfl) (by decide) (fun c => ?_) (fun c => ?_)
    · replace h := h.1 c
      exact h
    · replace h := h.2 c
      refine r_iinc (L' := [some (.inr (.inr (some 66))), some (.inl v1), some (.inl (w32 (v2 + 1)))]) (pc := 29) (tb_at tkX11_mayCome 18 rfl) rfl (by decide) rfl ?_
      refine r_goto (tgt := 5) (pc := 32) (tb_at tkX11_mayCome 19 rfl) (by decide) ?_
      exact h
set_option maxRecDepth 100000 in
set_option maxHeartbeats 4000000 in
theorem gX11_mayCome_35 {G : GE} {d : Nat} {K : Int → Mem → Prop} {M : Mem} {v1 v2 : Int}  (h : (((M 66 19) ≤ v2 → K 0 M) ∧ (v2 < (M 66 19) → (0 ≤ (8 * v2) + v1 ∧ (8 * v2) + v1 < 1088) ∧ ((0 ≤ (M 77 ((8 * v2) + v1).toNat) → K 0 M) ∧ ((M 77 ((8 * v2) + v1).toNat) < 0 → K 1 M))))) : OkI G miX11_mayCome d K 35 [some (.inr (.inr (some 66))), some (.inl v1), some (.inl v2)] [] M := by
  refine r_iload_n (pc := 35) (tb_at tkX11_mayCome 20 rfl) rfl rfl ?_
  refine r_aload_n (pc := 36) (tb_at tkX11_mayCome 21 rfl) rfl rfl ?_
  refine r_get 10 19 (pc := 37) (tb_at tkX11_mayCome 22 rfl) ly_66 flX11_235 rfl ?_
  refine q_icmp_ge (tgt := 63) (pc := 40) (tb_at tkX11_mayCome 23 rfl) (by decide) (fun c => ?_) (fun c => ?_)
  · replace h := h.1 c
    refine r_iconst (pc := 63) (tb_at tkX11_mayCome 37 rfl) ⟨by decide, by decide⟩ ?_
    exact r_zret (pc := 64) (tb_at tkX11_mayCome 38 rfl) rfl (by decide) (Nat.le_refl _) (Nat.le_refl _) ⟨_, rfl, rfl, h⟩
  · replace h := h.2 c
    refine r_aload_n (pc := 43) (tb_at tkX11_mayCome 24 rfl) rfl rfl ?_
    refine r_get 10 15 (pc := 44) (tb_at tkX11_mayCome 25 rfl) ly_66 flX11_42 rfl ?_
    refine r_bipush (pc := 47) (tb_at tkX11_mayCome 26 rfl) ⟨by decide, by decide, by decide⟩ ?_
    refine r_iload_n (pc := 49) (tb_at tkX11_mayCome 27 rfl) rfl rfl ?_
    refine r_imul (pc := 50) (tb_at tkX11_mayCome 28 rfl) ?_
    refine r_iload_n (pc := 51) (tb_at tkX11_mayCome 29 rfl) rfl rfl ?_
    refine r_iadd_l (pc := 52) (tb_at tkX11_mayCome 30 rfl) ?_
    refine r_lald_w (pc := 53) (tb_at tkX11_mayCome 31 rfl) ly_77 (by decide) h.1.1 h.1.2 ?_
    replace h := h.2
    refine r_lconst (v := 0) (pc := 54) (tb_at tkX11_mayCome 32 rfl) ⟨by decide, by decide, by decide⟩ ?_
    refine r_lcmp (pc := 55) (tb_at tkX11_mayCome 33 rfl) ?_
    refine q_lif_ge (tgt := 63) (pc := 56) (tb_at tkX11_mayCome 34 rfl) (by decide) (fun c => ?_) (fun c => ?_)
    · replace h := h.1 c
      refine r_iconst (pc := 63) (tb_at tkX11_mayCome 37 rfl) ⟨by decide, by decide⟩ ?_
      exact r_zret (pc := 64) (tb_at tkX11_mayCome 38 rfl) rfl (by decide) (Nat.le_refl _) (Nat.le_refl _) ⟨_, rfl, rfl, h⟩
    · replace h := h.2 c
      refine r_iconst (pc := 59) (tb_at tkX11_mayCome 35 rfl) ⟨by decide, by decide⟩ ?_
      refine r_goto (tgt := 64) (pc := 60) (tb_at tkX11_mayCome 36 rfl) (by decide) ?_
      exact r_zret (pc := 64) (tb_at tkX11_mayCome 38 rfl) rfl (by decide) (Nat.le_refl _) (Nat.le_refl _) ⟨_, rfl, rfl, h⟩
set_option maxRecDepth 100000 in
set_option maxHeartbeats 4000000 in
theorem gX11_comes_0 {G : GE} {d : Nat} {K : Int → Mem → Prop} {M : Mem}  (h : OkI G miX11_comes (d + 1) K 4 [some (.inr (.inr (some 66))), some (.inl (-1)), some (.inl 0)] [] M) : OkI G miX11_comes (d + 1) K 0 [some (.inr (.inr (some 66))), none, none] [] M := by
  refine r_iconst (pc := 0) (tb_at tkX11_comes 0 rfl) ⟨by decide, by decide⟩ ?_
  refine r_istore_n (L' := [some (.inr (.inr (some 66))), some (.inl (-1)), none]) (pc := 1) (tb_at tkX11_comes 1 rfl) rfl (by decide) rfl ?_
  refine r_iconst (pc := 2) (tb_at tkX11_comes 2 rfl) ⟨by decide, by decide⟩ ?_
  refine r_istore_n (L' := [some (.inr (.inr (some 66))), some (.inl (-1)), some (.inl 0)]) (pc := 3) (tb_at tkX11_comes 3 rfl) rfl (by decide) rfl ?_
  exact h
set_option maxRecDepth 100000 in
set_option maxHeartbeats 4000000 in
theorem gX11_comes_4 {G : GE} {d : Nat} {K : Int → Mem → Prop} {M : Mem} {v1 v2 : Int}  (h : (((M 67 0) ≤ v2 → K v1 M) ∧ (v2 < (M 67 0) → CalI G miX11_mayCome d [.inr (.inr (some 66)), .inl v2] M (fun x2 M1 => ((x2 = 0 → OkI G miX11_comes (d + 1) K 4 [some (.inr (.inr (some 66))), some (.inl v1), some (.inl (w32 (v2 + 1)))] [] M1) ∧ (¬ x2 = 0 → ((v1 < 0 → OkI G miX11_comes (d + 1) K 4 [some (.inr (.inr (some 66))), some (.inl v2), some (.inl (w32 (v2 + 1)))] [] M1) ∧ (0 ≤ v1 → (0 ≤ v2 ∧ v2 < 7) ∧ (0 ≤ v1 ∧ v1 < 7) ∧ OkI G miX11_comes (d + 1) K 4 [some (.inr (.inr (some 66))), some (.inl (if (M1 78 (v2).toNat) < (M1 78 (v1).toNat) then v2 else v1)), some (.inl (w32 (v2 + 1)))] [] M1)))))))) : OkI G miX11_comes (d + 1) K 4 [some (.inr (.inr (some 66))), some (.inl v1), some (.inl v2)] [] M := by
  refine r_iload_n (pc := 4) (tb_at tkX11_comes 4 rfl) rfl rfl ?_
  refine r_aload_n (pc := 5) (tb_at tkX11_comes 5 rfl) rfl rfl ?_
  refine r_get 10 0 (pc := 6) (tb_at tkX11_comes 6 rfl) ly_66 flX11_11 rfl ?_
  refine r_iconst (pc := 9) (tb_at tkX11_comes 7 rfl) ⟨by decide, by decide⟩ ?_
  refine r_iald_k (k0 := 0) (pc := 10) (tb_at tkX11_comes 8 rfl) ly_67 rfl (by decide) (by decide) ?_
  refine q_icmp_ge (tgt := 53) (pc := 11) (tb_at tkX11_comes 9 rfl) (by decide) (fun c => ?_) (fun c => ?_)
  · replace h := h.1 c
    refine r_iload_n (pc := 53) (tb_at tkX11_comes 31 rfl) rfl rfl ?_
    exact r_iret (pc := 54) (tb_at tkX11_comes 32 rfl) rfl (Nat.le_refl _) (Nat.le_refl _) ⟨_, rfl, rfl, h⟩
  · replace h := h.2 c
    refine r_aload_n (pc := 14) (tb_at tkX11_comes 10 rfl) rfl rfl ?_
    refine r_iload_n (pc := 15) (tb_at tkX11_comes 11 rfl) rfl rfl ?_
    refine r_invV (mc' := 0) (ms' := 0) [.inl v2] (S := []) (pc := 16) (tb_at tkX11_comes 12 rfl) rfl ly_66 rfl rfl clX11_244 (Nat.le_of_ble_eq_true rfl) (Nat.le_refl _) (Nat.le_refl _) ?_
    refine Cal.mono h ?_
    rintro _ _ M1 ⟨x2, rfl, rfl, h⟩
    show OkI G miX11_comes (d + 1) K 19 [some (.inr (.inr (some 66))), some (.inl v1), some (.inl v2)] [.inl x2] M1
    refine q_if_eq (tgt := 45) (pc := 19) (tb_at tkX11_comes 13 rfl) (by decide) (fun c => ?_) (fun c => ?_)
    · replace h := h.1 c
      refine r_iload_n (pc := 45) (tb_at tkX11_comes 27 rfl) rfl rfl ?_
      refine r_istore_n (L' := [some (.inr (.inr (some 66))), some (.inl v1), some (.inl v2)]) (pc := 46) (tb_at tkX11_comes 28 rfl) rfl (by decide) rfl ?_
      refine r_iinc (L' := [some (.inr (.inr (some 66))), some (.inl v1), some (.inl (w32 (v2 + 1)))]) (pc := 47) (tb_at tkX11_comes 29 rfl) rfl (by decide) rfl ?_
      refine r_goto (tgt := 4) (pc := 50) (tb_at tkX11_comes 30 rfl) (by decide) ?_
      exact h
    · replace h := h.2 c
      refine r_iload_n (pc := 22) (tb_at tkX11_comes 14 rfl) rfl rfl ?_
      refine q_if_lt (tgt := 41) (pc := 23) (tb_at tkX11_comes 15 rfl) (by decide) (fun c => ?_) (fun c => ?_)
      · replace h := h.1 c
        refine r_iload_n (pc := 41) (tb_at tkX11_comes 25 rfl) rfl rfl ?_
        refine r_goto (tgt := 46) (pc := 42) (tb_at tkX11_comes 26 rfl) (by decide) ?_
        refine r_istore_n (L' := [some (.inr (.inr (some 66))), some (.inl v2), some (.inl v2)]) (pc := 46) (tb_at tkX11_comes 28 rfl) rfl (by decide) rfl ?_
        refine r_iinc (L' := [some (.inr (.inr (some 66))), some (.inl v2), some (.inl (w32 (v2 + 1)))]) (pc := 47) (tb_at tkX11_comes 29 rfl) rfl (by decide) rfl ?_
        refine r_goto (tgt := 4) (pc := 50) (tb_at tkX11_comes 30 rfl) (by decide) ?_
        exact h
      · replace h := h.2 c
        refine r_aload_n (pc := 26) (tb_at tkX11_comes 16 rfl) rfl rfl ?_
        refine r_get 10 16 (pc := 27) (tb_at tkX11_comes 17 rfl) ly_66 flX11_46 rfl ?_
        refine r_iload_n (pc := 30) (tb_at tkX11_comes 18 rfl) rfl rfl ?_
        refine r_iald (pc := 31) (tb_at tkX11_comes 19 rfl) ly_78 h.1.1 h.1.2 ?_
        replace h := h.2
        refine r_aload_n (pc := 32) (tb_at tkX11_comes 20 rfl) rfl rfl ?_
        refine r_get 10 16 (pc := 33) (tb_at tkX11_comes 21 rfl) ly_66 flX11_46 rfl ?_
        refine r_iload_n (pc := 36) (tb_at tkX11_comes 22 rfl) rfl rfl ?_
        refine r_iald (pc := 37) (tb_at tkX11_comes 23 rfl) ly_78 h.1.1 h.1.2 ?_
        replace h := h.2
        have hJ3 : ∀ t0 : Int, t0 = (if (M1 78 (v2).toNat) < (M1 78 (v1).toNat) then v2 else v1) → OkI G miX11_comes (d + 1) K 46 [some (.inr (.inr (some 66))), some (.inl v1), some (.inl v2)] [.inl t0] M1 := by
          rintro _ rfl
          refine r_istore_n (L' := [some (.inr (.inr (some 66))), some (.inl (if (M1 78 (v2).toNat) < (M1 78 (v1).toNat) then v2 else v1)), some (.inl v2)]) (pc := 46) (tb_at tkX11_comes 28 rfl) rfl (by decide) rfl ?_
          refine r_iinc (L' := [some (.inr (.inr (some 66))), some (.inl (if (M1 78 (v2).toNat) < (M1 78 (v1).toNat) then v2 else v1)), some (.inl (w32 (v2 + 1)))]) (pc := 47) (tb_at tkX11_comes 29 rfl) rfl (by decide) rfl ?_
          refine r_goto (tgt := 4) (pc := 50) (tb_at tkX11_comes 30 rfl) (by decide) ?_
          exact h
        refine q_icmp_ge (tgt := 45) (pc := 38) (tb_at tkX11_comes 24 rfl) (by decide) (fun c4 => ?_) (fun c4 => ?_)
        · refine r_iload_n (pc := 45) (tb_at tkX11_comes 27 rfl) rfl rfl ?_
          exact hJ3 _ (by simp only [if_neg (Int.not_lt.mpr c4)])
        · refine r_iload_n (pc := 41) (tb_at tkX11_comes 25 rfl) rfl rfl ?_
          refine r_goto (tgt := 46) (pc := 42) (tb_at tkX11_comes 26 rfl) (by decide) ?_
          exact hJ3 _ (by simp only [if_pos c4])
set_option maxRecDepth 100000 in
set_option maxHeartbeats 4000000 in
theorem gX11_goes_0 {G : GE} {d : Nat} {K : Int → Mem → Prop} {M : Mem} {v1 : Int}  (h : OkI G miX11_goes d K 4 [some (.inr (.inr (some 66))), some (.inl v1), some (.inl (-1)), some (.inl 0), none, none, none, none] [] M) : OkI G miX11_goes d K 0 [some (.inr (.inr (some 66))), some (.inl v1), none, none, none, none, none, none] [] M := by
  refine r_iconst (pc := 0) (tb_at tkX11_goes 0 rfl) ⟨by decide, by decide⟩ ?_
  refine r_istore_n (L' := [some (.inr (.inr (some 66))), some (.inl v1), some (.inl (-1)), none, none, none, none, none]) (pc := 1) (tb_at tkX11_goes 1 rfl) rfl (by decide) rfl ?_
  refine r_iconst (pc := 2) (tb_at tkX11_goes 2 rfl) ⟨by decide, by decide⟩ ?_
  refine r_istore_n (L' := [some (.inr (.inr (some 66))), some (.inl v1), some (.inl (-1)), some (.inl 0), none, none, none, none]) (pc := 3) (tb_at tkX11_goes 3 rfl) rfl (by decide) rfl ?_
  exact h
set_option maxRecDepth 100000 in
set_option maxHeartbeats 4000000 in
theorem gX11_goes_4 {G : GE} {d : Nat} {K : Int → Mem → Prop} {M : Mem} {v1 v2 v3 : Int}  (h : (((M 66 18) ≤ v3 → K v2 M) ∧ (v3 < (M 66 18) → (0 ≤ (8 * v3) + v1 ∧ (8 * v3) + v1 < 1088) ∧ (((M 77 ((8 * v3) + v1).toNat) ≤ 0 → OkI G miX11_goes d K 4 [some (.inr (.inr (some 66))), some (.inl v1), some (.inl v2), some (.inl (w32 (v3 + 1))), none, none, none, none] [] M) ∧ (0 < (M 77 ((8 * v3) + v1).toNat) → ((0 ≤ v2 → (0 ≤ (8 * v3) + (M 67 0) ∧ (8 * v3) + (M 67 0) < 1088) ∧ (0 ≤ (8 * v2) + v1 ∧ (8 * v2) + v1 < 1088) ∧ (0 ≤ (8 * v2) + (M 67 0) ∧ (8 * v2) + (M 67 0) < 1088) ∧ OkI G miX11_goes d K 90 [some (.inr (.inr (some 66))), some (.inl v1), some (.inl v2), some (.inl v3), none, none, none, none] [.inr (.inl (w64 (((M 77 ((8 * v3) + (M 67 0)).toNat) * (M 77 ((8 * v2) + v1).toNat)) - ((M 77 ((8 * v2) + (M 67 0)).toNat) * (M 77 ((8 * v3) + v1).toNat)))))] M) ∧ (v2 < 0 → OkI G miX11_goes d K 90 [some (.inr (.inr (some 66))), some (.inl v1), some (.inl v2), some (.inl v3), none, none, none, none] [.inr (.inl (-1))] M))))))) : OkI G miX11_goes d K 4 [some (.inr (.inr (some 66))), some (.inl v1), some (.inl v2), some (.inl v3), none, none, none, none] [] M := by
  refine r_iload_n (pc := 4) (tb_at tkX11_goes 4 rfl) rfl rfl ?_
  refine r_aload_n (pc := 5) (tb_at tkX11_goes 5 rfl) rfl rfl ?_
  refine r_get 10 18 (pc := 6) (tb_at tkX11_goes 6 rfl) ly_66 flX11_232 rfl ?_
  refine q_icmp_ge (tgt := 133) (pc := 9) (tb_at tkX11_goes 7 rfl) (by decide) (fun c => ?_) (fun c => ?_)
  · replace h := h.1 c
    refine r_iload_n (pc := 133) (tb_at tkX11_goes 83 rfl) rfl rfl ?_
    exact r_iret (pc := 134) (tb_at tkX11_goes 84 rfl) rfl (Nat.le_refl _) (Nat.le_refl _) ⟨_, rfl, rfl, h⟩
  · replace h := h.2 c
    refine r_aload_n (pc := 12) (tb_at tkX11_goes 8 rfl) rfl rfl ?_
    refine r_get 10 15 (pc := 13) (tb_at tkX11_goes 9 rfl) ly_66 flX11_42 rfl ?_
    refine r_bipush (pc := 16) (tb_at tkX11_goes 10 rfl) ⟨by decide, by decide, by decide⟩ ?_
    refine r_iload_n (pc := 18) (tb_at tkX11_goes 11 rfl) rfl rfl ?_
    refine r_imul (pc := 19) (tb_at tkX11_goes 12 rfl) ?_
    refine r_iload_n (pc := 20) (tb_at tkX11_goes 13 rfl) rfl rfl ?_
    refine r_iadd_l (pc := 21) (tb_at tkX11_goes 14 rfl) ?_
    refine r_lald_w (pc := 22) (tb_at tkX11_goes 15 rfl) ly_77 (by decide) h.1.1 h.1.2 ?_
    replace h := h.2
    refine r_lstore (L' := [some (.inr (.inr (some 66))), some (.inl v1), some (.inl v2), some (.inl v3), some (.inr (.inl (M 77 ((8 * v3) + v1).toNat))), none, none, none]) (pc := 23) (tb_at tkX11_goes 16 rfl) (by decide) rfl ?_
    refine r_lload (pc := 25) (tb_at tkX11_goes 17 rfl) rfl ?_
    refine r_lconst (v := 0) (pc := 27) (tb_at tkX11_goes 18 rfl) ⟨by decide, by decide, by decide⟩ ?_
    refine r_lcmp (pc := 28) (tb_at tkX11_goes 19 rfl) ?_
    refine q_lif_le (tgt := 127) (pc := 29) (tb_at tkX11_goes 20 rfl) (by decide) (fun c => ?_) (fun c => ?_)
    · replace h := h.1 c
      refine r_iinc (L' := [some (.inr (.inr (some 66))), some (.inl v1), some (.inl v2), some (.inl (w32 (v3 + 1))), some (.inr (.inl (M 77 ((8 * v3) + v1).toNat))), none, none, none]) (pc := 127) (tb_at tkX11_goes 81 rfl) rfl (by decide) rfl ?_
      refine r_goto (tgt := 4) (pc := 130) (tb_at tkX11_goes 82 rfl) (by decide) ?_
      exact Ok.forget h (And.intro rfl (And.intro rfl (And.intro rfl (And.intro rfl trivial))))
    · replace h := h.2 c
      refine r_iload_n (pc := 32) (tb_at tkX11_goes 21 rfl) rfl rfl ?_
      refine q_if_ge (tgt := 42) (pc := 33) (tb_at tkX11_goes 22 rfl) (by decide) (fun c => ?_) (fun c => ?_)
      · replace h := h.1 c
        refine r_aload_n (pc := 42) (tb_at tkX11_goes 25 rfl) rfl rfl ?_
        refine r_get 10 15 (pc := 43) (tb_at tkX11_goes 26 rfl) ly_66 flX11_42 rfl ?_
        refine r_bipush (pc := 46) (tb_at tkX11_goes 27 rfl) ⟨by decide, by decide, by decide⟩ ?_
        refine r_iload_n (pc := 48) (tb_at tkX11_goes 28 rfl) rfl rfl ?_
        refine r_imul (pc := 49) (tb_at tkX11_goes 29 rfl) ?_
        refine r_aload_n (pc := 50) (tb_at tkX11_goes 30 rfl) rfl rfl ?_
        refine r_get 10 0 (pc := 51) (tb_at tkX11_goes 31 rfl) ly_66 flX11_11 rfl ?_
        refine r_iconst (pc := 54) (tb_at tkX11_goes 32 rfl) ⟨by decide, by decide⟩ ?_
        refine r_iald_k (k0 := 0) (pc := 55) (tb_at tkX11_goes 33 rfl) ly_67 rfl (by decide) (by decide) ?_
        refine r_iadd_l (pc := 56) (tb_at tkX11_goes 34 rfl) ?_
        refine r_lald_w (pc := 57) (tb_at tkX11_goes 35 rfl) ly_77 (by decide) h.1.1 h.1.2 ?_
        replace h := h.2
        refine r_aload_n (pc := 58) (tb_at tkX11_goes 36 rfl) rfl rfl ?_
        refine r_get 10 15 (pc := 59) (tb_at tkX11_goes 37 rfl) ly_66 flX11_42 rfl ?_
        refine r_bipush (pc := 62) (tb_at tkX11_goes 38 rfl) ⟨by decide, by decide, by decide⟩ ?_
        refine r_iload_n (pc := 64) (tb_at tkX11_goes 39 rfl) rfl rfl ?_
        refine r_imul (pc := 65) (tb_at tkX11_goes 40 rfl) ?_
        refine r_iload_n (pc := 66) (tb_at tkX11_goes 41 rfl) rfl rfl ?_
        refine r_iadd_l (pc := 67) (tb_at tkX11_goes 42 rfl) ?_
        refine r_lald_w (pc := 68) (tb_at tkX11_goes 43 rfl) ly_77 (by decide) h.1.1 h.1.2 ?_
        replace h := h.2
        refine r_lmul (pc := 69) (tb_at tkX11_goes 44 rfl) ?_
        refine r_aload_n (pc := 70) (tb_at tkX11_goes 45 rfl) rfl rfl ?_
        refine r_get 10 15 (pc := 71) (tb_at tkX11_goes 46 rfl) ly_66 flX11_42 rfl ?_
        refine r_bipush (pc := 74) (tb_at tkX11_goes 47 rfl) ⟨by decide, by decide, by decide⟩ ?_
        refine r_iload_n (pc := 76) (tb_at tkX11_goes 48 rfl) rfl rfl ?_
        refine r_imul (pc := 77) (tb_at tkX11_goes 49 rfl) ?_
        refine r_aload_n (pc := 78) (tb_at tkX11_goes 50 rfl) rfl rfl ?_
        refine r_get 10 0 (pc := 79) (tb_at tkX11_goes 51 rfl) ly_66 flX11_11 rfl ?_
        refine r_iconst (pc := 82) (tb_at tkX11_goes 52 rfl) ⟨by decide, by decide⟩ ?_
        refine r_iald_k (k0 := 0) (pc := 83) (tb_at tkX11_goes 53 rfl) ly_67 rfl (by decide) (by decide) ?_
        refine r_iadd_l (pc := 84) (tb_at tkX11_goes 54 rfl) ?_
        refine r_lald_w (pc := 85) (tb_at tkX11_goes 55 rfl) ly_77 (by decide) h.1.1 h.1.2 ?_
        replace h := h.2
        refine r_lload (pc := 86) (tb_at tkX11_goes 56 rfl) rfl ?_
        refine r_lmul (pc := 88) (tb_at tkX11_goes 57 rfl) ?_
        refine r_lsub_lr (pc := 89) (tb_at tkX11_goes 58 rfl) ?_
        exact Ok.forget h (And.intro rfl (And.intro rfl (And.intro rfl (And.intro rfl trivial))))
      · replace h := h.2 c
        refine r_ldc2 (n := -1) (pc := 36) (tb_at tkX11_goes 23 rfl) kcX11_238 ⟨by decide, by decide⟩ ?_
        refine r_goto (tgt := 90) (pc := 39) (tb_at tkX11_goes 24 rfl) (by decide) ?_
        exact Ok.forget h (And.intro rfl (And.intro rfl (And.intro rfl (And.intro rfl trivial))))
set_option maxRecDepth 100000 in
set_option maxHeartbeats 4000000 in
theorem gX11_goes_90 {G : GE} {d : Nat} {K : Int → Mem → Prop} {M : Mem} {v1 v2 v3 s0 : Int}  (h : ((s0 < 0 → OkI G miX11_goes d K 4 [some (.inr (.inr (some 66))), some (.inl v1), some (.inl v3), some (.inl (w32 (v3 + 1))), none, none, none, none] [] M) ∧ (0 ≤ s0 → ((¬ s0 = 0 → OkI G miX11_goes d K 4 [some (.inr (.inr (some 66))), some (.inl v1), some (.inl v2), some (.inl (w32 (v3 + 1))), none, none, none, none] [] M) ∧ (s0 = 0 → (0 ≤ v3 ∧ v3 < 128) ∧ (0 ≤ v2 ∧ v2 < 128) ∧ OkI G miX11_goes d K 4 [some (.inr (.inr (some 66))), some (.inl v1), some (.inl (if (M 79 (v3).toNat) < (M 79 (v2).toNat) then v3 else v2)), some (.inl (w32 (v3 + 1))), none, none, none, none] [] M))))) : OkI G miX11_goes d K 90 [some (.inr (.inr (some 66))), some (.inl v1), some (.inl v2), some (.inl v3), none, none, none, none] [.inr (.inl s0)] M := by
  refine r_lstore (L' := [some (.inr (.inr (some 66))), some (.inl v1), some (.inl v2), some (.inl v3), none, none, some (.inr (.inl s0)), none]) (pc := 90) (tb_at tkX11_goes 59 rfl) (by decide) rfl ?_
  refine r_lload (pc := 92) (tb_at tkX11_goes 60 rfl) rfl ?_
  refine r_lconst (v := 0) (pc := 94) (tb_at tkX11_goes 61 rfl) ⟨by decide, by decide, by decide⟩ ?_
  refine r_lcmp (pc := 95) (tb_at tkX11_goes 62 rfl) ?_
  refine q_lif_lt (tgt := 121) (pc := 96) (tb_at tkX11_goes 63 rfl) (by decide) (fun c => ?_) (fun c => ?_)
  · replace h := h.1 c
    refine r_iload_n (pc := 121) (tb_at tkX11_goes 77 rfl) rfl rfl ?_
    refine r_goto (tgt := 126) (pc := 122) (tb_at tkX11_goes 78 rfl) (by decide) ?_
    refine r_istore_n (L' := [some (.inr (.inr (some 66))), some (.inl v1), some (.inl v3), some (.inl v3), none, none, some (.inr (.inl s0)), none]) (pc := 126) (tb_at tkX11_goes 80 rfl) rfl (by decide) rfl ?_
    refine r_iinc (L' := [some (.inr (.inr (some 66))), some (.inl v1), some (.inl v3), some (.inl (w32 (v3 + 1))), none, none, some (.inr (.inl s0)), none]) (pc := 127) (tb_at tkX11_goes 81 rfl) rfl (by decide) rfl ?_
    refine r_goto (tgt := 4) (pc := 130) (tb_at tkX11_goes 82 rfl) (by decide) ?_
    exact Ok.forget h (And.intro rfl (And.intro rfl (And.intro rfl (And.intro rfl trivial))))
  · replace h := h.2 c
    refine r_lload (pc := 99) (tb_at tkX11_goes 64 rfl) rfl ?_
    refine r_lconst (v := 0) (pc := 101) (tb_at tkX11_goes 65 rfl) ⟨by decide, by decide, by decide⟩ ?_
    refine r_lcmp (pc := 102) (tb_at tkX11_goes 66 rfl) ?_
    refine q_lif_ne (tgt := 125) (pc := 103) (tb_at tkX11_goes 67 rfl) (by decide) (fun c => ?_) (fun c => ?_)
    · replace h := h.1 c
      refine r_iload_n (pc := 125) (tb_at tkX11_goes 79 rfl) rfl rfl ?_
      refine r_istore_n (L' := [some (.inr (.inr (some 66))), some (.inl v1), some (.inl v2), some (.inl v3), none, none, some (.inr (.inl s0)), none]) (pc := 126) (tb_at tkX11_goes 80 rfl) rfl (by decide) rfl ?_
      refine r_iinc (L' := [some (.inr (.inr (some 66))), some (.inl v1), some (.inl v2), some (.inl (w32 (v3 + 1))), none, none, some (.inr (.inl s0)), none]) (pc := 127) (tb_at tkX11_goes 81 rfl) rfl (by decide) rfl ?_
      refine r_goto (tgt := 4) (pc := 130) (tb_at tkX11_goes 82 rfl) (by decide) ?_
      exact Ok.forget h (And.intro rfl (And.intro rfl (And.intro rfl (And.intro rfl trivial))))
    · replace h := h.2 c
      refine r_aload_n (pc := 106) (tb_at tkX11_goes 68 rfl) rfl rfl ?_
      refine r_get 10 17 (pc := 107) (tb_at tkX11_goes 69 rfl) ly_66 flX11_49 rfl ?_
      refine r_iload_n (pc := 110) (tb_at tkX11_goes 70 rfl) rfl rfl ?_
      refine r_iald (pc := 111) (tb_at tkX11_goes 71 rfl) ly_79 h.1.1 h.1.2 ?_
      replace h := h.2
      refine r_aload_n (pc := 112) (tb_at tkX11_goes 72 rfl) rfl rfl ?_
      refine r_get 10 17 (pc := 113) (tb_at tkX11_goes 73 rfl) ly_66 flX11_49 rfl ?_
      refine r_iload_n (pc := 116) (tb_at tkX11_goes 74 rfl) rfl rfl ?_
      refine r_iald (pc := 117) (tb_at tkX11_goes 75 rfl) ly_79 h.1.1 h.1.2 ?_
      replace h := h.2
      have hJ1 : ∀ t0 : Int, t0 = (if (M 79 (v3).toNat) < (M 79 (v2).toNat) then v3 else v2) → OkI G miX11_goes d K 126 [some (.inr (.inr (some 66))), some (.inl v1), some (.inl v2), some (.inl v3), none, none, some (.inr (.inl s0)), none] [.inl t0] M := by
        rintro _ rfl
        refine r_istore_n (L' := [some (.inr (.inr (some 66))), some (.inl v1), some (.inl (if (M 79 (v3).toNat) < (M 79 (v2).toNat) then v3 else v2)), some (.inl v3), none, none, some (.inr (.inl s0)), none]) (pc := 126) (tb_at tkX11_goes 80 rfl) rfl (by decide) rfl ?_
        refine r_iinc (L' := [some (.inr (.inr (some 66))), some (.inl v1), some (.inl (if (M 79 (v3).toNat) < (M 79 (v2).toNat) then v3 else v2)), some (.inl (w32 (v3 + 1))), none, none, some (.inr (.inl s0)), none]) (pc := 127) (tb_at tkX11_goes 81 rfl) rfl (by decide) rfl ?_
        refine r_goto (tgt := 4) (pc := 130) (tb_at tkX11_goes 82 rfl) (by decide) ?_
        exact Ok.forget h (And.intro rfl (And.intro rfl (And.intro rfl (And.intro rfl trivial))))
      refine q_icmp_ge (tgt := 125) (pc := 118) (tb_at tkX11_goes 76 rfl) (by decide) (fun c2 => ?_) (fun c2 => ?_)
      · refine r_iload_n (pc := 125) (tb_at tkX11_goes 79 rfl) rfl rfl ?_
        exact hJ1 _ (by simp only [if_neg (Int.not_lt.mpr c2)])
      · refine r_iload_n (pc := 121) (tb_at tkX11_goes 77 rfl) rfl rfl ?_
        refine r_goto (tgt := 126) (pc := 122) (tb_at tkX11_goes 78 rfl) (by decide) ?_
        exact hJ1 _ (by simp only [if_pos c2])
set_option maxRecDepth 100000 in
set_option maxHeartbeats 4000000 in
theorem gX11_turns_0 {G : GE} {d : Nat} {K : Mem → Prop} {M : Mem} {v1 v2 : Int}  (h : (0 ≤ (8 * v1) + v2 ∧ (8 * v1) + v2 < 1088) ∧ OkV G miX11_turns d K 15 [some (.inr (.inr (some 66))), some (.inl v1), some (.inl v2), some (.inr (.inl (M 77 ((8 * v1) + v2).toNat))), none, some (.inl 0), none, none, none] [] M) : OkV G miX11_turns d K 0 [some (.inr (.inr (some 66))), some (.inl v1), some (.inl v2), none, none, none, none, none, none] [] M := by
  refine r_aload_n (pc := 0) (tb_at tkX11_turns 0 rfl) rfl rfl ?_
  refine r_get 10 15 (pc := 1) (tb_at tkX11_turns 1 rfl) ly_66 flX11_42 rfl ?_
  refine r_bipush (pc := 4) (tb_at tkX11_turns 2 rfl) ⟨by decide, by decide, by decide⟩ ?_
  refine r_iload_n (pc := 6) (tb_at tkX11_turns 3 rfl) rfl rfl ?_
  refine r_imul (pc := 7) (tb_at tkX11_turns 4 rfl) ?_
  refine r_iload_n (pc := 8) (tb_at tkX11_turns 5 rfl) rfl rfl ?_
  refine r_iadd_l (pc := 9) (tb_at tkX11_turns 6 rfl) ?_
  refine r_lald_w (pc := 10) (tb_at tkX11_turns 7 rfl) ly_77 (by decide) h.1.1 h.1.2 ?_
  replace h := h.2
  refine r_lstore_n (L' := [some (.inr (.inr (some 66))), some (.inl v1), some (.inl v2), some (.inr (.inl (M 77 ((8 * v1) + v2).toNat))), none, none, none, none, none]) (pc := 11) (tb_at tkX11_turns 8 rfl) rfl (by decide) rfl ?_
  refine r_iconst (pc := 12) (tb_at tkX11_turns 9 rfl) ⟨by decide, by decide⟩ ?_
  refine r_istore (L' := [some (.inr (.inr (some 66))), some (.inl v1), some (.inl v2), some (.inr (.inl (M 77 ((8 * v1) + v2).toNat))), none, some (.inl 0), none, none, none]) (pc := 13) (tb_at tkX11_turns 10 rfl) (by decide) rfl ?_
  exact h
set_option maxRecDepth 100000 in
set_option maxHeartbeats 4000000 in
theorem gX11_turns_15 {G : GE} {d : Nat} {K : Mem → Prop} {M : Mem} {v1 v2 v3 v5 : Int}  (h : (((M 66 19) ≤ v5 → (0 ≤ v2 ∧ v2 < 7) ∧ (0 ≤ v1 ∧ v1 < 128) ∧ (0 ≤ v2 ∧ v2 < 7) ∧ (0 ≤ v1 ∧ v1 < 128) ∧ K (mup (mup (mup M 66 20 v3) 78 (v2).toNat ((mup M 66 20 v3) 79 (v1).toNat)) 79 (v1).toNat ((mup M 66 20 v3) 78 (v2).toNat))) ∧ (v5 < (M 66 19) → (0 ≤ (8 * v5) + v2 ∧ (8 * v5) + v2 < 1088) ∧ OkV G miX11_turns d K 41 [some (.inr (.inr (some 66))), some (.inl v1), some (.inl v2), some (.inr (.inl v3)), none, some (.inl v5), some (.inr (.inl (M 77 ((8 * v5) + v2).toNat))), none, some (.inl 0)] [] M))) : OkV G miX11_turns d K 15 [some (.inr (.inr (some 66))), some (.inl v1), some (.inl v2), some (.inr (.inl v3)), none, some (.inl v5), none, none, none] [] M := by
  refine r_iload (pc := 15) (tb_at tkX11_turns 11 rfl) rfl ?_
  refine r_aload_n (pc := 17) (tb_at tkX11_turns 12 rfl) rfl rfl ?_
  refine r_get 10 19 (pc := 18) (tb_at tkX11_turns 13 rfl) ly_66 flX11_235 rfl ?_
  refine q_icmp_ge (tgt := 153) (pc := 21) (tb_at tkX11_turns 14 rfl) (by decide) (fun c => ?_) (fun c => ?_)
  · replace h := h.1 c
    refine r_aload_n (pc := 153) (tb_at tkX11_turns 90 rfl) rfl rfl ?_
    refine r_lload_n (pc := 154) (tb_at tkX11_turns 91 rfl) rfl rfl ?_
    refine r_put 10 20 v3 (pc := 155) (tb_at tkX11_turns 92 rfl) ly_66 flX11_240 (fun r h => by cases h; rfl) (.inr (.inr rfl)) rfl (fun h => by cases h) rfl ?_
    refine r_aload_n (pc := 158) (tb_at tkX11_turns 93 rfl) rfl rfl ?_
    refine r_get 10 16 (pc := 159) (tb_at tkX11_turns 94 rfl) ly_66 flX11_46 rfl ?_
    refine r_iload_n (pc := 162) (tb_at tkX11_turns 95 rfl) rfl rfl ?_
    refine r_iald (pc := 163) (tb_at tkX11_turns 96 rfl) ly_78 h.1.1 h.1.2 ?_
    replace h := h.2
    refine r_istore (L' := [some (.inr (.inr (some 66))), some (.inl v1), some (.inl v2), some (.inr (.inl v3)), none, some (.inl ((mup M 66 20 v3) 78 (v2).toNat)), none, none, none]) (pc := 164) (tb_at tkX11_turns 97 rfl) (by decide) rfl ?_
    refine r_aload_n (pc := 166) (tb_at tkX11_turns 98 rfl) rfl rfl ?_
    refine r_get 10 16 (pc := 167) (tb_at tkX11_turns 99 rfl) ly_66 flX11_46 rfl ?_
    refine r_iload_n (pc := 170) (tb_at tkX11_turns 100 rfl) rfl rfl ?_
    refine r_aload_n (pc := 171) (tb_at tkX11_turns 101 rfl) rfl rfl ?_
    refine r_get 10 17 (pc := 172) (tb_at tkX11_turns 102 rfl) ly_66 flX11_49 rfl ?_
    refine r_iload_n (pc := 175) (tb_at tkX11_turns 103 rfl) rfl rfl ?_
    refine r_iald (pc := 176) (tb_at tkX11_turns 104 rfl) ly_79 h.1.1 h.1.2 ?_
    replace h := h.2
    refine r_iast (pc := 177) (tb_at tkX11_turns 105 rfl) ly_78 h.1.1 h.1.2 rfl ?_
    replace h := h.2
    refine r_aload_n (pc := 178) (tb_at tkX11_turns 106 rfl) rfl rfl ?_
    refine r_get 10 17 (pc := 179) (tb_at tkX11_turns 107 rfl) ly_66 flX11_49 rfl ?_
    refine r_iload_n (pc := 182) (tb_at tkX11_turns 108 rfl) rfl rfl ?_
    refine r_iload (pc := 183) (tb_at tkX11_turns 109 rfl) rfl ?_
    refine r_iast (pc := 185) (tb_at tkX11_turns 110 rfl) ly_79 h.1.1 h.1.2 rfl ?_
    replace h := h.2
    exact r_vret (pc := 186) (tb_at tkX11_turns 111 rfl) rfl (Nat.le_refl _) (Nat.le_refl _) ⟨rfl, rfl, h⟩
  · replace h := h.2 c
    refine r_aload_n (pc := 24) (tb_at tkX11_turns 15 rfl) rfl rfl ?_
    refine r_get 10 15 (pc := 25) (tb_at tkX11_turns 16 rfl) ly_66 flX11_42 rfl ?_
    refine r_bipush (pc := 28) (tb_at tkX11_turns 17 rfl) ⟨by decide, by decide, by decide⟩ ?_
    refine r_iload (pc := 30) (tb_at tkX11_turns 18 rfl) rfl ?_
    refine r_imul (pc := 32) (tb_at tkX11_turns 19 rfl) ?_
    refine r_iload_n (pc := 33) (tb_at tkX11_turns 20 rfl) rfl rfl ?_
    refine r_iadd_l (pc := 34) (tb_at tkX11_turns 21 rfl) ?_
    refine r_lald_w (pc := 35) (tb_at tkX11_turns 22 rfl) ly_77 (by decide) h.1.1 h.1.2 ?_
    replace h := h.2
    refine r_lstore (L' := [some (.inr (.inr (some 66))), some (.inl v1), some (.inl v2), some (.inr (.inl v3)), none, some (.inl v5), some (.inr (.inl (M 77 ((8 * v5) + v2).toNat))), none, none]) (pc := 36) (tb_at tkX11_turns 23 rfl) (by decide) rfl ?_
    refine r_iconst (pc := 38) (tb_at tkX11_turns 24 rfl) ⟨by decide, by decide⟩ ?_
    refine r_istore (L' := [some (.inr (.inr (some 66))), some (.inl v1), some (.inl v2), some (.inr (.inl v3)), none, some (.inl v5), some (.inr (.inl (M 77 ((8 * v5) + v2).toNat))), none, some (.inl 0)]) (pc := 39) (tb_at tkX11_turns 25 rfl) (by decide) rfl ?_
    exact h
set_option maxRecDepth 100000 in
set_option maxHeartbeats 4000000 in
theorem gX11_turns_41 {G : GE} {d : Nat} {K : Mem → Prop} {M : Mem} {v1 v2 v3 v5 v6 v8 : Int}  (h : (((M 67 0) < v8 → OkV G miX11_turns d K 119 [some (.inr (.inr (some 66))), some (.inl v1), some (.inl v2), some (.inr (.inl v3)), none, some (.inl v5), some (.inr (.inl v6)), none, none] [] M) ∧ (v8 ≤ (M 67 0) → ((v5 = v1 → OkV G miX11_turns d K 119 [some (.inr (.inr (some 66))), some (.inl v1), some (.inl v2), some (.inr (.inl v3)), none, some (.inl v5), some (.inr (.inl v6)), none, none] [] M) ∧ (¬ v5 = v1 → ((v8 = v2 → OkV G miX11_turns d K 41 [some (.inr (.inr (some 66))), some (.inl v1), some (.inl v2), some (.inr (.inl v3)), none, some (.inl v5), some (.inr (.inl v6)), none, some (.inl (w32 (v8 + 1)))] [] M) ∧ (¬ v8 = v2 → (0 ≤ (8 * v5) + v8 ∧ (8 * v5) + v8 < 1088) ∧ (0 ≤ (8 * v1) + v8 ∧ (8 * v1) + v8 < 1088) ∧ ¬ (M 66 20) = 0 ∧ (0 ≤ (8 * v5) + v8 ∧ (8 * v5) + v8 < 1088) ∧ OkV G miX11_turns d K 41 [some (.inr (.inr (some 66))), some (.inl v1), some (.inl v2), some (.inr (.inl v3)), none, some (.inl v5), some (.inr (.inl v6)), none, some (.inl (w32 (v8 + 1)))] [] (mup M 77 ((8 * v5) + v8).toNat (ldiv (w64 (((M 77 ((8 * v5) + v8).toNat) * v3) - (v6 * (M 77 ((8 * v1) + v8).toNat)))) (M 66 20)))))))))) : OkV G miX11_turns d K 41 [some (.inr (.inr (some 66))), some (.inl v1), some (.inl v2), some (.inr (.inl v3)), none, some (.inl v5), some (.inr (.inl v6)), none, some (.inl v8)] [] M := by
  refine r_iload (pc := 41) (tb_at tkX11_turns 26 rfl) rfl ?_
  refine r_aload_n (pc := 43) (tb_at tkX11_turns 27 rfl) rfl rfl ?_
  refine r_get 10 0 (pc := 44) (tb_at tkX11_turns 28 rfl) ly_66 flX11_11 rfl ?_
  refine r_iconst (pc := 47) (tb_at tkX11_turns 29 rfl) ⟨by decide, by decide⟩ ?_
  refine r_iald_k (k0 := 0) (pc := 48) (tb_at tkX11_turns 30 rfl) ly_67 rfl (by decide) (by decide) ?_
  refine q_icmp_gt (tgt := 119) (pc := 49) (tb_at tkX11_turns 31 rfl) (by decide) (fun c => ?_) (fun c => ?_)
  · replace h := h.1 c
    exact Ok.forget h (And.intro rfl (And.intro rfl (And.intro rfl (And.intro rfl (And.intro rfl (And.intro rfl trivial))))))
  · replace h := h.2 c
    refine r_iload (pc := 52) (tb_at tkX11_turns 32 rfl) rfl ?_
    refine r_iload_n (pc := 54) (tb_at tkX11_turns 33 rfl) rfl rfl ?_
    refine q_icmp_eq (tgt := 119) (pc := 55) (tb_at tkX11_turns 34 rfl) (by decide) (fun c => ?_) (fun c => ?_)
    · replace h := h.1 c
      exact Ok.forget h (And.intro rfl (And.intro rfl (And.intro rfl (And.intro rfl (And.intro rfl (And.intro rfl trivial))))))
    · replace h := h.2 c
      refine r_iload (pc := 58) (tb_at tkX11_turns 35 rfl) rfl ?_
      refine r_iload_n (pc := 60) (tb_at tkX11_turns 36 rfl) rfl rfl ?_
      refine q_icmp_eq (tgt := 113) (pc := 61) (tb_at tkX11_turns 37 rfl) (by decide) (fun c => ?_) (fun c => ?_)
      · replace h := h.1 c
        refine r_iinc (L' := [some (.inr (.inr (some 66))), some (.inl v1), some (.inl v2), some (.inr (.inl v3)), none, some (.inl v5), some (.inr (.inl v6)), none, some (.inl (w32 (v8 + 1)))]) (pc := 113) (tb_at tkX11_turns 70 rfl) rfl (by decide) rfl ?_
        refine r_goto (tgt := 41) (pc := 116) (tb_at tkX11_turns 71 rfl) (by decide) ?_
        exact h
      · replace h := h.2 c
        refine r_aload_n (pc := 64) (tb_at tkX11_turns 38 rfl) rfl rfl ?_
        refine r_get 10 15 (pc := 65) (tb_at tkX11_turns 39 rfl) ly_66 flX11_42 rfl ?_
        refine r_bipush (pc := 68) (tb_at tkX11_turns 40 rfl) ⟨by decide, by decide, by decide⟩ ?_
        refine r_iload (pc := 70) (tb_at tkX11_turns 41 rfl) rfl ?_
        refine r_imul (pc := 72) (tb_at tkX11_turns 42 rfl) ?_
        refine r_iload (pc := 73) (tb_at tkX11_turns 43 rfl) rfl ?_
        refine r_iadd_l (pc := 75) (tb_at tkX11_turns 44 rfl) ?_
        refine r_aload_n (pc := 76) (tb_at tkX11_turns 45 rfl) rfl rfl ?_
        refine r_get 10 15 (pc := 77) (tb_at tkX11_turns 46 rfl) ly_66 flX11_42 rfl ?_
        refine r_bipush (pc := 80) (tb_at tkX11_turns 47 rfl) ⟨by decide, by decide, by decide⟩ ?_
        refine r_iload (pc := 82) (tb_at tkX11_turns 48 rfl) rfl ?_
        refine r_imul (pc := 84) (tb_at tkX11_turns 49 rfl) ?_
        refine r_iload (pc := 85) (tb_at tkX11_turns 50 rfl) rfl ?_
        refine r_iadd_l (pc := 87) (tb_at tkX11_turns 51 rfl) ?_
        refine r_lald_w (pc := 88) (tb_at tkX11_turns 52 rfl) ly_77 (by decide) h.1.1 h.1.2 ?_
        replace h := h.2
        refine r_lload_n (pc := 89) (tb_at tkX11_turns 53 rfl) rfl rfl ?_
        refine r_lmul (pc := 90) (tb_at tkX11_turns 54 rfl) ?_
        refine r_lload (pc := 91) (tb_at tkX11_turns 55 rfl) rfl ?_
        refine r_aload_n (pc := 93) (tb_at tkX11_turns 56 rfl) rfl rfl ?_
        refine r_get 10 15 (pc := 94) (tb_at tkX11_turns 57 rfl) ly_66 flX11_42 rfl ?_
        refine r_bipush (pc := 97) (tb_at tkX11_turns 58 rfl) ⟨by decide, by decide, by decide⟩ ?_
        refine r_iload_n (pc := 99) (tb_at tkX11_turns 59 rfl) rfl rfl ?_
        refine r_imul (pc := 100) (tb_at tkX11_turns 60 rfl) ?_
        refine r_iload (pc := 101) (tb_at tkX11_turns 61 rfl) rfl ?_
        refine r_iadd_l (pc := 103) (tb_at tkX11_turns 62 rfl) ?_
        refine r_lald_w (pc := 104) (tb_at tkX11_turns 63 rfl) ly_77 (by decide) h.1.1 h.1.2 ?_
        replace h := h.2
        refine r_lmul (pc := 105) (tb_at tkX11_turns 64 rfl) ?_
        refine r_lsub_lr (pc := 106) (tb_at tkX11_turns 65 rfl) ?_
        refine r_aload_n (pc := 107) (tb_at tkX11_turns 66 rfl) rfl rfl ?_
        refine r_get 10 20 (pc := 108) (tb_at tkX11_turns 67 rfl) ly_66 flX11_240 rfl ?_
        refine r_ldiv (pc := 111) (tb_at tkX11_turns 68 rfl) h.1 ?_
        replace h := h.2
        refine r_last_w (pc := 112) (tb_at tkX11_turns 69 rfl) ly_77 (by decide) h.1.1 h.1.2 rfl ?_
        replace h := h.2
        refine r_iinc (L' := [some (.inr (.inr (some 66))), some (.inl v1), some (.inl v2), some (.inr (.inl v3)), none, some (.inl v5), some (.inr (.inl v6)), none, some (.inl (w32 (v8 + 1)))]) (pc := 113) (tb_at tkX11_turns 70 rfl) rfl (by decide) rfl ?_
        refine r_goto (tgt := 41) (pc := 116) (tb_at tkX11_turns 71 rfl) (by decide) ?_
        exact h
set_option maxRecDepth 100000 in
set_option maxHeartbeats 4000000 in
theorem gX11_turns_119 {G : GE} {d : Nat} {K : Mem → Prop} {M : Mem} {v1 v2 v3 v5 v6 : Int}  (h : (0 ≤ (8 * v5) + v2 ∧ (8 * v5) + v2 < 1088) ∧ OkV G miX11_turns d K 15 [some (.inr (.inr (some 66))), some (.inl v1), some (.inl v2), some (.inr (.inl v3)), none, some (.inl (w32 (v5 + 1))), none, none, none] [] (mup M 77 ((8 * v5) + v2).toNat (if v5 = v1 then M 66 20 else w64 (-v6)))) : OkV G miX11_turns d K 119 [some (.inr (.inr (some 66))), some (.inl v1), some (.inl v2), some (.inr (.inl v3)), none, some (.inl v5), some (.inr (.inl v6)), none, none] [] M := by
  refine r_aload_n (pc := 119) (tb_at tkX11_turns 72 rfl) rfl rfl ?_
  refine r_get 10 15 (pc := 120) (tb_at tkX11_turns 73 rfl) ly_66 flX11_42 rfl ?_
  refine r_bipush (pc := 123) (tb_at tkX11_turns 74 rfl) ⟨by decide, by decide, by decide⟩ ?_
  refine r_iload (pc := 125) (tb_at tkX11_turns 75 rfl) rfl ?_
  refine r_imul (pc := 127) (tb_at tkX11_turns 76 rfl) ?_
  refine r_iload_n (pc := 128) (tb_at tkX11_turns 77 rfl) rfl rfl ?_
  refine r_iadd_l (pc := 129) (tb_at tkX11_turns 78 rfl) ?_
  refine r_iload (pc := 130) (tb_at tkX11_turns 79 rfl) rfl ?_
  refine r_iload_n (pc := 132) (tb_at tkX11_turns 80 rfl) rfl rfl ?_
  have hJ1 : ∀ t0 : Int, t0 = (if v5 = v1 then M 66 20 else w64 (-v6)) → OkV G miX11_turns d K 146 [some (.inr (.inr (some 66))), some (.inl v1), some (.inl v2), some (.inr (.inl v3)), none, some (.inl v5), some (.inr (.inl v6)), none, none] [.inr (.inl t0), .inl (w32 ((8 * v5) + v2)), .inr (.inr (some 77))] M := by
    rintro _ rfl
    refine r_last_w (pc := 146) (tb_at tkX11_turns 87 rfl) ly_77 (by decide) h.1.1 h.1.2 rfl ?_
    replace h := h.2
    refine r_iinc (L' := [some (.inr (.inr (some 66))), some (.inl v1), some (.inl v2), some (.inr (.inl v3)), none, some (.inl (w32 (v5 + 1))), some (.inr (.inl v6)), none, none]) (pc := 147) (tb_at tkX11_turns 88 rfl) rfl (by decide) rfl ?_
    refine r_goto (tgt := 15) (pc := 150) (tb_at tkX11_turns 89 rfl) (by decide) ?_
    exact Ok.forget h (And.intro rfl (And.intro rfl (And.intro rfl (And.intro rfl (And.intro rfl trivial)))))
  refine q_icmp_ne (tgt := 143) (pc := 133) (tb_at tkX11_turns 81 rfl) (by decide) (fun c2 => ?_) (fun c2 => ?_)
  · refine r_lload (pc := 143) (tb_at tkX11_turns 85 rfl) rfl ?_
    refine r_lneg (pc := 145) (tb_at tkX11_turns 86 rfl) ?_
    exact hJ1 _ (by simp only [if_neg c2])
  · refine r_aload_n (pc := 136) (tb_at tkX11_turns 82 rfl) rfl rfl ?_
    refine r_get 10 20 (pc := 137) (tb_at tkX11_turns 83 rfl) ly_66 flX11_240 rfl ?_
    refine r_goto (tgt := 146) (pc := 140) (tb_at tkX11_turns 84 rfl) (by decide) ?_
    exact hJ1 _ (by simp only [if_pos c2])
set_option maxRecDepth 100000 in
set_option maxHeartbeats 4000000 in
theorem gX11_isBound_0 {G : GE} {d : Nat} {K : Int → Mem → Prop} {M : Mem}  (h : CalI G miX11_areInSome d [.inr (.inr (some 66))] M (fun x2 M1 => ((¬ x2 = 0 → CalV G miX11_laysTable d [.inr (.inr (some 66))] M1 (fun M3 => CalI G miX11_comes d [.inr (.inr (some 66))] M3 (fun x5 M4 => OkI G miX11_isBound (d + 1) K 18 [some (.inr (.inr (some 66))), some (.inl x5)] [] M4))) ∧ (x2 = 0 → K 0 M1)))) : OkI G miX11_isBound (d + 1) K 0 [some (.inr (.inr (some 66))), none] [] M := by
  refine r_aload_n (pc := 0) (tb_at tkX11_isBound 0 rfl) rfl rfl ?_
  refine r_invV (mc' := 0) (ms' := 0) [] (S := []) (pc := 1) (tb_at tkX11_isBound 1 rfl) rfl ly_66 rfl rfl clX11_247 (Nat.le_of_ble_eq_true rfl) (Nat.le_refl _) (Nat.le_refl _) ?_
  refine Cal.mono h ?_
  rintro _ _ M1 ⟨x2, rfl, rfl, h⟩
  show OkI G miX11_isBound (d + 1) K 4 [some (.inr (.inr (some 66))), none] [.inl x2] M1
  refine q_if_ne (tgt := 9) (pc := 4) (tb_at tkX11_isBound 2 rfl) (by decide) (fun c => ?_) (fun c => ?_)
  · replace h := h.1 c
    refine r_aload_n (pc := 9) (tb_at tkX11_isBound 5 rfl) rfl rfl ?_
    refine r_invV (mc' := 0) (ms' := 0) [] (S := []) (pc := 10) (tb_at tkX11_isBound 6 rfl) rfl ly_66 rfl rfl clX11_251 (Nat.le_of_ble_eq_true rfl) (Nat.le_refl _) (Nat.le_refl _) ?_
    refine Cal.mono h ?_
    rintro _ _ M3 ⟨rfl, rfl, h⟩
    show OkI G miX11_isBound (d + 1) K 13 [some (.inr (.inr (some 66))), none] [] M3
    refine r_aload_n (pc := 13) (tb_at tkX11_isBound 7 rfl) rfl rfl ?_
    refine r_invV (mc' := 0) (ms' := 0) [] (S := []) (pc := 14) (tb_at tkX11_isBound 8 rfl) rfl ly_66 rfl rfl clX11_254 (Nat.le_of_ble_eq_true rfl) (Nat.le_refl _) (Nat.le_refl _) ?_
    refine Cal.mono h ?_
    rintro _ _ M4 ⟨x5, rfl, rfl, h⟩
    show OkI G miX11_isBound (d + 1) K 17 [some (.inr (.inr (some 66))), none] [.inl x5] M4
    refine r_istore_n (L' := [some (.inr (.inr (some 66))), some (.inl x5)]) (pc := 17) (tb_at tkX11_isBound 9 rfl) rfl (by decide) rfl ?_
    exact h
  · replace h := h.2 c
    refine r_iconst (pc := 7) (tb_at tkX11_isBound 3 rfl) ⟨by decide, by decide⟩ ?_
    exact r_zret (pc := 8) (tb_at tkX11_isBound 4 rfl) rfl (by decide) (Nat.le_refl _) (Nat.le_refl _) ⟨_, rfl, rfl, h⟩
set_option maxRecDepth 100000 in
set_option maxHeartbeats 4000000 in
theorem gX11_isBound_18 {G : GE} {d : Nat} {K : Int → Mem → Prop} {M : Mem} {v1 : Int}  (h : ((v1 < 0 → K 1 M) ∧ (0 ≤ v1 → CalI G miX11_goes d [.inr (.inr (some 66)), .inl v1] M (fun x2 M1 => CalV G miX11_turns d [.inr (.inr (some 66)), .inl x2, .inl v1] M1 (fun M3 => CalI G miX11_comes d [.inr (.inr (some 66))] M3 (fun x5 M4 => OkI G miX11_isBound (d + 1) K 18 [some (.inr (.inr (some 66))), some (.inl x5)] [] M4)))))) : OkI G miX11_isBound (d + 1) K 18 [some (.inr (.inr (some 66))), some (.inl v1)] [] M := by
  refine r_iload_n (pc := 18) (tb_at tkX11_isBound 10 rfl) rfl rfl ?_
  refine q_if_lt (tgt := 40) (pc := 19) (tb_at tkX11_isBound 11 rfl) (by decide) (fun c => ?_) (fun c => ?_)
  · replace h := h.1 c
    refine r_iconst (pc := 40) (tb_at tkX11_isBound 22 rfl) ⟨by decide, by decide⟩ ?_
    exact r_zret (pc := 41) (tb_at tkX11_isBound 23 rfl) rfl (by decide) (Nat.le_refl _) (Nat.le_refl _) ⟨_, rfl, rfl, h⟩
  · replace h := h.2 c
    refine r_aload_n (pc := 22) (tb_at tkX11_isBound 12 rfl) rfl rfl ?_
    refine r_aload_n (pc := 23) (tb_at tkX11_isBound 13 rfl) rfl rfl ?_
    refine r_iload_n (pc := 24) (tb_at tkX11_isBound 14 rfl) rfl rfl ?_
    refine r_invV (mc' := 0) (ms' := 0) [.inl v1] (S := [.inr (.inr (some 66))]) (pc := 25) (tb_at tkX11_isBound 15 rfl) rfl ly_66 rfl rfl clX11_257 (Nat.le_of_ble_eq_true rfl) (Nat.le_refl _) (Nat.le_refl _) ?_
    refine Cal.mono h ?_
    rintro _ _ M1 ⟨x2, rfl, rfl, h⟩
    show OkI G miX11_isBound (d + 1) K 28 [some (.inr (.inr (some 66))), some (.inl v1)] [.inl x2, .inr (.inr (some 66))] M1
    refine r_iload_n (pc := 28) (tb_at tkX11_isBound 16 rfl) rfl rfl ?_
    refine r_invV (mc' := 0) (ms' := 0) [.inl x2, .inl v1] (S := []) (pc := 29) (tb_at tkX11_isBound 17 rfl) rfl ly_66 rfl rfl clX11_260 (Nat.le_of_ble_eq_true rfl) (Nat.le_refl _) (Nat.le_refl _) ?_
    refine Cal.mono h ?_
    rintro _ _ M3 ⟨rfl, rfl, h⟩
    show OkI G miX11_isBound (d + 1) K 32 [some (.inr (.inr (some 66))), some (.inl v1)] [] M3
    refine r_aload_n (pc := 32) (tb_at tkX11_isBound 18 rfl) rfl rfl ?_
    refine r_invV (mc' := 0) (ms' := 0) [] (S := []) (pc := 33) (tb_at tkX11_isBound 19 rfl) rfl ly_66 rfl rfl clX11_254 (Nat.le_of_ble_eq_true rfl) (Nat.le_refl _) (Nat.le_refl _) ?_
    refine Cal.mono h ?_
    rintro _ _ M4 ⟨x5, rfl, rfl, h⟩
    show OkI G miX11_isBound (d + 1) K 36 [some (.inr (.inr (some 66))), some (.inl v1)] [.inl x5] M4
    refine r_istore_n (L' := [some (.inr (.inr (some 66))), some (.inl x5)]) (pc := 36) (tb_at tkX11_isBound 20 rfl) rfl (by decide) rfl ?_
    refine r_goto (tgt := 18) (pc := 37) (tb_at tkX11_isBound 21 rfl) (by decide) ?_
    exact h
set_option maxRecDepth 100000 in
set_option maxHeartbeats 4000000 in
theorem gX11_lowest_0 {G : GE} {d : Nat} {K : Int → Mem → Prop} {M : Mem} {v0 v2 v4 : Int}  (h : OkL G miX11_lowest d K 6 [some (.inr (.inl v0)), none, some (.inr (.inl v2)), none, some (.inl v4), some (.inr (.inl v0)), none, some (.inr (.inl v2)), none, none, none] [] M) : OkL G miX11_lowest d K 0 [some (.inr (.inl v0)), none, some (.inr (.inl v2)), none, some (.inl v4), none, none, none, none, none, none] [] M := by
  refine r_lload_n (pc := 0) (tb_at tkX11_lowest 0 rfl) rfl rfl ?_
  refine r_lstore (L' := [some (.inr (.inl v0)), none, some (.inr (.inl v2)), none, some (.inl v4), some (.inr (.inl v0)), none, none, none, none, none]) (pc := 1) (tb_at tkX11_lowest 1 rfl) (by decide) rfl ?_
  refine r_lload_n (pc := 3) (tb_at tkX11_lowest 2 rfl) rfl rfl ?_
  refine r_lstore (L' := [some (.inr (.inl v0)), none, some (.inr (.inl v2)), none, some (.inl v4), some (.inr (.inl v0)), none, some (.inr (.inl v2)), none, none, none]) (pc := 4) (tb_at tkX11_lowest 3 rfl) (by decide) rfl ?_
  exact h
set_option maxRecDepth 100000 in
set_option maxHeartbeats 4000000 in
theorem gX11_lowest_6 {G : GE} {d : Nat} {K : Int → Mem → Prop} {M : Mem} {v0 v2 v4 v5 v7 : Int}  (h : ((v7 = 0 → ¬ v5 = 0 ∧ K (ldiv (if v4 = 0 then v0 else v2) v5) M) ∧ (¬ v7 = 0 → ¬ v7 = 0 ∧ OkL G miX11_lowest d K 6 [some (.inr (.inl v0)), none, some (.inr (.inl v2)), none, some (.inl v4), some (.inr (.inl v7)), none, some (.inr (.inl (lrem v5 v7))), none, none, none] [] M))) : OkL G miX11_lowest d K 6 [some (.inr (.inl v0)), none, some (.inr (.inl v2)), none, some (.inl v4), some (.inr (.inl v5)), none, some (.inr (.inl v7)), none, none, none] [] M := by
  refine r_lload (pc := 6) (tb_at tkX11_lowest 4 rfl) rfl ?_
  refine r_lconst (v := 0) (pc := 8) (tb_at tkX11_lowest 5 rfl) ⟨by decide, by decide, by decide⟩ ?_
  refine r_lcmp (pc := 9) (tb_at tkX11_lowest 6 rfl) ?_
  refine q_lif_eq (tgt := 31) (pc := 10) (tb_at tkX11_lowest 7 rfl) (by decide) (fun c => ?_) (fun c => ?_)
  · replace h := h.1 c
    refine r_iload (pc := 31) (tb_at tkX11_lowest 17 rfl) rfl ?_
    have hJ1 : ∀ t0 : Int, t0 = (if v4 = 0 then v0 else v2) → OkL G miX11_lowest d K 41 [some (.inr (.inl v0)), none, some (.inr (.inl v2)), none, some (.inl v4), some (.inr (.inl v5)), none, some (.inr (.inl v7)), none, none, none] [.inr (.inl t0)] M := by
      rintro _ rfl
      refine r_lload (pc := 41) (tb_at tkX11_lowest 22 rfl) rfl ?_
      refine r_ldiv (pc := 43) (tb_at tkX11_lowest 23 rfl) h.1 ?_
      replace h := h.2
      exact r_lret (pc := 44) (tb_at tkX11_lowest 24 rfl) rfl (Nat.le_refl _) (Nat.le_refl _) ⟨_, rfl, rfl, h⟩
    refine q_if_ne (tgt := 40) (pc := 33) (tb_at tkX11_lowest 18 rfl) (by decide) (fun c2 => ?_) (fun c2 => ?_)
    · refine r_lload_n (pc := 40) (tb_at tkX11_lowest 21 rfl) rfl rfl ?_
      exact hJ1 _ (by simp only [if_neg c2])
    · refine r_lload_n (pc := 36) (tb_at tkX11_lowest 19 rfl) rfl rfl ?_
      refine r_goto (tgt := 41) (pc := 37) (tb_at tkX11_lowest 20 rfl) (by decide) ?_
      exact hJ1 _ (by simp only [if_pos c2])
  · replace h := h.2 c
    refine r_lload (pc := 13) (tb_at tkX11_lowest 8 rfl) rfl ?_
    refine r_lload (pc := 15) (tb_at tkX11_lowest 9 rfl) rfl ?_
    refine r_lrem (pc := 17) (tb_at tkX11_lowest 10 rfl) h.1 ?_
    replace h := h.2
    refine r_lstore (L' := [some (.inr (.inl v0)), none, some (.inr (.inl v2)), none, some (.inl v4), some (.inr (.inl v5)), none, some (.inr (.inl v7)), none, some (.inr (.inl (lrem v5 v7))), none]) (pc := 18) (tb_at tkX11_lowest 11 rfl) (by decide) rfl ?_
    refine r_lload (pc := 20) (tb_at tkX11_lowest 12 rfl) rfl ?_
    refine r_lstore (L' := [some (.inr (.inl v0)), none, some (.inr (.inl v2)), none, some (.inl v4), some (.inr (.inl v7)), none, some (.inr (.inl v7)), none, some (.inr (.inl (lrem v5 v7))), none]) (pc := 22) (tb_at tkX11_lowest 13 rfl) (by decide) rfl ?_
    refine r_lload (pc := 24) (tb_at tkX11_lowest 14 rfl) rfl ?_
    refine r_lstore (L' := [some (.inr (.inl v0)), none, some (.inr (.inl v2)), none, some (.inl v4), some (.inr (.inl v7)), none, some (.inr (.inl (lrem v5 v7))), none, some (.inr (.inl (lrem v5 v7))), none]) (pc := 26) (tb_at tkX11_lowest 15 rfl) (by decide) rfl ?_
    refine r_goto (tgt := 6) (pc := 28) (tb_at tkX11_lowest 16 rfl) (by decide) ?_
    exact Ok.forget h (And.intro rfl (And.intro rfl (And.intro rfl (And.intro rfl (And.intro rfl trivial)))))
set_option maxRecDepth 100000 in
set_option maxHeartbeats 4000000 in
theorem gX11_boundAbove_0 {G : GE} {d : Nat} {K : Int → Mem → Prop} {M : Mem}  (h : (0 ≤ (8 * (M 66 18)) + (M 67 0) ∧ (8 * (M 66 18)) + (M 67 0) < 1088) ∧ K (M 77 ((8 * (M 66 18)) + (M 67 0)).toNat) M) : OkL G miX11_boundAbove d K 0 [some (.inr (.inr (some 66)))] [] M := by
  refine r_aload_n (pc := 0) (tb_at tkX11_boundAbove 0 rfl) rfl rfl ?_
  refine r_get 10 15 (pc := 1) (tb_at tkX11_boundAbove 1 rfl) ly_66 flX11_42 rfl ?_
  refine r_bipush (pc := 4) (tb_at tkX11_boundAbove 2 rfl) ⟨by decide, by decide, by decide⟩ ?_
  refine r_aload_n (pc := 6) (tb_at tkX11_boundAbove 3 rfl) rfl rfl ?_
  refine r_get 10 18 (pc := 7) (tb_at tkX11_boundAbove 4 rfl) ly_66 flX11_232 rfl ?_
  refine r_imul (pc := 10) (tb_at tkX11_boundAbove 5 rfl) ?_
  refine r_aload_n (pc := 11) (tb_at tkX11_boundAbove 6 rfl) rfl rfl ?_
  refine r_get 10 0 (pc := 12) (tb_at tkX11_boundAbove 7 rfl) ly_66 flX11_11 rfl ?_
  refine r_iconst (pc := 15) (tb_at tkX11_boundAbove 8 rfl) ⟨by decide, by decide⟩ ?_
  refine r_iald_k (k0 := 0) (pc := 16) (tb_at tkX11_boundAbove 9 rfl) ly_67 rfl (by decide) (by decide) ?_
  refine r_iadd_l (pc := 17) (tb_at tkX11_boundAbove 10 rfl) ?_
  refine r_lald_w (pc := 18) (tb_at tkX11_boundAbove 11 rfl) ly_77 (by decide) h.1.1 h.1.2 ?_
  replace h := h.2
  exact r_lret (pc := 19) (tb_at tkX11_boundAbove 12 rfl) rfl (Nat.le_refl _) (Nat.le_refl _) ⟨_, rfl, rfl, h⟩
set_option maxRecDepth 100000 in
set_option maxHeartbeats 4000000 in
theorem gX11_bound_0 {G : GE} {d : Nat} {K : Int → Mem → Prop} {M : Mem} {v1 : Int}  (h : CalI G miX11_in d [.inr (.inl v1), .inr (.inl 0), .inr (.inl 1)] M (fun x2 M1 => ((¬ x2 = 0 → CalV G miX11_reckons d [.inr (.inr (some 66))] M1 (fun M3 => CalI G miX11_isBound d [.inr (.inr (some 66))] M3 (fun x5 M4 => ((x5 = 0 → K (-9223372036854775808) M4) ∧ (¬ x5 = 0 → CalL G miX11_boundAbove d [.inr (.inr (some 66))] M4 (fun x7 M6 => CalL G miX11_lowest d [.inr (.inl x7), .inr (.inl (M6 66 20)), .inl v1] M6 (fun x9 M8 => K x9 M8))))))) ∧ (x2 = 0 → K (-9223372036854775808) M1)))) : OkL G miX11_bound (d + 1) K 0 [some (.inr (.inr (some 66))), some (.inl v1)] [] M := by
  refine r_iload_n (pc := 0) (tb_at tkX11_bound 0 rfl) rfl rfl ?_
  refine r_i2l (pc := 1) (tb_at tkX11_bound 1 rfl) ?_
  refine r_lconst (v := 0) (pc := 2) (tb_at tkX11_bound 2 rfl) ⟨by decide, by decide, by decide⟩ ?_
  refine r_lconst (v := 1) (pc := 3) (tb_at tkX11_bound 3 rfl) ⟨by decide, by decide, by decide⟩ ?_
  refine r_invS (mc' := 0) (ms' := 0) [.inr (.inl v1), .inr (.inl 0), .inr (.inl 1)] (S := []) (pc := 4) (tb_at tkX11_bound 4 rfl) rfl clX11_103 (Nat.le_of_ble_eq_true rfl) (Nat.le_refl _) (Nat.le_refl _) ?_
  refine Cal.mono h ?_
  rintro _ _ M1 ⟨x2, rfl, rfl, h⟩
  show OkL G miX11_bound (d + 1) K 7 [some (.inr (.inr (some 66))), some (.inl v1)] [.inl x2] M1
  refine q_if_ne (tgt := 14) (pc := 7) (tb_at tkX11_bound 5 rfl) (by decide) (fun c => ?_) (fun c => ?_)
  · replace h := h.1 c
    refine r_aload_n (pc := 14) (tb_at tkX11_bound 8 rfl) rfl rfl ?_
    refine r_invV (mc' := 0) (ms' := 0) [] (S := []) (pc := 15) (tb_at tkX11_bound 9 rfl) rfl ly_66 rfl rfl clX11_212 (Nat.le_of_ble_eq_true rfl) (Nat.le_refl _) (Nat.le_refl _) ?_
    refine Cal.mono h ?_
    rintro _ _ M3 ⟨rfl, rfl, h⟩
    show OkL G miX11_bound (d + 1) K 18 [some (.inr (.inr (some 66))), some (.inl v1)] [] M3
    refine r_aload_n (pc := 18) (tb_at tkX11_bound 10 rfl) rfl rfl ?_
    refine r_invV (mc' := 0) (ms' := 0) [] (S := []) (pc := 19) (tb_at tkX11_bound 11 rfl) rfl ly_66 rfl rfl clX11_266 (Nat.le_of_ble_eq_true rfl) (Nat.le_refl _) (Nat.le_refl _) ?_
    refine Cal.mono h ?_
    rintro _ _ M4 ⟨x5, rfl, rfl, h⟩
    show OkL G miX11_bound (d + 1) K 22 [some (.inr (.inr (some 66))), some (.inl v1)] [.inl x5] M4
    refine q_if_eq (tgt := 40) (pc := 22) (tb_at tkX11_bound 12 rfl) (by decide) (fun c => ?_) (fun c => ?_)
    · replace h := h.1 c
      refine r_ldc2 (n := -9223372036854775808) (pc := 40) (tb_at tkX11_bound 20 rfl) kcX11_264 ⟨by decide, by decide⟩ ?_
      exact r_lret (pc := 43) (tb_at tkX11_bound 21 rfl) rfl (Nat.le_refl _) (Nat.le_refl _) ⟨_, rfl, rfl, h⟩
    · replace h := h.2 c
      refine r_aload_n (pc := 25) (tb_at tkX11_bound 13 rfl) rfl rfl ?_
      refine r_invV (mc' := 0) (ms' := 0) [] (S := []) (pc := 26) (tb_at tkX11_bound 14 rfl) rfl ly_66 rfl rfl clX11_269 (Nat.le_of_ble_eq_true rfl) (Nat.le_refl _) (Nat.le_refl _) ?_
      refine Cal.mono h ?_
      rintro _ _ M6 ⟨x7, rfl, rfl, h⟩
      show OkL G miX11_bound (d + 1) K 29 [some (.inr (.inr (some 66))), some (.inl v1)] [.inr (.inl x7)] M6
      refine r_aload_n (pc := 29) (tb_at tkX11_bound 15 rfl) rfl rfl ?_
      refine r_get 10 20 (pc := 30) (tb_at tkX11_bound 16 rfl) ly_66 flX11_240 rfl ?_
      refine r_iload_n (pc := 33) (tb_at tkX11_bound 17 rfl) rfl rfl ?_
      refine r_invS (mc' := 0) (ms' := 0) [.inr (.inl x7), .inr (.inl (M6 66 20)), .inl v1] (S := []) (pc := 34) (tb_at tkX11_bound 18 rfl) rfl clX11_273 (Nat.le_of_ble_eq_true rfl) (Nat.le_refl _) (Nat.le_refl _) ?_
      refine Cal.mono h ?_
      rintro _ _ M8 ⟨x9, rfl, rfl, h⟩
      show OkL G miX11_bound (d + 1) K 37 [some (.inr (.inr (some 66))), some (.inl v1)] [.inr (.inl x9)] M8
      refine r_goto (tgt := 43) (pc := 37) (tb_at tkX11_bound 19 rfl) (by decide) ?_
      exact r_lret (pc := 43) (tb_at tkX11_bound 21 rfl) rfl (Nat.le_refl _) (Nat.le_refl _) ⟨_, rfl, rfl, h⟩
  · replace h := h.2 c
    refine r_ldc2 (n := -9223372036854775808) (pc := 10) (tb_at tkX11_bound 6 rfl) kcX11_264 ⟨by decide, by decide⟩ ?_
    exact r_lret (pc := 13) (tb_at tkX11_bound 7 rfl) rfl (Nat.le_refl _) (Nat.le_refl _) ⟨_, rfl, rfl, h⟩
set_option maxRecDepth 100000 in
set_option maxHeartbeats 4000000 in
theorem gX11_price_0 {G : GE} {d : Nat} {K : Int → Mem → Prop} {M : Mem} {v1 v2 : Int}  (h : CalI G miX11_isFlight d [.inr (.inr (some 66)), .inl v1] M (fun x2 M1 => ((x2 = 0 → K (-9223372036854775808) M1) ∧ (¬ x2 = 0 → CalI G miX11_in d [.inr (.inl v2), .inr (.inl 0), .inr (.inl 1)] M1 (fun x4 M3 => ((¬ x4 = 0 → CalV G miX11_reckons d [.inr (.inr (some 66))] M3 (fun M5 => CalI G miX11_isBound d [.inr (.inr (some 66))] M5 (fun x7 M6 => ((x7 = 0 → K (-9223372036854775808) M6) ∧ (¬ x7 = 0 → (0 ≤ (8 * (((M6 66 18) + 1) + v1)) + (M6 67 0) ∧ (8 * (((M6 66 18) + 1) + v1)) + (M6 67 0) < 1088) ∧ CalL G miX11_lowest d [.inr (.inl (M6 77 ((8 * (((M6 66 18) + 1) + v1)) + (M6 67 0)).toNat)), .inr (.inl (M6 66 20)), .inl v2] M6 (fun x9 M8 => K x9 M8)))))) ∧ (x4 = 0 → K (-9223372036854775808) M3))))))) : OkL G miX11_price (d + 1) K 0 [some (.inr (.inr (some 66))), some (.inl v1), some (.inl v2)] [] M := by
  refine r_aload_n (pc := 0) (tb_at tkX11_price 0 rfl) rfl rfl ?_
  refine r_iload_n (pc := 1) (tb_at tkX11_price 1 rfl) rfl rfl ?_
  refine r_invV (mc' := 0) (ms' := 0) [.inl v1] (S := []) (pc := 2) (tb_at tkX11_price 2 rfl) rfl ly_66 rfl rfl clX11_109 (Nat.le_of_ble_eq_true rfl) (Nat.le_refl _) (Nat.le_refl _) ?_
  refine Cal.mono h ?_
  rintro _ _ M1 ⟨x2, rfl, rfl, h⟩
  show OkL G miX11_price (d + 1) K 5 [some (.inr (.inr (some 66))), some (.inl v1), some (.inl v2)] [.inl x2] M1
  refine q_if_eq (tgt := 18) (pc := 5) (tb_at tkX11_price 3 rfl) (by decide) (fun c => ?_) (fun c => ?_)
  · replace h := h.1 c
    refine r_ldc2 (n := -9223372036854775808) (pc := 18) (tb_at tkX11_price 10 rfl) kcX11_264 ⟨by decide, by decide⟩ ?_
    exact r_lret (pc := 21) (tb_at tkX11_price 11 rfl) rfl (Nat.le_refl _) (Nat.le_refl _) ⟨_, rfl, rfl, h⟩
  · replace h := h.2 c
    refine r_iload_n (pc := 8) (tb_at tkX11_price 4 rfl) rfl rfl ?_
    refine r_i2l (pc := 9) (tb_at tkX11_price 5 rfl) ?_
    refine r_lconst (v := 0) (pc := 10) (tb_at tkX11_price 6 rfl) ⟨by decide, by decide, by decide⟩ ?_
    refine r_lconst (v := 1) (pc := 11) (tb_at tkX11_price 7 rfl) ⟨by decide, by decide, by decide⟩ ?_
    refine r_invS (mc' := 0) (ms' := 0) [.inr (.inl v2), .inr (.inl 0), .inr (.inl 1)] (S := []) (pc := 12) (tb_at tkX11_price 8 rfl) rfl clX11_103 (Nat.le_of_ble_eq_true rfl) (Nat.le_refl _) (Nat.le_refl _) ?_
    refine Cal.mono h ?_
    rintro _ _ M3 ⟨x4, rfl, rfl, h⟩
    show OkL G miX11_price (d + 1) K 15 [some (.inr (.inr (some 66))), some (.inl v1), some (.inl v2)] [.inl x4] M3
    refine q_if_ne (tgt := 22) (pc := 15) (tb_at tkX11_price 9 rfl) (by decide) (fun c => ?_) (fun c => ?_)
    · replace h := h.1 c
      refine r_aload_n (pc := 22) (tb_at tkX11_price 12 rfl) rfl rfl ?_
      refine r_invV (mc' := 0) (ms' := 0) [] (S := []) (pc := 23) (tb_at tkX11_price 13 rfl) rfl ly_66 rfl rfl clX11_212 (Nat.le_of_ble_eq_true rfl) (Nat.le_refl _) (Nat.le_refl _) ?_
      refine Cal.mono h ?_
      rintro _ _ M5 ⟨rfl, rfl, h⟩
      show OkL G miX11_price (d + 1) K 26 [some (.inr (.inr (some 66))), some (.inl v1), some (.inl v2)] [] M5
      refine r_aload_n (pc := 26) (tb_at tkX11_price 14 rfl) rfl rfl ?_
      refine r_invV (mc' := 0) (ms' := 0) [] (S := []) (pc := 27) (tb_at tkX11_price 15 rfl) rfl ly_66 rfl rfl clX11_266 (Nat.le_of_ble_eq_true rfl) (Nat.le_refl _) (Nat.le_refl _) ?_
      refine Cal.mono h ?_
      rintro _ _ M6 ⟨x7, rfl, rfl, h⟩
      show OkL G miX11_price (d + 1) K 30 [some (.inr (.inr (some 66))), some (.inl v1), some (.inl v2)] [.inl x7] M6
      refine q_if_eq (tgt := 67) (pc := 30) (tb_at tkX11_price 16 rfl) (by decide) (fun c => ?_) (fun c => ?_)
      · replace h := h.1 c
        refine r_ldc2 (n := -9223372036854775808) (pc := 67) (tb_at tkX11_price 38 rfl) kcX11_264 ⟨by decide, by decide⟩ ?_
        exact r_lret (pc := 70) (tb_at tkX11_price 39 rfl) rfl (Nat.le_refl _) (Nat.le_refl _) ⟨_, rfl, rfl, h⟩
      · replace h := h.2 c
        refine r_aload_n (pc := 33) (tb_at tkX11_price 17 rfl) rfl rfl ?_
        refine r_get 10 15 (pc := 34) (tb_at tkX11_price 18 rfl) ly_66 flX11_42 rfl ?_
        refine r_bipush (pc := 37) (tb_at tkX11_price 19 rfl) ⟨by decide, by decide, by decide⟩ ?_
        refine r_aload_n (pc := 39) (tb_at tkX11_price 20 rfl) rfl rfl ?_
        refine r_get 10 18 (pc := 40) (tb_at tkX11_price 21 rfl) ly_66 flX11_232 rfl ?_
        refine r_iconst (pc := 43) (tb_at tkX11_price 22 rfl) ⟨by decide, by decide⟩ ?_
        refine r_iadd (pc := 44) (tb_at tkX11_price 23 rfl) ?_
        refine r_iload_n (pc := 45) (tb_at tkX11_price 24 rfl) rfl rfl ?_
        refine r_iadd_l (pc := 46) (tb_at tkX11_price 25 rfl) ?_
        refine r_imul_r (pc := 47) (tb_at tkX11_price 26 rfl) ?_
        refine r_aload_n (pc := 48) (tb_at tkX11_price 27 rfl) rfl rfl ?_
        refine r_get 10 0 (pc := 49) (tb_at tkX11_price 28 rfl) ly_66 flX11_11 rfl ?_
        refine r_iconst (pc := 52) (tb_at tkX11_price 29 rfl) ⟨by decide, by decide⟩ ?_
        refine r_iald_k (k0 := 0) (pc := 53) (tb_at tkX11_price 30 rfl) ly_67 rfl (by decide) (by decide) ?_
        refine r_iadd_l (pc := 54) (tb_at tkX11_price 31 rfl) ?_
        refine r_lald_w (pc := 55) (tb_at tkX11_price 32 rfl) ly_77 (by decide) h.1.1 h.1.2 ?_
        replace h := h.2
        refine r_aload_n (pc := 56) (tb_at tkX11_price 33 rfl) rfl rfl ?_
        refine r_get 10 20 (pc := 57) (tb_at tkX11_price 34 rfl) ly_66 flX11_240 rfl ?_
        refine r_iload_n (pc := 60) (tb_at tkX11_price 35 rfl) rfl rfl ?_
        refine r_invS (mc' := 0) (ms' := 0) [.inr (.inl (M6 77 ((8 * (((M6 66 18) + 1) + v1)) + (M6 67 0)).toNat)), .inr (.inl (M6 66 20)), .inl v2] (S := []) (pc := 61) (tb_at tkX11_price 36 rfl) rfl clX11_273 (Nat.le_of_ble_eq_true rfl) (Nat.le_refl _) (Nat.le_refl _) ?_
        refine Cal.mono h ?_
        rintro _ _ M8 ⟨x9, rfl, rfl, h⟩
        show OkL G miX11_price (d + 1) K 64 [some (.inr (.inr (some 66))), some (.inl v1), some (.inl v2)] [.inr (.inl x9)] M8
        refine r_goto (tgt := 70) (pc := 64) (tb_at tkX11_price 37 rfl) (by decide) ?_
        exact r_lret (pc := 70) (tb_at tkX11_price 39 rfl) rfl (Nat.le_refl _) (Nat.le_refl _) ⟨_, rfl, rfl, h⟩
    · replace h := h.2 c
      refine r_ldc2 (n := -9223372036854775808) (pc := 18) (tb_at tkX11_price 10 rfl) kcX11_264 ⟨by decide, by decide⟩ ?_
      exact r_lret (pc := 21) (tb_at tkX11_price 11 rfl) rfl (Nat.le_refl _) (Nat.le_refl _) ⟨_, rfl, rfl, h⟩
set_option maxRecDepth 100000 in
set_option maxHeartbeats 4000000 in
theorem gX11_branch_0 {G : GE} {d : Nat} {K : Int → Mem → Prop} {M : Mem} {v1 v2 v3 v4 : Int}  (h : CalI G miX11_areTwo d [.inr (.inr (some 66)), .inl v1, .inl v2] M (fun x2 M1 => ((x2 = 0 → K (-9223372036854775808) M1) ∧ (¬ x2 = 0 → CalI G miX11_in d [.inr (.inl v3), .inr (.inl 1), .inr (.inl 2)] M1 (fun x4 M3 => ((x4 = 0 → K (-9223372036854775808) M3) ∧ (¬ x4 = 0 → CalI G miX11_in d [.inr (.inl v4), .inr (.inl 0), .inr (.inl 1)] M3 (fun x6 M5 => ((¬ x6 = 0 → CalI G miX11_becomes d [.inr (.inr (some 66)), .inl (w32 ((29 + (7 * v1)) + v2)), .inl v3] M5 (fun x8 M7 => CalL G miX11_bound d [.inr (.inr (some 66)), .inl v4] M7 (fun x10 M9 => (0 ≤ (29 + (7 * v1)) + v2 ∧ (29 + (7 * v1)) + v2 < 92) ∧ K x10 (mup M9 67 ((29 + (7 * v1)) + v2).toNat x8)))) ∧ (x6 = 0 → K (-9223372036854775808) M5)))))))))) : OkL G miX11_branch (d + 1) K 0 [some (.inr (.inr (some 66))), some (.inl v1), some (.inl v2), some (.inl v3), some (.inl v4), none, none, none] [] M := by
  refine r_aload_n (pc := 0) (tb_at tkX11_branch 0 rfl) rfl rfl ?_
  refine r_iload_n (pc := 1) (tb_at tkX11_branch 1 rfl) rfl rfl ?_
  refine r_iload_n (pc := 2) (tb_at tkX11_branch 2 rfl) rfl rfl ?_
  refine r_invV (mc' := 0) (ms' := 0) [.inl v1, .inl v2] (S := []) (pc := 3) (tb_at tkX11_branch 3 rfl) rfl ly_66 rfl rfl clX11_154 (Nat.le_of_ble_eq_true rfl) (Nat.le_refl _) (Nat.le_refl _) ?_
  refine Cal.mono h ?_
  rintro _ _ M1 ⟨x2, rfl, rfl, h⟩
  show OkL G miX11_branch (d + 1) K 6 [some (.inr (.inr (some 66))), some (.inl v1), some (.inl v2), some (.inl v3), some (.inl v4), none, none, none] [.inl x2] M1
  refine q_if_eq (tgt := 32) (pc := 6) (tb_at tkX11_branch 4 rfl) (by decide) (fun c => ?_) (fun c => ?_)
  · replace h := h.1 c
    refine r_ldc2 (n := -9223372036854775808) (pc := 32) (tb_at tkX11_branch 17 rfl) kcX11_264 ⟨by decide, by decide⟩ ?_
    exact r_lret (pc := 35) (tb_at tkX11_branch 18 rfl) rfl (Nat.le_refl _) (Nat.le_refl _) ⟨_, rfl, rfl, h⟩
  · replace h := h.2 c
    refine r_iload_n (pc := 9) (tb_at tkX11_branch 5 rfl) rfl rfl ?_
    refine r_i2l (pc := 10) (tb_at tkX11_branch 6 rfl) ?_
    refine r_lconst (v := 1) (pc := 11) (tb_at tkX11_branch 7 rfl) ⟨by decide, by decide, by decide⟩ ?_
    refine r_ldc2 (n := 2) (pc := 12) (tb_at tkX11_branch 8 rfl) kcX11_157 ⟨by decide, by decide⟩ ?_
    refine r_invS (mc' := 0) (ms' := 0) [.inr (.inl v3), .inr (.inl 1), .inr (.inl 2)] (S := []) (pc := 15) (tb_at tkX11_branch 9 rfl) rfl clX11_103 (Nat.le_of_ble_eq_true rfl) (Nat.le_refl _) (Nat.le_refl _) ?_
    refine Cal.mono h ?_
    rintro _ _ M3 ⟨x4, rfl, rfl, h⟩
    show OkL G miX11_branch (d + 1) K 18 [some (.inr (.inr (some 66))), some (.inl v1), some (.inl v2), some (.inl v3), some (.inl v4), none, none, none] [.inl x4] M3
    refine q_if_eq (tgt := 32) (pc := 18) (tb_at tkX11_branch 10 rfl) (by decide) (fun c => ?_) (fun c => ?_)
    · replace h := h.1 c
      refine r_ldc2 (n := -9223372036854775808) (pc := 32) (tb_at tkX11_branch 17 rfl) kcX11_264 ⟨by decide, by decide⟩ ?_
      exact r_lret (pc := 35) (tb_at tkX11_branch 18 rfl) rfl (Nat.le_refl _) (Nat.le_refl _) ⟨_, rfl, rfl, h⟩
    · replace h := h.2 c
      refine r_iload (pc := 21) (tb_at tkX11_branch 11 rfl) rfl ?_
      refine r_i2l (pc := 23) (tb_at tkX11_branch 12 rfl) ?_
      refine r_lconst (v := 0) (pc := 24) (tb_at tkX11_branch 13 rfl) ⟨by decide, by decide, by decide⟩ ?_
      refine r_lconst (v := 1) (pc := 25) (tb_at tkX11_branch 14 rfl) ⟨by decide, by decide, by decide⟩ ?_
      refine r_invS (mc' := 0) (ms' := 0) [.inr (.inl v4), .inr (.inl 0), .inr (.inl 1)] (S := []) (pc := 26) (tb_at tkX11_branch 15 rfl) rfl clX11_103 (Nat.le_of_ble_eq_true rfl) (Nat.le_refl _) (Nat.le_refl _) ?_
      refine Cal.mono h ?_
      rintro _ _ M5 ⟨x6, rfl, rfl, h⟩
      show OkL G miX11_branch (d + 1) K 29 [some (.inr (.inr (some 66))), some (.inl v1), some (.inl v2), some (.inl v3), some (.inl v4), none, none, none] [.inl x6] M5
      refine q_if_ne (tgt := 36) (pc := 29) (tb_at tkX11_branch 16 rfl) (by decide) (fun c => ?_) (fun c => ?_)
      · replace h := h.1 c
        refine r_aload_n (pc := 36) (tb_at tkX11_branch 19 rfl) rfl rfl ?_
        refine r_bipush (pc := 37) (tb_at tkX11_branch 20 rfl) ⟨by decide, by decide, by decide⟩ ?_
        refine r_bipush (pc := 39) (tb_at tkX11_branch 21 rfl) ⟨by decide, by decide, by decide⟩ ?_
        refine r_iload_n (pc := 41) (tb_at tkX11_branch 22 rfl) rfl rfl ?_
        refine r_imul (pc := 42) (tb_at tkX11_branch 23 rfl) ?_
        refine r_iadd_r (pc := 43) (tb_at tkX11_branch 24 rfl) ?_
        refine r_iload_n (pc := 44) (tb_at tkX11_branch 25 rfl) rfl rfl ?_
        refine r_iadd_l (pc := 45) (tb_at tkX11_branch 26 rfl) ?_
        refine r_iload_n (pc := 46) (tb_at tkX11_branch 27 rfl) rfl rfl ?_
        refine r_invV (mc' := 0) (ms' := 0) [.inl (w32 ((29 + (7 * v1)) + v2)), .inl v3] (S := []) (pc := 47) (tb_at tkX11_branch 28 rfl) rfl ly_66 rfl rfl clX11_126 (Nat.le_of_ble_eq_true rfl) (Nat.le_refl _) (Nat.le_refl _) ?_
        refine Cal.mono h ?_
        rintro _ _ M7 ⟨x8, rfl, rfl, h⟩
        show OkL G miX11_branch (d + 1) K 50 [some (.inr (.inr (some 66))), some (.inl v1), some (.inl v2), some (.inl v3), some (.inl v4), none, none, none] [.inl x8] M7
        refine r_istore (L' := [some (.inr (.inr (some 66))), some (.inl v1), some (.inl v2), some (.inl v3), some (.inl v4), some (.inl x8), none, none]) (pc := 50) (tb_at tkX11_branch 29 rfl) (by decide) rfl ?_
        refine r_aload_n (pc := 52) (tb_at tkX11_branch 30 rfl) rfl rfl ?_
        refine r_iload (pc := 53) (tb_at tkX11_branch 31 rfl) rfl ?_
        refine r_invV (mc' := 0) (ms' := 0) [.inl v4] (S := []) (pc := 55) (tb_at tkX11_branch 32 rfl) rfl ly_66 rfl rfl clX11_277 (Nat.le_of_ble_eq_true rfl) (Nat.le_refl _) (Nat.le_refl _) ?_
        refine Cal.mono h ?_
        rintro _ _ M9 ⟨x10, rfl, rfl, h⟩
        show OkL G miX11_branch (d + 1) K 58 [some (.inr (.inr (some 66))), some (.inl v1), some (.inl v2), some (.inl v3), some (.inl v4), some (.inl x8), none, none] [.inr (.inl x10)] M9
        refine r_lstore (L' := [some (.inr (.inr (some 66))), some (.inl v1), some (.inl v2), some (.inl v3), some (.inl v4), some (.inl x8), some (.inr (.inl x10)), none]) (pc := 58) (tb_at tkX11_branch 33 rfl) (by decide) rfl ?_
        refine r_aload_n (pc := 60) (tb_at tkX11_branch 34 rfl) rfl rfl ?_
        refine r_get 10 0 (pc := 61) (tb_at tkX11_branch 35 rfl) ly_66 flX11_11 rfl ?_
        refine r_bipush (pc := 64) (tb_at tkX11_branch 36 rfl) ⟨by decide, by decide, by decide⟩ ?_
        refine r_bipush (pc := 66) (tb_at tkX11_branch 37 rfl) ⟨by decide, by decide, by decide⟩ ?_
        refine r_iload_n (pc := 68) (tb_at tkX11_branch 38 rfl) rfl rfl ?_
        refine r_imul (pc := 69) (tb_at tkX11_branch 39 rfl) ?_
        refine r_iadd_r (pc := 70) (tb_at tkX11_branch 40 rfl) ?_
        refine r_iload_n (pc := 71) (tb_at tkX11_branch 41 rfl) rfl rfl ?_
        refine r_iadd_l (pc := 72) (tb_at tkX11_branch 42 rfl) ?_
        refine r_iload (pc := 73) (tb_at tkX11_branch 43 rfl) rfl ?_
        refine r_iast_w (pc := 75) (tb_at tkX11_branch 44 rfl) ly_67 (by decide) h.1.1 h.1.2 rfl ?_
        replace h := h.2
        refine r_lload (pc := 76) (tb_at tkX11_branch 45 rfl) rfl ?_
        exact r_lret (pc := 78) (tb_at tkX11_branch 46 rfl) rfl (Nat.le_refl _) (Nat.le_refl _) ⟨_, rfl, rfl, h⟩
      · replace h := h.2 c
        refine r_ldc2 (n := -9223372036854775808) (pc := 32) (tb_at tkX11_branch 17 rfl) kcX11_264 ⟨by decide, by decide⟩ ?_
        exact r_lret (pc := 35) (tb_at tkX11_branch 18 rfl) rfl (Nat.le_refl _) (Nat.le_refl _) ⟨_, rfl, rfl, h⟩
set_option maxRecDepth 100000 in
set_option maxHeartbeats 4000000 in
theorem gX11_isBehind_0 {G : GE} {d : Nat} {K : Int → Mem → Prop} {M : Mem} {v1 v2 : Int}  (h : OkI G miX11_isBehind (d + 1) K 5 [some (.inr (.inr (some 66))), some (.inl v1), some (.inl v2), some (.inl 0), some (.inl 1)] [] M) : OkI G miX11_isBehind (d + 1) K 0 [some (.inr (.inr (some 66))), some (.inl v1), some (.inl v2), none, none] [] M := by
  refine r_iconst (pc := 0) (tb_at tkX11_isBehind 0 rfl) ⟨by decide, by decide⟩ ?_
  refine r_istore_n (L' := [some (.inr (.inr (some 66))), some (.inl v1), some (.inl v2), some (.inl 0), none]) (pc := 1) (tb_at tkX11_isBehind 1 rfl) rfl (by decide) rfl ?_
  refine r_iconst (pc := 2) (tb_at tkX11_isBehind 2 rfl) ⟨by decide, by decide⟩ ?_
  refine r_istore (L' := [some (.inr (.inr (some 66))), some (.inl v1), some (.inl v2), some (.inl 0), some (.inl 1)]) (pc := 3) (tb_at tkX11_isBehind 3 rfl) (by decide) rfl ?_
  exact h
set_option maxRecDepth 100000 in
set_option maxHeartbeats 4000000 in
theorem gX11_isBehind_5 {G : GE} {d : Nat} {K : Int → Mem → Prop} {M : Mem} {v1 v2 v3 v4 : Int}  (h : (((ishl 1 (M 67 0)) ≤ v4 → ((v3 = 0 ∨ v3 = 1) ∧ K v3 M)) ∧ (v4 < (ishl 1 (M 67 0)) → (0 ≤ v4 ∧ v4 < 128) ∧ (((M 71 (v4).toNat) < 0 → OkI G miX11_isBehind (d + 1) K 5 [some (.inr (.inr (some 66))), some (.inl v1), some (.inl v2), some (.inl v3), some (.inl (w32 (v4 + 1)))] [] M) ∧ (0 ≤ (M 71 (v4).toNat) → CalI G miX11_has d [.inl v4, .inl v2] M (fun x2 M1 => ((x2 = 0 → OkI G miX11_isBehind (d + 1) K 5 [some (.inr (.inr (some 66))), some (.inl v1), some (.inl v2), some (.inl v3), some (.inl (w32 (v4 + 1)))] [] M1) ∧ (¬ x2 = 0 → CalV G miX11_lines d [.inr (.inr (some 66)), .inl v4] M1 (fun M3 => ((¬ v3 = 0 → OkI G miX11_isBehind (d + 1) K 5 [some (.inr (.inr (some 66))), some (.inl v1), some (.inl v2), some (.inl 1), some (.inl (w32 (v4 + 1)))] [] M3) ∧ (v3 = 0 → (0 ≤ v2 ∧ v2 < 7) ∧ OkI G miX11_isBehind (d + 1) K 5 [some (.inr (.inr (some 66))), some (.inl v1), some (.inl v2), some (.inl (if (M3 70 (v2).toNat) = v1 then (1 : Int) else 0)), some (.inl (w32 (v4 + 1)))] [] M3))))))))))) : OkI G miX11_isBehind (d + 1) K 5 [some (.inr (.inr (some 66))), some (.inl v1), some (.inl v2), some (.inl v3), some (.inl v4)] [] M := by
  refine r_iload (pc := 5) (tb_at tkX11_isBehind 4 rfl) rfl ?_
  refine r_iconst (pc := 7) (tb_at tkX11_isBehind 5 rfl) ⟨by decide, by decide⟩ ?_
  refine r_aload_n (pc := 8) (tb_at tkX11_isBehind 6 rfl) rfl rfl ?_
  refine r_get 10 0 (pc := 9) (tb_at tkX11_isBehind 7 rfl) ly_66 flX11_11 rfl ?_
  refine r_iconst (pc := 12) (tb_at tkX11_isBehind 8 rfl) ⟨by decide, by decide⟩ ?_
  refine r_iald_k (k0 := 0) (pc := 13) (tb_at tkX11_isBehind 9 rfl) ly_67 rfl (by decide) (by decide) ?_
  refine r_ishl (pc := 14) (tb_at tkX11_isBehind 10 rfl) ?_
  refine q_icmp_ge (tgt := 69) (pc := 15) (tb_at tkX11_isBehind 11 rfl) (by decide) (fun c => ?_) (fun c => ?_)
  · replace h := h.1 c
    refine r_iload_n (pc := 69) (tb_at tkX11_isBehind 38 rfl) rfl rfl ?_
    exact r_zret (pc := 70) (tb_at tkX11_isBehind 39 rfl) rfl h.1 (Nat.le_refl _) (Nat.le_refl _) ⟨_, rfl, rfl, h.2⟩
  · replace h := h.2 c
    refine r_aload_n (pc := 18) (tb_at tkX11_isBehind 12 rfl) rfl rfl ?_
    refine r_get 10 8 (pc := 19) (tb_at tkX11_isBehind 13 rfl) ly_66 flX11_24 rfl ?_
    refine r_iload (pc := 22) (tb_at tkX11_isBehind 14 rfl) rfl ?_
    refine r_iald (pc := 24) (tb_at tkX11_isBehind 15 rfl) ly_71 h.1.1 h.1.2 ?_
    replace h := h.2
    refine q_if_lt (tgt := 63) (pc := 25) (tb_at tkX11_isBehind 16 rfl) (by decide) (fun c => ?_) (fun c => ?_)
    · replace h := h.1 c
      refine r_iinc (L' := [some (.inr (.inr (some 66))), some (.inl v1), some (.inl v2), some (.inl v3), some (.inl (w32 (v4 + 1)))]) (pc := 63) (tb_at tkX11_isBehind 36 rfl) rfl (by decide) rfl ?_
      refine r_goto (tgt := 5) (pc := 66) (tb_at tkX11_isBehind 37 rfl) (by decide) ?_
      exact h
    · replace h := h.2 c
      refine r_iload (pc := 28) (tb_at tkX11_isBehind 17 rfl) rfl ?_
      refine r_iload_n (pc := 30) (tb_at tkX11_isBehind 18 rfl) rfl rfl ?_
      refine r_invS (mc' := 0) (ms' := 0) [.inl v4, .inl v2] (S := []) (pc := 31) (tb_at tkX11_isBehind 19 rfl) rfl clX11_176 (Nat.le_of_ble_eq_true rfl) (Nat.le_refl _) (Nat.le_refl _) ?_
      refine Cal.mono h ?_
      rintro _ _ M1 ⟨x2, rfl, rfl, h⟩
      show OkI G miX11_isBehind (d + 1) K 34 [some (.inr (.inr (some 66))), some (.inl v1), some (.inl v2), some (.inl v3), some (.inl v4)] [.inl x2] M1
      refine q_if_eq (tgt := 63) (pc := 34) (tb_at tkX11_isBehind 20 rfl) (by decide) (fun c => ?_) (fun c => ?_)
      · replace h := h.1 c
        refine r_iinc (L' := [some (.inr (.inr (some 66))), some (.inl v1), some (.inl v2), some (.inl v3), some (.inl (w32 (v4 + 1)))]) (pc := 63) (tb_at tkX11_isBehind 36 rfl) rfl (by decide) rfl ?_
        refine r_goto (tgt := 5) (pc := 66) (tb_at tkX11_isBehind 37 rfl) (by decide) ?_
        exact h
      · replace h := h.2 c
        refine r_aload_n (pc := 37) (tb_at tkX11_isBehind 21 rfl) rfl rfl ?_
        refine r_iload (pc := 38) (tb_at tkX11_isBehind 22 rfl) rfl ?_
        refine r_invV (mc' := 0) (ms' := 0) [.inl v4] (S := []) (pc := 40) (tb_at tkX11_isBehind 23 rfl) rfl ly_66 rfl rfl clX11_182 (Nat.le_of_ble_eq_true rfl) (Nat.le_refl _) (Nat.le_refl _) ?_
        refine Cal.mono h ?_
        rintro _ _ M3 ⟨rfl, rfl, h⟩
        show OkI G miX11_isBehind (d + 1) K 43 [some (.inr (.inr (some 66))), some (.inl v1), some (.inl v2), some (.inl v3), some (.inl v4)] [] M3
        refine r_iload_n (pc := 43) (tb_at tkX11_isBehind 24 rfl) rfl rfl ?_
        refine q_if_ne (tgt := 57) (pc := 44) (tb_at tkX11_isBehind 25 rfl) (by decide) (fun c => ?_) (fun c => ?_)
        · replace h := h.1 c
          refine r_iconst (pc := 57) (tb_at tkX11_isBehind 32 rfl) ⟨by decide, by decide⟩ ?_
          refine r_goto (tgt := 62) (pc := 58) (tb_at tkX11_isBehind 33 rfl) (by decide) ?_
          refine r_istore_n (L' := [some (.inr (.inr (some 66))), some (.inl v1), some (.inl v2), some (.inl 1), some (.inl v4)]) (pc := 62) (tb_at tkX11_isBehind 35 rfl) rfl (by decide) rfl ?_
          refine r_iinc (L' := [some (.inr (.inr (some 66))), some (.inl v1), some (.inl v2), some (.inl 1), some (.inl (w32 (v4 + 1)))]) (pc := 63) (tb_at tkX11_isBehind 36 rfl) rfl (by decide) rfl ?_
          refine r_goto (tgt := 5) (pc := 66) (tb_at tkX11_isBehind 37 rfl) (by decide) ?_
          exact h
        · replace h := h.2 c
          refine r_aload_n (pc := 47) (tb_at tkX11_isBehind 26 rfl) rfl rfl ?_
          refine r_get 10 4 (pc := 48) (tb_at tkX11_isBehind 27 rfl) ly_66 flX11_21 rfl ?_
          refine r_iload_n (pc := 51) (tb_at tkX11_isBehind 28 rfl) rfl rfl ?_
          refine r_iald (pc := 52) (tb_at tkX11_isBehind 29 rfl) ly_70 h.1.1 h.1.2 ?_
          replace h := h.2
          refine r_iload_n (pc := 53) (tb_at tkX11_isBehind 30 rfl) rfl rfl ?_
          have hJ4 : ∀ t0 : Int, t0 = (if (M3 70 (v2).toNat) = v1 then (1 : Int) else 0) → OkI G miX11_isBehind (d + 1) K 62 [some (.inr (.inr (some 66))), some (.inl v1), some (.inl v2), some (.inl v3), some (.inl v4)] [.inl t0] M3 := by
            rintro _ rfl
            refine r_istore_n (L' := [some (.inr (.inr (some 66))), some (.inl v1), some (.inl v2), some (.inl (if (M3 70 (v2).toNat) = v1 then (1 : Int) else 0)), some (.inl v4)]) (pc := 62) (tb_at tkX11_isBehind 35 rfl) rfl (by decide) rfl ?_
            refine r_iinc (L' := [some (.inr (.inr (some 66))), some (.inl v1), some (.inl v2), some (.inl (if (M3 70 (v2).toNat) = v1 then (1 : Int) else 0)), some (.inl (w32 (v4 + 1)))]) (pc := 63) (tb_at tkX11_isBehind 36 rfl) rfl (by decide) rfl ?_
            refine r_goto (tgt := 5) (pc := 66) (tb_at tkX11_isBehind 37 rfl) (by decide) ?_
            exact h
          refine q_icmp_ne (tgt := 61) (pc := 54) (tb_at tkX11_isBehind 31 rfl) (by decide) (fun c5 => ?_) (fun c5 => ?_)
          · refine r_iconst (pc := 61) (tb_at tkX11_isBehind 34 rfl) ⟨by decide, by decide⟩ ?_
            exact hJ4 _ (by simp only [if_neg c5])
          · refine r_iconst (pc := 57) (tb_at tkX11_isBehind 32 rfl) ⟨by decide, by decide⟩ ?_
            refine r_goto (tgt := 62) (pc := 58) (tb_at tkX11_isBehind 33 rfl) (by decide) ?_
            exact hJ4 _ (by simp only [if_pos c5])
set_option maxRecDepth 100000 in
set_option maxHeartbeats 4000000 in
theorem gX11_firstTwo_0 {G : GE} {d : Nat} {K : Int → Mem → Prop} {M : Mem}  (h : OkI G miX11_firstTwo (d + 1) K 2 [some (.inr (.inr (some 66))), some (.inl 0), none, none] [] M) : OkI G miX11_firstTwo (d + 1) K 0 [some (.inr (.inr (some 66))), none, none, none] [] M := by
  refine r_iconst (pc := 0) (tb_at tkX11_firstTwo 0 rfl) ⟨by decide, by decide⟩ ?_
  refine r_istore_n (L' := [some (.inr (.inr (some 66))), some (.inl 0), none, none]) (pc := 1) (tb_at tkX11_firstTwo 1 rfl) rfl (by decide) rfl ?_
  exact h
set_option maxRecDepth 100000 in
set_option maxHeartbeats 4000000 in
theorem gX11_firstTwo_2 {G : GE} {d : Nat} {K : Int → Mem → Prop} {M : Mem} {v1 : Int}  (h : ((49 ≤ v1 → K (-1) M) ∧ (v1 < 49 → CalI G miX11_areTwo d [.inr (.inr (some 66)), .inl (idiv v1 7), .inl (irem v1 7)] M (fun x2 M1 => ((x2 = 0 → OkI G miX11_firstTwo (d + 1) K 2 [some (.inr (.inr (some 66))), some (.inl (w32 (v1 + 1))), none, none] [] M1) ∧ (¬ x2 = 0 → CalI G miX11_markOf d [.inr (.inr (some 66)), .inl (idiv v1 7), .inl (irem v1 7)] M1 (fun x4 M3 => ((¬ x4 = 0 → OkI G miX11_firstTwo (d + 1) K 2 [some (.inr (.inr (some 66))), some (.inl (w32 (v1 + 1))), none, none] [] M3) ∧ (x4 = 0 → CalI G miX11_isBehind d [.inr (.inr (some 66)), .inl (idiv v1 7), .inl (irem v1 7)] M3 (fun x6 M5 => ((x6 = 0 → OkI G miX11_firstTwo (d + 1) K 2 [some (.inr (.inr (some 66))), some (.inl (w32 (v1 + 1))), none, none] [] M5) ∧ (¬ x6 = 0 → K v1 M5)))))))))))) : OkI G miX11_firstTwo (d + 1) K 2 [some (.inr (.inr (some 66))), some (.inl v1), none, none] [] M := by
  refine r_iload_n (pc := 2) (tb_at tkX11_firstTwo 2 rfl) rfl rfl ?_
  refine r_bipush (pc := 3) (tb_at tkX11_firstTwo 3 rfl) ⟨by decide, by decide, by decide⟩ ?_
  refine q_icmp_ge (tgt := 53) (pc := 5) (tb_at tkX11_firstTwo 4 rfl) (by decide) (fun c => ?_) (fun c => ?_)
  · replace h := h.1 c
    refine r_iconst (pc := 53) (tb_at tkX11_firstTwo 32 rfl) ⟨by decide, by decide⟩ ?_
    exact r_iret (pc := 54) (tb_at tkX11_firstTwo 33 rfl) rfl (Nat.le_refl _) (Nat.le_refl _) ⟨_, rfl, rfl, h⟩
  · replace h := h.2 c
    refine r_iload_n (pc := 8) (tb_at tkX11_firstTwo 5 rfl) rfl rfl ?_
    refine r_bipush (pc := 9) (tb_at tkX11_firstTwo 6 rfl) ⟨by decide, by decide, by decide⟩ ?_
    refine r_idiv (pc := 11) (tb_at tkX11_firstTwo 7 rfl) (by decide) ?_
    refine r_istore_n (L' := [some (.inr (.inr (some 66))), some (.inl v1), some (.inl (idiv v1 7)), none]) (pc := 12) (tb_at tkX11_firstTwo 8 rfl) rfl (by decide) rfl ?_
    refine r_iload_n (pc := 13) (tb_at tkX11_firstTwo 9 rfl) rfl rfl ?_
    refine r_bipush (pc := 14) (tb_at tkX11_firstTwo 10 rfl) ⟨by decide, by decide, by decide⟩ ?_
    refine r_irem (pc := 16) (tb_at tkX11_firstTwo 11 rfl) (by decide) ?_
    refine r_istore_n (L' := [some (.inr (.inr (some 66))), some (.inl v1), some (.inl (idiv v1 7)), some (.inl (irem v1 7))]) (pc := 17) (tb_at tkX11_firstTwo 12 rfl) rfl (by decide) rfl ?_
    refine r_aload_n (pc := 18) (tb_at tkX11_firstTwo 13 rfl) rfl rfl ?_
    refine r_iload_n (pc := 19) (tb_at tkX11_firstTwo 14 rfl) rfl rfl ?_
    refine r_iload_n (pc := 20) (tb_at tkX11_firstTwo 15 rfl) rfl rfl ?_
    refine r_invV (mc' := 0) (ms' := 0) [.inl (idiv v1 7), .inl (irem v1 7)] (S := []) (pc := 21) (tb_at tkX11_firstTwo 16 rfl) rfl ly_66 rfl rfl clX11_154 (Nat.le_of_ble_eq_true rfl) (Nat.le_refl _) (Nat.le_refl _) ?_
    refine Cal.mono h ?_
    rintro _ _ M1 ⟨x2, rfl, rfl, h⟩
    show OkI G miX11_firstTwo (d + 1) K 24 [some (.inr (.inr (some 66))), some (.inl v1), some (.inl (idiv v1 7)), some (.inl (irem v1 7))] [.inl x2] M1
    refine q_if_eq (tgt := 47) (pc := 24) (tb_at tkX11_firstTwo 17 rfl) (by decide) (fun c => ?_) (fun c => ?_)
    · replace h := h.1 c
      refine r_iinc (L' := [some (.inr (.inr (some 66))), some (.inl (w32 (v1 + 1))), some (.inl (idiv v1 7)), some (.inl (irem v1 7))]) (pc := 47) (tb_at tkX11_firstTwo 30 rfl) rfl (by decide) rfl ?_
      refine r_goto (tgt := 2) (pc := 50) (tb_at tkX11_firstTwo 31 rfl) (by decide) ?_
      exact Ok.forget h (And.intro rfl (And.intro rfl trivial))
    · replace h := h.2 c
      refine r_aload_n (pc := 27) (tb_at tkX11_firstTwo 18 rfl) rfl rfl ?_
      refine r_iload_n (pc := 28) (tb_at tkX11_firstTwo 19 rfl) rfl rfl ?_
      refine r_iload_n (pc := 29) (tb_at tkX11_firstTwo 20 rfl) rfl rfl ?_
      refine r_invV (mc' := 0) (ms' := 0) [.inl (idiv v1 7), .inl (irem v1 7)] (S := []) (pc := 30) (tb_at tkX11_firstTwo 21 rfl) rfl ly_66 rfl rfl clX11_179 (Nat.le_of_ble_eq_true rfl) (Nat.le_refl _) (Nat.le_refl _) ?_
      refine Cal.mono h ?_
      rintro _ _ M3 ⟨x4, rfl, rfl, h⟩
      show OkI G miX11_firstTwo (d + 1) K 33 [some (.inr (.inr (some 66))), some (.inl v1), some (.inl (idiv v1 7)), some (.inl (irem v1 7))] [.inl x4] M3
      refine q_if_ne (tgt := 47) (pc := 33) (tb_at tkX11_firstTwo 22 rfl) (by decide) (fun c => ?_) (fun c => ?_)
      · replace h := h.1 c
        refine r_iinc (L' := [some (.inr (.inr (some 66))), some (.inl (w32 (v1 + 1))), some (.inl (idiv v1 7)), some (.inl (irem v1 7))]) (pc := 47) (tb_at tkX11_firstTwo 30 rfl) rfl (by decide) rfl ?_
        refine r_goto (tgt := 2) (pc := 50) (tb_at tkX11_firstTwo 31 rfl) (by decide) ?_
        exact Ok.forget h (And.intro rfl (And.intro rfl trivial))
      · replace h := h.2 c
        refine r_aload_n (pc := 36) (tb_at tkX11_firstTwo 23 rfl) rfl rfl ?_
        refine r_iload_n (pc := 37) (tb_at tkX11_firstTwo 24 rfl) rfl rfl ?_
        refine r_iload_n (pc := 38) (tb_at tkX11_firstTwo 25 rfl) rfl rfl ?_
        refine r_invV (mc' := 0) (ms' := 0) [.inl (idiv v1 7), .inl (irem v1 7)] (S := []) (pc := 39) (tb_at tkX11_firstTwo 26 rfl) rfl ly_66 rfl rfl clX11_281 (Nat.le_of_ble_eq_true rfl) (Nat.le_refl _) (Nat.le_refl _) ?_
        refine Cal.mono h ?_
        rintro _ _ M5 ⟨x6, rfl, rfl, h⟩
        show OkI G miX11_firstTwo (d + 1) K 42 [some (.inr (.inr (some 66))), some (.inl v1), some (.inl (idiv v1 7)), some (.inl (irem v1 7))] [.inl x6] M5
        refine q_if_eq (tgt := 47) (pc := 42) (tb_at tkX11_firstTwo 27 rfl) (by decide) (fun c => ?_) (fun c => ?_)
        · replace h := h.1 c
          refine r_iinc (L' := [some (.inr (.inr (some 66))), some (.inl (w32 (v1 + 1))), some (.inl (idiv v1 7)), some (.inl (irem v1 7))]) (pc := 47) (tb_at tkX11_firstTwo 30 rfl) rfl (by decide) rfl ?_
          refine r_goto (tgt := 2) (pc := 50) (tb_at tkX11_firstTwo 31 rfl) (by decide) ?_
          exact Ok.forget h (And.intro rfl (And.intro rfl trivial))
        · replace h := h.2 c
          refine r_iload_n (pc := 45) (tb_at tkX11_firstTwo 28 rfl) rfl rfl ?_
          exact r_iret (pc := 46) (tb_at tkX11_firstTwo 29 rfl) rfl (Nat.le_refl _) (Nat.le_refl _) ⟨_, rfl, rfl, h⟩
set_option maxRecDepth 100000 in
set_option maxHeartbeats 4000000 in
theorem gX11_grows_0 {G : GE} {d : Nat} {K : Int → Mem → Prop} {M : Mem}  (h : ((((mup M 66 21 (w32 ((M 66 21) + 1))) 66 21) ≤ 40 → CalV G miX11_reckons d [.inr (.inr (some 66))] (mup M 66 21 (w32 ((M 66 21) + 1))) (fun M1 => CalI G miX11_covers d [.inr (.inr (some 66))] M1 (fun x3 M2 => ((x3 < 0 → K 1 (mup M2 66 22 (w32 ((M2 66 22) + (if x3 < 0 then (1 : Int) else 0))))) ∧ (0 ≤ x3 → CalI G miX11_isBound d [.inr (.inr (some 66))] (mup M2 66 22 (w32 ((M2 66 22) + (if x3 < 0 then (1 : Int) else 0)))) (fun x5 M4 => ((x5 = 0 → OkI G miX11_grows (d + 1) K 76 [some (.inr (.inr (some 66))), none, none, none] [] M4) ∧ (¬ x5 = 0 → CalL G miX11_boundAbove d [.inr (.inr (some 66))] M4 (fun x7 M6 => ((¬ x7 = (w64 (x3 * (M6 66 20))) → OkI G miX11_grows (d + 1) K 76 [some (.inr (.inr (some 66))), none, none, none] [] M6) ∧ (x7 = (w64 (x3 * (M6 66 20))) → K 1 M6))))))))))) ∧ (40 < ((mup M 66 21 (w32 ((M 66 21) + 1))) 66 21) → K 0 (mup M 66 21 (w32 ((M 66 21) + 1)))))) : OkI G miX11_grows (d + 1) K 0 [some (.inr (.inr (some 66))), none, none, none] [] M := by
  refine r_aload_n (pc := 0) (tb_at tkX11_grows 0 rfl) rfl rfl ?_
  refine r_dup (pc := 1) (tb_at tkX11_grows 1 rfl) (fun _ h => by cases h) ?_
  refine r_get 10 21 (pc := 2) (tb_at tkX11_grows 2 rfl) ly_66 flX11_284 rfl ?_
  refine r_iconst (pc := 5) (tb_at tkX11_grows 3 rfl) ⟨by decide, by decide⟩ ?_
  refine r_iadd (pc := 6) (tb_at tkX11_grows 4 rfl) ?_
  refine r_put 10 21 (w32 ((M 66 21) + 1)) (pc := 7) (tb_at tkX11_grows 5 rfl) ly_66 flX11_284 (fun r h => by cases h; rfl) (.inl rfl) rfl (fun h => by cases h) rfl ?_
  refine r_aload_n (pc := 10) (tb_at tkX11_grows 6 rfl) rfl rfl ?_
  refine r_get 10 21 (pc := 11) (tb_at tkX11_grows 7 rfl) ly_66 flX11_284 rfl ?_
  refine r_bipush (pc := 14) (tb_at tkX11_grows 8 rfl) ⟨by decide, by decide, by decide⟩ ?_
  refine q_icmp_le (tgt := 21) (pc := 16) (tb_at tkX11_grows 9 rfl) (by decide) (fun c => ?_) (fun c => ?_)
  · replace h := h.1 c
    refine r_aload_n (pc := 21) (tb_at tkX11_grows 12 rfl) rfl rfl ?_
    refine r_invV (mc' := 0) (ms' := 0) [] (S := []) (pc := 22) (tb_at tkX11_grows 13 rfl) rfl ly_66 rfl rfl clX11_212 (Nat.le_of_ble_eq_true rfl) (Nat.le_refl _) (Nat.le_refl _) ?_
    refine Cal.mono h ?_
    rintro _ _ M1 ⟨rfl, rfl, h⟩
    show OkI G miX11_grows (d + 1) K 25 [some (.inr (.inr (some 66))), none, none, none] [] M1
    refine r_aload_n (pc := 25) (tb_at tkX11_grows 14 rfl) rfl rfl ?_
    refine r_invV (mc' := 0) (ms' := 0) [] (S := []) (pc := 26) (tb_at tkX11_grows 15 rfl) rfl ly_66 rfl rfl clX11_222 (Nat.le_of_ble_eq_true rfl) (Nat.le_refl _) (Nat.le_refl _) ?_
    refine Cal.mono h ?_
    rintro _ _ M2 ⟨x3, rfl, rfl, h⟩
    show OkI G miX11_grows (d + 1) K 29 [some (.inr (.inr (some 66))), none, none, none] [.inl x3] M2
    refine r_istore_n (L' := [some (.inr (.inr (some 66))), some (.inl x3), none, none]) (pc := 29) (tb_at tkX11_grows 16 rfl) rfl (by decide) rfl ?_
    refine r_aload_n (pc := 30) (tb_at tkX11_grows 17 rfl) rfl rfl ?_
    refine r_dup (pc := 31) (tb_at tkX11_grows 18 rfl) (fun _ h => by cases h) ?_
    refine r_get 10 22 (pc := 32) (tb_at tkX11_grows 19 rfl) ly_66 flX11_287 rfl ?_
    refine r_iload_n (pc := 35) (tb_at tkX11_grows 20 rfl) rfl rfl ?_
    have hJ8 : ∀ t0 : Int, t0 = (if x3 < 0 then (1 : Int) else 0) → OkI G miX11_grows (d + 1) K 44 [some (.inr (.inr (some 66))), some (.inl x3), none, none] [.inl t0, .inl (M2 66 22), .inr (.inr (some 66))] M2 := by
      rintro _ rfl
      refine r_iadd (pc := 44) (tb_at tkX11_grows 25 rfl) ?_
      refine r_put 10 22 (w32 ((M2 66 22) + (if x3 < 0 then (1 : Int) else 0))) (pc := 45) (tb_at tkX11_grows 26 rfl) ly_66 flX11_287 (fun r h => by cases h; rfl) (.inl rfl) rfl (fun h => by cases h) rfl ?_
      refine r_iload_n (pc := 48) (tb_at tkX11_grows 27 rfl) rfl rfl ?_
      refine q_if_lt (tgt := 74) (pc := 49) (tb_at tkX11_grows 28 rfl) (by decide) (fun c => ?_) (fun c => ?_)
      · replace h := h.1 c
        refine r_iconst (pc := 74) (tb_at tkX11_grows 41 rfl) ⟨by decide, by decide⟩ ?_
        exact r_zret (pc := 75) (tb_at tkX11_grows 42 rfl) rfl (by decide) (Nat.le_refl _) (Nat.le_refl _) ⟨_, rfl, rfl, h⟩
      · replace h := h.2 c
        refine r_aload_n (pc := 52) (tb_at tkX11_grows 29 rfl) rfl rfl ?_
        refine r_invV (mc' := 0) (ms' := 0) [] (S := []) (pc := 53) (tb_at tkX11_grows 30 rfl) rfl ly_66 rfl rfl clX11_266 (Nat.le_of_ble_eq_true rfl) (Nat.le_refl _) (Nat.le_refl _) ?_
        refine Cal.mono h ?_
        rintro _ _ M4 ⟨x5, rfl, rfl, h⟩
        show OkI G miX11_grows (d + 1) K 56 [some (.inr (.inr (some 66))), some (.inl x3), none, none] [.inl x5] M4
        refine q_if_eq (tgt := 76) (pc := 56) (tb_at tkX11_grows 31 rfl) (by decide) (fun c => ?_) (fun c => ?_)
        · replace h := h.1 c
          exact Ok.forget h (And.intro rfl trivial)
        · replace h := h.2 c
          refine r_aload_n (pc := 59) (tb_at tkX11_grows 32 rfl) rfl rfl ?_
          refine r_invV (mc' := 0) (ms' := 0) [] (S := []) (pc := 60) (tb_at tkX11_grows 33 rfl) rfl ly_66 rfl rfl clX11_269 (Nat.le_of_ble_eq_true rfl) (Nat.le_refl _) (Nat.le_refl _) ?_
          refine Cal.mono h ?_
          rintro _ _ M6 ⟨x7, rfl, rfl, h⟩
          show OkI G miX11_grows (d + 1) K 63 [some (.inr (.inr (some 66))), some (.inl x3), none, none] [.inr (.inl x7)] M6
          refine r_iload_n (pc := 63) (tb_at tkX11_grows 34 rfl) rfl rfl ?_
          refine r_i2l (pc := 64) (tb_at tkX11_grows 35 rfl) ?_
          refine r_aload_n (pc := 65) (tb_at tkX11_grows 36 rfl) rfl rfl ?_
          refine r_get 10 20 (pc := 66) (tb_at tkX11_grows 37 rfl) ly_66 flX11_240 rfl ?_
          refine r_lmul (pc := 69) (tb_at tkX11_grows 38 rfl) ?_
          refine r_lcmp (pc := 70) (tb_at tkX11_grows 39 rfl) ?_
          refine q_lif_ne (tgt := 76) (pc := 71) (tb_at tkX11_grows 40 rfl) (by decide) (fun c => ?_) (fun c => ?_)
          · replace h := h.1 c
            exact Ok.forget h (And.intro rfl trivial)
          · replace h := h.2 c
            refine r_iconst (pc := 74) (tb_at tkX11_grows 41 rfl) ⟨by decide, by decide⟩ ?_
            exact r_zret (pc := 75) (tb_at tkX11_grows 42 rfl) rfl (by decide) (Nat.le_refl _) (Nat.le_refl _) ⟨_, rfl, rfl, h⟩
    refine q_if_ge (tgt := 43) (pc := 36) (tb_at tkX11_grows 21 rfl) (by decide) (fun c9 => ?_) (fun c9 => ?_)
    · refine r_iconst (pc := 43) (tb_at tkX11_grows 24 rfl) ⟨by decide, by decide⟩ ?_
      exact hJ8 _ (by simp only [if_neg (Int.not_lt.mpr c9)])
    · refine r_iconst (pc := 39) (tb_at tkX11_grows 22 rfl) ⟨by decide, by decide⟩ ?_
      refine r_goto (tgt := 44) (pc := 40) (tb_at tkX11_grows 23 rfl) (by decide) ?_
      exact hJ8 _ (by simp only [if_pos c9])
  · replace h := h.2 c
    refine r_iconst (pc := 19) (tb_at tkX11_grows 10 rfl) ⟨by decide, by decide⟩ ?_
    exact r_zret (pc := 20) (tb_at tkX11_grows 11 rfl) rfl (by decide) (Nat.le_refl _) (Nat.le_refl _) ⟨_, rfl, rfl, h⟩
set_option maxRecDepth 100000 in
set_option maxHeartbeats 4000000 in
theorem gX11_grows_76 {G : GE} {d : Nat} {K : Int → Mem → Prop} {M : Mem}  (h : CalI G miX11_firstTwo d [.inr (.inr (some 66))] M (fun x2 M1 => ((0 ≤ x2 → (0 ≤ 29 + x2 ∧ 29 + x2 < 92) ∧ CalI G miX11_grows d [.inr (.inr (some 66))] (mup M1 67 (29 + x2).toNat 1) (fun x4 M3 => (0 ≤ 29 + x2 ∧ 29 + x2 < 92) ∧ ((x4 = 0 → OkI G miX11_grows (d + 1) K 127 [some (.inr (.inr (some 66))), none, some (.inl x2), none] [] (mup M3 67 (29 + x2).toNat 2)) ∧ (¬ x4 = 0 → CalI G miX11_grows d [.inr (.inr (some 66))] (mup M3 67 (29 + x2).toNat 2) (fun x6 M5 => (0 ≤ 29 + x2 ∧ 29 + x2 < 92) ∧ (((if ¬ (x6 = 0) then (1 : Int) else 0) = 0 ∨ (if ¬ (x6 = 0) then (1 : Int) else 0) = 1) ∧ K (if ¬ (x6 = 0) then (1 : Int) else 0) (mup M5 67 (29 + x2).toNat 0))))))) ∧ (x2 < 0 → K 1 M1)))) : OkI G miX11_grows (d + 1) K 76 [some (.inr (.inr (some 66))), none, none, none] [] M := by
  refine r_aload_n (pc := 76) (tb_at tkX11_grows 43 rfl) rfl rfl ?_
  refine r_invV (mc' := 0) (ms' := 0) [] (S := []) (pc := 77) (tb_at tkX11_grows 44 rfl) rfl ly_66 rfl rfl clX11_290 (Nat.le_of_ble_eq_true rfl) (Nat.le_refl _) (Nat.le_refl _) ?_
  refine Cal.mono h ?_
  rintro _ _ M1 ⟨x2, rfl, rfl, h⟩
  show OkI G miX11_grows (d + 1) K 80 [some (.inr (.inr (some 66))), none, none, none] [.inl x2] M1
  refine r_istore_n (L' := [some (.inr (.inr (some 66))), none, some (.inl x2), none]) (pc := 80) (tb_at tkX11_grows 45 rfl) rfl (by decide) rfl ?_
  refine r_iload_n (pc := 81) (tb_at tkX11_grows 46 rfl) rfl rfl ?_
  refine q_if_ge (tgt := 87) (pc := 82) (tb_at tkX11_grows 47 rfl) (by decide) (fun c => ?_) (fun c => ?_)
  · replace h := h.1 c
    refine r_aload_n (pc := 87) (tb_at tkX11_grows 50 rfl) rfl rfl ?_
    refine r_get 10 0 (pc := 88) (tb_at tkX11_grows 51 rfl) ly_66 flX11_11 rfl ?_
    refine r_bipush (pc := 91) (tb_at tkX11_grows 52 rfl) ⟨by decide, by decide, by decide⟩ ?_
    refine r_iload_n (pc := 93) (tb_at tkX11_grows 53 rfl) rfl rfl ?_
    refine r_iadd (pc := 94) (tb_at tkX11_grows 54 rfl) ?_
    refine r_iconst (pc := 95) (tb_at tkX11_grows 55 rfl) ⟨by decide, by decide⟩ ?_
    refine r_iast_w (pc := 96) (tb_at tkX11_grows 56 rfl) ly_67 (by decide) h.1.1 h.1.2 rfl ?_
    replace h := h.2
    refine r_aload_n (pc := 97) (tb_at tkX11_grows 57 rfl) rfl rfl ?_
    refine r_invV (mc' := 0) (ms' := 0) [] (S := []) (pc := 98) (tb_at tkX11_grows 58 rfl) rfl ly_66 rfl rfl clX11_293 (Nat.le_of_ble_eq_true rfl) (Nat.le_refl _) (Nat.le_refl _) ?_
    refine Cal.mono h ?_
    rintro _ _ M3 ⟨x4, rfl, rfl, h⟩
    show OkI G miX11_grows (d + 1) K 101 [some (.inr (.inr (some 66))), none, some (.inl x2), none] [.inl x4] M3
    refine r_istore_n (L' := [some (.inr (.inr (some 66))), none, some (.inl x2), some (.inl x4)]) (pc := 101) (tb_at tkX11_grows 59 rfl) rfl (by decide) rfl ?_
    refine r_aload_n (pc := 102) (tb_at tkX11_grows 60 rfl) rfl rfl ?_
    refine r_get 10 0 (pc := 103) (tb_at tkX11_grows 61 rfl) ly_66 flX11_11 rfl ?_
    refine r_bipush (pc := 106) (tb_at tkX11_grows 62 rfl) ⟨by decide, by decide, by decide⟩ ?_
    refine r_iload_n (pc := 108) (tb_at tkX11_grows 63 rfl) rfl rfl ?_
    refine r_iadd (pc := 109) (tb_at tkX11_grows 64 rfl) ?_
    refine r_iconst (pc := 110) (tb_at tkX11_grows 65 rfl) ⟨by decide, by decide⟩ ?_
    refine r_iast_w (pc := 111) (tb_at tkX11_grows 66 rfl) ly_67 (by decide) h.1.1 h.1.2 rfl ?_
    replace h := h.2
    refine r_iload_n (pc := 112) (tb_at tkX11_grows 67 rfl) rfl rfl ?_
    refine q_if_eq (tgt := 127) (pc := 113) (tb_at tkX11_grows 68 rfl) (by decide) (fun c => ?_) (fun c => ?_)
    · replace h := h.1 c
      exact Ok.forget h (And.intro rfl (And.intro rfl trivial))
    · replace h := h.2 c
      refine r_aload_n (pc := 116) (tb_at tkX11_grows 69 rfl) rfl rfl ?_
      refine r_invV (mc' := 0) (ms' := 0) [] (S := []) (pc := 117) (tb_at tkX11_grows 70 rfl) rfl ly_66 rfl rfl clX11_293 (Nat.le_of_ble_eq_true rfl) (Nat.le_refl _) (Nat.le_refl _) ?_
      refine Cal.mono h ?_
      rintro _ _ M5 ⟨x6, rfl, rfl, h⟩
      show OkI G miX11_grows (d + 1) K 120 [some (.inr (.inr (some 66))), none, some (.inl x2), some (.inl x4)] [.inl x6] M5
      have hJ7 : ∀ t0 : Int, t0 = (if ¬ (x6 = 0) then (1 : Int) else 0) → OkI G miX11_grows (d + 1) K 128 [some (.inr (.inr (some 66))), none, some (.inl x2), some (.inl x4)] [.inl t0] M5 := by
        rintro _ rfl
        refine r_istore_n (L' := [some (.inr (.inr (some 66))), none, some (.inl x2), some (.inl (if ¬ (x6 = 0) then (1 : Int) else 0))]) (pc := 128) (tb_at tkX11_grows 75 rfl) rfl (by decide) rfl ?_
        refine r_aload_n (pc := 129) (tb_at tkX11_grows 76 rfl) rfl rfl ?_
        refine r_get 10 0 (pc := 130) (tb_at tkX11_grows 77 rfl) ly_66 flX11_11 rfl ?_
        refine r_bipush (pc := 133) (tb_at tkX11_grows 78 rfl) ⟨by decide, by decide, by decide⟩ ?_
        refine r_iload_n (pc := 135) (tb_at tkX11_grows 79 rfl) rfl rfl ?_
        refine r_iadd (pc := 136) (tb_at tkX11_grows 80 rfl) ?_
        refine r_iconst (pc := 137) (tb_at tkX11_grows 81 rfl) ⟨by decide, by decide⟩ ?_
        refine r_iast_w (pc := 138) (tb_at tkX11_grows 82 rfl) ly_67 (by decide) h.1.1 h.1.2 rfl ?_
        replace h := h.2
        refine r_iload_n (pc := 139) (tb_at tkX11_grows 83 rfl) rfl rfl ?_
        exact r_zret (pc := 140) (tb_at tkX11_grows 84 rfl) rfl h.1 (Nat.le_refl _) (Nat.le_refl _) ⟨_, rfl, rfl, h.2⟩
      refine q_if_eq (tgt := 127) (pc := 120) (tb_at tkX11_grows 71 rfl) (by decide) (fun c8 => ?_) (fun c8 => ?_)
      · refine r_iconst (pc := 127) (tb_at tkX11_grows 74 rfl) ⟨by decide, by decide⟩ ?_
        exact hJ7 _ (by simp only [if_neg (not_not_intro c8)])
      · refine r_iconst (pc := 123) (tb_at tkX11_grows 72 rfl) ⟨by decide, by decide⟩ ?_
        refine r_goto (tgt := 128) (pc := 124) (tb_at tkX11_grows 73 rfl) (by decide) ?_
        exact hJ7 _ (by simp only [if_pos c8])
  · replace h := h.2 c
    refine r_iconst (pc := 85) (tb_at tkX11_grows 48 rfl) ⟨by decide, by decide⟩ ?_
    exact r_zret (pc := 86) (tb_at tkX11_grows 49 rfl) rfl (by decide) (Nat.le_refl _) (Nat.le_refl _) ⟨_, rfl, rfl, h⟩
set_option maxRecDepth 100000 in
set_option maxHeartbeats 4000000 in
theorem gX11_grows_127 {G : GE} {d : Nat} {K : Int → Mem → Prop} {M : Mem} {v2 : Int}  (h : (0 ≤ 29 + v2 ∧ 29 + v2 < 92) ∧ K 0 (mup M 67 (29 + v2).toNat 0)) : OkI G miX11_grows (d + 1) K 127 [some (.inr (.inr (some 66))), none, some (.inl v2), none] [] M := by
  refine r_iconst (pc := 127) (tb_at tkX11_grows 74 rfl) ⟨by decide, by decide⟩ ?_
  refine r_istore_n (L' := [some (.inr (.inr (some 66))), none, some (.inl v2), some (.inl 0)]) (pc := 128) (tb_at tkX11_grows 75 rfl) rfl (by decide) rfl ?_
  refine r_aload_n (pc := 129) (tb_at tkX11_grows 76 rfl) rfl rfl ?_
  refine r_get 10 0 (pc := 130) (tb_at tkX11_grows 77 rfl) ly_66 flX11_11 rfl ?_
  refine r_bipush (pc := 133) (tb_at tkX11_grows 78 rfl) ⟨by decide, by decide, by decide⟩ ?_
  refine r_iload_n (pc := 135) (tb_at tkX11_grows 79 rfl) rfl rfl ?_
  refine r_iadd (pc := 136) (tb_at tkX11_grows 80 rfl) ?_
  refine r_iconst (pc := 137) (tb_at tkX11_grows 81 rfl) ⟨by decide, by decide⟩ ?_
  refine r_iast_w (pc := 138) (tb_at tkX11_grows 82 rfl) ly_67 (by decide) h.1.1 h.1.2 rfl ?_
  replace h := h.2
  refine r_iload_n (pc := 139) (tb_at tkX11_grows 83 rfl) rfl rfl ?_
  exact r_zret (pc := 140) (tb_at tkX11_grows 84 rfl) rfl (by decide) (Nat.le_refl _) (Nat.le_refl _) ⟨_, rfl, rfl, h⟩
set_option maxRecDepth 100000 in
set_option maxHeartbeats 4000000 in
theorem gX11_tree_0 {G : GE} {d : Nat} {K : Int → Mem → Prop} {M : Mem} {v1 : Int}  (h : CalI G miX11_in d [.inr (.inl v1), .inr (.inl 0), .inr (.inl 1)] M (fun x2 M1 => ((¬ x2 = 0 → CalI G miX11_grows d [.inr (.inr (some 66))] (mup (mup M1 66 21 0) 66 22 0) (fun x4 M3 => ((¬ x4 = 0 → ((¬ v1 = 0 → K (M3 66 22) M3) ∧ (v1 = 0 → K (M3 66 21) M3))) ∧ (x4 = 0 → K (-5) M3)))) ∧ (x2 = 0 → K (-2) M1)))) : OkI G miX11_tree (d + 1) K 0 [some (.inr (.inr (some 66))), some (.inl v1)] [] M := by
  refine r_iload_n (pc := 0) (tb_at tkX11_tree 0 rfl) rfl rfl ?_
  refine r_i2l (pc := 1) (tb_at tkX11_tree 1 rfl) ?_
  refine r_lconst (v := 0) (pc := 2) (tb_at tkX11_tree 2 rfl) ⟨by decide, by decide, by decide⟩ ?_
  refine r_lconst (v := 1) (pc := 3) (tb_at tkX11_tree 3 rfl) ⟨by decide, by decide, by decide⟩ ?_
  refine r_invS (mc' := 0) (ms' := 0) [.inr (.inl v1), .inr (.inl 0), .inr (.inl 1)] (S := []) (pc := 4) (tb_at tkX11_tree 4 rfl) rfl clX11_103 (Nat.le_of_ble_eq_true rfl) (Nat.le_refl _) (Nat.le_refl _) ?_
  refine Cal.mono h ?_
  rintro _ _ M1 ⟨x2, rfl, rfl, h⟩
  show OkI G miX11_tree (d + 1) K 7 [some (.inr (.inr (some 66))), some (.inl v1)] [.inl x2] M1
  refine q_if_ne (tgt := 13) (pc := 7) (tb_at tkX11_tree 5 rfl) (by decide) (fun c => ?_) (fun c => ?_)
  · replace h := h.1 c
    refine r_aload_n (pc := 13) (tb_at tkX11_tree 8 rfl) rfl rfl ?_
    refine r_iconst (pc := 14) (tb_at tkX11_tree 9 rfl) ⟨by decide, by decide⟩ ?_
    refine r_put 10 21 0 (pc := 15) (tb_at tkX11_tree 10 rfl) ly_66 flX11_284 (fun r h => by cases h; rfl) (.inl rfl) rfl (fun h => by cases h) rfl ?_
    refine r_aload_n (pc := 18) (tb_at tkX11_tree 11 rfl) rfl rfl ?_
    refine r_iconst (pc := 19) (tb_at tkX11_tree 12 rfl) ⟨by decide, by decide⟩ ?_
    refine r_put 10 22 0 (pc := 20) (tb_at tkX11_tree 13 rfl) ly_66 flX11_287 (fun r h => by cases h; rfl) (.inl rfl) rfl (fun h => by cases h) rfl ?_
    refine r_aload_n (pc := 23) (tb_at tkX11_tree 14 rfl) rfl rfl ?_
    refine r_invV (mc' := 0) (ms' := 0) [] (S := []) (pc := 24) (tb_at tkX11_tree 15 rfl) rfl ly_66 rfl rfl clX11_293 (Nat.le_of_ble_eq_true rfl) (Nat.le_refl _) (Nat.le_refl _) ?_
    refine Cal.mono h ?_
    rintro _ _ M3 ⟨x4, rfl, rfl, h⟩
    show OkI G miX11_tree (d + 1) K 27 [some (.inr (.inr (some 66))), some (.inl v1)] [.inl x4] M3
    refine q_if_ne (tgt := 35) (pc := 27) (tb_at tkX11_tree 16 rfl) (by decide) (fun c => ?_) (fun c => ?_)
    · replace h := h.1 c
      refine r_iload_n (pc := 35) (tb_at tkX11_tree 19 rfl) rfl rfl ?_
      refine q_if_ne (tgt := 46) (pc := 36) (tb_at tkX11_tree 20 rfl) (by decide) (fun c => ?_) (fun c => ?_)
      · replace h := h.1 c
        refine r_aload_n (pc := 46) (tb_at tkX11_tree 24 rfl) rfl rfl ?_
        refine r_get 10 22 (pc := 47) (tb_at tkX11_tree 25 rfl) ly_66 flX11_287 rfl ?_
        exact r_iret (pc := 50) (tb_at tkX11_tree 26 rfl) rfl (Nat.le_refl _) (Nat.le_refl _) ⟨_, rfl, rfl, h⟩
      · replace h := h.2 c
        refine r_aload_n (pc := 39) (tb_at tkX11_tree 21 rfl) rfl rfl ?_
        refine r_get 10 21 (pc := 40) (tb_at tkX11_tree 22 rfl) ly_66 flX11_284 rfl ?_
        refine r_goto (tgt := 50) (pc := 43) (tb_at tkX11_tree 23 rfl) (by decide) ?_
        exact r_iret (pc := 50) (tb_at tkX11_tree 26 rfl) rfl (Nat.le_refl _) (Nat.le_refl _) ⟨_, rfl, rfl, h⟩
    · replace h := h.2 c
      refine r_bipush (pc := 30) (tb_at tkX11_tree 17 rfl) ⟨by decide, by decide, by decide⟩ ?_
      refine r_goto (tgt := 50) (pc := 32) (tb_at tkX11_tree 18 rfl) (by decide) ?_
      exact r_iret (pc := 50) (tb_at tkX11_tree 26 rfl) rfl (Nat.le_refl _) (Nat.le_refl _) ⟨_, rfl, rfl, h⟩
  · replace h := h.2 c
    refine r_bipush (pc := 10) (tb_at tkX11_tree 6 rfl) ⟨by decide, by decide, by decide⟩ ?_
    exact r_iret (pc := 12) (tb_at tkX11_tree 7 rfl) rfl (Nat.le_refl _) (Nat.le_refl _) ⟨_, rfl, rfl, h⟩
set_option maxRecDepth 100000 in
set_option maxHeartbeats 4000000 in
theorem gX11_isSheet_0 {G : GE} {d : Nat} {K : Int → Mem → Prop} {M : Mem} {v0 : Int}  (h : CalI G miX11_in d [.inr (.inl v0), .inr (.inl 0), .inr (.inl 3)] M (fun x2 M1 => ((x2 = 0 ∨ x2 = 1) ∧ K x2 M1))) : OkI G miX11_isSheet (d + 1) K 0 [some (.inl v0)] [] M := by
  refine r_iload_n (pc := 0) (tb_at tkX11_isSheet 0 rfl) rfl rfl ?_
  refine r_i2l (pc := 1) (tb_at tkX11_isSheet 1 rfl) ?_
  refine r_lconst (v := 0) (pc := 2) (tb_at tkX11_isSheet 2 rfl) ⟨by decide, by decide, by decide⟩ ?_
  refine r_ldc2 (n := 3) (pc := 3) (tb_at tkX11_isSheet 3 rfl) kcX11_107 ⟨by decide, by decide⟩ ?_
  refine r_invS (mc' := 0) (ms' := 0) [.inr (.inl v0), .inr (.inl 0), .inr (.inl 3)] (S := []) (pc := 6) (tb_at tkX11_isSheet 4 rfl) rfl clX11_103 (Nat.le_of_ble_eq_true rfl) (Nat.le_refl _) (Nat.le_refl _) ?_
  refine Cal.mono h ?_
  rintro _ _ M1 ⟨x2, rfl, rfl, h⟩
  show OkI G miX11_isSheet (d + 1) K 9 [some (.inl v0)] [.inl x2] M1
  exact r_zret (pc := 9) (tb_at tkX11_isSheet 5 rfl) rfl h.1 (Nat.le_refl _) (Nat.le_refl _) ⟨_, rfl, rfl, h.2⟩
set_option maxRecDepth 100000 in
set_option maxHeartbeats 4000000 in
theorem gX11_itemOf_0 {G : GE} {d : Nat} {K : Int → Mem → Prop} {M : Mem} {v1 v2 : Int}  (h : (0 ≤ (40 * v1) + v2 ∧ (40 * v1) + v2 < 160) ∧ K (M 82 ((40 * v1) + v2).toNat) M) : OkL G miX11_itemOf d K 0 [some (.inr (.inr (some 66))), some (.inl v1), some (.inl v2)] [] M := by
  refine r_aload_n (pc := 0) (tb_at tkX11_itemOf 0 rfl) rfl rfl ?_
  refine r_get 10 25 (pc := 1) (tb_at tkX11_itemOf 1 rfl) ly_66 flX11_58 rfl ?_
  refine r_bipush (pc := 4) (tb_at tkX11_itemOf 2 rfl) ⟨by decide, by decide, by decide⟩ ?_
  refine r_iload_n (pc := 6) (tb_at tkX11_itemOf 3 rfl) rfl rfl ?_
  refine r_imul (pc := 7) (tb_at tkX11_itemOf 4 rfl) ?_
  refine r_iload_n (pc := 8) (tb_at tkX11_itemOf 5 rfl) rfl rfl ?_
  refine r_iadd_l (pc := 9) (tb_at tkX11_itemOf 6 rfl) ?_
  refine r_lald_w (pc := 10) (tb_at tkX11_itemOf 7 rfl) ly_82 (by decide) h.1.1 h.1.2 ?_
  replace h := h.2
  exact r_lret (pc := 11) (tb_at tkX11_itemOf 8 rfl) rfl (Nat.le_refl _) (Nat.le_refl _) ⟨_, rfl, rfl, h⟩
set_option maxRecDepth 100000 in
set_option maxHeartbeats 4000000 in
theorem gX11_sheet_0 {G : GE} {d : Nat} {K : Int → Mem → Prop} {M : Mem} {v1 v2 v3 : Int}  (h : CalI G miX11_isSheet d [.inl v1] M (fun x2 M1 => ((x2 = 0 → K (-2) M1) ∧ (¬ x2 = 0 → CalI G miX11_in d [.inr (.inl v2), .inr (.inl (-1)), .inr (.inl 1)] M1 (fun x4 M3 => ((x4 = 0 → K (-2) M3) ∧ (¬ x4 = 0 → ((v2 < 0 → OkI G miX11_sheet (d + 1) K 32 [some (.inr (.inr (some 66))), some (.inl v1), some (.inl v2), some (.inl v3), none] [] M3) ∧ (0 ≤ v2 → ((v3 ≤ 40 → OkI G miX11_sheet (d + 1) K 32 [some (.inr (.inr (some 66))), some (.inl v1), some (.inl v2), some (.inl v3), none] [] M3) ∧ (40 < v3 → K (-2) M3))))))))))) : OkI G miX11_sheet (d + 1) K 0 [some (.inr (.inr (some 66))), some (.inl v1), some (.inl v2), some (.inl v3), none] [] M := by
  refine r_iload_n (pc := 0) (tb_at tkX11_sheet 0 rfl) rfl rfl ?_
  refine r_invS (mc' := 0) (ms' := 0) [.inl v1] (S := []) (pc := 1) (tb_at tkX11_sheet 1 rfl) rfl clX11_296 (Nat.le_of_ble_eq_true rfl) (Nat.le_refl _) (Nat.le_refl _) ?_
  refine Cal.mono h ?_
  rintro _ _ M1 ⟨x2, rfl, rfl, h⟩
  show OkI G miX11_sheet (d + 1) K 4 [some (.inr (.inr (some 66))), some (.inl v1), some (.inl v2), some (.inl v3), none] [.inl x2] M1
  refine q_if_eq (tgt := 29) (pc := 4) (tb_at tkX11_sheet 2 rfl) (by decide) (fun c => ?_) (fun c => ?_)
  · replace h := h.1 c
    refine r_bipush (pc := 29) (tb_at tkX11_sheet 14 rfl) ⟨by decide, by decide, by decide⟩ ?_
    exact r_iret (pc := 31) (tb_at tkX11_sheet 15 rfl) rfl (Nat.le_refl _) (Nat.le_refl _) ⟨_, rfl, rfl, h⟩
  · replace h := h.2 c
    refine r_iload_n (pc := 7) (tb_at tkX11_sheet 3 rfl) rfl rfl ?_
    refine r_i2l (pc := 8) (tb_at tkX11_sheet 4 rfl) ?_
    refine r_ldc2 (n := -1) (pc := 9) (tb_at tkX11_sheet 5 rfl) kcX11_238 ⟨by decide, by decide⟩ ?_
    refine r_lconst (v := 1) (pc := 12) (tb_at tkX11_sheet 6 rfl) ⟨by decide, by decide, by decide⟩ ?_
    refine r_invS (mc' := 0) (ms' := 0) [.inr (.inl v2), .inr (.inl (-1)), .inr (.inl 1)] (S := []) (pc := 13) (tb_at tkX11_sheet 7 rfl) rfl clX11_103 (Nat.le_of_ble_eq_true rfl) (Nat.le_refl _) (Nat.le_refl _) ?_
    refine Cal.mono h ?_
    rintro _ _ M3 ⟨x4, rfl, rfl, h⟩
    show OkI G miX11_sheet (d + 1) K 16 [some (.inr (.inr (some 66))), some (.inl v1), some (.inl v2), some (.inl v3), none] [.inl x4] M3
    refine q_if_eq (tgt := 29) (pc := 16) (tb_at tkX11_sheet 8 rfl) (by decide) (fun c => ?_) (fun c => ?_)
    · replace h := h.1 c
      refine r_bipush (pc := 29) (tb_at tkX11_sheet 14 rfl) ⟨by decide, by decide, by decide⟩ ?_
      exact r_iret (pc := 31) (tb_at tkX11_sheet 15 rfl) rfl (Nat.le_refl _) (Nat.le_refl _) ⟨_, rfl, rfl, h⟩
    · replace h := h.2 c
      refine r_iload_n (pc := 19) (tb_at tkX11_sheet 9 rfl) rfl rfl ?_
      refine q_if_lt (tgt := 32) (pc := 20) (tb_at tkX11_sheet 10 rfl) (by decide) (fun c => ?_) (fun c => ?_)
      · replace h := h.1 c
        exact h
      · replace h := h.2 c
        refine r_iload_n (pc := 23) (tb_at tkX11_sheet 11 rfl) rfl rfl ?_
        refine r_bipush (pc := 24) (tb_at tkX11_sheet 12 rfl) ⟨by decide, by decide, by decide⟩ ?_
        refine q_icmp_le (tgt := 32) (pc := 26) (tb_at tkX11_sheet 13 rfl) (by decide) (fun c => ?_) (fun c => ?_)
        · replace h := h.1 c
          exact h
        · replace h := h.2 c
          refine r_bipush (pc := 29) (tb_at tkX11_sheet 14 rfl) ⟨by decide, by decide, by decide⟩ ?_
          exact r_iret (pc := 31) (tb_at tkX11_sheet 15 rfl) rfl (Nat.le_refl _) (Nat.le_refl _) ⟨_, rfl, rfl, h⟩
set_option maxRecDepth 100000 in
set_option maxHeartbeats 4000000 in
theorem gX11_sheet_32 {G : GE} {d : Nat} {K : Int → Mem → Prop} {M : Mem} {v1 v2 v3 : Int}  (h : ((v2 < 0 → OkI G miX11_sheet (d + 1) K 43 [some (.inr (.inr (some 66))), some (.inl v1), some (.inl v2), some (.inl v3), none] [] M) ∧ (0 ≤ v2 → ((0 ≤ v3 → OkI G miX11_sheet (d + 1) K 43 [some (.inr (.inr (some 66))), some (.inl v1), some (.inl v2), some (.inl v3), none] [] M) ∧ (v3 < 0 → K (-14) M))))) : OkI G miX11_sheet (d + 1) K 32 [some (.inr (.inr (some 66))), some (.inl v1), some (.inl v2), some (.inl v3), none] [] M := by
  refine r_iload_n (pc := 32) (tb_at tkX11_sheet 16 rfl) rfl rfl ?_
  refine q_if_lt (tgt := 43) (pc := 33) (tb_at tkX11_sheet 17 rfl) (by decide) (fun c => ?_) (fun c => ?_)
  · replace h := h.1 c
    exact h
  · replace h := h.2 c
    refine r_iload_n (pc := 36) (tb_at tkX11_sheet 18 rfl) rfl rfl ?_
    refine q_if_ge (tgt := 43) (pc := 37) (tb_at tkX11_sheet 19 rfl) (by decide) (fun c => ?_) (fun c => ?_)
    · replace h := h.1 c
      exact h
    · replace h := h.2 c
      refine r_bipush (pc := 40) (tb_at tkX11_sheet 20 rfl) ⟨by decide, by decide, by decide⟩ ?_
      exact r_iret (pc := 42) (tb_at tkX11_sheet 21 rfl) rfl (Nat.le_refl _) (Nat.le_refl _) ⟨_, rfl, rfl, h⟩
set_option maxRecDepth 100000 in
set_option maxHeartbeats 4000000 in
theorem gX11_sheet_43 {G : GE} {d : Nat} {K : Int → Mem → Prop} {M : Mem} {v1 v2 v3 : Int}  (h : (0 ≤ v1 ∧ v1 < 4) ∧ (0 ≤ v1 ∧ v1 < 4) ∧ OkI G miX11_sheet (d + 1) K 68 [some (.inr (.inr (some 66))), some (.inl v1), none, none, some (.inl 0)] [] (mup (mup M 80 (v1).toNat v2) 81 (v1).toNat (if v2 < 0 then (0 : Int) else v3))) : OkI G miX11_sheet (d + 1) K 43 [some (.inr (.inr (some 66))), some (.inl v1), some (.inl v2), some (.inl v3), none] [] M := by
  refine r_aload_n (pc := 43) (tb_at tkX11_sheet 22 rfl) rfl rfl ?_
  refine r_get 10 23 (pc := 44) (tb_at tkX11_sheet 23 rfl) ly_66 flX11_52 rfl ?_
  refine r_iload_n (pc := 47) (tb_at tkX11_sheet 24 rfl) rfl rfl ?_
  refine r_iload_n (pc := 48) (tb_at tkX11_sheet 25 rfl) rfl rfl ?_
  refine r_iast (pc := 49) (tb_at tkX11_sheet 26 rfl) ly_80 h.1.1 h.1.2 rfl ?_
  replace h := h.2
  refine r_aload_n (pc := 50) (tb_at tkX11_sheet 27 rfl) rfl rfl ?_
  refine r_get 10 24 (pc := 51) (tb_at tkX11_sheet 28 rfl) ly_66 flX11_55 rfl ?_
  refine r_iload_n (pc := 54) (tb_at tkX11_sheet 29 rfl) rfl rfl ?_
  refine r_iload_n (pc := 55) (tb_at tkX11_sheet 30 rfl) rfl rfl ?_
  have hJ1 : ∀ t0 : Int, t0 = (if v2 < 0 then (0 : Int) else v3) → OkI G miX11_sheet (d + 1) K 64 [some (.inr (.inr (some 66))), some (.inl v1), some (.inl v2), some (.inl v3), none] [.inl t0, .inl v1, .inr (.inr (some 81))] (mup M 80 (v1).toNat v2) := by
    rintro _ rfl
    refine r_iast (pc := 64) (tb_at tkX11_sheet 35 rfl) ly_81 h.1.1 h.1.2 rfl ?_
    replace h := h.2
    refine r_iconst (pc := 65) (tb_at tkX11_sheet 36 rfl) ⟨by decide, by decide⟩ ?_
    refine r_istore (L' := [some (.inr (.inr (some 66))), some (.inl v1), some (.inl v2), some (.inl v3), some (.inl 0)]) (pc := 66) (tb_at tkX11_sheet 37 rfl) (by decide) rfl ?_
    exact Ok.forget h (And.intro rfl (And.intro rfl (And.intro rfl trivial)))
  refine q_if_ge (tgt := 63) (pc := 56) (tb_at tkX11_sheet 31 rfl) (by decide) (fun c2 => ?_) (fun c2 => ?_)
  · refine r_iload_n (pc := 63) (tb_at tkX11_sheet 34 rfl) rfl rfl ?_
    exact hJ1 _ (by simp only [if_neg (Int.not_lt.mpr c2)])
  · refine r_iconst (pc := 59) (tb_at tkX11_sheet 32 rfl) ⟨by decide, by decide⟩ ?_
    refine r_goto (tgt := 64) (pc := 60) (tb_at tkX11_sheet 33 rfl) (by decide) ?_
    exact hJ1 _ (by simp only [if_pos c2])
set_option maxRecDepth 100000 in
set_option maxHeartbeats 4000000 in
theorem gX11_sheet_68 {G : GE} {d : Nat} {K : Int → Mem → Prop} {M : Mem} {v1 v4 : Int}  (h : ((40 ≤ v4 → K 1 M) ∧ (v4 < 40 → (0 ≤ (40 * v1) + v4 ∧ (40 * v1) + v4 < 160) ∧ OkI G miX11_sheet (d + 1) K 68 [some (.inr (.inr (some 66))), some (.inl v1), none, none, some (.inl (w32 (v4 + 1)))] [] (mup M 82 ((40 * v1) + v4).toNat 0)))) : OkI G miX11_sheet (d + 1) K 68 [some (.inr (.inr (some 66))), some (.inl v1), none, none, some (.inl v4)] [] M := by
  refine r_iload (pc := 68) (tb_at tkX11_sheet 38 rfl) rfl ?_
  refine r_bipush (pc := 70) (tb_at tkX11_sheet 39 rfl) ⟨by decide, by decide, by decide⟩ ?_
  refine q_icmp_ge (tgt := 94) (pc := 72) (tb_at tkX11_sheet 40 rfl) (by decide) (fun c => ?_) (fun c => ?_)
  · replace h := h.1 c
    refine r_iconst (pc := 94) (tb_at tkX11_sheet 52 rfl) ⟨by decide, by decide⟩ ?_
    exact r_iret (pc := 95) (tb_at tkX11_sheet 53 rfl) rfl (Nat.le_refl _) (Nat.le_refl _) ⟨_, rfl, rfl, h⟩
  · replace h := h.2 c
    refine r_aload_n (pc := 75) (tb_at tkX11_sheet 41 rfl) rfl rfl ?_
    refine r_get 10 25 (pc := 76) (tb_at tkX11_sheet 42 rfl) ly_66 flX11_58 rfl ?_
    refine r_bipush (pc := 79) (tb_at tkX11_sheet 43 rfl) ⟨by decide, by decide, by decide⟩ ?_
    refine r_iload_n (pc := 81) (tb_at tkX11_sheet 44 rfl) rfl rfl ?_
    refine r_imul (pc := 82) (tb_at tkX11_sheet 45 rfl) ?_
    refine r_iload (pc := 83) (tb_at tkX11_sheet 46 rfl) rfl ?_
    refine r_iadd_l (pc := 85) (tb_at tkX11_sheet 47 rfl) ?_
    refine r_lconst (v := 0) (pc := 86) (tb_at tkX11_sheet 48 rfl) ⟨by decide, by decide, by decide⟩ ?_
    refine r_last_w (pc := 87) (tb_at tkX11_sheet 49 rfl) ly_82 (by decide) h.1.1 h.1.2 rfl ?_
    replace h := h.2
    refine r_iinc (L' := [some (.inr (.inr (some 66))), some (.inl v1), none, none, some (.inl (w32 (v4 + 1)))]) (pc := 88) (tb_at tkX11_sheet 50 rfl) rfl (by decide) rfl ?_
    refine r_goto (tgt := 68) (pc := 91) (tb_at tkX11_sheet 51 rfl) (by decide) ?_
    exact h
set_option maxRecDepth 100000 in
set_option maxHeartbeats 4000000 in
theorem gX11_put_0 {G : GE} {d : Nat} {K : Int → Mem → Prop} {M : Mem} {v1 v2 v3 : Int}  (h : CalI G miX11_isSheet d [.inl v1] M (fun x2 M1 => ((¬ x2 = 0 → (0 ≤ v1 ∧ v1 < 4) ∧ ((0 ≤ (M1 80 (v1).toNat) → (0 ≤ v1 ∧ v1 < 4) ∧ CalI G miX11_in d [.inr (.inl v2), .inr (.inl 0), .inr (.inl (w32 ((M1 81 (v1).toNat) - 1)))] M1 (fun x4 M3 => ((¬ x4 = 0 → (0 ≤ v1 ∧ v1 < 4) ∧ (0 ≤ (40 * v1) + v2 ∧ (40 * v1) + v2 < 160) ∧ K 1 (mup M3 82 ((40 * v1) + v2).toNat (if (M3 80 (v1).toNat) = 1 then w32 v3 else v3))) ∧ (x4 = 0 → K (-12) M3)))) ∧ ((M1 80 (v1).toNat) < 0 → K (-11) M1))) ∧ (x2 = 0 → K (-2) M1)))) : OkI G miX11_put (d + 1) K 0 [some (.inr (.inr (some 66))), some (.inl v1), some (.inl v2), some (.inr (.inl v3)), none] [] M := by
  refine r_iload_n (pc := 0) (tb_at tkX11_put 0 rfl) rfl rfl ?_
  refine r_invS (mc' := 0) (ms' := 0) [.inl v1] (S := []) (pc := 1) (tb_at tkX11_put 1 rfl) rfl clX11_296 (Nat.le_of_ble_eq_true rfl) (Nat.le_refl _) (Nat.le_refl _) ?_
  refine Cal.mono h ?_
  rintro _ _ M1 ⟨x2, rfl, rfl, h⟩
  show OkI G miX11_put (d + 1) K 4 [some (.inr (.inr (some 66))), some (.inl v1), some (.inl v2), some (.inr (.inl v3)), none] [.inl x2] M1
  refine q_if_ne (tgt := 10) (pc := 4) (tb_at tkX11_put 2 rfl) (by decide) (fun c => ?_) (fun c => ?_)
  · replace h := h.1 c
    refine r_aload_n (pc := 10) (tb_at tkX11_put 5 rfl) rfl rfl ?_
    refine r_get 10 23 (pc := 11) (tb_at tkX11_put 6 rfl) ly_66 flX11_52 rfl ?_
    refine r_iload_n (pc := 14) (tb_at tkX11_put 7 rfl) rfl rfl ?_
    refine r_iald (pc := 15) (tb_at tkX11_put 8 rfl) ly_80 h.1.1 h.1.2 ?_
    replace h := h.2
    refine q_if_ge (tgt := 22) (pc := 16) (tb_at tkX11_put 9 rfl) (by decide) (fun c => ?_) (fun c => ?_)
    · replace h := h.1 c
      refine r_iload_n (pc := 22) (tb_at tkX11_put 12 rfl) rfl rfl ?_
      refine r_i2l (pc := 23) (tb_at tkX11_put 13 rfl) ?_
      refine r_lconst (v := 0) (pc := 24) (tb_at tkX11_put 14 rfl) ⟨by decide, by decide, by decide⟩ ?_
      refine r_aload_n (pc := 25) (tb_at tkX11_put 15 rfl) rfl rfl ?_
      refine r_get 10 24 (pc := 26) (tb_at tkX11_put 16 rfl) ly_66 flX11_55 rfl ?_
      refine r_iload_n (pc := 29) (tb_at tkX11_put 17 rfl) rfl rfl ?_
      refine r_iald (pc := 30) (tb_at tkX11_put 18 rfl) ly_81 h.1.1 h.1.2 ?_
      replace h := h.2
      refine r_iconst (pc := 31) (tb_at tkX11_put 19 rfl) ⟨by decide, by decide⟩ ?_
      refine r_isub (pc := 32) (tb_at tkX11_put 20 rfl) ?_
      refine r_i2l (pc := 33) (tb_at tkX11_put 21 rfl) ?_
      refine r_invS (mc' := 0) (ms' := 0) [.inr (.inl v2), .inr (.inl 0), .inr (.inl (w32 ((M1 81 (v1).toNat) - 1)))] (S := []) (pc := 34) (tb_at tkX11_put 22 rfl) rfl clX11_103 (Nat.le_of_ble_eq_true rfl) (Nat.le_refl _) (Nat.le_refl _) ?_
      refine Cal.mono h ?_
      rintro _ _ M3 ⟨x4, rfl, rfl, h⟩
      show OkI G miX11_put (d + 1) K 37 [some (.inr (.inr (some 66))), some (.inl v1), some (.inl v2), some (.inr (.inl v3)), none] [.inl x4] M3
      refine q_if_ne (tgt := 43) (pc := 37) (tb_at tkX11_put 23 rfl) (by decide) (fun c => ?_) (fun c => ?_)
      · replace h := h.1 c
        refine r_aload_n (pc := 43) (tb_at tkX11_put 26 rfl) rfl rfl ?_
        refine r_get 10 25 (pc := 44) (tb_at tkX11_put 27 rfl) ly_66 flX11_58 rfl ?_
        refine r_bipush (pc := 47) (tb_at tkX11_put 28 rfl) ⟨by decide, by decide, by decide⟩ ?_
        refine r_iload_n (pc := 49) (tb_at tkX11_put 29 rfl) rfl rfl ?_
        refine r_imul (pc := 50) (tb_at tkX11_put 30 rfl) ?_
        refine r_iload_n (pc := 51) (tb_at tkX11_put 31 rfl) rfl rfl ?_
        refine r_iadd_l (pc := 52) (tb_at tkX11_put 32 rfl) ?_
        refine r_aload_n (pc := 53) (tb_at tkX11_put 33 rfl) rfl rfl ?_
        refine r_get 10 23 (pc := 54) (tb_at tkX11_put 34 rfl) ly_66 flX11_52 rfl ?_
        refine r_iload_n (pc := 57) (tb_at tkX11_put 35 rfl) rfl rfl ?_
        refine r_iald (pc := 58) (tb_at tkX11_put 36 rfl) ly_80 h.1.1 h.1.2 ?_
        replace h := h.2
        refine r_iconst (pc := 59) (tb_at tkX11_put 37 rfl) ⟨by decide, by decide⟩ ?_
        have hJ5 : ∀ t0 : Int, t0 = (if (M3 80 (v1).toNat) = 1 then w32 v3 else v3) → OkI G miX11_put (d + 1) K 70 [some (.inr (.inr (some 66))), some (.inl v1), some (.inl v2), some (.inr (.inl v3)), none] [.inr (.inl t0), .inl (w32 ((40 * v1) + v2)), .inr (.inr (some 82))] M3 := by
          rintro _ rfl
          refine r_last_w (pc := 70) (tb_at tkX11_put 44 rfl) ly_82 (by decide) h.1.1 h.1.2 rfl ?_
          replace h := h.2
          refine r_iconst (pc := 71) (tb_at tkX11_put 45 rfl) ⟨by decide, by decide⟩ ?_
          exact r_iret (pc := 72) (tb_at tkX11_put 46 rfl) rfl (Nat.le_refl _) (Nat.le_refl _) ⟨_, rfl, rfl, h⟩
        refine q_icmp_ne (tgt := 69) (pc := 60) (tb_at tkX11_put 38 rfl) (by decide) (fun c6 => ?_) (fun c6 => ?_)
        · refine r_lload_n (pc := 69) (tb_at tkX11_put 43 rfl) rfl rfl ?_
          exact hJ5 _ (by simp only [if_neg c6])
        · refine r_lload_n (pc := 63) (tb_at tkX11_put 39 rfl) rfl rfl ?_
          refine r_l2i (pc := 64) (tb_at tkX11_put 40 rfl) ?_
          refine r_i2l (pc := 65) (tb_at tkX11_put 41 rfl) ?_
          refine r_goto (tgt := 70) (pc := 66) (tb_at tkX11_put 42 rfl) (by decide) ?_
          exact hJ5 _ (by simp only [if_pos c6])
      · replace h := h.2 c
        refine r_bipush (pc := 40) (tb_at tkX11_put 24 rfl) ⟨by decide, by decide, by decide⟩ ?_
        exact r_iret (pc := 42) (tb_at tkX11_put 25 rfl) rfl (Nat.le_refl _) (Nat.le_refl _) ⟨_, rfl, rfl, h⟩
    · replace h := h.2 c
      refine r_bipush (pc := 19) (tb_at tkX11_put 10 rfl) ⟨by decide, by decide, by decide⟩ ?_
      exact r_iret (pc := 21) (tb_at tkX11_put 11 rfl) rfl (Nat.le_refl _) (Nat.le_refl _) ⟨_, rfl, rfl, h⟩
  · replace h := h.2 c
    refine r_bipush (pc := 7) (tb_at tkX11_put 3 rfl) ⟨by decide, by decide, by decide⟩ ?_
    exact r_iret (pc := 9) (tb_at tkX11_put 4 rfl) rfl (Nat.le_refl _) (Nat.le_refl _) ⟨_, rfl, rfl, h⟩
set_option maxRecDepth 100000 in
set_option maxHeartbeats 4000000 in
theorem gX11_item_0 {G : GE} {d : Nat} {K : Int → Mem → Prop} {M : Mem} {v1 v2 : Int}  (h : CalI G miX11_isSheet d [.inl v1] M (fun x2 M1 => ((x2 = 0 → K (-9223372036854775808) M1) ∧ (¬ x2 = 0 → (0 ≤ v1 ∧ v1 < 4) ∧ CalI G miX11_in d [.inr (.inl v2), .inr (.inl 0), .inr (.inl (w32 ((M1 81 (v1).toNat) - 1)))] M1 (fun x4 M3 => ((x4 = 0 → K (-9223372036854775808) M3) ∧ (¬ x4 = 0 → CalL G miX11_itemOf d [.inr (.inr (some 66)), .inl v1, .inl v2] M3 (fun x6 M5 => K x6 M5)))))))) : OkL G miX11_item (d + 1) K 0 [some (.inr (.inr (some 66))), some (.inl v1), some (.inl v2)] [] M := by
  refine r_iload_n (pc := 0) (tb_at tkX11_item 0 rfl) rfl rfl ?_
  refine r_invS (mc' := 0) (ms' := 0) [.inl v1] (S := []) (pc := 1) (tb_at tkX11_item 1 rfl) rfl clX11_296 (Nat.le_of_ble_eq_true rfl) (Nat.le_refl _) (Nat.le_refl _) ?_
  refine Cal.mono h ?_
  rintro _ _ M1 ⟨x2, rfl, rfl, h⟩
  show OkL G miX11_item (d + 1) K 4 [some (.inr (.inr (some 66))), some (.inl v1), some (.inl v2)] [.inl x2] M1
  refine q_if_eq (tgt := 34) (pc := 4) (tb_at tkX11_item 2 rfl) (by decide) (fun c => ?_) (fun c => ?_)
  · replace h := h.1 c
    refine r_ldc2 (n := -9223372036854775808) (pc := 34) (tb_at tkX11_item 20 rfl) kcX11_264 ⟨by decide, by decide⟩ ?_
    exact r_lret (pc := 37) (tb_at tkX11_item 21 rfl) rfl (Nat.le_refl _) (Nat.le_refl _) ⟨_, rfl, rfl, h⟩
  · replace h := h.2 c
    refine r_iload_n (pc := 7) (tb_at tkX11_item 3 rfl) rfl rfl ?_
    refine r_i2l (pc := 8) (tb_at tkX11_item 4 rfl) ?_
    refine r_lconst (v := 0) (pc := 9) (tb_at tkX11_item 5 rfl) ⟨by decide, by decide, by decide⟩ ?_
    refine r_aload_n (pc := 10) (tb_at tkX11_item 6 rfl) rfl rfl ?_
    refine r_get 10 24 (pc := 11) (tb_at tkX11_item 7 rfl) ly_66 flX11_55 rfl ?_
    refine r_iload_n (pc := 14) (tb_at tkX11_item 8 rfl) rfl rfl ?_
    refine r_iald (pc := 15) (tb_at tkX11_item 9 rfl) ly_81 h.1.1 h.1.2 ?_
    replace h := h.2
    refine r_iconst (pc := 16) (tb_at tkX11_item 10 rfl) ⟨by decide, by decide⟩ ?_
    refine r_isub (pc := 17) (tb_at tkX11_item 11 rfl) ?_
    refine r_i2l (pc := 18) (tb_at tkX11_item 12 rfl) ?_
    refine r_invS (mc' := 0) (ms' := 0) [.inr (.inl v2), .inr (.inl 0), .inr (.inl (w32 ((M1 81 (v1).toNat) - 1)))] (S := []) (pc := 19) (tb_at tkX11_item 13 rfl) rfl clX11_103 (Nat.le_of_ble_eq_true rfl) (Nat.le_refl _) (Nat.le_refl _) ?_
    refine Cal.mono h ?_
    rintro _ _ M3 ⟨x4, rfl, rfl, h⟩
    show OkL G miX11_item (d + 1) K 22 [some (.inr (.inr (some 66))), some (.inl v1), some (.inl v2)] [.inl x4] M3
    refine q_if_eq (tgt := 34) (pc := 22) (tb_at tkX11_item 14 rfl) (by decide) (fun c => ?_) (fun c => ?_)
    · replace h := h.1 c
      refine r_ldc2 (n := -9223372036854775808) (pc := 34) (tb_at tkX11_item 20 rfl) kcX11_264 ⟨by decide, by decide⟩ ?_
      exact r_lret (pc := 37) (tb_at tkX11_item 21 rfl) rfl (Nat.le_refl _) (Nat.le_refl _) ⟨_, rfl, rfl, h⟩
    · replace h := h.2 c
      refine r_aload_n (pc := 25) (tb_at tkX11_item 15 rfl) rfl rfl ?_
      refine r_iload_n (pc := 26) (tb_at tkX11_item 16 rfl) rfl rfl ?_
      refine r_iload_n (pc := 27) (tb_at tkX11_item 17 rfl) rfl rfl ?_
      refine r_invV (mc' := 0) (ms' := 0) [.inl v1, .inl v2] (S := []) (pc := 28) (tb_at tkX11_item 18 rfl) rfl ly_66 rfl rfl clX11_299 (Nat.le_of_ble_eq_true rfl) (Nat.le_refl _) (Nat.le_refl _) ?_
      refine Cal.mono h ?_
      rintro _ _ M5 ⟨x6, rfl, rfl, h⟩
      show OkL G miX11_item (d + 1) K 31 [some (.inr (.inr (some 66))), some (.inl v1), some (.inl v2)] [.inr (.inl x6)] M5
      refine r_goto (tgt := 37) (pc := 31) (tb_at tkX11_item 19 rfl) (by decide) ?_
      exact r_lret (pc := 37) (tb_at tkX11_item 21 rfl) rfl (Nat.le_refl _) (Nat.le_refl _) ⟨_, rfl, rfl, h⟩
set_option maxRecDepth 100000 in
set_option maxHeartbeats 4000000 in
theorem gX11_copy_0 {G : GE} {d : Nat} {K : Int → Mem → Prop} {M : Mem} {v1 v2 v3 v4 v5 : Int}  (h : CalI G miX11_isSheet d [.inl v1] M (fun x2 M1 => ((x2 = 0 → K (-2) M1) ∧ (¬ x2 = 0 → CalI G miX11_isSheet d [.inl v3] M1 (fun x4 M3 => ((¬ x4 = 0 → (0 ≤ v1 ∧ v1 < 4) ∧ (((M3 80 (v1).toNat) < 0 → K (-11) M3) ∧ (0 ≤ (M3 80 (v1).toNat) → (0 ≤ v3 ∧ v3 < 4) ∧ ((0 ≤ (M3 80 (v3).toNat) → (0 ≤ v1 ∧ v1 < 4) ∧ (0 ≤ v3 ∧ v3 < 4) ∧ (((M3 80 (v1).toNat) = (M3 80 (v3).toNat) → ((v5 < 0 → K (-12) M3) ∧ (0 ≤ v5 → ((v2 < 0 → K (-12) M3) ∧ (0 ≤ v2 → ((v4 < 0 → K (-12) M3) ∧ (0 ≤ v4 → (0 ≤ v1 ∧ v1 < 4) ∧ (((w32 ((M3 81 (v1).toNat) - v5)) < v2 → K (-12) M3) ∧ (v2 ≤ (w32 ((M3 81 (v1).toNat) - v5)) → (0 ≤ v3 ∧ v3 < 4) ∧ ((v4 ≤ (w32 ((M3 81 (v3).toNat) - v5)) → OkI G miX11_copy (d + 1) K 103 [some (.inr (.inr (some 66))), some (.inl v1), some (.inl v2), some (.inl v3), some (.inl v4), some (.inl v5), some (.inl 0)] [] M3) ∧ ((w32 ((M3 81 (v3).toNat) - v5)) < v4 → K (-12) M3))))))))))) ∧ (¬ (M3 80 (v1).toNat) = (M3 80 (v3).toNat) → K (-13) M3))) ∧ ((M3 80 (v3).toNat) < 0 → K (-11) M3))))) ∧ (x4 = 0 → K (-2) M3))))))) : OkI G miX11_copy (d + 1) K 0 [some (.inr (.inr (some 66))), some (.inl v1), some (.inl v2), some (.inl v3), some (.inl v4), some (.inl v5), none] [] M := by
  refine r_iload_n (pc := 0) (tb_at tkX11_copy 0 rfl) rfl rfl ?_
  refine r_invS (mc' := 0) (ms' := 0) [.inl v1] (S := []) (pc := 1) (tb_at tkX11_copy 1 rfl) rfl clX11_296 (Nat.le_of_ble_eq_true rfl) (Nat.le_refl _) (Nat.le_refl _) ?_
  refine Cal.mono h ?_
  rintro _ _ M1 ⟨x2, rfl, rfl, h⟩
  show OkI G miX11_copy (d + 1) K 4 [some (.inr (.inr (some 66))), some (.inl v1), some (.inl v2), some (.inl v3), some (.inl v4), some (.inl v5), none] [.inl x2] M1
  refine q_if_eq (tgt := 14) (pc := 4) (tb_at tkX11_copy 2 rfl) (by decide) (fun c => ?_) (fun c => ?_)
  · replace h := h.1 c
    refine r_bipush (pc := 14) (tb_at tkX11_copy 6 rfl) ⟨by decide, by decide, by decide⟩ ?_
    exact r_iret (pc := 16) (tb_at tkX11_copy 7 rfl) rfl (Nat.le_refl _) (Nat.le_refl _) ⟨_, rfl, rfl, h⟩
  · replace h := h.2 c
    refine r_iload_n (pc := 7) (tb_at tkX11_copy 3 rfl) rfl rfl ?_
    refine r_invS (mc' := 0) (ms' := 0) [.inl v3] (S := []) (pc := 8) (tb_at tkX11_copy 4 rfl) rfl clX11_296 (Nat.le_of_ble_eq_true rfl) (Nat.le_refl _) (Nat.le_refl _) ?_
    refine Cal.mono h ?_
    rintro _ _ M3 ⟨x4, rfl, rfl, h⟩
    show OkI G miX11_copy (d + 1) K 11 [some (.inr (.inr (some 66))), some (.inl v1), some (.inl v2), some (.inl v3), some (.inl v4), some (.inl v5), none] [.inl x4] M3
    refine q_if_ne (tgt := 17) (pc := 11) (tb_at tkX11_copy 5 rfl) (by decide) (fun c => ?_) (fun c => ?_)
    · replace h := h.1 c
      refine r_aload_n (pc := 17) (tb_at tkX11_copy 8 rfl) rfl rfl ?_
      refine r_get 10 23 (pc := 18) (tb_at tkX11_copy 9 rfl) ly_66 flX11_52 rfl ?_
      refine r_iload_n (pc := 21) (tb_at tkX11_copy 10 rfl) rfl rfl ?_
      refine r_iald (pc := 22) (tb_at tkX11_copy 11 rfl) ly_80 h.1.1 h.1.2 ?_
      replace h := h.2
      refine q_if_lt (tgt := 35) (pc := 23) (tb_at tkX11_copy 12 rfl) (by decide) (fun c => ?_) (fun c => ?_)
      · replace h := h.1 c
        refine r_bipush (pc := 35) (tb_at tkX11_copy 18 rfl) ⟨by decide, by decide, by decide⟩ ?_
        exact r_iret (pc := 37) (tb_at tkX11_copy 19 rfl) rfl (Nat.le_refl _) (Nat.le_refl _) ⟨_, rfl, rfl, h⟩
      · replace h := h.2 c
        refine r_aload_n (pc := 26) (tb_at tkX11_copy 13 rfl) rfl rfl ?_
        refine r_get 10 23 (pc := 27) (tb_at tkX11_copy 14 rfl) ly_66 flX11_52 rfl ?_
        refine r_iload_n (pc := 30) (tb_at tkX11_copy 15 rfl) rfl rfl ?_
        refine r_iald (pc := 31) (tb_at tkX11_copy 16 rfl) ly_80 h.1.1 h.1.2 ?_
        replace h := h.2
        refine q_if_ge (tgt := 38) (pc := 32) (tb_at tkX11_copy 17 rfl) (by decide) (fun c => ?_) (fun c => ?_)
        · replace h := h.1 c
          refine r_aload_n (pc := 38) (tb_at tkX11_copy 20 rfl) rfl rfl ?_
          refine r_get 10 23 (pc := 39) (tb_at tkX11_copy 21 rfl) ly_66 flX11_52 rfl ?_
          refine r_iload_n (pc := 42) (tb_at tkX11_copy 22 rfl) rfl rfl ?_
          refine r_iald (pc := 43) (tb_at tkX11_copy 23 rfl) ly_80 h.1.1 h.1.2 ?_
          replace h := h.2
          refine r_aload_n (pc := 44) (tb_at tkX11_copy 24 rfl) rfl rfl ?_
          refine r_get 10 23 (pc := 45) (tb_at tkX11_copy 25 rfl) ly_66 flX11_52 rfl ?_
          refine r_iload_n (pc := 48) (tb_at tkX11_copy 26 rfl) rfl rfl ?_
          refine r_iald (pc := 49) (tb_at tkX11_copy 27 rfl) ly_80 h.1.1 h.1.2 ?_
          replace h := h.2
          refine q_icmp_eq (tgt := 56) (pc := 50) (tb_at tkX11_copy 28 rfl) (by decide) (fun c => ?_) (fun c => ?_)
          · replace h := h.1 c
            refine r_iload (pc := 56) (tb_at tkX11_copy 31 rfl) rfl ?_
            refine q_if_lt (tgt := 97) (pc := 58) (tb_at tkX11_copy 32 rfl) (by decide) (fun c => ?_) (fun c => ?_)
            · replace h := h.1 c
              refine r_bipush (pc := 97) (tb_at tkX11_copy 53 rfl) ⟨by decide, by decide, by decide⟩ ?_
              exact r_iret (pc := 99) (tb_at tkX11_copy 54 rfl) rfl (Nat.le_refl _) (Nat.le_refl _) ⟨_, rfl, rfl, h⟩
            · replace h := h.2 c
              refine r_iload_n (pc := 61) (tb_at tkX11_copy 33 rfl) rfl rfl ?_
              refine q_if_lt (tgt := 97) (pc := 62) (tb_at tkX11_copy 34 rfl) (by decide) (fun c => ?_) (fun c => ?_)
              · replace h := h.1 c
                refine r_bipush (pc := 97) (tb_at tkX11_copy 53 rfl) ⟨by decide, by decide, by decide⟩ ?_
                exact r_iret (pc := 99) (tb_at tkX11_copy 54 rfl) rfl (Nat.le_refl _) (Nat.le_refl _) ⟨_, rfl, rfl, h⟩
              · replace h := h.2 c
                refine r_iload (pc := 65) (tb_at tkX11_copy 35 rfl) rfl ?_
                refine q_if_lt (tgt := 97) (pc := 67) (tb_at tkX11_copy 36 rfl) (by decide) (fun c => ?_) (fun c => ?_)
                · replace h := h.1 c
                  refine r_bipush (pc := 97) (tb_at tkX11_copy 53 rfl) ⟨by decide, by decide, by decide⟩ ?_
                  exact r_iret (pc := 99) (tb_at tkX11_copy 54 rfl) rfl (Nat.le_refl _) (Nat.le_refl _) ⟨_, rfl, rfl, h⟩
                · replace h := h.2 c
                  refine r_iload_n (pc := 70) (tb_at tkX11_copy 37 rfl) rfl rfl ?_
                  refine r_aload_n (pc := 71) (tb_at tkX11_copy 38 rfl) rfl rfl ?_
                  refine r_get 10 24 (pc := 72) (tb_at tkX11_copy 39 rfl) ly_66 flX11_55 rfl ?_
                  refine r_iload_n (pc := 75) (tb_at tkX11_copy 40 rfl) rfl rfl ?_
                  refine r_iald (pc := 76) (tb_at tkX11_copy 41 rfl) ly_81 h.1.1 h.1.2 ?_
                  replace h := h.2
                  refine r_iload (pc := 77) (tb_at tkX11_copy 42 rfl) rfl ?_
                  refine r_isub (pc := 79) (tb_at tkX11_copy 43 rfl) ?_
                  refine q_icmp_gt (tgt := 97) (pc := 80) (tb_at tkX11_copy 44 rfl) (by decide) (fun c => ?_) (fun c => ?_)
                  · replace h := h.1 c
                    refine r_bipush (pc := 97) (tb_at tkX11_copy 53 rfl) ⟨by decide, by decide, by decide⟩ ?_
                    exact r_iret (pc := 99) (tb_at tkX11_copy 54 rfl) rfl (Nat.le_refl _) (Nat.le_refl _) ⟨_, rfl, rfl, h⟩
                  · replace h := h.2 c
                    refine r_iload (pc := 83) (tb_at tkX11_copy 45 rfl) rfl ?_
                    refine r_aload_n (pc := 85) (tb_at tkX11_copy 46 rfl) rfl rfl ?_
                    refine r_get 10 24 (pc := 86) (tb_at tkX11_copy 47 rfl) ly_66 flX11_55 rfl ?_
                    refine r_iload_n (pc := 89) (tb_at tkX11_copy 48 rfl) rfl rfl ?_
                    refine r_iald (pc := 90) (tb_at tkX11_copy 49 rfl) ly_81 h.1.1 h.1.2 ?_
                    replace h := h.2
                    refine r_iload (pc := 91) (tb_at tkX11_copy 50 rfl) rfl ?_
                    refine r_isub (pc := 93) (tb_at tkX11_copy 51 rfl) ?_
                    refine q_icmp_le (tgt := 100) (pc := 94) (tb_at tkX11_copy 52 rfl) (by decide) (fun c => ?_) (fun c => ?_)
                    · replace h := h.1 c
                      refine r_iconst (pc := 100) (tb_at tkX11_copy 55 rfl) ⟨by decide, by decide⟩ ?_
                      refine r_istore (L' := [some (.inr (.inr (some 66))), some (.inl v1), some (.inl v2), some (.inl v3), some (.inl v4), some (.inl v5), some (.inl 0)]) (pc := 101) (tb_at tkX11_copy 56 rfl) (by decide) rfl ?_
                      exact h
                    · replace h := h.2 c
                      refine r_bipush (pc := 97) (tb_at tkX11_copy 53 rfl) ⟨by decide, by decide, by decide⟩ ?_
                      exact r_iret (pc := 99) (tb_at tkX11_copy 54 rfl) rfl (Nat.le_refl _) (Nat.le_refl _) ⟨_, rfl, rfl, h⟩
          · replace h := h.2 c
            refine r_bipush (pc := 53) (tb_at tkX11_copy 29 rfl) ⟨by decide, by decide, by decide⟩ ?_
            exact r_iret (pc := 55) (tb_at tkX11_copy 30 rfl) rfl (Nat.le_refl _) (Nat.le_refl _) ⟨_, rfl, rfl, h⟩
        · replace h := h.2 c
          refine r_bipush (pc := 35) (tb_at tkX11_copy 18 rfl) ⟨by decide, by decide, by decide⟩ ?_
          exact r_iret (pc := 37) (tb_at tkX11_copy 19 rfl) rfl (Nat.le_refl _) (Nat.le_refl _) ⟨_, rfl, rfl, h⟩
    · replace h := h.2 c
      refine r_bipush (pc := 14) (tb_at tkX11_copy 6 rfl) ⟨by decide, by decide, by decide⟩ ?_
      exact r_iret (pc := 16) (tb_at tkX11_copy 7 rfl) rfl (Nat.le_refl _) (Nat.le_refl _) ⟨_, rfl, rfl, h⟩
set_option maxRecDepth 100000 in
set_option maxHeartbeats 4000000 in
theorem gX11_copy_103 {G : GE} {d : Nat} {K : Int → Mem → Prop} {M : Mem} {v1 v2 v3 v4 v5 v6 : Int}  (h : ((v5 ≤ v6 → OkI G miX11_copy (d + 1) K 135 [some (.inr (.inr (some 66))), none, none, some (.inl v3), some (.inl v4), some (.inl v5), some (.inl 0)] [] M) ∧ (v6 < v5 → CalL G miX11_itemOf d [.inr (.inr (some 66)), .inl v1, .inl (w32 (v2 + v6))] M (fun x2 M1 => (0 ≤ v6 ∧ v6 < 40) ∧ OkI G miX11_copy (d + 1) K 103 [some (.inr (.inr (some 66))), some (.inl v1), some (.inl v2), some (.inl v3), some (.inl v4), some (.inl v5), some (.inl (w32 (v6 + 1)))] [] (mup M1 83 (v6).toNat x2))))) : OkI G miX11_copy (d + 1) K 103 [some (.inr (.inr (some 66))), some (.inl v1), some (.inl v2), some (.inl v3), some (.inl v4), some (.inl v5), some (.inl v6)] [] M := by
  refine r_iload (pc := 103) (tb_at tkX11_copy 57 rfl) rfl ?_
  refine r_iload (pc := 105) (tb_at tkX11_copy 58 rfl) rfl ?_
  refine q_icmp_ge (tgt := 132) (pc := 107) (tb_at tkX11_copy 59 rfl) (by decide) (fun c => ?_) (fun c => ?_)
  · replace h := h.1 c
    refine r_iconst (pc := 132) (tb_at tkX11_copy 72 rfl) ⟨by decide, by decide⟩ ?_
    refine r_istore (L' := [some (.inr (.inr (some 66))), some (.inl v1), some (.inl v2), some (.inl v3), some (.inl v4), some (.inl v5), some (.inl 0)]) (pc := 133) (tb_at tkX11_copy 73 rfl) (by decide) rfl ?_
    exact Ok.forget h (And.intro rfl (And.intro rfl (And.intro rfl (And.intro rfl (And.intro rfl trivial)))))
  · replace h := h.2 c
    refine r_aload_n (pc := 110) (tb_at tkX11_copy 60 rfl) rfl rfl ?_
    refine r_get 10 26 (pc := 111) (tb_at tkX11_copy 61 rfl) ly_66 flX11_61 rfl ?_
    refine r_iload (pc := 114) (tb_at tkX11_copy 62 rfl) rfl ?_
    refine r_aload_n (pc := 116) (tb_at tkX11_copy 63 rfl) rfl rfl ?_
    refine r_iload_n (pc := 117) (tb_at tkX11_copy 64 rfl) rfl rfl ?_
    refine r_iload_n (pc := 118) (tb_at tkX11_copy 65 rfl) rfl rfl ?_
    refine r_iload (pc := 119) (tb_at tkX11_copy 66 rfl) rfl ?_
    refine r_iadd (pc := 121) (tb_at tkX11_copy 67 rfl) ?_
    refine r_invV (mc' := 0) (ms' := 0) [.inl v1, .inl (w32 (v2 + v6))] (S := [.inl v6, .inr (.inr (some 83))]) (pc := 122) (tb_at tkX11_copy 68 rfl) rfl ly_66 rfl rfl clX11_299 (Nat.le_of_ble_eq_true rfl) (Nat.le_refl _) (Nat.le_refl _) ?_
    refine Cal.mono h ?_
    rintro _ _ M1 ⟨x2, rfl, rfl, h⟩
    show OkI G miX11_copy (d + 1) K 125 [some (.inr (.inr (some 66))), some (.inl v1), some (.inl v2), some (.inl v3), some (.inl v4), some (.inl v5), some (.inl v6)] [.inr (.inl x2), .inl v6, .inr (.inr (some 83))] M1
    refine r_last (pc := 125) (tb_at tkX11_copy 69 rfl) ly_83 h.1.1 h.1.2 rfl ?_
    replace h := h.2
    refine r_iinc (L' := [some (.inr (.inr (some 66))), some (.inl v1), some (.inl v2), some (.inl v3), some (.inl v4), some (.inl v5), some (.inl (w32 (v6 + 1)))]) (pc := 126) (tb_at tkX11_copy 70 rfl) rfl (by decide) rfl ?_
    refine r_goto (tgt := 103) (pc := 129) (tb_at tkX11_copy 71 rfl) (by decide) ?_
    exact h
set_option maxRecDepth 100000 in
set_option maxHeartbeats 4000000 in
theorem gX11_copy_135 {G : GE} {d : Nat} {K : Int → Mem → Prop} {M : Mem} {v3 v4 v5 v6 : Int}  (h : ((v5 ≤ v6 → K v5 M) ∧ (v6 < v5 → (0 ≤ v6 ∧ v6 < 40) ∧ (0 ≤ ((40 * v3) + v4) + v6 ∧ ((40 * v3) + v4) + v6 < 160) ∧ OkI G miX11_copy (d + 1) K 135 [some (.inr (.inr (some 66))), none, none, some (.inl v3), some (.inl v4), some (.inl v5), some (.inl (w32 (v6 + 1)))] [] (mup M 82 (((40 * v3) + v4) + v6).toNat (M 83 (v6).toNat))))) : OkI G miX11_copy (d + 1) K 135 [some (.inr (.inr (some 66))), none, none, some (.inl v3), some (.inl v4), some (.inl v5), some (.inl v6)] [] M := by
  refine r_iload (pc := 135) (tb_at tkX11_copy 74 rfl) rfl ?_
  refine r_iload (pc := 137) (tb_at tkX11_copy 75 rfl) rfl ?_
  refine q_icmp_ge (tgt := 170) (pc := 139) (tb_at tkX11_copy 76 rfl) (by decide) (fun c => ?_) (fun c => ?_)
  · replace h := h.1 c
    refine r_iload (pc := 170) (tb_at tkX11_copy 93 rfl) rfl ?_
    exact r_iret (pc := 172) (tb_at tkX11_copy 94 rfl) rfl (Nat.le_refl _) (Nat.le_refl _) ⟨_, rfl, rfl, h⟩
  · replace h := h.2 c
    refine r_aload_n (pc := 142) (tb_at tkX11_copy 77 rfl) rfl rfl ?_
    refine r_get 10 25 (pc := 143) (tb_at tkX11_copy 78 rfl) ly_66 flX11_58 rfl ?_
    refine r_bipush (pc := 146) (tb_at tkX11_copy 79 rfl) ⟨by decide, by decide, by decide⟩ ?_
    refine r_iload_n (pc := 148) (tb_at tkX11_copy 80 rfl) rfl rfl ?_
    refine r_imul (pc := 149) (tb_at tkX11_copy 81 rfl) ?_
    refine r_iload (pc := 150) (tb_at tkX11_copy 82 rfl) rfl ?_
    refine r_iadd_l (pc := 152) (tb_at tkX11_copy 83 rfl) ?_
    refine r_iload (pc := 153) (tb_at tkX11_copy 84 rfl) rfl ?_
    refine r_iadd_l (pc := 155) (tb_at tkX11_copy 85 rfl) ?_
    refine r_aload_n (pc := 156) (tb_at tkX11_copy 86 rfl) rfl rfl ?_
    refine r_get 10 26 (pc := 157) (tb_at tkX11_copy 87 rfl) ly_66 flX11_61 rfl ?_
    refine r_iload (pc := 160) (tb_at tkX11_copy 88 rfl) rfl ?_
    refine r_lald (pc := 162) (tb_at tkX11_copy 89 rfl) ly_83 h.1.1 h.1.2 ?_
    replace h := h.2
    refine r_last_w (pc := 163) (tb_at tkX11_copy 90 rfl) ly_82 (by decide) h.1.1 h.1.2 rfl ?_
    replace h := h.2
    refine r_iinc (L' := [some (.inr (.inr (some 66))), none, none, some (.inl v3), some (.inl v4), some (.inl v5), some (.inl (w32 (v6 + 1)))]) (pc := 164) (tb_at tkX11_copy 91 rfl) rfl (by decide) rfl ?_
    refine r_goto (tgt := 135) (pc := 167) (tb_at tkX11_copy 92 rfl) (by decide) ?_
    exact h
set_option maxRecDepth 100000 in
set_option maxHeartbeats 4000000 in
theorem gX11_load_0 {G : GE} {d : Nat} {K : Int → Mem → Prop} {M : Mem} {v1 v2 v3 v4 : Int}  (h : CalI G miX11_isSheet d [.inl v1] M (fun x2 M1 => ((x2 = 0 → K (-2) M1) ∧ (¬ x2 = 0 → CalI G miX11_in d [.inr (.inl v2), .inr (.inl 0), .inr (.inl 1)] M1 (fun x4 M3 => ((x4 = 0 → K (-2) M3) ∧ (¬ x4 = 0 → CalI G miX11_in d [.inr (.inl v4), .inr (.inl 0), .inr (.inl 7)] M3 (fun x6 M5 => ((¬ x6 = 0 → (0 ≤ v1 ∧ v1 < 4) ∧ ((0 ≤ (M5 80 (v1).toNat) → (0 ≤ v1 ∧ v1 < 4) ∧ (((M5 80 (v1).toNat) = v2 → OkI G miX11_load (d + 1) K 64 [some (.inr (.inr (some 66))), some (.inl v1), none, some (.inl v3), some (.inl v4), some (.inl 0), some (.inl 0), none] [] M5) ∧ (¬ (M5 80 (v1).toNat) = v2 → K (-13) M5))) ∧ ((M5 80 (v1).toNat) < 0 → K (-11) M5))) ∧ (x6 = 0 → K (-2) M5)))))))))) : OkI G miX11_load (d + 1) K 0 [some (.inr (.inr (some 66))), some (.inl v1), some (.inl v2), some (.inl v3), some (.inl v4), none, none, none] [] M := by
  refine r_iload_n (pc := 0) (tb_at tkX11_load 0 rfl) rfl rfl ?_
  refine r_invS (mc' := 0) (ms' := 0) [.inl v1] (S := []) (pc := 1) (tb_at tkX11_load 1 rfl) rfl clX11_296 (Nat.le_of_ble_eq_true rfl) (Nat.le_refl _) (Nat.le_refl _) ?_
  refine Cal.mono h ?_
  rintro _ _ M1 ⟨x2, rfl, rfl, h⟩
  show OkI G miX11_load (d + 1) K 4 [some (.inr (.inr (some 66))), some (.inl v1), some (.inl v2), some (.inl v3), some (.inl v4), none, none, none] [.inl x2] M1
  refine q_if_eq (tgt := 30) (pc := 4) (tb_at tkX11_load 2 rfl) (by decide) (fun c => ?_) (fun c => ?_)
  · replace h := h.1 c
    refine r_bipush (pc := 30) (tb_at tkX11_load 15 rfl) ⟨by decide, by decide, by decide⟩ ?_
    exact r_iret (pc := 32) (tb_at tkX11_load 16 rfl) rfl (Nat.le_refl _) (Nat.le_refl _) ⟨_, rfl, rfl, h⟩
  · replace h := h.2 c
    refine r_iload_n (pc := 7) (tb_at tkX11_load 3 rfl) rfl rfl ?_
    refine r_i2l (pc := 8) (tb_at tkX11_load 4 rfl) ?_
    refine r_lconst (v := 0) (pc := 9) (tb_at tkX11_load 5 rfl) ⟨by decide, by decide, by decide⟩ ?_
    refine r_lconst (v := 1) (pc := 10) (tb_at tkX11_load 6 rfl) ⟨by decide, by decide, by decide⟩ ?_
    refine r_invS (mc' := 0) (ms' := 0) [.inr (.inl v2), .inr (.inl 0), .inr (.inl 1)] (S := []) (pc := 11) (tb_at tkX11_load 7 rfl) rfl clX11_103 (Nat.le_of_ble_eq_true rfl) (Nat.le_refl _) (Nat.le_refl _) ?_
    refine Cal.mono h ?_
    rintro _ _ M3 ⟨x4, rfl, rfl, h⟩
    show OkI G miX11_load (d + 1) K 14 [some (.inr (.inr (some 66))), some (.inl v1), some (.inl v2), some (.inl v3), some (.inl v4), none, none, none] [.inl x4] M3
    refine q_if_eq (tgt := 30) (pc := 14) (tb_at tkX11_load 8 rfl) (by decide) (fun c => ?_) (fun c => ?_)
    · replace h := h.1 c
      refine r_bipush (pc := 30) (tb_at tkX11_load 15 rfl) ⟨by decide, by decide, by decide⟩ ?_
      exact r_iret (pc := 32) (tb_at tkX11_load 16 rfl) rfl (Nat.le_refl _) (Nat.le_refl _) ⟨_, rfl, rfl, h⟩
    · replace h := h.2 c
      refine r_iload (pc := 17) (tb_at tkX11_load 9 rfl) rfl ?_
      refine r_i2l (pc := 19) (tb_at tkX11_load 10 rfl) ?_
      refine r_lconst (v := 0) (pc := 20) (tb_at tkX11_load 11 rfl) ⟨by decide, by decide, by decide⟩ ?_
      refine r_ldc2 (n := 7) (pc := 21) (tb_at tkX11_load 12 rfl) kcX11_303 ⟨by decide, by decide⟩ ?_
      refine r_invS (mc' := 0) (ms' := 0) [.inr (.inl v4), .inr (.inl 0), .inr (.inl 7)] (S := []) (pc := 24) (tb_at tkX11_load 13 rfl) rfl clX11_103 (Nat.le_of_ble_eq_true rfl) (Nat.le_refl _) (Nat.le_refl _) ?_
      refine Cal.mono h ?_
      rintro _ _ M5 ⟨x6, rfl, rfl, h⟩
      show OkI G miX11_load (d + 1) K 27 [some (.inr (.inr (some 66))), some (.inl v1), some (.inl v2), some (.inl v3), some (.inl v4), none, none, none] [.inl x6] M5
      refine q_if_ne (tgt := 33) (pc := 27) (tb_at tkX11_load 14 rfl) (by decide) (fun c => ?_) (fun c => ?_)
      · replace h := h.1 c
        refine r_aload_n (pc := 33) (tb_at tkX11_load 17 rfl) rfl rfl ?_
        refine r_get 10 23 (pc := 34) (tb_at tkX11_load 18 rfl) ly_66 flX11_52 rfl ?_
        refine r_iload_n (pc := 37) (tb_at tkX11_load 19 rfl) rfl rfl ?_
        refine r_iald (pc := 38) (tb_at tkX11_load 20 rfl) ly_80 h.1.1 h.1.2 ?_
        replace h := h.2
        refine q_if_ge (tgt := 45) (pc := 39) (tb_at tkX11_load 21 rfl) (by decide) (fun c => ?_) (fun c => ?_)
        · replace h := h.1 c
          refine r_aload_n (pc := 45) (tb_at tkX11_load 24 rfl) rfl rfl ?_
          refine r_get 10 23 (pc := 46) (tb_at tkX11_load 25 rfl) ly_66 flX11_52 rfl ?_
          refine r_iload_n (pc := 49) (tb_at tkX11_load 26 rfl) rfl rfl ?_
          refine r_iald (pc := 50) (tb_at tkX11_load 27 rfl) ly_80 h.1.1 h.1.2 ?_
          replace h := h.2
          refine r_iload_n (pc := 51) (tb_at tkX11_load 28 rfl) rfl rfl ?_
          refine q_icmp_eq (tgt := 58) (pc := 52) (tb_at tkX11_load 29 rfl) (by decide) (fun c => ?_) (fun c => ?_)
          · replace h := h.1 c
            refine r_iconst (pc := 58) (tb_at tkX11_load 32 rfl) ⟨by decide, by decide⟩ ?_
            refine r_istore (L' := [some (.inr (.inr (some 66))), some (.inl v1), some (.inl v2), some (.inl v3), some (.inl v4), some (.inl 0), none, none]) (pc := 59) (tb_at tkX11_load 33 rfl) (by decide) rfl ?_
            refine r_iconst (pc := 61) (tb_at tkX11_load 34 rfl) ⟨by decide, by decide⟩ ?_
            refine r_istore (L' := [some (.inr (.inr (some 66))), some (.inl v1), some (.inl v2), some (.inl v3), some (.inl v4), some (.inl 0), some (.inl 0), none]) (pc := 62) (tb_at tkX11_load 35 rfl) (by decide) rfl ?_
            exact Ok.forget h (And.intro rfl (And.intro rfl (And.intro rfl (And.intro rfl (And.intro rfl (And.intro rfl trivial))))))
          · replace h := h.2 c
            refine r_bipush (pc := 55) (tb_at tkX11_load 30 rfl) ⟨by decide, by decide, by decide⟩ ?_
            exact r_iret (pc := 57) (tb_at tkX11_load 31 rfl) rfl (Nat.le_refl _) (Nat.le_refl _) ⟨_, rfl, rfl, h⟩
        · replace h := h.2 c
          refine r_bipush (pc := 42) (tb_at tkX11_load 22 rfl) ⟨by decide, by decide, by decide⟩ ?_
          exact r_iret (pc := 44) (tb_at tkX11_load 23 rfl) rfl (Nat.le_refl _) (Nat.le_refl _) ⟨_, rfl, rfl, h⟩
      · replace h := h.2 c
        refine r_bipush (pc := 30) (tb_at tkX11_load 15 rfl) ⟨by decide, by decide, by decide⟩ ?_
        exact r_iret (pc := 32) (tb_at tkX11_load 16 rfl) rfl (Nat.le_refl _) (Nat.le_refl _) ⟨_, rfl, rfl, h⟩
set_option maxRecDepth 100000 in
set_option maxHeartbeats 4000000 in
theorem gX11_load_64 {G : GE} {d : Nat} {K : Int → Mem → Prop} {M : Mem} {v1 v3 v4 v5 v6 : Int}  (h : ((v4 ≤ v6 → K v5 M) ∧ (v6 < v4 → ((v3 < 0 → K (-12) M) ∧ (0 ≤ v3 → (0 ≤ v1 ∧ v1 < 4) ∧ ((v3 ≤ (w32 (((M 81 (v1).toNat) - (4 * v6)) - 4)) → CalL G miX11_itemOf d [.inr (.inr (some 66)), .inl v1, .inl (w32 (v3 + (4 * v6)))] M (fun x2 M1 => CalL G miX11_itemOf d [.inr (.inr (some 66)), .inl v1, .inl (w32 ((v3 + (4 * v6)) + 1))] M1 (fun x4 M3 => CalL G miX11_itemOf d [.inr (.inr (some 66)), .inl v1, .inl (w32 ((v3 + (4 * v6)) + 2))] M3 (fun x6 M5 => CalL G miX11_itemOf d [.inr (.inr (some 66)), .inl v1, .inl (w32 ((v3 + (4 * v6)) + 3))] M5 (fun x8 M7 => CalI G miX11_fly d [.inr (.inr (some 66)), .inl (w32 x2), .inl (w32 x4), .inl (w32 x6), .inl (w32 x8)] M7 (fun x10 M9 => OkI G miX11_load (d + 1) K 64 [some (.inr (.inr (some 66))), some (.inl v1), none, some (.inl v3), some (.inl v4), some (.inl (w32 (v5 + (if ¬ (x10 < 0) then (1 : Int) else 0)))), some (.inl (w32 (v6 + 1))), none] [] M9)))))) ∧ ((w32 (((M 81 (v1).toNat) - (4 * v6)) - 4)) < v3 → K (-12) M))))))) : OkI G miX11_load (d + 1) K 64 [some (.inr (.inr (some 66))), some (.inl v1), none, some (.inl v3), some (.inl v4), some (.inl v5), some (.inl v6), none] [] M := by
  refine r_iload (pc := 64) (tb_at tkX11_load 36 rfl) rfl ?_
  refine r_iload (pc := 66) (tb_at tkX11_load 37 rfl) rfl ?_
  refine q_icmp_ge (tgt := 164) (pc := 68) (tb_at tkX11_load 38 rfl) (by decide) (fun c => ?_) (fun c => ?_)
  · replace h := h.1 c
    refine r_iload (pc := 164) (tb_at tkX11_load 98 rfl) rfl ?_
    exact r_iret (pc := 166) (tb_at tkX11_load 99 rfl) rfl (Nat.le_refl _) (Nat.le_refl _) ⟨_, rfl, rfl, h⟩
  · replace h := h.2 c
    refine r_iload_n (pc := 71) (tb_at tkX11_load 39 rfl) rfl rfl ?_
    refine q_if_lt (tgt := 92) (pc := 72) (tb_at tkX11_load 40 rfl) (by decide) (fun c => ?_) (fun c => ?_)
    · replace h := h.1 c
      refine r_bipush (pc := 92) (tb_at tkX11_load 53 rfl) ⟨by decide, by decide, by decide⟩ ?_
      exact r_iret (pc := 94) (tb_at tkX11_load 54 rfl) rfl (Nat.le_refl _) (Nat.le_refl _) ⟨_, rfl, rfl, h⟩
    · replace h := h.2 c
      refine r_iload_n (pc := 75) (tb_at tkX11_load 41 rfl) rfl rfl ?_
      refine r_aload_n (pc := 76) (tb_at tkX11_load 42 rfl) rfl rfl ?_
      refine r_get 10 24 (pc := 77) (tb_at tkX11_load 43 rfl) ly_66 flX11_55 rfl ?_
      refine r_iload_n (pc := 80) (tb_at tkX11_load 44 rfl) rfl rfl ?_
      refine r_iald (pc := 81) (tb_at tkX11_load 45 rfl) ly_81 h.1.1 h.1.2 ?_
      replace h := h.2
      refine r_iconst (pc := 82) (tb_at tkX11_load 46 rfl) ⟨by decide, by decide⟩ ?_
      refine r_iload (pc := 83) (tb_at tkX11_load 47 rfl) rfl ?_
      refine r_imul (pc := 85) (tb_at tkX11_load 48 rfl) ?_
      refine r_isub_r (pc := 86) (tb_at tkX11_load 49 rfl) ?_
      refine r_iconst (pc := 87) (tb_at tkX11_load 50 rfl) ⟨by decide, by decide⟩ ?_
      refine r_isub_l (pc := 88) (tb_at tkX11_load 51 rfl) ?_
      refine q_icmp_le (tgt := 95) (pc := 89) (tb_at tkX11_load 52 rfl) (by decide) (fun c => ?_) (fun c => ?_)
      · replace h := h.1 c
        refine r_iload_n (pc := 95) (tb_at tkX11_load 55 rfl) rfl rfl ?_
        refine r_iconst (pc := 96) (tb_at tkX11_load 56 rfl) ⟨by decide, by decide⟩ ?_
        refine r_iload (pc := 97) (tb_at tkX11_load 57 rfl) rfl ?_
        refine r_imul (pc := 99) (tb_at tkX11_load 58 rfl) ?_
        refine r_iadd_r (pc := 100) (tb_at tkX11_load 59 rfl) ?_
        refine r_istore (L' := [some (.inr (.inr (some 66))), some (.inl v1), none, some (.inl v3), some (.inl v4), some (.inl v5), some (.inl v6), some (.inl (w32 (v3 + (4 * v6))))]) (pc := 101) (tb_at tkX11_load 60 rfl) (by decide) rfl ?_
        refine r_iload (pc := 103) (tb_at tkX11_load 61 rfl) rfl ?_
        refine r_aload_n (pc := 105) (tb_at tkX11_load 62 rfl) rfl rfl ?_
        refine r_aload_n (pc := 106) (tb_at tkX11_load 63 rfl) rfl rfl ?_
        refine r_iload_n (pc := 107) (tb_at tkX11_load 64 rfl) rfl rfl ?_
        refine r_iload (pc := 108) (tb_at tkX11_load 65 rfl) rfl ?_
        refine r_invV (mc' := 0) (ms' := 0) [.inl v1, .inl (w32 (v3 + (4 * v6)))] (S := [.inr (.inr (some 66)), .inl v5]) (pc := 110) (tb_at tkX11_load 66 rfl) rfl ly_66 rfl rfl clX11_299 (Nat.le_of_ble_eq_true rfl) (Nat.le_refl _) (Nat.le_refl _) ?_
        refine Cal.mono h ?_
        rintro _ _ M1 ⟨x2, rfl, rfl, h⟩
        show OkI G miX11_load (d + 1) K 113 [some (.inr (.inr (some 66))), some (.inl v1), none, some (.inl v3), some (.inl v4), some (.inl v5), some (.inl v6), some (.inl (w32 (v3 + (4 * v6))))] [.inr (.inl x2), .inr (.inr (some 66)), .inl v5] M1
        refine r_l2i (pc := 113) (tb_at tkX11_load 67 rfl) ?_
        refine r_aload_n (pc := 114) (tb_at tkX11_load 68 rfl) rfl rfl ?_
        refine r_iload_n (pc := 115) (tb_at tkX11_load 69 rfl) rfl rfl ?_
        refine r_iload (pc := 116) (tb_at tkX11_load 70 rfl) rfl ?_
        refine r_iconst (pc := 118) (tb_at tkX11_load 71 rfl) ⟨by decide, by decide⟩ ?_
        refine r_iadd_l (pc := 119) (tb_at tkX11_load 72 rfl) ?_
        refine r_invV (mc' := 0) (ms' := 0) [.inl v1, .inl (w32 ((v3 + (4 * v6)) + 1))] (S := [.inl (w32 x2), .inr (.inr (some 66)), .inl v5]) (pc := 120) (tb_at tkX11_load 73 rfl) rfl ly_66 rfl rfl clX11_299 (Nat.le_of_ble_eq_true rfl) (Nat.le_refl _) (Nat.le_refl _) ?_
        refine Cal.mono h ?_
        rintro _ _ M3 ⟨x4, rfl, rfl, h⟩
        show OkI G miX11_load (d + 1) K 123 [some (.inr (.inr (some 66))), some (.inl v1), none, some (.inl v3), some (.inl v4), some (.inl v5), some (.inl v6), some (.inl (w32 (v3 + (4 * v6))))] [.inr (.inl x4), .inl (w32 x2), .inr (.inr (some 66)), .inl v5] M3
        refine r_l2i (pc := 123) (tb_at tkX11_load 74 rfl) ?_
        refine r_aload_n (pc := 124) (tb_at tkX11_load 75 rfl) rfl rfl ?_
        refine r_iload_n (pc := 125) (tb_at tkX11_load 76 rfl) rfl rfl ?_
        refine r_iload (pc := 126) (tb_at tkX11_load 77 rfl) rfl ?_
        refine r_iconst (pc := 128) (tb_at tkX11_load 78 rfl) ⟨by decide, by decide⟩ ?_
        refine r_iadd_l (pc := 129) (tb_at tkX11_load 79 rfl) ?_
        refine r_invV (mc' := 0) (ms' := 0) [.inl v1, .inl (w32 ((v3 + (4 * v6)) + 2))] (S := [.inl (w32 x4), .inl (w32 x2), .inr (.inr (some 66)), .inl v5]) (pc := 130) (tb_at tkX11_load 80 rfl) rfl ly_66 rfl rfl clX11_299 (Nat.le_of_ble_eq_true rfl) (Nat.le_refl _) (Nat.le_refl _) ?_
        refine Cal.mono h ?_
        rintro _ _ M5 ⟨x6, rfl, rfl, h⟩
        show OkI G miX11_load (d + 1) K 133 [some (.inr (.inr (some 66))), some (.inl v1), none, some (.inl v3), some (.inl v4), some (.inl v5), some (.inl v6), some (.inl (w32 (v3 + (4 * v6))))] [.inr (.inl x6), .inl (w32 x4), .inl (w32 x2), .inr (.inr (some 66)), .inl v5] M5
        refine r_l2i (pc := 133) (tb_at tkX11_load 81 rfl) ?_
        refine r_aload_n (pc := 134) (tb_at tkX11_load 82 rfl) rfl rfl ?_
        refine r_iload_n (pc := 135) (tb_at tkX11_load 83 rfl) rfl rfl ?_
        refine r_iload (pc := 136) (tb_at tkX11_load 84 rfl) rfl ?_
        refine r_iconst (pc := 138) (tb_at tkX11_load 85 rfl) ⟨by decide, by decide⟩ ?_
        refine r_iadd_l (pc := 139) (tb_at tkX11_load 86 rfl) ?_
        refine r_invV (mc' := 0) (ms' := 0) [.inl v1, .inl (w32 ((v3 + (4 * v6)) + 3))] (S := [.inl (w32 x6), .inl (w32 x4), .inl (w32 x2), .inr (.inr (some 66)), .inl v5]) (pc := 140) (tb_at tkX11_load 87 rfl) rfl ly_66 rfl rfl clX11_299 (Nat.le_of_ble_eq_true rfl) (Nat.le_refl _) (Nat.le_refl _) ?_
        refine Cal.mono h ?_
        rintro _ _ M7 ⟨x8, rfl, rfl, h⟩
        show OkI G miX11_load (d + 1) K 143 [some (.inr (.inr (some 66))), some (.inl v1), none, some (.inl v3), some (.inl v4), some (.inl v5), some (.inl v6), some (.inl (w32 (v3 + (4 * v6))))] [.inr (.inl x8), .inl (w32 x6), .inl (w32 x4), .inl (w32 x2), .inr (.inr (some 66)), .inl v5] M7
        refine r_l2i (pc := 143) (tb_at tkX11_load 88 rfl) ?_
        refine r_invV (mc' := 0) (ms' := 0) [.inl (w32 x2), .inl (w32 x4), .inl (w32 x6), .inl (w32 x8)] (S := [.inl v5]) (pc := 144) (tb_at tkX11_load 89 rfl) rfl ly_66 rfl rfl clX11_305 (Nat.le_of_ble_eq_true rfl) (Nat.le_refl _) (Nat.le_refl _) ?_
        refine Cal.mono h ?_
        rintro _ _ M9 ⟨x10, rfl, rfl, h⟩
        show OkI G miX11_load (d + 1) K 147 [some (.inr (.inr (some 66))), some (.inl v1), none, some (.inl v3), some (.inl v4), some (.inl v5), some (.inl v6), some (.inl (w32 (v3 + (4 * v6))))] [.inl x10, .inl v5] M9
        have hJ11 : ∀ t0 : Int, t0 = (if ¬ (x10 < 0) then (1 : Int) else 0) → OkI G miX11_load (d + 1) K 155 [some (.inr (.inr (some 66))), some (.inl v1), none, some (.inl v3), some (.inl v4), some (.inl v5), some (.inl v6), some (.inl (w32 (v3 + (4 * v6))))] [.inl t0, .inl v5] M9 := by
          rintro _ rfl
          refine r_iadd (pc := 155) (tb_at tkX11_load 94 rfl) ?_
          refine r_istore (L' := [some (.inr (.inr (some 66))), some (.inl v1), none, some (.inl v3), some (.inl v4), some (.inl (w32 (v5 + (if ¬ (x10 < 0) then (1 : Int) else 0)))), some (.inl v6), some (.inl (w32 (v3 + (4 * v6))))]) (pc := 156) (tb_at tkX11_load 95 rfl) (by decide) rfl ?_
          refine r_iinc (L' := [some (.inr (.inr (some 66))), some (.inl v1), none, some (.inl v3), some (.inl v4), some (.inl (w32 (v5 + (if ¬ (x10 < 0) then (1 : Int) else 0)))), some (.inl (w32 (v6 + 1))), some (.inl (w32 (v3 + (4 * v6))))]) (pc := 158) (tb_at tkX11_load 96 rfl) rfl (by decide) rfl ?_
          refine r_goto (tgt := 64) (pc := 161) (tb_at tkX11_load 97 rfl) (by decide) ?_
          exact Ok.forget h (And.intro rfl (And.intro rfl (And.intro rfl (And.intro rfl (And.intro rfl (And.intro rfl trivial))))))
        refine q_if_lt (tgt := 154) (pc := 147) (tb_at tkX11_load 90 rfl) (by decide) (fun c12 => ?_) (fun c12 => ?_)
        · refine r_iconst (pc := 154) (tb_at tkX11_load 93 rfl) ⟨by decide, by decide⟩ ?_
          exact hJ11 _ (by simp only [if_neg (not_not_intro c12)])
        · refine r_iconst (pc := 150) (tb_at tkX11_load 91 rfl) ⟨by decide, by decide⟩ ?_
          refine r_goto (tgt := 155) (pc := 151) (tb_at tkX11_load 92 rfl) (by decide) ?_
          exact hJ11 _ (by simp only [if_pos (Int.not_lt.mpr c12)])
      · replace h := h.2 c
        refine r_bipush (pc := 92) (tb_at tkX11_load 53 rfl) ⟨by decide, by decide, by decide⟩ ?_
        exact r_iret (pc := 94) (tb_at tkX11_load 54 rfl) rfl (Nat.le_refl _) (Nat.le_refl _) ⟨_, rfl, rfl, h⟩
set_option maxRecDepth 100000 in
set_option maxHeartbeats 4000000 in
theorem gX11_toldWrong_0 {G : GE} {d : Nat} {K : Int → Mem → Prop} {M : Mem} {v1 v2 : Int}  (h : (0 ≤ v1 ∧ v1 < 4) ∧ ((0 ≤ (M 80 (v1).toNat) → (0 ≤ v1 ∧ v1 < 4) ∧ OkI G miX11_toldWrong (d + 1) K 37 [some (.inr (.inr (some 66))), some (.inl v1), some (.inr (.inl v2)), none, some (.inl (if (M 81 (v1).toNat) = (M 67 0) then (1 : Int) else 0)), some (.inl 0)] [] M) ∧ ((M 80 (v1).toNat) < 0 → K (-11) M))) : OkI G miX11_toldWrong (d + 1) K 0 [some (.inr (.inr (some 66))), some (.inl v1), some (.inr (.inl v2)), none, none, none] [] M := by
  refine r_aload_n (pc := 0) (tb_at tkX11_toldWrong 0 rfl) rfl rfl ?_
  refine r_get 10 23 (pc := 1) (tb_at tkX11_toldWrong 1 rfl) ly_66 flX11_52 rfl ?_
  refine r_iload_n (pc := 4) (tb_at tkX11_toldWrong 2 rfl) rfl rfl ?_
  refine r_iald (pc := 5) (tb_at tkX11_toldWrong 3 rfl) ly_80 h.1.1 h.1.2 ?_
  replace h := h.2
  refine q_if_ge (tgt := 12) (pc := 6) (tb_at tkX11_toldWrong 4 rfl) (by decide) (fun c => ?_) (fun c => ?_)
  · replace h := h.1 c
    refine r_aload_n (pc := 12) (tb_at tkX11_toldWrong 7 rfl) rfl rfl ?_
    refine r_get 10 24 (pc := 13) (tb_at tkX11_toldWrong 8 rfl) ly_66 flX11_55 rfl ?_
    refine r_iload_n (pc := 16) (tb_at tkX11_toldWrong 9 rfl) rfl rfl ?_
    refine r_iald (pc := 17) (tb_at tkX11_toldWrong 10 rfl) ly_81 h.1.1 h.1.2 ?_
    replace h := h.2
    refine r_aload_n (pc := 18) (tb_at tkX11_toldWrong 11 rfl) rfl rfl ?_
    refine r_get 10 0 (pc := 19) (tb_at tkX11_toldWrong 12 rfl) ly_66 flX11_11 rfl ?_
    refine r_iconst (pc := 22) (tb_at tkX11_toldWrong 13 rfl) ⟨by decide, by decide⟩ ?_
    refine r_iald_k (k0 := 0) (pc := 23) (tb_at tkX11_toldWrong 14 rfl) ly_67 rfl (by decide) (by decide) ?_
    have hJ1 : ∀ t0 : Int, t0 = (if (M 81 (v1).toNat) = (M 67 0) then (1 : Int) else 0) → OkI G miX11_toldWrong (d + 1) K 32 [some (.inr (.inr (some 66))), some (.inl v1), some (.inr (.inl v2)), none, none, none] [.inl t0] M := by
      rintro _ rfl
      refine r_istore (L' := [some (.inr (.inr (some 66))), some (.inl v1), some (.inr (.inl v2)), none, some (.inl (if (M 81 (v1).toNat) = (M 67 0) then (1 : Int) else 0)), none]) (pc := 32) (tb_at tkX11_toldWrong 19 rfl) (by decide) rfl ?_
      refine r_iconst (pc := 34) (tb_at tkX11_toldWrong 20 rfl) ⟨by decide, by decide⟩ ?_
      refine r_istore (L' := [some (.inr (.inr (some 66))), some (.inl v1), some (.inr (.inl v2)), none, some (.inl (if (M 81 (v1).toNat) = (M 67 0) then (1 : Int) else 0)), some (.inl 0)]) (pc := 35) (tb_at tkX11_toldWrong 21 rfl) (by decide) rfl ?_
      exact h
    refine q_icmp_ne (tgt := 31) (pc := 24) (tb_at tkX11_toldWrong 15 rfl) (by decide) (fun c2 => ?_) (fun c2 => ?_)
    · refine r_iconst (pc := 31) (tb_at tkX11_toldWrong 18 rfl) ⟨by decide, by decide⟩ ?_
      exact hJ1 _ (by simp only [if_neg c2])
    · refine r_iconst (pc := 27) (tb_at tkX11_toldWrong 16 rfl) ⟨by decide, by decide⟩ ?_
      refine r_goto (tgt := 32) (pc := 28) (tb_at tkX11_toldWrong 17 rfl) (by decide) ?_
      exact hJ1 _ (by simp only [if_pos c2])
  · replace h := h.2 c
    refine r_bipush (pc := 9) (tb_at tkX11_toldWrong 5 rfl) ⟨by decide, by decide, by decide⟩ ?_
    exact r_iret (pc := 11) (tb_at tkX11_toldWrong 6 rfl) rfl (Nat.le_refl _) (Nat.le_refl _) ⟨_, rfl, rfl, h⟩
set_option maxRecDepth 100000 in
set_option maxHeartbeats 4000000 in
theorem gX11_toldWrong_37 {G : GE} {d : Nat} {K : Int → Mem → Prop} {M : Mem} {v1 v2 v4 v5 : Int}  (h : (((M 67 0) ≤ v5 → OkI G miX11_toldWrong (d + 1) K 75 [none, none, none, none, some (.inl v4), none] [] M) ∧ (v5 < (M 67 0) → ((v4 = 0 → OkI G miX11_toldWrong (d + 1) K 75 [none, none, none, none, some (.inl v4), none] [] M) ∧ (¬ v4 = 0 → CalL G miX11_itemOf d [.inr (.inr (some 66)), .inl v1, .inl v5] M (fun x2 M1 => CalI G miX11_in d [.inr (.inl x2), .inr (.inl v2), .inr (.inl 999999)] M1 (fun x4 M3 => OkI G miX11_toldWrong (d + 1) K 37 [some (.inr (.inr (some 66))), some (.inl v1), some (.inr (.inl v2)), none, some (.inl x4), some (.inl (w32 (v5 + 1)))] [] M3))))))) : OkI G miX11_toldWrong (d + 1) K 37 [some (.inr (.inr (some 66))), some (.inl v1), some (.inr (.inl v2)), none, some (.inl v4), some (.inl v5)] [] M := by
  refine r_iload (pc := 37) (tb_at tkX11_toldWrong 22 rfl) rfl ?_
  refine r_aload_n (pc := 39) (tb_at tkX11_toldWrong 23 rfl) rfl rfl ?_
  refine r_get 10 0 (pc := 40) (tb_at tkX11_toldWrong 24 rfl) ly_66 flX11_11 rfl ?_
  refine r_iconst (pc := 43) (tb_at tkX11_toldWrong 25 rfl) ⟨by decide, by decide⟩ ?_
  refine r_iald_k (k0 := 0) (pc := 44) (tb_at tkX11_toldWrong 26 rfl) ly_67 rfl (by decide) (by decide) ?_
  refine q_icmp_ge (tgt := 75) (pc := 45) (tb_at tkX11_toldWrong 27 rfl) (by decide) (fun c => ?_) (fun c => ?_)
  · replace h := h.1 c
    exact Ok.forget h (And.intro rfl trivial)
  · replace h := h.2 c
    refine r_iload (pc := 48) (tb_at tkX11_toldWrong 28 rfl) rfl ?_
    refine q_if_eq (tgt := 75) (pc := 50) (tb_at tkX11_toldWrong 29 rfl) (by decide) (fun c => ?_) (fun c => ?_)
    · replace h := h.1 c
      exact Ok.forget h (And.intro rfl trivial)
    · replace h := h.2 c
      refine r_aload_n (pc := 53) (tb_at tkX11_toldWrong 30 rfl) rfl rfl ?_
      refine r_iload_n (pc := 54) (tb_at tkX11_toldWrong 31 rfl) rfl rfl ?_
      refine r_iload (pc := 55) (tb_at tkX11_toldWrong 32 rfl) rfl ?_
      refine r_invV (mc' := 0) (ms' := 0) [.inl v1, .inl v5] (S := []) (pc := 57) (tb_at tkX11_toldWrong 33 rfl) rfl ly_66 rfl rfl clX11_299 (Nat.le_of_ble_eq_true rfl) (Nat.le_refl _) (Nat.le_refl _) ?_
      refine Cal.mono h ?_
      rintro _ _ M1 ⟨x2, rfl, rfl, h⟩
      show OkI G miX11_toldWrong (d + 1) K 60 [some (.inr (.inr (some 66))), some (.inl v1), some (.inr (.inl v2)), none, some (.inl v4), some (.inl v5)] [.inr (.inl x2)] M1
      refine r_lload_n (pc := 60) (tb_at tkX11_toldWrong 34 rfl) rfl rfl ?_
      refine r_ldc2 (n := 999999) (pc := 61) (tb_at tkX11_toldWrong 35 rfl) kcX11_309 ⟨by decide, by decide⟩ ?_
      refine r_invS (mc' := 0) (ms' := 0) [.inr (.inl x2), .inr (.inl v2), .inr (.inl 999999)] (S := []) (pc := 64) (tb_at tkX11_toldWrong 36 rfl) rfl clX11_103 (Nat.le_of_ble_eq_true rfl) (Nat.le_refl _) (Nat.le_refl _) ?_
      refine Cal.mono h ?_
      rintro _ _ M3 ⟨x4, rfl, rfl, h⟩
      show OkI G miX11_toldWrong (d + 1) K 67 [some (.inr (.inr (some 66))), some (.inl v1), some (.inr (.inl v2)), none, some (.inl v4), some (.inl v5)] [.inl x4] M3
      refine r_istore (L' := [some (.inr (.inr (some 66))), some (.inl v1), some (.inr (.inl v2)), none, some (.inl x4), some (.inl v5)]) (pc := 67) (tb_at tkX11_toldWrong 37 rfl) (by decide) rfl ?_
      refine r_iinc (L' := [some (.inr (.inr (some 66))), some (.inl v1), some (.inr (.inl v2)), none, some (.inl x4), some (.inl (w32 (v5 + 1)))]) (pc := 69) (tb_at tkX11_toldWrong 38 rfl) rfl (by decide) rfl ?_
      refine r_goto (tgt := 37) (pc := 72) (tb_at tkX11_toldWrong 39 rfl) (by decide) ?_
      exact h
set_option maxRecDepth 100000 in
set_option maxHeartbeats 4000000 in
theorem gX11_toldWrong_75 {G : GE} {d : Nat} {K : Int → Mem → Prop} {M : Mem} {v4 : Int}  (h : ((v4 = 0 → K (-3) M) ∧ (¬ v4 = 0 → K 0 M))) : OkI G miX11_toldWrong (d + 1) K 75 [none, none, none, none, some (.inl v4), none] [] M := by
  refine r_iload (pc := 75) (tb_at tkX11_toldWrong 40 rfl) rfl ?_
  refine q_if_eq (tgt := 84) (pc := 77) (tb_at tkX11_toldWrong 41 rfl) (by decide) (fun c => ?_) (fun c => ?_)
  · replace h := h.1 c
    refine r_bipush (pc := 84) (tb_at tkX11_toldWrong 44 rfl) ⟨by decide, by decide, by decide⟩ ?_
    exact r_iret (pc := 86) (tb_at tkX11_toldWrong 45 rfl) rfl (Nat.le_refl _) (Nat.le_refl _) ⟨_, rfl, rfl, h⟩
  · replace h := h.2 c
    refine r_iconst (pc := 80) (tb_at tkX11_toldWrong 42 rfl) ⟨by decide, by decide⟩ ?_
    refine r_goto (tgt := 86) (pc := 81) (tb_at tkX11_toldWrong 43 rfl) (by decide) ?_
    exact r_iret (pc := 86) (tb_at tkX11_toldWrong 45 rfl) rfl (Nat.le_refl _) (Nat.le_refl _) ⟨_, rfl, rfl, h⟩
set_option maxRecDepth 100000 in
set_option maxHeartbeats 4000000 in
theorem gX11_comeTo_0 {G : GE} {d : Nat} {K : Int → Mem → Prop} {M : Mem} {v1 v2 : Int}  (h : OkL G miX11_comeTo (d + 1) K 5 [some (.inr (.inr (some 66))), some (.inl v1), some (.inl v2), some (.inr (.inl 0)), none, some (.inl 0)] [] M) : OkL G miX11_comeTo (d + 1) K 0 [some (.inr (.inr (some 66))), some (.inl v1), some (.inl v2), none, none, none] [] M := by
  refine r_lconst (v := 0) (pc := 0) (tb_at tkX11_comeTo 0 rfl) ⟨by decide, by decide, by decide⟩ ?_
  refine r_lstore_n (L' := [some (.inr (.inr (some 66))), some (.inl v1), some (.inl v2), some (.inr (.inl 0)), none, none]) (pc := 1) (tb_at tkX11_comeTo 1 rfl) rfl (by decide) rfl ?_
  refine r_iconst (pc := 2) (tb_at tkX11_comeTo 2 rfl) ⟨by decide, by decide⟩ ?_
  refine r_istore (L' := [some (.inr (.inr (some 66))), some (.inl v1), some (.inl v2), some (.inr (.inl 0)), none, some (.inl 0)]) (pc := 3) (tb_at tkX11_comeTo 3 rfl) (by decide) rfl ?_
  exact h
set_option maxRecDepth 100000 in
set_option maxHeartbeats 4000000 in
theorem gX11_comeTo_5 {G : GE} {d : Nat} {K : Int → Mem → Prop} {M : Mem} {v1 v2 v3 v5 : Int}  (h : (((M 67 0) ≤ v5 → K v3 M) ∧ (v5 < (M 67 0) → CalI G miX11_has d [.inl v2, .inl v5] M (fun x2 M1 => ((x2 = 0 → OkL G miX11_comeTo (d + 1) K 5 [some (.inr (.inr (some 66))), some (.inl v1), some (.inl v2), some (.inr (.inl (w64 (v3 + 0)))), none, some (.inl (w32 (v5 + 1)))] [] M1) ∧ (¬ x2 = 0 → CalL G miX11_itemOf d [.inr (.inr (some 66)), .inl v1, .inl v5] M1 (fun x4 M3 => OkL G miX11_comeTo (d + 1) K 5 [some (.inr (.inr (some 66))), some (.inl v1), some (.inl v2), some (.inr (.inl (w64 (v3 + x4)))), none, some (.inl (w32 (v5 + 1)))] [] M3))))))) : OkL G miX11_comeTo (d + 1) K 5 [some (.inr (.inr (some 66))), some (.inl v1), some (.inl v2), some (.inr (.inl v3)), none, some (.inl v5)] [] M := by
  refine r_iload (pc := 5) (tb_at tkX11_comeTo 4 rfl) rfl ?_
  refine r_aload_n (pc := 7) (tb_at tkX11_comeTo 5 rfl) rfl rfl ?_
  refine r_get 10 0 (pc := 8) (tb_at tkX11_comeTo 6 rfl) ly_66 flX11_11 rfl ?_
  refine r_iconst (pc := 11) (tb_at tkX11_comeTo 7 rfl) ⟨by decide, by decide⟩ ?_
  refine r_iald_k (k0 := 0) (pc := 12) (tb_at tkX11_comeTo 8 rfl) ly_67 rfl (by decide) (by decide) ?_
  refine q_icmp_ge (tgt := 45) (pc := 13) (tb_at tkX11_comeTo 9 rfl) (by decide) (fun c => ?_) (fun c => ?_)
  · replace h := h.1 c
    refine r_lload_n (pc := 45) (tb_at tkX11_comeTo 25 rfl) rfl rfl ?_
    exact r_lret (pc := 46) (tb_at tkX11_comeTo 26 rfl) rfl (Nat.le_refl _) (Nat.le_refl _) ⟨_, rfl, rfl, h⟩
  · replace h := h.2 c
    refine r_lload_n (pc := 16) (tb_at tkX11_comeTo 10 rfl) rfl rfl ?_
    refine r_iload_n (pc := 17) (tb_at tkX11_comeTo 11 rfl) rfl rfl ?_
    refine r_iload (pc := 18) (tb_at tkX11_comeTo 12 rfl) rfl ?_
    refine r_invS (mc' := 0) (ms' := 0) [.inl v2, .inl v5] (S := [.inr (.inl v3)]) (pc := 20) (tb_at tkX11_comeTo 13 rfl) rfl clX11_176 (Nat.le_of_ble_eq_true rfl) (Nat.le_refl _) (Nat.le_refl _) ?_
    refine Cal.mono h ?_
    rintro _ _ M1 ⟨x2, rfl, rfl, h⟩
    show OkL G miX11_comeTo (d + 1) K 23 [some (.inr (.inr (some 66))), some (.inl v1), some (.inl v2), some (.inr (.inl v3)), none, some (.inl v5)] [.inl x2, .inr (.inl v3)] M1
    refine q_if_eq (tgt := 36) (pc := 23) (tb_at tkX11_comeTo 14 rfl) (by decide) (fun c => ?_) (fun c => ?_)
    · replace h := h.1 c
      refine r_lconst (v := 0) (pc := 36) (tb_at tkX11_comeTo 20 rfl) ⟨by decide, by decide, by decide⟩ ?_
      refine r_ladd (pc := 37) (tb_at tkX11_comeTo 21 rfl) ?_
      refine r_lstore_n (L' := [some (.inr (.inr (some 66))), some (.inl v1), some (.inl v2), some (.inr (.inl (w64 (v3 + 0)))), none, some (.inl v5)]) (pc := 38) (tb_at tkX11_comeTo 22 rfl) rfl (by decide) rfl ?_
      refine r_iinc (L' := [some (.inr (.inr (some 66))), some (.inl v1), some (.inl v2), some (.inr (.inl (w64 (v3 + 0)))), none, some (.inl (w32 (v5 + 1)))]) (pc := 39) (tb_at tkX11_comeTo 23 rfl) rfl (by decide) rfl ?_
      refine r_goto (tgt := 5) (pc := 42) (tb_at tkX11_comeTo 24 rfl) (by decide) ?_
      exact h
    · replace h := h.2 c
      refine r_aload_n (pc := 26) (tb_at tkX11_comeTo 15 rfl) rfl rfl ?_
      refine r_iload_n (pc := 27) (tb_at tkX11_comeTo 16 rfl) rfl rfl ?_
      refine r_iload (pc := 28) (tb_at tkX11_comeTo 17 rfl) rfl ?_
      refine r_invV (mc' := 0) (ms' := 0) [.inl v1, .inl v5] (S := [.inr (.inl v3)]) (pc := 30) (tb_at tkX11_comeTo 18 rfl) rfl ly_66 rfl rfl clX11_299 (Nat.le_of_ble_eq_true rfl) (Nat.le_refl _) (Nat.le_refl _) ?_
      refine Cal.mono h ?_
      rintro _ _ M3 ⟨x4, rfl, rfl, h⟩
      show OkL G miX11_comeTo (d + 1) K 33 [some (.inr (.inr (some 66))), some (.inl v1), some (.inl v2), some (.inr (.inl v3)), none, some (.inl v5)] [.inr (.inl x4), .inr (.inl v3)] M3
      refine r_goto (tgt := 37) (pc := 33) (tb_at tkX11_comeTo 19 rfl) (by decide) ?_
      refine r_ladd (pc := 37) (tb_at tkX11_comeTo 21 rfl) ?_
      refine r_lstore_n (L' := [some (.inr (.inr (some 66))), some (.inl v1), some (.inl v2), some (.inr (.inl (w64 (v3 + x4)))), none, some (.inl v5)]) (pc := 38) (tb_at tkX11_comeTo 22 rfl) rfl (by decide) rfl ?_
      refine r_iinc (L' := [some (.inr (.inr (some 66))), some (.inl v1), some (.inl v2), some (.inr (.inl (w64 (v3 + x4)))), none, some (.inl (w32 (v5 + 1)))]) (pc := 39) (tb_at tkX11_comeTo 23 rfl) rfl (by decide) rfl ?_
      refine r_goto (tgt := 5) (pc := 42) (tb_at tkX11_comeTo 24 rfl) (by decide) ?_
      exact h
set_option maxRecDepth 100000 in
set_option maxHeartbeats 4000000 in
theorem gX11_proves_0 {G : GE} {d : Nat} {K : Int → Mem → Prop} {M : Mem} {v1 v2 v3 : Int}  (h : CalI G miX11_isSheet d [.inl v1] M (fun x2 M1 => ((x2 = 0 → K (-2) M1) ∧ (¬ x2 = 0 → CalI G miX11_in d [.inr (.inl v2), .inr (.inl 1), .inr (.inl 99)] M1 (fun x4 M3 => ((x4 = 0 → K (-2) M3) ∧ (¬ x4 = 0 → CalI G miX11_in d [.inr (.inl v3), .inr (.inl 0), .inr (.inl 1)] M3 (fun x6 M5 => ((¬ x6 = 0 → CalI G miX11_toldWrong d [.inr (.inr (some 66)), .inl v1, .inr (.inl 0)] M5 (fun x8 M7 => ((x8 = 0 → CalV G miX11_reckons d [.inr (.inr (some 66))] M7 (fun M9 => OkI G miX11_proves (d + 1) K 71 [some (.inr (.inr (some 66))), some (.inl v1), some (.inl v2), some (.inl v3), none, some (.inl (w32 ((ishl 1 (M9 67 0)) - 1))), some (.inl (-1)), some (.inl (w32 ((ishl 1 (M9 67 0)) - 1)))] [] M9)) ∧ (¬ x8 = 0 → K x8 M7)))) ∧ (x6 = 0 → K (-2) M5)))))))))) : OkI G miX11_proves (d + 1) K 0 [some (.inr (.inr (some 66))), some (.inl v1), some (.inl v2), some (.inl v3), none, none, none, none] [] M := by
  refine r_iload_n (pc := 0) (tb_at tkX11_proves 0 rfl) rfl rfl ?_
  refine r_invS (mc' := 0) (ms' := 0) [.inl v1] (S := []) (pc := 1) (tb_at tkX11_proves 1 rfl) rfl clX11_296 (Nat.le_of_ble_eq_true rfl) (Nat.le_refl _) (Nat.le_refl _) ?_
  refine Cal.mono h ?_
  rintro _ _ M1 ⟨x2, rfl, rfl, h⟩
  show OkI G miX11_proves (d + 1) K 4 [some (.inr (.inr (some 66))), some (.inl v1), some (.inl v2), some (.inl v3), none, none, none, none] [.inl x2] M1
  refine q_if_eq (tgt := 29) (pc := 4) (tb_at tkX11_proves 2 rfl) (by decide) (fun c => ?_) (fun c => ?_)
  · replace h := h.1 c
    refine r_bipush (pc := 29) (tb_at tkX11_proves 15 rfl) ⟨by decide, by decide, by decide⟩ ?_
    exact r_iret (pc := 31) (tb_at tkX11_proves 16 rfl) rfl (Nat.le_refl _) (Nat.le_refl _) ⟨_, rfl, rfl, h⟩
  · replace h := h.2 c
    refine r_iload_n (pc := 7) (tb_at tkX11_proves 3 rfl) rfl rfl ?_
    refine r_i2l (pc := 8) (tb_at tkX11_proves 4 rfl) ?_
    refine r_lconst (v := 1) (pc := 9) (tb_at tkX11_proves 5 rfl) ⟨by decide, by decide, by decide⟩ ?_
    refine r_ldc2 (n := 99) (pc := 10) (tb_at tkX11_proves 6 rfl) kcX11_152 ⟨by decide, by decide⟩ ?_
    refine r_invS (mc' := 0) (ms' := 0) [.inr (.inl v2), .inr (.inl 1), .inr (.inl 99)] (S := []) (pc := 13) (tb_at tkX11_proves 7 rfl) rfl clX11_103 (Nat.le_of_ble_eq_true rfl) (Nat.le_refl _) (Nat.le_refl _) ?_
    refine Cal.mono h ?_
    rintro _ _ M3 ⟨x4, rfl, rfl, h⟩
    show OkI G miX11_proves (d + 1) K 16 [some (.inr (.inr (some 66))), some (.inl v1), some (.inl v2), some (.inl v3), none, none, none, none] [.inl x4] M3
    refine q_if_eq (tgt := 29) (pc := 16) (tb_at tkX11_proves 8 rfl) (by decide) (fun c => ?_) (fun c => ?_)
    · replace h := h.1 c
      refine r_bipush (pc := 29) (tb_at tkX11_proves 15 rfl) ⟨by decide, by decide, by decide⟩ ?_
      exact r_iret (pc := 31) (tb_at tkX11_proves 16 rfl) rfl (Nat.le_refl _) (Nat.le_refl _) ⟨_, rfl, rfl, h⟩
    · replace h := h.2 c
      refine r_iload_n (pc := 19) (tb_at tkX11_proves 9 rfl) rfl rfl ?_
      refine r_i2l (pc := 20) (tb_at tkX11_proves 10 rfl) ?_
      refine r_lconst (v := 0) (pc := 21) (tb_at tkX11_proves 11 rfl) ⟨by decide, by decide, by decide⟩ ?_
      refine r_lconst (v := 1) (pc := 22) (tb_at tkX11_proves 12 rfl) ⟨by decide, by decide, by decide⟩ ?_
      refine r_invS (mc' := 0) (ms' := 0) [.inr (.inl v3), .inr (.inl 0), .inr (.inl 1)] (S := []) (pc := 23) (tb_at tkX11_proves 13 rfl) rfl clX11_103 (Nat.le_of_ble_eq_true rfl) (Nat.le_refl _) (Nat.le_refl _) ?_
      refine Cal.mono h ?_
      rintro _ _ M5 ⟨x6, rfl, rfl, h⟩
      show OkI G miX11_proves (d + 1) K 26 [some (.inr (.inr (some 66))), some (.inl v1), some (.inl v2), some (.inl v3), none, none, none, none] [.inl x6] M5
      refine q_if_ne (tgt := 32) (pc := 26) (tb_at tkX11_proves 14 rfl) (by decide) (fun c => ?_) (fun c => ?_)
      · replace h := h.1 c
        refine r_aload_n (pc := 32) (tb_at tkX11_proves 17 rfl) rfl rfl ?_
        refine r_iload_n (pc := 33) (tb_at tkX11_proves 18 rfl) rfl rfl ?_
        refine r_lconst (v := 0) (pc := 34) (tb_at tkX11_proves 19 rfl) ⟨by decide, by decide, by decide⟩ ?_
        refine r_invV (mc' := 0) (ms' := 0) [.inl v1, .inr (.inl 0)] (S := []) (pc := 35) (tb_at tkX11_proves 20 rfl) rfl ly_66 rfl rfl clX11_311 (Nat.le_of_ble_eq_true rfl) (Nat.le_refl _) (Nat.le_refl _) ?_
        refine Cal.mono h ?_
        rintro _ _ M7 ⟨x8, rfl, rfl, h⟩
        show OkI G miX11_proves (d + 1) K 38 [some (.inr (.inr (some 66))), some (.inl v1), some (.inl v2), some (.inl v3), none, none, none, none] [.inl x8] M7
        refine r_istore (L' := [some (.inr (.inr (some 66))), some (.inl v1), some (.inl v2), some (.inl v3), some (.inl x8), none, none, none]) (pc := 38) (tb_at tkX11_proves 21 rfl) (by decide) rfl ?_
        refine r_iload (pc := 40) (tb_at tkX11_proves 22 rfl) rfl ?_
        refine q_if_eq (tgt := 48) (pc := 42) (tb_at tkX11_proves 23 rfl) (by decide) (fun c => ?_) (fun c => ?_)
        · replace h := h.1 c
          refine r_aload_n (pc := 48) (tb_at tkX11_proves 26 rfl) rfl rfl ?_
          refine r_invV (mc' := 0) (ms' := 0) [] (S := []) (pc := 49) (tb_at tkX11_proves 27 rfl) rfl ly_66 rfl rfl clX11_212 (Nat.le_of_ble_eq_true rfl) (Nat.le_refl _) (Nat.le_refl _) ?_
          refine Cal.mono h ?_
          rintro _ _ M9 ⟨rfl, rfl, h⟩
          show OkI G miX11_proves (d + 1) K 52 [some (.inr (.inr (some 66))), some (.inl v1), some (.inl v2), some (.inl v3), some (.inl x8), none, none, none] [] M9
          refine r_iconst (pc := 52) (tb_at tkX11_proves 28 rfl) ⟨by decide, by decide⟩ ?_
          refine r_aload_n (pc := 53) (tb_at tkX11_proves 29 rfl) rfl rfl ?_
          refine r_get 10 0 (pc := 54) (tb_at tkX11_proves 30 rfl) ly_66 flX11_11 rfl ?_
          refine r_iconst (pc := 57) (tb_at tkX11_proves 31 rfl) ⟨by decide, by decide⟩ ?_
          refine r_iald_k (k0 := 0) (pc := 58) (tb_at tkX11_proves 32 rfl) ly_67 rfl (by decide) (by decide) ?_
          refine r_ishl (pc := 59) (tb_at tkX11_proves 33 rfl) ?_
          refine r_iconst (pc := 60) (tb_at tkX11_proves 34 rfl) ⟨by decide, by decide⟩ ?_
          refine r_isub (pc := 61) (tb_at tkX11_proves 35 rfl) ?_
          refine r_istore (L' := [some (.inr (.inr (some 66))), some (.inl v1), some (.inl v2), some (.inl v3), some (.inl x8), some (.inl (w32 ((ishl 1 (M9 67 0)) - 1))), none, none]) (pc := 62) (tb_at tkX11_proves 36 rfl) (by decide) rfl ?_
          refine r_iconst (pc := 64) (tb_at tkX11_proves 37 rfl) ⟨by decide, by decide⟩ ?_
          refine r_istore (L' := [some (.inr (.inr (some 66))), some (.inl v1), some (.inl v2), some (.inl v3), some (.inl x8), some (.inl (w32 ((ishl 1 (M9 67 0)) - 1))), some (.inl (-1)), none]) (pc := 65) (tb_at tkX11_proves 38 rfl) (by decide) rfl ?_
          refine r_iload (pc := 67) (tb_at tkX11_proves 39 rfl) rfl ?_
          refine r_istore (L' := [some (.inr (.inr (some 66))), some (.inl v1), some (.inl v2), some (.inl v3), some (.inl x8), some (.inl (w32 ((ishl 1 (M9 67 0)) - 1))), some (.inl (-1)), some (.inl (w32 ((ishl 1 (M9 67 0)) - 1)))]) (pc := 69) (tb_at tkX11_proves 40 rfl) (by decide) rfl ?_
          exact Ok.forget h (And.intro rfl (And.intro rfl (And.intro rfl (And.intro rfl (And.intro rfl (And.intro rfl (And.intro rfl trivial)))))))
        · replace h := h.2 c
          refine r_iload (pc := 45) (tb_at tkX11_proves 24 rfl) rfl ?_
          exact r_iret (pc := 47) (tb_at tkX11_proves 25 rfl) rfl (Nat.le_refl _) (Nat.le_refl _) ⟨_, rfl, rfl, h⟩
      · replace h := h.2 c
        refine r_bipush (pc := 29) (tb_at tkX11_proves 15 rfl) ⟨by decide, by decide, by decide⟩ ?_
        exact r_iret (pc := 31) (tb_at tkX11_proves 16 rfl) rfl (Nat.le_refl _) (Nat.le_refl _) ⟨_, rfl, rfl, h⟩
set_option maxRecDepth 100000 in
set_option maxHeartbeats 4000000 in
theorem gX11_proves_71 {G : GE} {d : Nat} {K : Int → Mem → Prop} {M : Mem} {v1 v2 v3 v5 v6 v7 : Int}  (h : ((v7 ≤ 0 → ((¬ v3 = 0 → ((0 ≤ v6 → K 0 M) ∧ (v6 < 0 → CalI G miX11_isBound d [.inr (.inr (some 66))] M (fun x2 M1 => ((x2 = 0 → K 0 M1) ∧ (¬ x2 = 0 → CalL G miX11_comeTo d [.inr (.inr (some 66)), .inl v1, .inl v5] M1 (fun x4 M3 => CalL G miX11_boundAbove d [.inr (.inr (some 66))] M3 (fun x6 M5 => ((¬ (w64 (x4 * (M3 66 20))) = (w64 (x6 * v2)) → K 0 M5) ∧ ((w64 (x4 * (M3 66 20))) = (w64 (x6 * v2)) → K 1 M5)))))))))) ∧ (v3 = 0 → K v6 M))) ∧ (0 < v7 → (0 ≤ v7 ∧ v7 < 128) ∧ (((M 72 (v7).toNat) < 0 → OkI G miX11_proves (d + 1) K 71 [some (.inr (.inr (some 66))), some (.inl v1), some (.inl v2), some (.inl v3), none, some (.inl v5), some (.inl v6), some (.inl (w32 (v7 + (-1))))] [] M) ∧ (0 ≤ (M 72 (v7).toNat) → CalL G miX11_comeTo d [.inr (.inr (some 66)), .inl v1, .inl v7] M (fun x8 M7 => (0 ≤ v7 ∧ v7 < 128) ∧ OkI G miX11_proves (d + 1) K 71 [some (.inr (.inr (some 66))), some (.inl v1), some (.inl v2), some (.inl v3), none, some (.inl v5), some (.inl (if (w64 (v2 * (M7 72 (v7).toNat))) < x8 then v7 else v6)), some (.inl (w32 (v7 + (-1))))] [] M7)))))) : OkI G miX11_proves (d + 1) K 71 [some (.inr (.inr (some 66))), some (.inl v1), some (.inl v2), some (.inl v3), none, some (.inl v5), some (.inl v6), some (.inl v7)] [] M := by
  refine r_iload (pc := 71) (tb_at tkX11_proves 41 rfl) rfl ?_
  refine q_if_le (tgt := 123) (pc := 73) (tb_at tkX11_proves 42 rfl) (by decide) (fun c => ?_) (fun c => ?_)
  · replace h := h.1 c
    refine r_iload_n (pc := 123) (tb_at tkX11_proves 68 rfl) rfl rfl ?_
    refine q_if_ne (tgt := 130) (pc := 124) (tb_at tkX11_proves 69 rfl) (by decide) (fun c => ?_) (fun c => ?_)
    · replace h := h.1 c
      refine r_iload (pc := 130) (tb_at tkX11_proves 72 rfl) rfl ?_
      refine q_if_ge (tgt := 169) (pc := 132) (tb_at tkX11_proves 73 rfl) (by decide) (fun c => ?_) (fun c => ?_)
      · replace h := h.1 c
        refine r_iconst (pc := 169) (tb_at tkX11_proves 93 rfl) ⟨by decide, by decide⟩ ?_
        exact r_iret (pc := 170) (tb_at tkX11_proves 94 rfl) rfl (Nat.le_refl _) (Nat.le_refl _) ⟨_, rfl, rfl, h⟩
      · replace h := h.2 c
        refine r_aload_n (pc := 135) (tb_at tkX11_proves 74 rfl) rfl rfl ?_
        refine r_invV (mc' := 0) (ms' := 0) [] (S := []) (pc := 136) (tb_at tkX11_proves 75 rfl) rfl ly_66 rfl rfl clX11_266 (Nat.le_of_ble_eq_true rfl) (Nat.le_refl _) (Nat.le_refl _) ?_
        refine Cal.mono h ?_
        rintro _ _ M1 ⟨x2, rfl, rfl, h⟩
        show OkI G miX11_proves (d + 1) K 139 [some (.inr (.inr (some 66))), some (.inl v1), some (.inl v2), some (.inl v3), none, some (.inl v5), some (.inl v6), some (.inl v7)] [.inl x2] M1
        refine q_if_eq (tgt := 169) (pc := 139) (tb_at tkX11_proves 76 rfl) (by decide) (fun c => ?_) (fun c => ?_)
        · replace h := h.1 c
          refine r_iconst (pc := 169) (tb_at tkX11_proves 93 rfl) ⟨by decide, by decide⟩ ?_
          exact r_iret (pc := 170) (tb_at tkX11_proves 94 rfl) rfl (Nat.le_refl _) (Nat.le_refl _) ⟨_, rfl, rfl, h⟩
        · replace h := h.2 c
          refine r_aload_n (pc := 142) (tb_at tkX11_proves 77 rfl) rfl rfl ?_
          refine r_iload_n (pc := 143) (tb_at tkX11_proves 78 rfl) rfl rfl ?_
          refine r_iload (pc := 144) (tb_at tkX11_proves 79 rfl) rfl ?_
          refine r_invV (mc' := 0) (ms' := 0) [.inl v1, .inl v5] (S := []) (pc := 146) (tb_at tkX11_proves 80 rfl) rfl ly_66 rfl rfl clX11_315 (Nat.le_of_ble_eq_true rfl) (Nat.le_refl _) (Nat.le_refl _) ?_
          refine Cal.mono h ?_
          rintro _ _ M3 ⟨x4, rfl, rfl, h⟩
          show OkI G miX11_proves (d + 1) K 149 [some (.inr (.inr (some 66))), some (.inl v1), some (.inl v2), some (.inl v3), none, some (.inl v5), some (.inl v6), some (.inl v7)] [.inr (.inl x4)] M3
          refine r_aload_n (pc := 149) (tb_at tkX11_proves 81 rfl) rfl rfl ?_
          refine r_get 10 20 (pc := 150) (tb_at tkX11_proves 82 rfl) ly_66 flX11_240 rfl ?_
          refine r_lmul (pc := 153) (tb_at tkX11_proves 83 rfl) ?_
          refine r_aload_n (pc := 154) (tb_at tkX11_proves 84 rfl) rfl rfl ?_
          refine r_invV (mc' := 0) (ms' := 0) [] (S := [.inr (.inl (w64 (x4 * (M3 66 20))))]) (pc := 155) (tb_at tkX11_proves 85 rfl) rfl ly_66 rfl rfl clX11_269 (Nat.le_of_ble_eq_true rfl) (Nat.le_refl _) (Nat.le_refl _) ?_
          refine Cal.mono h ?_
          rintro _ _ M5 ⟨x6, rfl, rfl, h⟩
          show OkI G miX11_proves (d + 1) K 158 [some (.inr (.inr (some 66))), some (.inl v1), some (.inl v2), some (.inl v3), none, some (.inl v5), some (.inl v6), some (.inl v7)] [.inr (.inl x6), .inr (.inl (w64 (x4 * (M3 66 20))))] M5
          refine r_iload_n (pc := 158) (tb_at tkX11_proves 86 rfl) rfl rfl ?_
          refine r_i2l (pc := 159) (tb_at tkX11_proves 87 rfl) ?_
          refine r_lmul (pc := 160) (tb_at tkX11_proves 88 rfl) ?_
          refine r_lcmp (pc := 161) (tb_at tkX11_proves 89 rfl) ?_
          refine q_lif_ne (tgt := 169) (pc := 162) (tb_at tkX11_proves 90 rfl) (by decide) (fun c => ?_) (fun c => ?_)
          · replace h := h.1 c
            refine r_iconst (pc := 169) (tb_at tkX11_proves 93 rfl) ⟨by decide, by decide⟩ ?_
            exact r_iret (pc := 170) (tb_at tkX11_proves 94 rfl) rfl (Nat.le_refl _) (Nat.le_refl _) ⟨_, rfl, rfl, h⟩
          · replace h := h.2 c
            refine r_iconst (pc := 165) (tb_at tkX11_proves 91 rfl) ⟨by decide, by decide⟩ ?_
            refine r_goto (tgt := 170) (pc := 166) (tb_at tkX11_proves 92 rfl) (by decide) ?_
            exact r_iret (pc := 170) (tb_at tkX11_proves 94 rfl) rfl (Nat.le_refl _) (Nat.le_refl _) ⟨_, rfl, rfl, h⟩
    · replace h := h.2 c
      refine r_iload (pc := 127) (tb_at tkX11_proves 70 rfl) rfl ?_
      exact r_iret (pc := 129) (tb_at tkX11_proves 71 rfl) rfl (Nat.le_refl _) (Nat.le_refl _) ⟨_, rfl, rfl, h⟩
  · replace h := h.2 c
    refine r_aload_n (pc := 76) (tb_at tkX11_proves 43 rfl) rfl rfl ?_
    refine r_get 10 9 (pc := 77) (tb_at tkX11_proves 44 rfl) ly_66 flX11_27 rfl ?_
    refine r_iload (pc := 80) (tb_at tkX11_proves 45 rfl) rfl ?_
    refine r_iald (pc := 82) (tb_at tkX11_proves 46 rfl) ly_72 h.1.1 h.1.2 ?_
    replace h := h.2
    refine q_if_lt (tgt := 113) (pc := 83) (tb_at tkX11_proves 47 rfl) (by decide) (fun c => ?_) (fun c => ?_)
    · replace h := h.1 c
      refine r_iload (pc := 113) (tb_at tkX11_proves 64 rfl) rfl ?_
      refine r_istore (L' := [some (.inr (.inr (some 66))), some (.inl v1), some (.inl v2), some (.inl v3), none, some (.inl v5), some (.inl v6), some (.inl v7)]) (pc := 115) (tb_at tkX11_proves 65 rfl) (by decide) rfl ?_
      refine r_iinc (L' := [some (.inr (.inr (some 66))), some (.inl v1), some (.inl v2), some (.inl v3), none, some (.inl v5), some (.inl v6), some (.inl (w32 (v7 + (-1))))]) (pc := 117) (tb_at tkX11_proves 66 rfl) rfl (by decide) rfl ?_
      refine r_goto (tgt := 71) (pc := 120) (tb_at tkX11_proves 67 rfl) (by decide) ?_
      exact h
    · replace h := h.2 c
      refine r_aload_n (pc := 86) (tb_at tkX11_proves 48 rfl) rfl rfl ?_
      refine r_iload_n (pc := 87) (tb_at tkX11_proves 49 rfl) rfl rfl ?_
      refine r_iload (pc := 88) (tb_at tkX11_proves 50 rfl) rfl ?_
      refine r_invV (mc' := 0) (ms' := 0) [.inl v1, .inl v7] (S := []) (pc := 90) (tb_at tkX11_proves 51 rfl) rfl ly_66 rfl rfl clX11_315 (Nat.le_of_ble_eq_true rfl) (Nat.le_refl _) (Nat.le_refl _) ?_
      refine Cal.mono h ?_
      rintro _ _ M7 ⟨x8, rfl, rfl, h⟩
      show OkI G miX11_proves (d + 1) K 93 [some (.inr (.inr (some 66))), some (.inl v1), some (.inl v2), some (.inl v3), none, some (.inl v5), some (.inl v6), some (.inl v7)] [.inr (.inl x8)] M7
      refine r_iload_n (pc := 93) (tb_at tkX11_proves 52 rfl) rfl rfl ?_
      refine r_i2l (pc := 94) (tb_at tkX11_proves 53 rfl) ?_
      refine r_aload_n (pc := 95) (tb_at tkX11_proves 54 rfl) rfl rfl ?_
      refine r_get 10 9 (pc := 96) (tb_at tkX11_proves 55 rfl) ly_66 flX11_27 rfl ?_
      refine r_iload (pc := 99) (tb_at tkX11_proves 56 rfl) rfl ?_
      refine r_iald (pc := 101) (tb_at tkX11_proves 57 rfl) ly_72 h.1.1 h.1.2 ?_
      replace h := h.2
      refine r_i2l (pc := 102) (tb_at tkX11_proves 58 rfl) ?_
      refine r_lmul (pc := 103) (tb_at tkX11_proves 59 rfl) ?_
      refine r_lcmp (pc := 104) (tb_at tkX11_proves 60 rfl) ?_
      have hJ9 : ∀ t0 : Int, t0 = (if (w64 (v2 * (M7 72 (v7).toNat))) < x8 then v7 else v6) → OkI G miX11_proves (d + 1) K 115 [some (.inr (.inr (some 66))), some (.inl v1), some (.inl v2), some (.inl v3), none, some (.inl v5), some (.inl v6), some (.inl v7)] [.inl t0] M7 := by
        rintro _ rfl
        refine r_istore (L' := [some (.inr (.inr (some 66))), some (.inl v1), some (.inl v2), some (.inl v3), none, some (.inl v5), some (.inl (if (w64 (v2 * (M7 72 (v7).toNat))) < x8 then v7 else v6)), some (.inl v7)]) (pc := 115) (tb_at tkX11_proves 65 rfl) (by decide) rfl ?_
        refine r_iinc (L' := [some (.inr (.inr (some 66))), some (.inl v1), some (.inl v2), some (.inl v3), none, some (.inl v5), some (.inl (if (w64 (v2 * (M7 72 (v7).toNat))) < x8 then v7 else v6)), some (.inl (w32 (v7 + (-1))))]) (pc := 117) (tb_at tkX11_proves 66 rfl) rfl (by decide) rfl ?_
        refine r_goto (tgt := 71) (pc := 120) (tb_at tkX11_proves 67 rfl) (by decide) ?_
        exact h
      refine q_lif_le (tgt := 113) (pc := 105) (tb_at tkX11_proves 61 rfl) (by decide) (fun c10 => ?_) (fun c10 => ?_)
      · refine r_iload (pc := 113) (tb_at tkX11_proves 64 rfl) rfl ?_
        exact hJ9 _ (by simp only [if_neg (Int.not_lt.mpr c10)])
      · refine r_iload (pc := 108) (tb_at tkX11_proves 62 rfl) rfl ?_
        refine r_goto (tgt := 115) (pc := 110) (tb_at tkX11_proves 63 rfl) (by decide) ?_
        exact hJ9 _ (by simp only [if_pos c10])
set_option maxRecDepth 100000 in
set_option maxHeartbeats 4000000 in
theorem gX11_outdoes_0 {G : GE} {d : Nat} {K : Int → Mem → Prop} {M : Mem} {v1 v2 : Int}  (h : (0 ≤ v1 ∧ v1 < 896) ∧ (0 ≤ v2 ∧ v2 < 896) ∧ ((¬ (M 85 (v1).toNat) = (M 85 (v2).toNat) → K 0 M) ∧ ((M 85 (v1).toNat) = (M 85 (v2).toNat) → (0 ≤ v1 ∧ v1 < 896) ∧ (0 ≤ v2 ∧ v2 < 896) ∧ (((M 89 (v2).toNat) < (M 89 (v1).toNat) → K 0 M) ∧ ((M 89 (v1).toNat) ≤ (M 89 (v2).toNat) → (0 ≤ v1 ∧ v1 < 896) ∧ (0 ≤ v2 ∧ v2 < 896) ∧ (((M 86 (v2).toNat) < (M 86 (v1).toNat) → K 0 M) ∧ ((M 86 (v1).toNat) ≤ (M 86 (v2).toNat) → (0 ≤ v1 ∧ v1 < 896) ∧ (0 ≤ v2 ∧ v2 < 896) ∧ (((M 87 (v2).toNat) < (M 87 (v1).toNat) → K 0 M) ∧ ((M 87 (v1).toNat) ≤ (M 87 (v2).toNat) → (0 ≤ v1 ∧ v1 < 896) ∧ (0 ≤ v2 ∧ v2 < 896) ∧ (((M 88 (v1).toNat) < (M 88 (v2).toNat) → K 0 M) ∧ ((M 88 (v2).toNat) ≤ (M 88 (v1).toNat) → K 1 M))))))))))) : OkI G miX11_outdoes d K 0 [some (.inr (.inr (some 66))), some (.inl v1), some (.inl v2)] [] M := by
  refine r_aload_n (pc := 0) (tb_at tkX11_outdoes 0 rfl) rfl rfl ?_
  refine r_get 10 28 (pc := 1) (tb_at tkX11_outdoes 1 rfl) ly_66 flX11_67 rfl ?_
  refine r_iload_n (pc := 4) (tb_at tkX11_outdoes 2 rfl) rfl rfl ?_
  refine r_iald (pc := 5) (tb_at tkX11_outdoes 3 rfl) ly_85 h.1.1 h.1.2 ?_
  replace h := h.2
  refine r_aload_n (pc := 6) (tb_at tkX11_outdoes 4 rfl) rfl rfl ?_
  refine r_get 10 28 (pc := 7) (tb_at tkX11_outdoes 5 rfl) ly_66 flX11_67 rfl ?_
  refine r_iload_n (pc := 10) (tb_at tkX11_outdoes 6 rfl) rfl rfl ?_
  refine r_iald (pc := 11) (tb_at tkX11_outdoes 7 rfl) ly_85 h.1.1 h.1.2 ?_
  replace h := h.2
  refine q_icmp_ne (tgt := 80) (pc := 12) (tb_at tkX11_outdoes 8 rfl) (by decide) (fun c => ?_) (fun c => ?_)
  · replace h := h.1 c
    refine r_iconst (pc := 80) (tb_at tkX11_outdoes 48 rfl) ⟨by decide, by decide⟩ ?_
    exact r_zret (pc := 81) (tb_at tkX11_outdoes 49 rfl) rfl (by decide) (Nat.le_refl _) (Nat.le_refl _) ⟨_, rfl, rfl, h⟩
  · replace h := h.2 c
    refine r_aload_n (pc := 15) (tb_at tkX11_outdoes 9 rfl) rfl rfl ?_
    refine r_get 10 32 (pc := 16) (tb_at tkX11_outdoes 10 rfl) ly_66 flX11_79 rfl ?_
    refine r_iload_n (pc := 19) (tb_at tkX11_outdoes 11 rfl) rfl rfl ?_
    refine r_lald (pc := 20) (tb_at tkX11_outdoes 12 rfl) ly_89 h.1.1 h.1.2 ?_
    replace h := h.2
    refine r_aload_n (pc := 21) (tb_at tkX11_outdoes 13 rfl) rfl rfl ?_
    refine r_get 10 32 (pc := 22) (tb_at tkX11_outdoes 14 rfl) ly_66 flX11_79 rfl ?_
    refine r_iload_n (pc := 25) (tb_at tkX11_outdoes 15 rfl) rfl rfl ?_
    refine r_lald (pc := 26) (tb_at tkX11_outdoes 16 rfl) ly_89 h.1.1 h.1.2 ?_
    replace h := h.2
    refine r_lcmp (pc := 27) (tb_at tkX11_outdoes 17 rfl) ?_
    refine q_lif_gt (tgt := 80) (pc := 28) (tb_at tkX11_outdoes 18 rfl) (by decide) (fun c => ?_) (fun c => ?_)
    · replace h := h.1 c
      refine r_iconst (pc := 80) (tb_at tkX11_outdoes 48 rfl) ⟨by decide, by decide⟩ ?_
      exact r_zret (pc := 81) (tb_at tkX11_outdoes 49 rfl) rfl (by decide) (Nat.le_refl _) (Nat.le_refl _) ⟨_, rfl, rfl, h⟩
    · replace h := h.2 c
      refine r_aload_n (pc := 31) (tb_at tkX11_outdoes 19 rfl) rfl rfl ?_
      refine r_get 10 29 (pc := 32) (tb_at tkX11_outdoes 20 rfl) ly_66 flX11_70 rfl ?_
      refine r_iload_n (pc := 35) (tb_at tkX11_outdoes 21 rfl) rfl rfl ?_
      refine r_iald (pc := 36) (tb_at tkX11_outdoes 22 rfl) ly_86 h.1.1 h.1.2 ?_
      replace h := h.2
      refine r_aload_n (pc := 37) (tb_at tkX11_outdoes 23 rfl) rfl rfl ?_
      refine r_get 10 29 (pc := 38) (tb_at tkX11_outdoes 24 rfl) ly_66 flX11_70 rfl ?_
      refine r_iload_n (pc := 41) (tb_at tkX11_outdoes 25 rfl) rfl rfl ?_
      refine r_iald (pc := 42) (tb_at tkX11_outdoes 26 rfl) ly_86 h.1.1 h.1.2 ?_
      replace h := h.2
      refine q_icmp_gt (tgt := 80) (pc := 43) (tb_at tkX11_outdoes 27 rfl) (by decide) (fun c => ?_) (fun c => ?_)
      · replace h := h.1 c
        refine r_iconst (pc := 80) (tb_at tkX11_outdoes 48 rfl) ⟨by decide, by decide⟩ ?_
        exact r_zret (pc := 81) (tb_at tkX11_outdoes 49 rfl) rfl (by decide) (Nat.le_refl _) (Nat.le_refl _) ⟨_, rfl, rfl, h⟩
      · replace h := h.2 c
        refine r_aload_n (pc := 46) (tb_at tkX11_outdoes 28 rfl) rfl rfl ?_
        refine r_get 10 30 (pc := 47) (tb_at tkX11_outdoes 29 rfl) ly_66 flX11_73 rfl ?_
        refine r_iload_n (pc := 50) (tb_at tkX11_outdoes 30 rfl) rfl rfl ?_
        refine r_iald (pc := 51) (tb_at tkX11_outdoes 31 rfl) ly_87 h.1.1 h.1.2 ?_
        replace h := h.2
        refine r_aload_n (pc := 52) (tb_at tkX11_outdoes 32 rfl) rfl rfl ?_
        refine r_get 10 30 (pc := 53) (tb_at tkX11_outdoes 33 rfl) ly_66 flX11_73 rfl ?_
        refine r_iload_n (pc := 56) (tb_at tkX11_outdoes 34 rfl) rfl rfl ?_
        refine r_iald (pc := 57) (tb_at tkX11_outdoes 35 rfl) ly_87 h.1.1 h.1.2 ?_
        replace h := h.2
        refine q_icmp_gt (tgt := 80) (pc := 58) (tb_at tkX11_outdoes 36 rfl) (by decide) (fun c => ?_) (fun c => ?_)
        · replace h := h.1 c
          refine r_iconst (pc := 80) (tb_at tkX11_outdoes 48 rfl) ⟨by decide, by decide⟩ ?_
          exact r_zret (pc := 81) (tb_at tkX11_outdoes 49 rfl) rfl (by decide) (Nat.le_refl _) (Nat.le_refl _) ⟨_, rfl, rfl, h⟩
        · replace h := h.2 c
          refine r_aload_n (pc := 61) (tb_at tkX11_outdoes 37 rfl) rfl rfl ?_
          refine r_get 10 31 (pc := 62) (tb_at tkX11_outdoes 38 rfl) ly_66 flX11_76 rfl ?_
          refine r_iload_n (pc := 65) (tb_at tkX11_outdoes 39 rfl) rfl rfl ?_
          refine r_iald (pc := 66) (tb_at tkX11_outdoes 40 rfl) ly_88 h.1.1 h.1.2 ?_
          replace h := h.2
          refine r_aload_n (pc := 67) (tb_at tkX11_outdoes 41 rfl) rfl rfl ?_
          refine r_get 10 31 (pc := 68) (tb_at tkX11_outdoes 42 rfl) ly_66 flX11_76 rfl ?_
          refine r_iload_n (pc := 71) (tb_at tkX11_outdoes 43 rfl) rfl rfl ?_
          refine r_iald (pc := 72) (tb_at tkX11_outdoes 44 rfl) ly_88 h.1.1 h.1.2 ?_
          replace h := h.2
          refine q_icmp_lt (tgt := 80) (pc := 73) (tb_at tkX11_outdoes 45 rfl) (by decide) (fun c => ?_) (fun c => ?_)
          · replace h := h.1 c
            refine r_iconst (pc := 80) (tb_at tkX11_outdoes 48 rfl) ⟨by decide, by decide⟩ ?_
            exact r_zret (pc := 81) (tb_at tkX11_outdoes 49 rfl) rfl (by decide) (Nat.le_refl _) (Nat.le_refl _) ⟨_, rfl, rfl, h⟩
          · replace h := h.2 c
            refine r_iconst (pc := 76) (tb_at tkX11_outdoes 46 rfl) ⟨by decide, by decide⟩ ?_
            refine r_goto (tgt := 81) (pc := 77) (tb_at tkX11_outdoes 47 rfl) (by decide) ?_
            exact r_zret (pc := 81) (tb_at tkX11_outdoes 49 rfl) rfl (by decide) (Nat.le_refl _) (Nat.le_refl _) ⟨_, rfl, rfl, h⟩
set_option maxRecDepth 100000 in
set_option maxHeartbeats 4000000 in
theorem gX11_movesLabel_0 {G : GE} {d : Nat} {K : Mem → Prop} {M : Mem} {v1 v2 : Int}  (h : (0 ≤ v1 ∧ v1 < 896) ∧ (0 ≤ v2 ∧ v2 < 896) ∧ (0 ≤ v1 ∧ v1 < 896) ∧ (0 ≤ v2 ∧ v2 < 896) ∧ (0 ≤ v1 ∧ v1 < 896) ∧ (0 ≤ v2 ∧ v2 < 896) ∧ (0 ≤ v1 ∧ v1 < 896) ∧ (0 ≤ v2 ∧ v2 < 896) ∧ (0 ≤ v1 ∧ v1 < 896) ∧ (0 ≤ v2 ∧ v2 < 896) ∧ K (mup (mup (mup (mup (mup M 85 (v2).toNat (M 85 (v1).toNat)) 89 (v2).toNat ((mup M 85 (v2).toNat (M 85 (v1).toNat)) 89 (v1).toNat)) 86 (v2).toNat ((mup (mup M 85 (v2).toNat (M 85 (v1).toNat)) 89 (v2).toNat ((mup M 85 (v2).toNat (M 85 (v1).toNat)) 89 (v1).toNat)) 86 (v1).toNat)) 87 (v2).toNat ((mup (mup (mup M 85 (v2).toNat (M 85 (v1).toNat)) 89 (v2).toNat ((mup M 85 (v2).toNat (M 85 (v1).toNat)) 89 (v1).toNat)) 86 (v2).toNat ((mup (mup M 85 (v2).toNat (M 85 (v1).toNat)) 89 (v2).toNat ((mup M 85 (v2).toNat (M 85 (v1).toNat)) 89 (v1).toNat)) 86 (v1).toNat)) 87 (v1).toNat)) 88 (v2).toNat ((mup (mup (mup (mup M 85 (v2).toNat (M 85 (v1).toNat)) 89 (v2).toNat ((mup M 85 (v2).toNat (M 85 (v1).toNat)) 89 (v1).toNat)) 86 (v2).toNat ((mup (mup M 85 (v2).toNat (M 85 (v1).toNat)) 89 (v2).toNat ((mup M 85 (v2).toNat (M 85 (v1).toNat)) 89 (v1).toNat)) 86 (v1).toNat)) 87 (v2).toNat ((mup (mup (mup M 85 (v2).toNat (M 85 (v1).toNat)) 89 (v2).toNat ((mup M 85 (v2).toNat (M 85 (v1).toNat)) 89 (v1).toNat)) 86 (v2).toNat ((mup (mup M 85 (v2).toNat (M 85 (v1).toNat)) 89 (v2).toNat ((mup M 85 (v2).toNat (M 85 (v1).toNat)) 89 (v1).toNat)) 86 (v1).toNat)) 87 (v1).toNat)) 88 (v1).toNat))) : OkV G miX11_movesLabel d K 0 [some (.inr (.inr (some 66))), some (.inl v1), some (.inl v2)] [] M := by
  refine r_aload_n (pc := 0) (tb_at tkX11_movesLabel 0 rfl) rfl rfl ?_
  refine r_get 10 28 (pc := 1) (tb_at tkX11_movesLabel 1 rfl) ly_66 flX11_67 rfl ?_
  refine r_iload_n (pc := 4) (tb_at tkX11_movesLabel 2 rfl) rfl rfl ?_
  refine r_aload_n (pc := 5) (tb_at tkX11_movesLabel 3 rfl) rfl rfl ?_
  refine r_get 10 28 (pc := 6) (tb_at tkX11_movesLabel 4 rfl) ly_66 flX11_67 rfl ?_
  refine r_iload_n (pc := 9) (tb_at tkX11_movesLabel 5 rfl) rfl rfl ?_
  refine r_iald (pc := 10) (tb_at tkX11_movesLabel 6 rfl) ly_85 h.1.1 h.1.2 ?_
  replace h := h.2
  refine r_iast (pc := 11) (tb_at tkX11_movesLabel 7 rfl) ly_85 h.1.1 h.1.2 rfl ?_
  replace h := h.2
  refine r_aload_n (pc := 12) (tb_at tkX11_movesLabel 8 rfl) rfl rfl ?_
  refine r_get 10 32 (pc := 13) (tb_at tkX11_movesLabel 9 rfl) ly_66 flX11_79 rfl ?_
  refine r_iload_n (pc := 16) (tb_at tkX11_movesLabel 10 rfl) rfl rfl ?_
  refine r_aload_n (pc := 17) (tb_at tkX11_movesLabel 11 rfl) rfl rfl ?_
  refine r_get 10 32 (pc := 18) (tb_at tkX11_movesLabel 12 rfl) ly_66 flX11_79 rfl ?_
  refine r_iload_n (pc := 21) (tb_at tkX11_movesLabel 13 rfl) rfl rfl ?_
  refine r_lald (pc := 22) (tb_at tkX11_movesLabel 14 rfl) ly_89 h.1.1 h.1.2 ?_
  replace h := h.2
  refine r_last (pc := 23) (tb_at tkX11_movesLabel 15 rfl) ly_89 h.1.1 h.1.2 rfl ?_
  replace h := h.2
  refine r_aload_n (pc := 24) (tb_at tkX11_movesLabel 16 rfl) rfl rfl ?_
  refine r_get 10 29 (pc := 25) (tb_at tkX11_movesLabel 17 rfl) ly_66 flX11_70 rfl ?_
  refine r_iload_n (pc := 28) (tb_at tkX11_movesLabel 18 rfl) rfl rfl ?_
  refine r_aload_n (pc := 29) (tb_at tkX11_movesLabel 19 rfl) rfl rfl ?_
  refine r_get 10 29 (pc := 30) (tb_at tkX11_movesLabel 20 rfl) ly_66 flX11_70 rfl ?_
  refine r_iload_n (pc := 33) (tb_at tkX11_movesLabel 21 rfl) rfl rfl ?_
  refine r_iald (pc := 34) (tb_at tkX11_movesLabel 22 rfl) ly_86 h.1.1 h.1.2 ?_
  replace h := h.2
  refine r_iast (pc := 35) (tb_at tkX11_movesLabel 23 rfl) ly_86 h.1.1 h.1.2 rfl ?_
  replace h := h.2
  refine r_aload_n (pc := 36) (tb_at tkX11_movesLabel 24 rfl) rfl rfl ?_
  refine r_get 10 30 (pc := 37) (tb_at tkX11_movesLabel 25 rfl) ly_66 flX11_73 rfl ?_
  refine r_iload_n (pc := 40) (tb_at tkX11_movesLabel 26 rfl) rfl rfl ?_
  refine r_aload_n (pc := 41) (tb_at tkX11_movesLabel 27 rfl) rfl rfl ?_
  refine r_get 10 30 (pc := 42) (tb_at tkX11_movesLabel 28 rfl) ly_66 flX11_73 rfl ?_
  refine r_iload_n (pc := 45) (tb_at tkX11_movesLabel 29 rfl) rfl rfl ?_
  refine r_iald (pc := 46) (tb_at tkX11_movesLabel 30 rfl) ly_87 h.1.1 h.1.2 ?_
  replace h := h.2
  refine r_iast (pc := 47) (tb_at tkX11_movesLabel 31 rfl) ly_87 h.1.1 h.1.2 rfl ?_
  replace h := h.2
  refine r_aload_n (pc := 48) (tb_at tkX11_movesLabel 32 rfl) rfl rfl ?_
  refine r_get 10 31 (pc := 49) (tb_at tkX11_movesLabel 33 rfl) ly_66 flX11_76 rfl ?_
  refine r_iload_n (pc := 52) (tb_at tkX11_movesLabel 34 rfl) rfl rfl ?_
  refine r_aload_n (pc := 53) (tb_at tkX11_movesLabel 35 rfl) rfl rfl ?_
  refine r_get 10 31 (pc := 54) (tb_at tkX11_movesLabel 36 rfl) ly_66 flX11_76 rfl ?_
  refine r_iload_n (pc := 57) (tb_at tkX11_movesLabel 37 rfl) rfl rfl ?_
  refine r_iald (pc := 58) (tb_at tkX11_movesLabel 38 rfl) ly_88 h.1.1 h.1.2 ?_
  replace h := h.2
  refine r_iast (pc := 59) (tb_at tkX11_movesLabel 39 rfl) ly_88 h.1.1 h.1.2 rfl ?_
  replace h := h.2
  exact r_vret (pc := 60) (tb_at tkX11_movesLabel 40 rfl) rfl (Nat.le_refl _) (Nat.le_refl _) ⟨rfl, rfl, h⟩
set_option maxRecDepth 100000 in
set_option maxHeartbeats 4000000 in
theorem gX11_settles_0 {G : GE} {d : Nat} {K : Mem → Prop} {M : Mem} {v1 : Int}  (h : (0 ≤ v1 ∧ v1 < 7) ∧ (0 ≤ (128 * v1) + (M 84 (v1).toNat) ∧ (128 * v1) + (M 84 (v1).toNat) < 896) ∧ (0 ≤ (128 * v1) + (M 84 (v1).toNat) ∧ (128 * v1) + (M 84 (v1).toNat) < 896) ∧ CalI G miX11_legs d [.inr (.inr (some 66)), .inl (M 85 ((128 * v1) + (M 84 (v1).toNat)).toNat)] M (fun x2 M1 => ((x2 < (M 87 ((128 * v1) + (M 84 (v1).toNat)).toNat) → K M1) ∧ ((M 87 ((128 * v1) + (M 84 (v1).toNat)).toNat) ≤ x2 → (0 ≤ (128 * v1) + (M 84 (v1).toNat) ∧ (128 * v1) + (M 84 (v1).toNat) < 896) ∧ CalI G miX11_duties d [.inr (.inr (some 66)), .inl (M 85 ((128 * v1) + (M 84 (v1).toNat)).toNat)] M1 (fun x4 M3 => ((x4 < (M1 86 ((128 * v1) + (M 84 (v1).toNat)).toNat) → K M3) ∧ ((M1 86 ((128 * v1) + (M 84 (v1).toNat)).toNat) ≤ x4 → (0 ≤ 22 + v1 ∧ 22 + v1 < 92) ∧ (0 ≤ (128 * v1) + (M 84 (v1).toNat) ∧ (128 * v1) + (M 84 (v1).toNat) < 896) ∧ CalI G miX11_span d [.inr (.inr (some 66)), .inl (M 85 ((128 * v1) + (M 84 (v1).toNat)).toNat)] M3 (fun x6 M5 => (((w32 ((M3 67 (22 + v1).toNat) - (M3 88 ((128 * v1) + (M 84 (v1).toNat)).toNat))) ≤ x6 → OkV G miX11_settles (d + 1) K 83 [some (.inr (.inr (some 66))), some (.inl v1), some (.inl (w32 ((128 * v1) + (M 84 (v1).toNat)))), none, some (.inl 1), some (.inl (w32 (128 * v1))), none, none] [] M5) ∧ (x6 < (w32 ((M3 67 (22 + v1).toNat) - (M3 88 ((128 * v1) + (M 84 (v1).toNat)).toNat))) → K M5)))))))))) : OkV G miX11_settles (d + 1) K 0 [some (.inr (.inr (some 66))), some (.inl v1), none, none, none, none, none, none] [] M := by
  refine r_sipush (pc := 0) (tb_at tkX11_settles 0 rfl) ⟨by decide, by decide, by decide⟩ ?_
  refine r_iload_n (pc := 3) (tb_at tkX11_settles 1 rfl) rfl rfl ?_
  refine r_imul (pc := 4) (tb_at tkX11_settles 2 rfl) ?_
  refine r_aload_n (pc := 5) (tb_at tkX11_settles 3 rfl) rfl rfl ?_
  refine r_get 10 27 (pc := 6) (tb_at tkX11_settles 4 rfl) ly_66 flX11_64 rfl ?_
  refine r_iload_n (pc := 9) (tb_at tkX11_settles 5 rfl) rfl rfl ?_
  refine r_iald (pc := 10) (tb_at tkX11_settles 6 rfl) ly_84 h.1.1 h.1.2 ?_
  replace h := h.2
  refine r_iadd_l (pc := 11) (tb_at tkX11_settles 7 rfl) ?_
  refine r_istore_n (L' := [some (.inr (.inr (some 66))), some (.inl v1), some (.inl (w32 ((128 * v1) + (M 84 (v1).toNat)))), none, none, none, none, none]) (pc := 12) (tb_at tkX11_settles 8 rfl) rfl (by decide) rfl ?_
  refine r_aload_n (pc := 13) (tb_at tkX11_settles 9 rfl) rfl rfl ?_
  refine r_get 10 28 (pc := 14) (tb_at tkX11_settles 10 rfl) ly_66 flX11_67 rfl ?_
  refine r_iload_n (pc := 17) (tb_at tkX11_settles 11 rfl) rfl rfl ?_
  refine r_iald_w (pc := 18) (tb_at tkX11_settles 12 rfl) ly_85 (by decide) h.1.1 h.1.2 ?_
  replace h := h.2
  refine r_istore_n (L' := [some (.inr (.inr (some 66))), some (.inl v1), some (.inl (w32 ((128 * v1) + (M 84 (v1).toNat)))), some (.inl (M 85 ((128 * v1) + (M 84 (v1).toNat)).toNat)), none, none, none, none]) (pc := 19) (tb_at tkX11_settles 13 rfl) rfl (by decide) rfl ?_
  refine r_aload_n (pc := 20) (tb_at tkX11_settles 14 rfl) rfl rfl ?_
  refine r_get 10 30 (pc := 21) (tb_at tkX11_settles 15 rfl) ly_66 flX11_73 rfl ?_
  refine r_iload_n (pc := 24) (tb_at tkX11_settles 16 rfl) rfl rfl ?_
  refine r_iald_w (pc := 25) (tb_at tkX11_settles 17 rfl) ly_87 (by decide) h.1.1 h.1.2 ?_
  replace h := h.2
  refine r_aload_n (pc := 26) (tb_at tkX11_settles 18 rfl) rfl rfl ?_
  refine r_iload_n (pc := 27) (tb_at tkX11_settles 19 rfl) rfl rfl ?_
  refine r_invV (mc' := 0) (ms' := 0) [.inl (M 85 ((128 * v1) + (M 84 (v1).toNat)).toNat)] (S := [.inl (M 87 ((128 * v1) + (M 84 (v1).toNat)).toNat)]) (pc := 28) (tb_at tkX11_settles 20 rfl) rfl ly_66 rfl rfl clX11_137 (Nat.le_of_ble_eq_true rfl) (Nat.le_refl _) (Nat.le_refl _) ?_
  refine Cal.mono h ?_
  rintro _ _ M1 ⟨x2, rfl, rfl, h⟩
  show OkV G miX11_settles (d + 1) K 31 [some (.inr (.inr (some 66))), some (.inl v1), some (.inl (w32 ((128 * v1) + (M 84 (v1).toNat)))), some (.inl (M 85 ((128 * v1) + (M 84 (v1).toNat)).toNat)), none, none, none, none] [.inl x2, .inl (M 87 ((128 * v1) + (M 84 (v1).toNat)).toNat)] M1
  refine q_icmp_gt (tgt := 72) (pc := 31) (tb_at tkX11_settles 21 rfl) (by decide) (fun c => ?_) (fun c => ?_)
  · replace h := h.1 c
    exact r_vret (pc := 72) (tb_at tkX11_settles 45 rfl) rfl (Nat.le_refl _) (Nat.le_refl _) ⟨rfl, rfl, h⟩
  · replace h := h.2 c
    refine r_aload_n (pc := 34) (tb_at tkX11_settles 22 rfl) rfl rfl ?_
    refine r_get 10 29 (pc := 35) (tb_at tkX11_settles 23 rfl) ly_66 flX11_70 rfl ?_
    refine r_iload_n (pc := 38) (tb_at tkX11_settles 24 rfl) rfl rfl ?_
    refine r_iald_w (pc := 39) (tb_at tkX11_settles 25 rfl) ly_86 (by decide) h.1.1 h.1.2 ?_
    replace h := h.2
    refine r_aload_n (pc := 40) (tb_at tkX11_settles 26 rfl) rfl rfl ?_
    refine r_iload_n (pc := 41) (tb_at tkX11_settles 27 rfl) rfl rfl ?_
    refine r_invV (mc' := 0) (ms' := 0) [.inl (M 85 ((128 * v1) + (M 84 (v1).toNat)).toNat)] (S := [.inl (M1 86 ((128 * v1) + (M 84 (v1).toNat)).toNat)]) (pc := 42) (tb_at tkX11_settles 28 rfl) rfl ly_66 rfl rfl clX11_143 (Nat.le_of_ble_eq_true rfl) (Nat.le_refl _) (Nat.le_refl _) ?_
    refine Cal.mono h ?_
    rintro _ _ M3 ⟨x4, rfl, rfl, h⟩
    show OkV G miX11_settles (d + 1) K 45 [some (.inr (.inr (some 66))), some (.inl v1), some (.inl (w32 ((128 * v1) + (M 84 (v1).toNat)))), some (.inl (M 85 ((128 * v1) + (M 84 (v1).toNat)).toNat)), none, none, none, none] [.inl x4, .inl (M1 86 ((128 * v1) + (M 84 (v1).toNat)).toNat)] M3
    refine q_icmp_gt (tgt := 72) (pc := 45) (tb_at tkX11_settles 29 rfl) (by decide) (fun c => ?_) (fun c => ?_)
    · replace h := h.1 c
      exact r_vret (pc := 72) (tb_at tkX11_settles 45 rfl) rfl (Nat.le_refl _) (Nat.le_refl _) ⟨rfl, rfl, h⟩
    · replace h := h.2 c
      refine r_aload_n (pc := 48) (tb_at tkX11_settles 30 rfl) rfl rfl ?_
      refine r_get 10 0 (pc := 49) (tb_at tkX11_settles 31 rfl) ly_66 flX11_11 rfl ?_
      refine r_bipush (pc := 52) (tb_at tkX11_settles 32 rfl) ⟨by decide, by decide, by decide⟩ ?_
      refine r_iload_n (pc := 54) (tb_at tkX11_settles 33 rfl) rfl rfl ?_
      refine r_iadd (pc := 55) (tb_at tkX11_settles 34 rfl) ?_
      refine r_iald_w (pc := 56) (tb_at tkX11_settles 35 rfl) ly_67 (by decide) h.1.1 h.1.2 ?_
      replace h := h.2
      refine r_aload_n (pc := 57) (tb_at tkX11_settles 36 rfl) rfl rfl ?_
      refine r_get 10 31 (pc := 58) (tb_at tkX11_settles 37 rfl) ly_66 flX11_76 rfl ?_
      refine r_iload_n (pc := 61) (tb_at tkX11_settles 38 rfl) rfl rfl ?_
      refine r_iald_w (pc := 62) (tb_at tkX11_settles 39 rfl) ly_88 (by decide) h.1.1 h.1.2 ?_
      replace h := h.2
      refine r_isub (pc := 63) (tb_at tkX11_settles 40 rfl) ?_
      refine r_aload_n (pc := 64) (tb_at tkX11_settles 41 rfl) rfl rfl ?_
      refine r_iload_n (pc := 65) (tb_at tkX11_settles 42 rfl) rfl rfl ?_
      refine r_invV (mc' := 0) (ms' := 0) [.inl (M 85 ((128 * v1) + (M 84 (v1).toNat)).toNat)] (S := [.inl (w32 ((M3 67 (22 + v1).toNat) - (M3 88 ((128 * v1) + (M 84 (v1).toNat)).toNat)))]) (pc := 66) (tb_at tkX11_settles 43 rfl) rfl ly_66 rfl rfl clX11_140 (Nat.le_of_ble_eq_true rfl) (Nat.le_refl _) (Nat.le_refl _) ?_
      refine Cal.mono h ?_
      rintro _ _ M5 ⟨x6, rfl, rfl, h⟩
      show OkV G miX11_settles (d + 1) K 69 [some (.inr (.inr (some 66))), some (.inl v1), some (.inl (w32 ((128 * v1) + (M 84 (v1).toNat)))), some (.inl (M 85 ((128 * v1) + (M 84 (v1).toNat)).toNat)), none, none, none, none] [.inl x6, .inl (w32 ((M3 67 (22 + v1).toNat) - (M3 88 ((128 * v1) + (M 84 (v1).toNat)).toNat)))] M5
      refine q_icmp_le (tgt := 73) (pc := 69) (tb_at tkX11_settles 44 rfl) (by decide) (fun c => ?_) (fun c => ?_)
      · replace h := h.1 c
        refine r_iconst (pc := 73) (tb_at tkX11_settles 46 rfl) ⟨by decide, by decide⟩ ?_
        refine r_istore (L' := [some (.inr (.inr (some 66))), some (.inl v1), some (.inl (w32 ((128 * v1) + (M 84 (v1).toNat)))), some (.inl (M 85 ((128 * v1) + (M 84 (v1).toNat)).toNat)), some (.inl 1), none, none, none]) (pc := 74) (tb_at tkX11_settles 47 rfl) (by decide) rfl ?_
        refine r_sipush (pc := 76) (tb_at tkX11_settles 48 rfl) ⟨by decide, by decide, by decide⟩ ?_
        refine r_iload_n (pc := 79) (tb_at tkX11_settles 49 rfl) rfl rfl ?_
        refine r_imul (pc := 80) (tb_at tkX11_settles 50 rfl) ?_
        refine r_istore (L' := [some (.inr (.inr (some 66))), some (.inl v1), some (.inl (w32 ((128 * v1) + (M 84 (v1).toNat)))), some (.inl (M 85 ((128 * v1) + (M 84 (v1).toNat)).toNat)), some (.inl 1), some (.inl (w32 (128 * v1))), none, none]) (pc := 81) (tb_at tkX11_settles 51 rfl) (by decide) rfl ?_
        exact Ok.forget h (And.intro rfl (And.intro rfl (And.intro rfl (And.intro rfl (And.intro rfl trivial)))))
      · replace h := h.2 c
        exact r_vret (pc := 72) (tb_at tkX11_settles 45 rfl) rfl (Nat.le_refl _) (Nat.le_refl _) ⟨rfl, rfl, h⟩
set_option maxRecDepth 100000 in
set_option maxHeartbeats 4000000 in
theorem gX11_settles_83 {G : GE} {d : Nat} {K : Mem → Prop} {M : Mem} {v1 v2 v4 v5 : Int}  (h : ((v2 ≤ v5 → OkV G miX11_settles (d + 1) K 150 [some (.inr (.inr (some 66))), some (.inl v1), some (.inl v2), none, some (.inl v4), some (.inl (w32 (128 * v1))), some (.inl (w32 (128 * v1))), none] [] (mup M 66 34 (w32 ((M 66 34) + (if v4 = 0 then (1 : Int) else 0))))) ∧ (v5 < v2 → ((v4 = 0 → OkV G miX11_settles (d + 1) K 83 [some (.inr (.inr (some 66))), some (.inl v1), some (.inl v2), none, some (.inl 0), some (.inl (w32 (v5 + 1))), none, none] [] M) ∧ (¬ v4 = 0 → CalI G miX11_outdoes d [.inr (.inr (some 66)), .inl v5, .inl v2] M (fun x4 M3 => OkV G miX11_settles (d + 1) K 83 [some (.inr (.inr (some 66))), some (.inl v1), some (.inl v2), none, some (.inl (if x4 = 0 then (1 : Int) else 0)), some (.inl (w32 (v5 + 1))), none, none] [] M3)))))) : OkV G miX11_settles (d + 1) K 83 [some (.inr (.inr (some 66))), some (.inl v1), some (.inl v2), none, some (.inl v4), some (.inl v5), none, none] [] M := by
  refine r_iload (pc := 83) (tb_at tkX11_settles 52 rfl) rfl ?_
  refine r_iload_n (pc := 85) (tb_at tkX11_settles 53 rfl) rfl rfl ?_
  refine q_icmp_ge (tgt := 117) (pc := 86) (tb_at tkX11_settles 54 rfl) (by decide) (fun c => ?_) (fun c => ?_)
  · replace h := h.1 c
    refine r_aload_n (pc := 117) (tb_at tkX11_settles 68 rfl) rfl rfl ?_
    refine r_dup (pc := 118) (tb_at tkX11_settles 69 rfl) (fun _ h => by cases h) ?_
    refine r_get 10 34 (pc := 119) (tb_at tkX11_settles 70 rfl) ly_66 flX11_321 rfl ?_
    refine r_iload (pc := 122) (tb_at tkX11_settles 71 rfl) rfl ?_
    have hJ1 : ∀ t0 : Int, t0 = (if v4 = 0 then (1 : Int) else 0) → OkV G miX11_settles (d + 1) K 132 [some (.inr (.inr (some 66))), some (.inl v1), some (.inl v2), none, some (.inl v4), some (.inl v5), none, none] [.inl t0, .inl (M 66 34), .inr (.inr (some 66))] M := by
      rintro _ rfl
      refine r_iadd (pc := 132) (tb_at tkX11_settles 76 rfl) ?_
      refine r_put 10 34 (w32 ((M 66 34) + (if v4 = 0 then (1 : Int) else 0))) (pc := 133) (tb_at tkX11_settles 77 rfl) ly_66 flX11_321 (fun r h => by cases h; rfl) (.inl rfl) rfl (fun h => by cases h) rfl ?_
      refine r_sipush (pc := 136) (tb_at tkX11_settles 78 rfl) ⟨by decide, by decide, by decide⟩ ?_
      refine r_iload_n (pc := 139) (tb_at tkX11_settles 79 rfl) rfl rfl ?_
      refine r_imul (pc := 140) (tb_at tkX11_settles 80 rfl) ?_
      refine r_istore (L' := [some (.inr (.inr (some 66))), some (.inl v1), some (.inl v2), none, some (.inl v4), some (.inl (w32 (128 * v1))), none, none]) (pc := 141) (tb_at tkX11_settles 81 rfl) (by decide) rfl ?_
      refine r_sipush (pc := 143) (tb_at tkX11_settles 82 rfl) ⟨by decide, by decide, by decide⟩ ?_
      refine r_iload_n (pc := 146) (tb_at tkX11_settles 83 rfl) rfl rfl ?_
      refine r_imul (pc := 147) (tb_at tkX11_settles 84 rfl) ?_
      refine r_istore (L' := [some (.inr (.inr (some 66))), some (.inl v1), some (.inl v2), none, some (.inl v4), some (.inl (w32 (128 * v1))), some (.inl (w32 (128 * v1))), none]) (pc := 148) (tb_at tkX11_settles 85 rfl) (by decide) rfl ?_
      exact h
    refine q_if_eq (tgt := 131) (pc := 124) (tb_at tkX11_settles 72 rfl) (by decide) (fun c2 => ?_) (fun c2 => ?_)
    · refine r_iconst (pc := 131) (tb_at tkX11_settles 75 rfl) ⟨by decide, by decide⟩ ?_
      exact hJ1 _ (by simp only [if_pos c2])
    · refine r_iconst (pc := 127) (tb_at tkX11_settles 73 rfl) ⟨by decide, by decide⟩ ?_
      refine r_goto (tgt := 132) (pc := 128) (tb_at tkX11_settles 74 rfl) (by decide) ?_
      exact hJ1 _ (by simp only [if_neg c2])
  · replace h := h.2 c
    refine r_iload (pc := 89) (tb_at tkX11_settles 55 rfl) rfl ?_
    refine q_if_eq (tgt := 108) (pc := 91) (tb_at tkX11_settles 56 rfl) (by decide) (fun c => ?_) (fun c => ?_)
    · replace h := h.1 c
      refine r_iconst (pc := 108) (tb_at tkX11_settles 64 rfl) ⟨by decide, by decide⟩ ?_
      refine r_istore (L' := [some (.inr (.inr (some 66))), some (.inl v1), some (.inl v2), none, some (.inl 0), some (.inl v5), none, none]) (pc := 109) (tb_at tkX11_settles 65 rfl) (by decide) rfl ?_
      refine r_iinc (L' := [some (.inr (.inr (some 66))), some (.inl v1), some (.inl v2), none, some (.inl 0), some (.inl (w32 (v5 + 1))), none, none]) (pc := 111) (tb_at tkX11_settles 66 rfl) rfl (by decide) rfl ?_
      refine r_goto (tgt := 83) (pc := 114) (tb_at tkX11_settles 67 rfl) (by decide) ?_
      exact h
    · replace h := h.2 c
      refine r_aload_n (pc := 94) (tb_at tkX11_settles 57 rfl) rfl rfl ?_
      refine r_iload (pc := 95) (tb_at tkX11_settles 58 rfl) rfl ?_
      refine r_iload_n (pc := 97) (tb_at tkX11_settles 59 rfl) rfl rfl ?_
      refine r_invV (mc' := 0) (ms' := 0) [.inl v5, .inl v2] (S := []) (pc := 98) (tb_at tkX11_settles 60 rfl) rfl ly_66 rfl rfl clX11_318 (Nat.le_of_ble_eq_true rfl) (Nat.le_refl _) (Nat.le_refl _) ?_
      refine Cal.mono h ?_
      rintro _ _ M3 ⟨x4, rfl, rfl, h⟩
      show OkV G miX11_settles (d + 1) K 101 [some (.inr (.inr (some 66))), some (.inl v1), some (.inl v2), none, some (.inl v4), some (.inl v5), none, none] [.inl x4] M3
      have hJ5 : ∀ t0 : Int, t0 = (if x4 = 0 then (1 : Int) else 0) → OkV G miX11_settles (d + 1) K 109 [some (.inr (.inr (some 66))), some (.inl v1), some (.inl v2), none, some (.inl v4), some (.inl v5), none, none] [.inl t0] M3 := by
        rintro _ rfl
        refine r_istore (L' := [some (.inr (.inr (some 66))), some (.inl v1), some (.inl v2), none, some (.inl (if x4 = 0 then (1 : Int) else 0)), some (.inl v5), none, none]) (pc := 109) (tb_at tkX11_settles 65 rfl) (by decide) rfl ?_
        refine r_iinc (L' := [some (.inr (.inr (some 66))), some (.inl v1), some (.inl v2), none, some (.inl (if x4 = 0 then (1 : Int) else 0)), some (.inl (w32 (v5 + 1))), none, none]) (pc := 111) (tb_at tkX11_settles 66 rfl) rfl (by decide) rfl ?_
        refine r_goto (tgt := 83) (pc := 114) (tb_at tkX11_settles 67 rfl) (by decide) ?_
        exact h
      refine q_if_ne (tgt := 108) (pc := 101) (tb_at tkX11_settles 61 rfl) (by decide) (fun c6 => ?_) (fun c6 => ?_)
      · refine r_iconst (pc := 108) (tb_at tkX11_settles 64 rfl) ⟨by decide, by decide⟩ ?_
        exact hJ5 _ (by simp only [if_neg c6])
      · refine r_iconst (pc := 104) (tb_at tkX11_settles 62 rfl) ⟨by decide, by decide⟩ ?_
        refine r_goto (tgt := 109) (pc := 105) (tb_at tkX11_settles 63 rfl) (by decide) ?_
        exact hJ5 _ (by simp only [if_pos c6])
set_option maxRecDepth 100000 in
set_option maxHeartbeats 4000000 in
theorem gX11_settles_150 {G : GE} {d : Nat} {K : Mem → Prop} {M : Mem} {v1 v2 v4 v5 v6 : Int}  (h : ((v2 ≤ v6 → OkV G miX11_settles (d + 1) K 226 [some (.inr (.inr (some 66))), some (.inl v1), some (.inl v2), none, some (.inl v4), some (.inl v5), none, none] [] M) ∧ (v6 < v2 → ((v4 = 0 → OkV G miX11_settles (d + 1) K 226 [some (.inr (.inr (some 66))), some (.inl v1), some (.inl v2), none, some (.inl v4), some (.inl v5), none, none] [] M) ∧ (¬ v4 = 0 → CalI G miX11_outdoes d [.inr (.inr (some 66)), .inl v2, .inl v6] M (fun x2 M1 => CalV G miX11_movesLabel d [.inr (.inr (some 66)), .inl v6, .inl v5] (mup M1 66 34 (w32 ((M1 66 34) + (if ¬ (x2 = 0) then (1 : Int) else 0)))) (fun M3 => OkV G miX11_settles (d + 1) K 150 [some (.inr (.inr (some 66))), some (.inl v1), some (.inl v2), none, some (.inl v4), some (.inl (w32 (v5 + (if x2 = 0 then (1 : Int) else 0)))), some (.inl (w32 (v6 + 1))), none] [] M3))))))) : OkV G miX11_settles (d + 1) K 150 [some (.inr (.inr (some 66))), some (.inl v1), some (.inl v2), none, some (.inl v4), some (.inl v5), some (.inl v6), none] [] M := by
  refine r_iload (pc := 150) (tb_at tkX11_settles 86 rfl) rfl ?_
  refine r_iload_n (pc := 152) (tb_at tkX11_settles 87 rfl) rfl rfl ?_
  refine q_icmp_ge (tgt := 226) (pc := 153) (tb_at tkX11_settles 88 rfl) (by decide) (fun c => ?_) (fun c => ?_)
  · replace h := h.1 c
    exact Ok.forget h (And.intro rfl (And.intro rfl (And.intro rfl (And.intro rfl (And.intro rfl trivial)))))
  · replace h := h.2 c
    refine r_iload (pc := 156) (tb_at tkX11_settles 89 rfl) rfl ?_
    refine q_if_eq (tgt := 226) (pc := 158) (tb_at tkX11_settles 90 rfl) (by decide) (fun c => ?_) (fun c => ?_)
    · replace h := h.1 c
      exact Ok.forget h (And.intro rfl (And.intro rfl (And.intro rfl (And.intro rfl (And.intro rfl trivial)))))
    · replace h := h.2 c
      refine r_aload_n (pc := 161) (tb_at tkX11_settles 91 rfl) rfl rfl ?_
      refine r_iload_n (pc := 162) (tb_at tkX11_settles 92 rfl) rfl rfl ?_
      refine r_iload (pc := 163) (tb_at tkX11_settles 93 rfl) rfl ?_
      refine r_invV (mc' := 0) (ms' := 0) [.inl v2, .inl v6] (S := []) (pc := 165) (tb_at tkX11_settles 94 rfl) rfl ly_66 rfl rfl clX11_318 (Nat.le_of_ble_eq_true rfl) (Nat.le_refl _) (Nat.le_refl _) ?_
      refine Cal.mono h ?_
      rintro _ _ M1 ⟨x2, rfl, rfl, h⟩
      show OkV G miX11_settles (d + 1) K 168 [some (.inr (.inr (some 66))), some (.inl v1), some (.inl v2), none, some (.inl v4), some (.inl v5), some (.inl v6), none] [.inl x2] M1
      have hJ8 : ∀ t0 : Int, t0 = (if x2 = 0 then (1 : Int) else 0) → OkV G miX11_settles (d + 1) K 176 [some (.inr (.inr (some 66))), some (.inl v1), some (.inl v2), none, some (.inl v4), some (.inl v5), some (.inl v6), none] [.inl t0] M1 := by
        rintro _ rfl
        refine r_istore (L' := [some (.inr (.inr (some 66))), some (.inl v1), some (.inl v2), none, some (.inl v4), some (.inl v5), some (.inl v6), some (.inl (if x2 = 0 then (1 : Int) else 0))]) (pc := 176) (tb_at tkX11_settles 99 rfl) (by decide) rfl ?_
        refine r_aload_n (pc := 178) (tb_at tkX11_settles 100 rfl) rfl rfl ?_
        refine r_dup (pc := 179) (tb_at tkX11_settles 101 rfl) (fun _ h => by cases h) ?_
        refine r_get 10 34 (pc := 180) (tb_at tkX11_settles 102 rfl) ly_66 flX11_321 rfl ?_
        refine r_iload (pc := 183) (tb_at tkX11_settles 103 rfl) rfl ?_
        have hJ6 : ∀ t0 : Int, t0 = (if ¬ (x2 = 0) then (1 : Int) else 0) → OkV G miX11_settles (d + 1) K 193 [some (.inr (.inr (some 66))), some (.inl v1), some (.inl v2), none, some (.inl v4), some (.inl v5), some (.inl v6), some (.inl (if x2 = 0 then (1 : Int) else 0))] [.inl t0, .inl (M1 66 34), .inr (.inr (some 66))] M1 := by
          rintro _ rfl
          refine r_iadd (pc := 193) (tb_at tkX11_settles 108 rfl) ?_
          refine r_put 10 34 (w32 ((M1 66 34) + (if ¬ (x2 = 0) then (1 : Int) else 0))) (pc := 194) (tb_at tkX11_settles 109 rfl) ly_66 flX11_321 (fun r h => by cases h; rfl) (.inl rfl) rfl (fun h => by cases h) rfl ?_
          refine r_aload_n (pc := 197) (tb_at tkX11_settles 110 rfl) rfl rfl ?_
          refine r_iload (pc := 198) (tb_at tkX11_settles 111 rfl) rfl ?_
          refine r_iload (pc := 200) (tb_at tkX11_settles 112 rfl) rfl ?_
          refine r_invV (mc' := 0) (ms' := 0) [.inl v6, .inl v5] (S := []) (pc := 202) (tb_at tkX11_settles 113 rfl) rfl ly_66 rfl rfl clX11_324 (Nat.le_of_ble_eq_true rfl) (Nat.le_refl _) (Nat.le_refl _) ?_
          refine Cal.mono h ?_
          rintro _ _ M3 ⟨rfl, rfl, h⟩
          show OkV G miX11_settles (d + 1) K 205 [some (.inr (.inr (some 66))), some (.inl v1), some (.inl v2), none, some (.inl v4), some (.inl v5), some (.inl v6), some (.inl (if x2 = 0 then (1 : Int) else 0))] [] M3
          refine r_iload (pc := 205) (tb_at tkX11_settles 114 rfl) rfl ?_
          refine r_iload (pc := 207) (tb_at tkX11_settles 115 rfl) rfl ?_
          have hJ4 : ∀ t0 : Int, t0 = (if x2 = 0 then (1 : Int) else 0) → OkV G miX11_settles (d + 1) K 217 [some (.inr (.inr (some 66))), some (.inl v1), some (.inl v2), none, some (.inl v4), some (.inl v5), some (.inl v6), some (.inl (if x2 = 0 then (1 : Int) else 0))] [.inl t0, .inl v5] M3 := by
            rintro _ rfl
            refine r_iadd (pc := 217) (tb_at tkX11_settles 120 rfl) ?_
            refine r_istore (L' := [some (.inr (.inr (some 66))), some (.inl v1), some (.inl v2), none, some (.inl v4), some (.inl (w32 (v5 + (if x2 = 0 then (1 : Int) else 0)))), some (.inl v6), some (.inl (if x2 = 0 then (1 : Int) else 0))]) (pc := 218) (tb_at tkX11_settles 121 rfl) (by decide) rfl ?_
            refine r_iinc (L' := [some (.inr (.inr (some 66))), some (.inl v1), some (.inl v2), none, some (.inl v4), some (.inl (w32 (v5 + (if x2 = 0 then (1 : Int) else 0)))), some (.inl (w32 (v6 + 1))), some (.inl (if x2 = 0 then (1 : Int) else 0))]) (pc := 220) (tb_at tkX11_settles 122 rfl) rfl (by decide) rfl ?_
            refine r_goto (tgt := 150) (pc := 223) (tb_at tkX11_settles 123 rfl) (by decide) ?_
            exact Ok.forget h (And.intro rfl (And.intro rfl (And.intro rfl (And.intro rfl (And.intro rfl (And.intro rfl trivial))))))
          refine q_bif_eq (tgt := 216) (pc := 209) (tb_at tkX11_settles 116 rfl) (by decide) (fun c5 => ?_) (fun c5 => ?_)
          · refine r_iconst (pc := 216) (tb_at tkX11_settles 119 rfl) ⟨by decide, by decide⟩ ?_
            exact hJ4 _ (by simp only [if_neg c5])
          · refine r_iconst (pc := 212) (tb_at tkX11_settles 117 rfl) ⟨by decide, by decide⟩ ?_
            refine r_goto (tgt := 217) (pc := 213) (tb_at tkX11_settles 118 rfl) (by decide) ?_
            exact hJ4 _ (by simp only [if_pos c5])
        refine q_bif_eq (tgt := 192) (pc := 185) (tb_at tkX11_settles 104 rfl) (by decide) (fun c7 => ?_) (fun c7 => ?_)
        · refine r_iconst (pc := 192) (tb_at tkX11_settles 107 rfl) ⟨by decide, by decide⟩ ?_
          exact hJ6 _ (by simp only [if_pos c7])
        · refine r_iconst (pc := 188) (tb_at tkX11_settles 105 rfl) ⟨by decide, by decide⟩ ?_
          refine r_goto (tgt := 193) (pc := 189) (tb_at tkX11_settles 106 rfl) (by decide) ?_
          exact hJ6 _ (by simp only [if_neg (not_not_intro c7)])
      refine q_if_ne (tgt := 175) (pc := 168) (tb_at tkX11_settles 95 rfl) (by decide) (fun c9 => ?_) (fun c9 => ?_)
      · refine r_iconst (pc := 175) (tb_at tkX11_settles 98 rfl) ⟨by decide, by decide⟩ ?_
        exact hJ8 _ (by simp only [if_neg c9])
      · refine r_iconst (pc := 171) (tb_at tkX11_settles 96 rfl) ⟨by decide, by decide⟩ ?_
        refine r_goto (tgt := 176) (pc := 172) (tb_at tkX11_settles 97 rfl) (by decide) ?_
        exact hJ8 _ (by simp only [if_pos c9])
set_option maxRecDepth 100000 in
set_option maxHeartbeats 4000000 in
theorem gX11_settles_226 {G : GE} {d : Nat} {K : Mem → Prop} {M : Mem} {v1 v2 v4 v5 : Int}  (h : ((v4 = 0 → K M) ∧ (¬ v4 = 0 → CalV G miX11_movesLabel d [.inr (.inr (some 66)), .inl v2, .inl v5] M (fun M1 => (0 ≤ v1 ∧ v1 < 7) ∧ K (mup M1 84 (v1).toNat (w32 ((v5 + 1) - (128 * v1)))))))) : OkV G miX11_settles (d + 1) K 226 [some (.inr (.inr (some 66))), some (.inl v1), some (.inl v2), none, some (.inl v4), some (.inl v5), none, none] [] M := by
  refine r_iload (pc := 226) (tb_at tkX11_settles 124 rfl) rfl ?_
  refine q_if_eq (tgt := 254) (pc := 228) (tb_at tkX11_settles 125 rfl) (by decide) (fun c => ?_) (fun c => ?_)
  · replace h := h.1 c
    exact r_vret (pc := 254) (tb_at tkX11_settles 141 rfl) rfl (Nat.le_refl _) (Nat.le_refl _) ⟨rfl, rfl, h⟩
  · replace h := h.2 c
    refine r_aload_n (pc := 231) (tb_at tkX11_settles 126 rfl) rfl rfl ?_
    refine r_iload_n (pc := 232) (tb_at tkX11_settles 127 rfl) rfl rfl ?_
    refine r_iload (pc := 233) (tb_at tkX11_settles 128 rfl) rfl ?_
    refine r_invV (mc' := 0) (ms' := 0) [.inl v2, .inl v5] (S := []) (pc := 235) (tb_at tkX11_settles 129 rfl) rfl ly_66 rfl rfl clX11_324 (Nat.le_of_ble_eq_true rfl) (Nat.le_refl _) (Nat.le_refl _) ?_
    refine Cal.mono h ?_
    rintro _ _ M1 ⟨rfl, rfl, h⟩
    show OkV G miX11_settles (d + 1) K 238 [some (.inr (.inr (some 66))), some (.inl v1), some (.inl v2), none, some (.inl v4), some (.inl v5), none, none] [] M1
    refine r_aload_n (pc := 238) (tb_at tkX11_settles 130 rfl) rfl rfl ?_
    refine r_get 10 27 (pc := 239) (tb_at tkX11_settles 131 rfl) ly_66 flX11_64 rfl ?_
    refine r_iload_n (pc := 242) (tb_at tkX11_settles 132 rfl) rfl rfl ?_
    refine r_iload (pc := 243) (tb_at tkX11_settles 133 rfl) rfl ?_
    refine r_iconst (pc := 245) (tb_at tkX11_settles 134 rfl) ⟨by decide, by decide⟩ ?_
    refine r_iadd (pc := 246) (tb_at tkX11_settles 135 rfl) ?_
    refine r_sipush (pc := 247) (tb_at tkX11_settles 136 rfl) ⟨by decide, by decide, by decide⟩ ?_
    refine r_iload_n (pc := 250) (tb_at tkX11_settles 137 rfl) rfl rfl ?_
    refine r_imul (pc := 251) (tb_at tkX11_settles 138 rfl) ?_
    refine r_isub_lr (pc := 252) (tb_at tkX11_settles 139 rfl) ?_
    refine r_iast (pc := 253) (tb_at tkX11_settles 140 rfl) ly_84 h.1.1 h.1.2 rfl ?_
    replace h := h.2
    exact r_vret (pc := 254) (tb_at tkX11_settles 141 rfl) rfl (Nat.le_refl _) (Nat.le_refl _) ⟨rfl, rfl, h⟩
set_option maxRecDepth 100000 in
set_option maxHeartbeats 4000000 in
theorem gX11_begins_0 {G : GE} {d : Nat} {K : Mem → Prop} {M : Mem} {v1 v2 : Int}  (h : (0 ≤ v1 ∧ v1 < 7) ∧ (0 ≤ 1 + v1 ∧ 1 + v1 < 92) ∧ (0 ≤ (128 * v1) + (M 84 (v1).toNat) ∧ (128 * v1) + (M 84 (v1).toNat) < 896) ∧ (0 ≤ 22 + v1 ∧ 22 + v1 < 92) ∧ (0 ≤ 15 + v1 ∧ 15 + v1 < 92) ∧ (0 ≤ (128 * v1) + (M 84 (v1).toNat) ∧ (128 * v1) + (M 84 (v1).toNat) < 896) ∧ (0 ≤ (128 * v1) + (M 84 (v1).toNat) ∧ (128 * v1) + (M 84 (v1).toNat) < 896) ∧ (0 ≤ (128 * v1) + (M 84 (v1).toNat) ∧ (128 * v1) + (M 84 (v1).toNat) < 896) ∧ (0 ≤ 15 + v1 ∧ 15 + v1 < 92) ∧ (0 ≤ (128 * v1) + (M 84 (v1).toNat) ∧ (128 * v1) + (M 84 (v1).toNat) < 896) ∧ (0 ≤ (128 * v1) + (M 84 (v1).toNat) ∧ (128 * v1) + (M 84 (v1).toNat) < 896) ∧ CalI G miX11_has d [.inl ((mup (mup (mup (mup (mup M 85 ((128 * v1) + (M 84 (v1).toNat)).toNat (M 67 (1 + v1).toNat)) 89 ((128 * v1) + (M 84 (v1).toNat)).toNat (w64 ((((mup M 85 ((128 * v1) + (M 84 (v1).toNat)).toNat (M 67 (1 + v1).toNat)) 67 87) + (((mup M 85 ((128 * v1) + (M 84 (v1).toNat)).toNat (M 67 (1 + v1).toNat)) 67 88) * (w32 (((mup M 85 ((128 * v1) + (M 84 (v1).toNat)).toNat (M 67 (1 + v1).toNat)) 67 (22 + v1).toNat) - ((mup M 85 ((128 * v1) + (M 84 (v1).toNat)).toNat (M 67 (1 + v1).toNat)) 67 (15 + v1).toNat))))) - v2))) 86 ((128 * v1) + (M 84 (v1).toNat)).toNat 1) 87 ((128 * v1) + (M 84 (v1).toNat)).toNat 1) 88 ((128 * v1) + (M 84 (v1).toNat)).toNat ((mup (mup (mup (mup M 85 ((128 * v1) + (M 84 (v1).toNat)).toNat (M 67 (1 + v1).toNat)) 89 ((128 * v1) + (M 84 (v1).toNat)).toNat (w64 ((((mup M 85 ((128 * v1) + (M 84 (v1).toNat)).toNat (M 67 (1 + v1).toNat)) 67 87) + (((mup M 85 ((128 * v1) + (M 84 (v1).toNat)).toNat (M 67 (1 + v1).toNat)) 67 88) * (w32 (((mup M 85 ((128 * v1) + (M 84 (v1).toNat)).toNat (M 67 (1 + v1).toNat)) 67 (22 + v1).toNat) - ((mup M 85 ((128 * v1) + (M 84 (v1).toNat)).toNat (M 67 (1 + v1).toNat)) 67 (15 + v1).toNat))))) - v2))) 86 ((128 * v1) + (M 84 (v1).toNat)).toNat 1) 87 ((128 * v1) + (M 84 (v1).toNat)).toNat 1) 67 (15 + v1).toNat)) 67 86), .inl ((mup (mup (mup (mup (mup M 85 ((128 * v1) + (M 84 (v1).toNat)).toNat (M 67 (1 + v1).toNat)) 89 ((128 * v1) + (M 84 (v1).toNat)).toNat (w64 ((((mup M 85 ((128 * v1) + (M 84 (v1).toNat)).toNat (M 67 (1 + v1).toNat)) 67 87) + (((mup M 85 ((128 * v1) + (M 84 (v1).toNat)).toNat (M 67 (1 + v1).toNat)) 67 88) * (w32 (((mup M 85 ((128 * v1) + (M 84 (v1).toNat)).toNat (M 67 (1 + v1).toNat)) 67 (22 + v1).toNat) - ((mup M 85 ((128 * v1) + (M 84 (v1).toNat)).toNat (M 67 (1 + v1).toNat)) 67 (15 + v1).toNat))))) - v2))) 86 ((128 * v1) + (M 84 (v1).toNat)).toNat 1) 87 ((128 * v1) + (M 84 (v1).toNat)).toNat 1) 88 ((128 * v1) + (M 84 (v1).toNat)).toNat ((mup (mup (mup (mup M 85 ((128 * v1) + (M 84 (v1).toNat)).toNat (M 67 (1 + v1).toNat)) 89 ((128 * v1) + (M 84 (v1).toNat)).toNat (w64 ((((mup M 85 ((128 * v1) + (M 84 (v1).toNat)).toNat (M 67 (1 + v1).toNat)) 67 87) + (((mup M 85 ((128 * v1) + (M 84 (v1).toNat)).toNat (M 67 (1 + v1).toNat)) 67 88) * (w32 (((mup M 85 ((128 * v1) + (M 84 (v1).toNat)).toNat (M 67 (1 + v1).toNat)) 67 (22 + v1).toNat) - ((mup M 85 ((128 * v1) + (M 84 (v1).toNat)).toNat (M 67 (1 + v1).toNat)) 67 (15 + v1).toNat))))) - v2))) 86 ((128 * v1) + (M 84 (v1).toNat)).toNat 1) 87 ((128 * v1) + (M 84 (v1).toNat)).toNat 1) 67 (15 + v1).toNat)) 85 ((128 * v1) + (M 84 (v1).toNat)).toNat)] (mup (mup (mup (mup (mup M 85 ((128 * v1) + (M 84 (v1).toNat)).toNat (M 67 (1 + v1).toNat)) 89 ((128 * v1) + (M 84 (v1).toNat)).toNat (w64 ((((mup M 85 ((128 * v1) + (M 84 (v1).toNat)).toNat (M 67 (1 + v1).toNat)) 67 87) + (((mup M 85 ((128 * v1) + (M 84 (v1).toNat)).toNat (M 67 (1 + v1).toNat)) 67 88) * (w32 (((mup M 85 ((128 * v1) + (M 84 (v1).toNat)).toNat (M 67 (1 + v1).toNat)) 67 (22 + v1).toNat) - ((mup M 85 ((128 * v1) + (M 84 (v1).toNat)).toNat (M 67 (1 + v1).toNat)) 67 (15 + v1).toNat))))) - v2))) 86 ((128 * v1) + (M 84 (v1).toNat)).toNat 1) 87 ((128 * v1) + (M 84 (v1).toNat)).toNat 1) 88 ((128 * v1) + (M 84 (v1).toNat)).toNat ((mup (mup (mup (mup M 85 ((128 * v1) + (M 84 (v1).toNat)).toNat (M 67 (1 + v1).toNat)) 89 ((128 * v1) + (M 84 (v1).toNat)).toNat (w64 ((((mup M 85 ((128 * v1) + (M 84 (v1).toNat)).toNat (M 67 (1 + v1).toNat)) 67 87) + (((mup M 85 ((128 * v1) + (M 84 (v1).toNat)).toNat (M 67 (1 + v1).toNat)) 67 88) * (w32 (((mup M 85 ((128 * v1) + (M 84 (v1).toNat)).toNat (M 67 (1 + v1).toNat)) 67 (22 + v1).toNat) - ((mup M 85 ((128 * v1) + (M 84 (v1).toNat)).toNat (M 67 (1 + v1).toNat)) 67 (15 + v1).toNat))))) - v2))) 86 ((128 * v1) + (M 84 (v1).toNat)).toNat 1) 87 ((128 * v1) + (M 84 (v1).toNat)).toNat 1) 67 (15 + v1).toNat)) (fun x2 M1 => ((x2 = 0 → K M1) ∧ (¬ x2 = 0 → CalV G miX11_settles d [.inr (.inr (some 66)), .inl v1] M1 (fun M3 => K M3))))) : OkV G miX11_begins (d + 1) K 0 [some (.inr (.inr (some 66))), some (.inl v1), some (.inr (.inl v2)), none, none] [] M := by
  refine r_sipush (pc := 0) (tb_at tkX11_begins 0 rfl) ⟨by decide, by decide, by decide⟩ ?_
  refine r_iload_n (pc := 3) (tb_at tkX11_begins 1 rfl) rfl rfl ?_
  refine r_imul (pc := 4) (tb_at tkX11_begins 2 rfl) ?_
  refine r_aload_n (pc := 5) (tb_at tkX11_begins 3 rfl) rfl rfl ?_
  refine r_get 10 27 (pc := 6) (tb_at tkX11_begins 4 rfl) ly_66 flX11_64 rfl ?_
  refine r_iload_n (pc := 9) (tb_at tkX11_begins 5 rfl) rfl rfl ?_
  refine r_iald (pc := 10) (tb_at tkX11_begins 6 rfl) ly_84 h.1.1 h.1.2 ?_
  replace h := h.2
  refine r_iadd_l (pc := 11) (tb_at tkX11_begins 7 rfl) ?_
  refine r_istore (L' := [some (.inr (.inr (some 66))), some (.inl v1), some (.inr (.inl v2)), none, some (.inl (w32 ((128 * v1) + (M 84 (v1).toNat))))]) (pc := 12) (tb_at tkX11_begins 8 rfl) (by decide) rfl ?_
  refine r_aload_n (pc := 14) (tb_at tkX11_begins 9 rfl) rfl rfl ?_
  refine r_get 10 28 (pc := 15) (tb_at tkX11_begins 10 rfl) ly_66 flX11_67 rfl ?_
  refine r_iload (pc := 18) (tb_at tkX11_begins 11 rfl) rfl ?_
  refine r_aload_n (pc := 20) (tb_at tkX11_begins 12 rfl) rfl rfl ?_
  refine r_get 10 0 (pc := 21) (tb_at tkX11_begins 13 rfl) ly_66 flX11_11 rfl ?_
  refine r_iconst (pc := 24) (tb_at tkX11_begins 14 rfl) ⟨by decide, by decide⟩ ?_
  refine r_iload_n (pc := 25) (tb_at tkX11_begins 15 rfl) rfl rfl ?_
  refine r_iadd (pc := 26) (tb_at tkX11_begins 16 rfl) ?_
  refine r_iald_w (pc := 27) (tb_at tkX11_begins 17 rfl) ly_67 (by decide) h.1.1 h.1.2 ?_
  replace h := h.2
  refine r_iast_w (pc := 28) (tb_at tkX11_begins 18 rfl) ly_85 (by decide) h.1.1 h.1.2 rfl ?_
  replace h := h.2
  refine r_aload_n (pc := 29) (tb_at tkX11_begins 19 rfl) rfl rfl ?_
  refine r_get 10 32 (pc := 30) (tb_at tkX11_begins 20 rfl) ly_66 flX11_79 rfl ?_
  refine r_iload (pc := 33) (tb_at tkX11_begins 21 rfl) rfl ?_
  refine r_aload_n (pc := 35) (tb_at tkX11_begins 22 rfl) rfl rfl ?_
  refine r_get 10 0 (pc := 36) (tb_at tkX11_begins 23 rfl) ly_66 flX11_11 rfl ?_
  refine r_bipush (pc := 39) (tb_at tkX11_begins 24 rfl) ⟨by decide, by decide, by decide⟩ ?_
  refine r_iald_k (k0 := 87) (pc := 41) (tb_at tkX11_begins 25 rfl) ly_67 rfl (by decide) (by decide) ?_
  refine r_i2l (pc := 42) (tb_at tkX11_begins 26 rfl) ?_
  refine r_aload_n (pc := 43) (tb_at tkX11_begins 27 rfl) rfl rfl ?_
  refine r_get 10 0 (pc := 44) (tb_at tkX11_begins 28 rfl) ly_66 flX11_11 rfl ?_
  refine r_bipush (pc := 47) (tb_at tkX11_begins 29 rfl) ⟨by decide, by decide, by decide⟩ ?_
  refine r_iald_k (k0 := 88) (pc := 49) (tb_at tkX11_begins 30 rfl) ly_67 rfl (by decide) (by decide) ?_
  refine r_i2l (pc := 50) (tb_at tkX11_begins 31 rfl) ?_
  refine r_aload_n (pc := 51) (tb_at tkX11_begins 32 rfl) rfl rfl ?_
  refine r_get 10 0 (pc := 52) (tb_at tkX11_begins 33 rfl) ly_66 flX11_11 rfl ?_
  refine r_bipush (pc := 55) (tb_at tkX11_begins 34 rfl) ⟨by decide, by decide, by decide⟩ ?_
  refine r_iload_n (pc := 57) (tb_at tkX11_begins 35 rfl) rfl rfl ?_
  refine r_iadd (pc := 58) (tb_at tkX11_begins 36 rfl) ?_
  refine r_iald_w (pc := 59) (tb_at tkX11_begins 37 rfl) ly_67 (by decide) h.1.1 h.1.2 ?_
  replace h := h.2
  refine r_aload_n (pc := 60) (tb_at tkX11_begins 38 rfl) rfl rfl ?_
  refine r_get 10 0 (pc := 61) (tb_at tkX11_begins 39 rfl) ly_66 flX11_11 rfl ?_
  refine r_bipush (pc := 64) (tb_at tkX11_begins 40 rfl) ⟨by decide, by decide, by decide⟩ ?_
  refine r_iload_n (pc := 66) (tb_at tkX11_begins 41 rfl) rfl rfl ?_
  refine r_iadd (pc := 67) (tb_at tkX11_begins 42 rfl) ?_
  refine r_iald_w (pc := 68) (tb_at tkX11_begins 43 rfl) ly_67 (by decide) h.1.1 h.1.2 ?_
  replace h := h.2
  refine r_isub (pc := 69) (tb_at tkX11_begins 44 rfl) ?_
  refine r_i2l (pc := 70) (tb_at tkX11_begins 45 rfl) ?_
  refine r_lmul (pc := 71) (tb_at tkX11_begins 46 rfl) ?_
  refine r_ladd_r (pc := 72) (tb_at tkX11_begins 47 rfl) ?_
  refine r_lload_n (pc := 73) (tb_at tkX11_begins 48 rfl) rfl rfl ?_
  refine r_lsub_l (pc := 74) (tb_at tkX11_begins 49 rfl) ?_
  refine r_last_w (pc := 75) (tb_at tkX11_begins 50 rfl) ly_89 (by decide) h.1.1 h.1.2 rfl ?_
  replace h := h.2
  refine r_aload_n (pc := 76) (tb_at tkX11_begins 51 rfl) rfl rfl ?_
  refine r_get 10 29 (pc := 77) (tb_at tkX11_begins 52 rfl) ly_66 flX11_70 rfl ?_
  refine r_iload (pc := 80) (tb_at tkX11_begins 53 rfl) rfl ?_
  refine r_iconst (pc := 82) (tb_at tkX11_begins 54 rfl) ⟨by decide, by decide⟩ ?_
  refine r_iast_w (pc := 83) (tb_at tkX11_begins 55 rfl) ly_86 (by decide) h.1.1 h.1.2 rfl ?_
  replace h := h.2
  refine r_aload_n (pc := 84) (tb_at tkX11_begins 56 rfl) rfl rfl ?_
  refine r_get 10 30 (pc := 85) (tb_at tkX11_begins 57 rfl) ly_66 flX11_73 rfl ?_
  refine r_iload (pc := 88) (tb_at tkX11_begins 58 rfl) rfl ?_
  refine r_iconst (pc := 90) (tb_at tkX11_begins 59 rfl) ⟨by decide, by decide⟩ ?_
  refine r_iast_w (pc := 91) (tb_at tkX11_begins 60 rfl) ly_87 (by decide) h.1.1 h.1.2 rfl ?_
  replace h := h.2
  refine r_aload_n (pc := 92) (tb_at tkX11_begins 61 rfl) rfl rfl ?_
  refine r_get 10 31 (pc := 93) (tb_at tkX11_begins 62 rfl) ly_66 flX11_76 rfl ?_
  refine r_iload (pc := 96) (tb_at tkX11_begins 63 rfl) rfl ?_
  refine r_aload_n (pc := 98) (tb_at tkX11_begins 64 rfl) rfl rfl ?_
  refine r_get 10 0 (pc := 99) (tb_at tkX11_begins 65 rfl) ly_66 flX11_11 rfl ?_
  refine r_bipush (pc := 102) (tb_at tkX11_begins 66 rfl) ⟨by decide, by decide, by decide⟩ ?_
  refine r_iload_n (pc := 104) (tb_at tkX11_begins 67 rfl) rfl rfl ?_
  refine r_iadd (pc := 105) (tb_at tkX11_begins 68 rfl) ?_
  refine r_iald_w (pc := 106) (tb_at tkX11_begins 69 rfl) ly_67 (by decide) h.1.1 h.1.2 ?_
  replace h := h.2
  refine r_iast_w (pc := 107) (tb_at tkX11_begins 70 rfl) ly_88 (by decide) h.1.1 h.1.2 rfl ?_
  replace h := h.2
  refine r_aload_n (pc := 108) (tb_at tkX11_begins 71 rfl) rfl rfl ?_
  refine r_get 10 0 (pc := 109) (tb_at tkX11_begins 72 rfl) ly_66 flX11_11 rfl ?_
  refine r_bipush (pc := 112) (tb_at tkX11_begins 73 rfl) ⟨by decide, by decide, by decide⟩ ?_
  refine r_iald_k (k0 := 86) (pc := 114) (tb_at tkX11_begins 74 rfl) ly_67 rfl (by decide) (by decide) ?_
  refine r_aload_n (pc := 115) (tb_at tkX11_begins 75 rfl) rfl rfl ?_
  refine r_get 10 28 (pc := 116) (tb_at tkX11_begins 76 rfl) ly_66 flX11_67 rfl ?_
  refine r_iload (pc := 119) (tb_at tkX11_begins 77 rfl) rfl ?_
  refine r_iald_w (pc := 121) (tb_at tkX11_begins 78 rfl) ly_85 (by decide) h.1.1 h.1.2 ?_
  replace h := h.2
  refine r_invS (mc' := 0) (ms' := 0) [.inl ((mup (mup (mup (mup (mup M 85 ((128 * v1) + (M 84 (v1).toNat)).toNat (M 67 (1 + v1).toNat)) 89 ((128 * v1) + (M 84 (v1).toNat)).toNat (w64 ((((mup M 85 ((128 * v1) + (M 84 (v1).toNat)).toNat (M 67 (1 + v1).toNat)) 67 87) + (((mup M 85 ((128 * v1) + (M 84 (v1).toNat)).toNat (M 67 (1 + v1).toNat)) 67 88) * (w32 (((mup M 85 ((128 * v1) + (M 84 (v1).toNat)).toNat (M 67 (1 + v1).toNat)) 67 (22 + v1).toNat) - ((mup M 85 ((128 * v1) + (M 84 (v1).toNat)).toNat (M 67 (1 + v1).toNat)) 67 (15 + v1).toNat))))) - v2))) 86 ((128 * v1) + (M 84 (v1).toNat)).toNat 1) 87 ((128 * v1) + (M 84 (v1).toNat)).toNat 1) 88 ((128 * v1) + (M 84 (v1).toNat)).toNat ((mup (mup (mup (mup M 85 ((128 * v1) + (M 84 (v1).toNat)).toNat (M 67 (1 + v1).toNat)) 89 ((128 * v1) + (M 84 (v1).toNat)).toNat (w64 ((((mup M 85 ((128 * v1) + (M 84 (v1).toNat)).toNat (M 67 (1 + v1).toNat)) 67 87) + (((mup M 85 ((128 * v1) + (M 84 (v1).toNat)).toNat (M 67 (1 + v1).toNat)) 67 88) * (w32 (((mup M 85 ((128 * v1) + (M 84 (v1).toNat)).toNat (M 67 (1 + v1).toNat)) 67 (22 + v1).toNat) - ((mup M 85 ((128 * v1) + (M 84 (v1).toNat)).toNat (M 67 (1 + v1).toNat)) 67 (15 + v1).toNat))))) - v2))) 86 ((128 * v1) + (M 84 (v1).toNat)).toNat 1) 87 ((128 * v1) + (M 84 (v1).toNat)).toNat 1) 67 (15 + v1).toNat)) 67 86), .inl ((mup (mup (mup (mup (mup M 85 ((128 * v1) + (M 84 (v1).toNat)).toNat (M 67 (1 + v1).toNat)) 89 ((128 * v1) + (M 84 (v1).toNat)).toNat (w64 ((((mup M 85 ((128 * v1) + (M 84 (v1).toNat)).toNat (M 67 (1 + v1).toNat)) 67 87) + (((mup M 85 ((128 * v1) + (M 84 (v1).toNat)).toNat (M 67 (1 + v1).toNat)) 67 88) * (w32 (((mup M 85 ((128 * v1) + (M 84 (v1).toNat)).toNat (M 67 (1 + v1).toNat)) 67 (22 + v1).toNat) - ((mup M 85 ((128 * v1) + (M 84 (v1).toNat)).toNat (M 67 (1 + v1).toNat)) 67 (15 + v1).toNat))))) - v2))) 86 ((128 * v1) + (M 84 (v1).toNat)).toNat 1) 87 ((128 * v1) + (M 84 (v1).toNat)).toNat 1) 88 ((128 * v1) + (M 84 (v1).toNat)).toNat ((mup (mup (mup (mup M 85 ((128 * v1) + (M 84 (v1).toNat)).toNat (M 67 (1 + v1).toNat)) 89 ((128 * v1) + (M 84 (v1).toNat)).toNat (w64 ((((mup M 85 ((128 * v1) + (M 84 (v1).toNat)).toNat (M 67 (1 + v1).toNat)) 67 87) + (((mup M 85 ((128 * v1) + (M 84 (v1).toNat)).toNat (M 67 (1 + v1).toNat)) 67 88) * (w32 (((mup M 85 ((128 * v1) + (M 84 (v1).toNat)).toNat (M 67 (1 + v1).toNat)) 67 (22 + v1).toNat) - ((mup M 85 ((128 * v1) + (M 84 (v1).toNat)).toNat (M 67 (1 + v1).toNat)) 67 (15 + v1).toNat))))) - v2))) 86 ((128 * v1) + (M 84 (v1).toNat)).toNat 1) 87 ((128 * v1) + (M 84 (v1).toNat)).toNat 1) 67 (15 + v1).toNat)) 85 ((128 * v1) + (M 84 (v1).toNat)).toNat)] (S := []) (pc := 122) (tb_at tkX11_begins 79 rfl) rfl clX11_176 (Nat.le_of_ble_eq_true rfl) (Nat.le_refl _) (Nat.le_refl _) ?_
  refine Cal.mono h ?_
  rintro _ _ M1 ⟨x2, rfl, rfl, h⟩
  show OkV G miX11_begins (d + 1) K 125 [some (.inr (.inr (some 66))), some (.inl v1), some (.inr (.inl v2)), none, some (.inl (w32 ((128 * v1) + (M 84 (v1).toNat))))] [.inl x2] M1
  refine q_if_eq (tgt := 133) (pc := 125) (tb_at tkX11_begins 80 rfl) (by decide) (fun c => ?_) (fun c => ?_)
  · replace h := h.1 c
    exact r_vret (pc := 133) (tb_at tkX11_begins 84 rfl) rfl (Nat.le_refl _) (Nat.le_refl _) ⟨rfl, rfl, h⟩
  · replace h := h.2 c
    refine r_aload_n (pc := 128) (tb_at tkX11_begins 81 rfl) rfl rfl ?_
    refine r_iload_n (pc := 129) (tb_at tkX11_begins 82 rfl) rfl rfl ?_
    refine r_invV (mc' := 0) (ms' := 0) [.inl v1] (S := []) (pc := 130) (tb_at tkX11_begins 83 rfl) rfl ly_66 rfl rfl clX11_327 (Nat.le_of_ble_eq_true rfl) (Nat.le_refl _) (Nat.le_refl _) ?_
    refine Cal.mono h ?_
    rintro _ _ M3 ⟨rfl, rfl, h⟩
    show OkV G miX11_begins (d + 1) K 133 [some (.inr (.inr (some 66))), some (.inl v1), some (.inr (.inl v2)), none, some (.inl (w32 ((128 * v1) + (M 84 (v1).toNat))))] [] M3
    exact r_vret (pc := 133) (tb_at tkX11_begins 84 rfl) rfl (Nat.le_refl _) (Nat.le_refl _) ⟨rfl, rfl, h⟩
set_option maxRecDepth 100000 in
set_option maxHeartbeats 4000000 in
theorem gX11_goesOn_0 {G : GE} {d : Nat} {K : Mem → Prop} {M : Mem} {v1 v2 v3 v4 : Int}  (h : (0 ≤ v3 ∧ v3 < 7) ∧ CalI G miX11_followsBy d [.inr (.inr (some 66)), .inl v1, .inl v3] M (fun x2 M1 => CalV G miX11_movesLabel d [.inr (.inr (some 66)), .inl v2, .inl (w32 ((128 * v3) + (M 84 (v3).toNat)))] M1 (fun M3 => (0 ≤ (128 * v3) + (M 84 (v3).toNat) ∧ (128 * v3) + (M 84 (v3).toNat) < 896) ∧ (0 ≤ 22 + v3 ∧ 22 + v3 < 92) ∧ (0 ≤ 22 + v1 ∧ 22 + v1 < 92) ∧ ((¬ x2 = 2 → CalI G miX11_isTight d [.inr (.inr (some 66)), .inl v1, .inl v3] M3 (fun x5 M4 => ((x5 = 0 → OkV G miX11_goesOn (d + 1) K 105 [some (.inr (.inr (some 66))), none, none, some (.inl v3), none, none, some (.inl (w32 ((128 * v3) + (M 84 (v3).toNat)))), some (.inl x2)] [.inl 0, .inr (.inl (w64 (((M3 67 88) * (w32 ((M3 67 (22 + v3).toNat) - (M3 67 (22 + v1).toNat)))) - v4))), .inr (.inl (M3 89 ((128 * v3) + (M 84 (v3).toNat)).toNat)), .inl (w32 ((128 * v3) + (M 84 (v3).toNat))), .inr (.inr (some 89))] M4) ∧ (¬ x5 = 0 → OkV G miX11_goesOn (d + 1) K 105 [some (.inr (.inr (some 66))), none, none, some (.inl v3), none, none, some (.inl (w32 ((128 * v3) + (M 84 (v3).toNat)))), some (.inl x2)] [.inl (M4 67 89), .inr (.inl (w64 (((M3 67 88) * (w32 ((M3 67 (22 + v3).toNat) - (M3 67 (22 + v1).toNat)))) - v4))), .inr (.inl (M3 89 ((128 * v3) + (M 84 (v3).toNat)).toNat)), .inl (w32 ((128 * v3) + (M 84 (v3).toNat))), .inr (.inr (some 89))] M4)))) ∧ (x2 = 2 → OkV G miX11_goesOn (d + 1) K 105 [some (.inr (.inr (some 66))), none, none, some (.inl v3), none, none, some (.inl (w32 ((128 * v3) + (M 84 (v3).toNat)))), some (.inl x2)] [.inl (M3 67 87), .inr (.inl (w64 (((M3 67 88) * (w32 ((M3 67 (22 + v3).toNat) - (M3 67 (22 + v1).toNat)))) - v4))), .inr (.inl (M3 89 ((128 * v3) + (M 84 (v3).toNat)).toNat)), .inl (w32 ((128 * v3) + (M 84 (v3).toNat))), .inr (.inr (some 89))] M3))))) : OkV G miX11_goesOn (d + 1) K 0 [some (.inr (.inr (some 66))), some (.inl v1), some (.inl v2), some (.inl v3), some (.inr (.inl v4)), none, none, none] [] M := by
  refine r_sipush (pc := 0) (tb_at tkX11_goesOn 0 rfl) ⟨by decide, by decide, by decide⟩ ?_
  refine r_iload_n (pc := 3) (tb_at tkX11_goesOn 1 rfl) rfl rfl ?_
  refine r_imul (pc := 4) (tb_at tkX11_goesOn 2 rfl) ?_
  refine r_aload_n (pc := 5) (tb_at tkX11_goesOn 3 rfl) rfl rfl ?_
  refine r_get 10 27 (pc := 6) (tb_at tkX11_goesOn 4 rfl) ly_66 flX11_64 rfl ?_
  refine r_iload_n (pc := 9) (tb_at tkX11_goesOn 5 rfl) rfl rfl ?_
  refine r_iald (pc := 10) (tb_at tkX11_goesOn 6 rfl) ly_84 h.1.1 h.1.2 ?_
  replace h := h.2
  refine r_iadd_l (pc := 11) (tb_at tkX11_goesOn 7 rfl) ?_
  refine r_istore (L' := [some (.inr (.inr (some 66))), some (.inl v1), some (.inl v2), some (.inl v3), some (.inr (.inl v4)), none, some (.inl (w32 ((128 * v3) + (M 84 (v3).toNat)))), none]) (pc := 12) (tb_at tkX11_goesOn 8 rfl) (by decide) rfl ?_
  refine r_aload_n (pc := 14) (tb_at tkX11_goesOn 9 rfl) rfl rfl ?_
  refine r_iload_n (pc := 15) (tb_at tkX11_goesOn 10 rfl) rfl rfl ?_
  refine r_iload_n (pc := 16) (tb_at tkX11_goesOn 11 rfl) rfl rfl ?_
  refine r_invV (mc' := 0) (ms' := 0) [.inl v1, .inl v3] (S := []) (pc := 17) (tb_at tkX11_goesOn 12 rfl) rfl ly_66 rfl rfl clX11_162 (Nat.le_of_ble_eq_true rfl) (Nat.le_refl _) (Nat.le_refl _) ?_
  refine Cal.mono h ?_
  rintro _ _ M1 ⟨x2, rfl, rfl, h⟩
  show OkV G miX11_goesOn (d + 1) K 20 [some (.inr (.inr (some 66))), some (.inl v1), some (.inl v2), some (.inl v3), some (.inr (.inl v4)), none, some (.inl (w32 ((128 * v3) + (M 84 (v3).toNat)))), none] [.inl x2] M1
  refine r_istore (L' := [some (.inr (.inr (some 66))), some (.inl v1), some (.inl v2), some (.inl v3), some (.inr (.inl v4)), none, some (.inl (w32 ((128 * v3) + (M 84 (v3).toNat)))), some (.inl x2)]) (pc := 20) (tb_at tkX11_goesOn 13 rfl) (by decide) rfl ?_
  refine r_aload_n (pc := 22) (tb_at tkX11_goesOn 14 rfl) rfl rfl ?_
  refine r_iload_n (pc := 23) (tb_at tkX11_goesOn 15 rfl) rfl rfl ?_
  refine r_iload (pc := 24) (tb_at tkX11_goesOn 16 rfl) rfl ?_
  refine r_invV (mc' := 0) (ms' := 0) [.inl v2, .inl (w32 ((128 * v3) + (M 84 (v3).toNat)))] (S := []) (pc := 26) (tb_at tkX11_goesOn 17 rfl) rfl ly_66 rfl rfl clX11_324 (Nat.le_of_ble_eq_true rfl) (Nat.le_refl _) (Nat.le_refl _) ?_
  refine Cal.mono h ?_
  rintro _ _ M3 ⟨rfl, rfl, h⟩
  show OkV G miX11_goesOn (d + 1) K 29 [some (.inr (.inr (some 66))), some (.inl v1), some (.inl v2), some (.inl v3), some (.inr (.inl v4)), none, some (.inl (w32 ((128 * v3) + (M 84 (v3).toNat)))), some (.inl x2)] [] M3
  refine r_aload_n (pc := 29) (tb_at tkX11_goesOn 18 rfl) rfl rfl ?_
  refine r_get 10 32 (pc := 30) (tb_at tkX11_goesOn 19 rfl) ly_66 flX11_79 rfl ?_
  refine r_iload (pc := 33) (tb_at tkX11_goesOn 20 rfl) rfl ?_
  refine r_dup2 (pc := 35) (tb_at tkX11_goesOn 21 rfl) ?_
  refine r_lald_w (pc := 36) (tb_at tkX11_goesOn 22 rfl) ly_89 (by decide) h.1.1 h.1.2 ?_
  replace h := h.2
  refine r_aload_n (pc := 37) (tb_at tkX11_goesOn 23 rfl) rfl rfl ?_
  refine r_get 10 0 (pc := 38) (tb_at tkX11_goesOn 24 rfl) ly_66 flX11_11 rfl ?_
  refine r_bipush (pc := 41) (tb_at tkX11_goesOn 25 rfl) ⟨by decide, by decide, by decide⟩ ?_
  refine r_iald_k (k0 := 88) (pc := 43) (tb_at tkX11_goesOn 26 rfl) ly_67 rfl (by decide) (by decide) ?_
  refine r_i2l (pc := 44) (tb_at tkX11_goesOn 27 rfl) ?_
  refine r_aload_n (pc := 45) (tb_at tkX11_goesOn 28 rfl) rfl rfl ?_
  refine r_get 10 0 (pc := 46) (tb_at tkX11_goesOn 29 rfl) ly_66 flX11_11 rfl ?_
  refine r_bipush (pc := 49) (tb_at tkX11_goesOn 30 rfl) ⟨by decide, by decide, by decide⟩ ?_
  refine r_iload_n (pc := 51) (tb_at tkX11_goesOn 31 rfl) rfl rfl ?_
  refine r_iadd (pc := 52) (tb_at tkX11_goesOn 32 rfl) ?_
  refine r_iald_w (pc := 53) (tb_at tkX11_goesOn 33 rfl) ly_67 (by decide) h.1.1 h.1.2 ?_
  replace h := h.2
  refine r_aload_n (pc := 54) (tb_at tkX11_goesOn 34 rfl) rfl rfl ?_
  refine r_get 10 0 (pc := 55) (tb_at tkX11_goesOn 35 rfl) ly_66 flX11_11 rfl ?_
  refine r_bipush (pc := 58) (tb_at tkX11_goesOn 36 rfl) ⟨by decide, by decide, by decide⟩ ?_
  refine r_iload_n (pc := 60) (tb_at tkX11_goesOn 37 rfl) rfl rfl ?_
  refine r_iadd (pc := 61) (tb_at tkX11_goesOn 38 rfl) ?_
  refine r_iald_w (pc := 62) (tb_at tkX11_goesOn 39 rfl) ly_67 (by decide) h.1.1 h.1.2 ?_
  replace h := h.2
  refine r_isub (pc := 63) (tb_at tkX11_goesOn 40 rfl) ?_
  refine r_i2l (pc := 64) (tb_at tkX11_goesOn 41 rfl) ?_
  refine r_lmul (pc := 65) (tb_at tkX11_goesOn 42 rfl) ?_
  refine r_lload (pc := 66) (tb_at tkX11_goesOn 43 rfl) rfl ?_
  refine r_lsub_l (pc := 68) (tb_at tkX11_goesOn 44 rfl) ?_
  refine r_iload (pc := 69) (tb_at tkX11_goesOn 45 rfl) rfl ?_
  refine r_iconst (pc := 71) (tb_at tkX11_goesOn 46 rfl) ⟨by decide, by decide⟩ ?_
  refine q_icmp_ne (tgt := 85) (pc := 72) (tb_at tkX11_goesOn 47 rfl) (by decide) (fun c => ?_) (fun c => ?_)
  · replace h := h.1 c
    refine r_aload_n (pc := 85) (tb_at tkX11_goesOn 53 rfl) rfl rfl ?_
    refine r_iload_n (pc := 86) (tb_at tkX11_goesOn 54 rfl) rfl rfl ?_
    refine r_iload_n (pc := 87) (tb_at tkX11_goesOn 55 rfl) rfl rfl ?_
    refine r_invV (mc' := 0) (ms' := 0) [.inl v1, .inl v3] (S := [.inr (.inl (w64 (((M3 67 88) * (w32 ((M3 67 (22 + v3).toNat) - (M3 67 (22 + v1).toNat)))) - v4))), .inr (.inl (M3 89 ((128 * v3) + (M 84 (v3).toNat)).toNat)), .inl (w32 ((128 * v3) + (M 84 (v3).toNat))), .inr (.inr (some 89))]) (pc := 88) (tb_at tkX11_goesOn 56 rfl) rfl ly_66 rfl rfl clX11_168 (Nat.le_of_ble_eq_true rfl) (Nat.le_refl _) (Nat.le_refl _) ?_
    refine Cal.mono h ?_
    rintro _ _ M4 ⟨x5, rfl, rfl, h⟩
    show OkV G miX11_goesOn (d + 1) K 91 [some (.inr (.inr (some 66))), some (.inl v1), some (.inl v2), some (.inl v3), some (.inr (.inl v4)), none, some (.inl (w32 ((128 * v3) + (M 84 (v3).toNat)))), some (.inl x2)] [.inl x5, .inr (.inl (w64 (((M3 67 88) * (w32 ((M3 67 (22 + v3).toNat) - (M3 67 (22 + v1).toNat)))) - v4))), .inr (.inl (M3 89 ((128 * v3) + (M 84 (v3).toNat)).toNat)), .inl (w32 ((128 * v3) + (M 84 (v3).toNat))), .inr (.inr (some 89))] M4
    refine q_if_eq (tgt := 104) (pc := 91) (tb_at tkX11_goesOn 57 rfl) (by decide) (fun c => ?_) (fun c => ?_)
    · replace h := h.1 c
      refine r_iconst (pc := 104) (tb_at tkX11_goesOn 63 rfl) ⟨by decide, by decide⟩ ?_
      exact Ok.forget h (And.intro rfl (And.intro rfl (And.intro rfl (And.intro rfl trivial))))
    · replace h := h.2 c
      refine r_aload_n (pc := 94) (tb_at tkX11_goesOn 58 rfl) rfl rfl ?_
      refine r_get 10 0 (pc := 95) (tb_at tkX11_goesOn 59 rfl) ly_66 flX11_11 rfl ?_
      refine r_bipush (pc := 98) (tb_at tkX11_goesOn 60 rfl) ⟨by decide, by decide, by decide⟩ ?_
      refine r_iald_k (k0 := 89) (pc := 100) (tb_at tkX11_goesOn 61 rfl) ly_67 rfl (by decide) (by decide) ?_
      refine r_goto (tgt := 105) (pc := 101) (tb_at tkX11_goesOn 62 rfl) (by decide) ?_
      exact Ok.forget h (And.intro rfl (And.intro rfl (And.intro rfl (And.intro rfl trivial))))
  · replace h := h.2 c
    refine r_aload_n (pc := 75) (tb_at tkX11_goesOn 48 rfl) rfl rfl ?_
    refine r_get 10 0 (pc := 76) (tb_at tkX11_goesOn 49 rfl) ly_66 flX11_11 rfl ?_
    refine r_bipush (pc := 79) (tb_at tkX11_goesOn 50 rfl) ⟨by decide, by decide, by decide⟩ ?_
    refine r_iald_k (k0 := 87) (pc := 81) (tb_at tkX11_goesOn 51 rfl) ly_67 rfl (by decide) (by decide) ?_
    refine r_goto (tgt := 105) (pc := 82) (tb_at tkX11_goesOn 52 rfl) (by decide) ?_
    exact Ok.forget h (And.intro rfl (And.intro rfl (And.intro rfl (And.intro rfl trivial))))
set_option maxRecDepth 100000 in
set_option maxHeartbeats 4000000 in
theorem gX11_goesOn_105 {G : GE} {d : Nat} {K : Mem → Prop} {M : Mem} {v3 v6 v7 s1 s2 s3 s4 : Int}  (h : (0 ≤ s1 ∧ s1 < 896) ∧ (0 ≤ v6 ∧ v6 < 896) ∧ (0 ≤ v6 ∧ v6 < 896) ∧ ((¬ v7 = 2 → (0 ≤ v6 ∧ v6 < 896) ∧ OkV G miX11_goesOn (d + 1) K 155 [some (.inr (.inr (some 66))), none, none, some (.inl v3), none, none, some (.inl v6), some (.inl v7)] [.inl (w32 (((mup (mup M 89 (s1).toNat (w64 (s2 + (s3 + s4)))) 86 (v6).toNat (w32 (((mup M 89 (s1).toNat (w64 (s2 + (s3 + s4)))) 86 (v6).toNat) + (if v7 = 2 then (1 : Int) else 0)))) 87 (v6).toNat) + 1)), .inl v6, .inr (.inr (some 87))] (mup (mup M 89 (s1).toNat (w64 (s2 + (s3 + s4)))) 86 (v6).toNat (w32 (((mup M 89 (s1).toNat (w64 (s2 + (s3 + s4)))) 86 (v6).toNat) + (if v7 = 2 then (1 : Int) else 0))))) ∧ (v7 = 2 → OkV G miX11_goesOn (d + 1) K 155 [some (.inr (.inr (some 66))), none, none, some (.inl v3), none, none, some (.inl v6), some (.inl v7)] [.inl 1, .inl v6, .inr (.inr (some 87))] (mup (mup M 89 (s1).toNat (w64 (s2 + (s3 + s4)))) 86 (v6).toNat (w32 (((mup M 89 (s1).toNat (w64 (s2 + (s3 + s4)))) 86 (v6).toNat) + (if v7 = 2 then (1 : Int) else 0))))))) : OkV G miX11_goesOn (d + 1) K 105 [some (.inr (.inr (some 66))), none, none, some (.inl v3), none, none, some (.inl v6), some (.inl v7)] [.inl s4, .inr (.inl s3), .inr (.inl s2), .inl s1, .inr (.inr (some 89))] M := by
  refine r_i2l (pc := 105) (tb_at tkX11_goesOn 64 rfl) ?_
  refine r_ladd (pc := 106) (tb_at tkX11_goesOn 65 rfl) ?_
  refine r_ladd_r (pc := 107) (tb_at tkX11_goesOn 66 rfl) ?_
  refine r_last (pc := 108) (tb_at tkX11_goesOn 67 rfl) ly_89 h.1.1 h.1.2 rfl ?_
  replace h := h.2
  refine r_aload_n (pc := 109) (tb_at tkX11_goesOn 68 rfl) rfl rfl ?_
  refine r_get 10 29 (pc := 110) (tb_at tkX11_goesOn 69 rfl) ly_66 flX11_70 rfl ?_
  refine r_iload (pc := 113) (tb_at tkX11_goesOn 70 rfl) rfl ?_
  refine r_dup2 (pc := 115) (tb_at tkX11_goesOn 71 rfl) ?_
  refine r_iald (pc := 116) (tb_at tkX11_goesOn 72 rfl) ly_86 h.1.1 h.1.2 ?_
  replace h := h.2
  refine r_iload (pc := 117) (tb_at tkX11_goesOn 73 rfl) rfl ?_
  refine r_iconst (pc := 119) (tb_at tkX11_goesOn 74 rfl) ⟨by decide, by decide⟩ ?_
  have hJ1 : ∀ t0 : Int, t0 = (if v7 = 2 then (1 : Int) else 0) → OkV G miX11_goesOn (d + 1) K 128 [some (.inr (.inr (some 66))), none, none, some (.inl v3), none, none, some (.inl v6), some (.inl v7)] [.inl t0, .inl ((mup M 89 (s1).toNat (w64 (s2 + (s3 + s4)))) 86 (v6).toNat), .inl v6, .inr (.inr (some 86))] (mup M 89 (s1).toNat (w64 (s2 + (s3 + s4)))) := by
    rintro _ rfl
    refine r_iadd (pc := 128) (tb_at tkX11_goesOn 79 rfl) ?_
    refine r_iast (pc := 129) (tb_at tkX11_goesOn 80 rfl) ly_86 h.1.1 h.1.2 rfl ?_
    replace h := h.2
    refine r_aload_n (pc := 130) (tb_at tkX11_goesOn 81 rfl) rfl rfl ?_
    refine r_get 10 30 (pc := 131) (tb_at tkX11_goesOn 82 rfl) ly_66 flX11_73 rfl ?_
    refine r_iload (pc := 134) (tb_at tkX11_goesOn 83 rfl) rfl ?_
    refine r_iload (pc := 136) (tb_at tkX11_goesOn 84 rfl) rfl ?_
    refine r_iconst (pc := 138) (tb_at tkX11_goesOn 85 rfl) ⟨by decide, by decide⟩ ?_
    refine q_icmp_ne (tgt := 146) (pc := 139) (tb_at tkX11_goesOn 86 rfl) (by decide) (fun c => ?_) (fun c => ?_)
    · replace h := h.1 c
      refine r_aload_n (pc := 146) (tb_at tkX11_goesOn 89 rfl) rfl rfl ?_
      refine r_get 10 30 (pc := 147) (tb_at tkX11_goesOn 90 rfl) ly_66 flX11_73 rfl ?_
      refine r_iload (pc := 150) (tb_at tkX11_goesOn 91 rfl) rfl ?_
      refine r_iald (pc := 152) (tb_at tkX11_goesOn 92 rfl) ly_87 h.1.1 h.1.2 ?_
      replace h := h.2
      refine r_iconst (pc := 153) (tb_at tkX11_goesOn 93 rfl) ⟨by decide, by decide⟩ ?_
      refine r_iadd (pc := 154) (tb_at tkX11_goesOn 94 rfl) ?_
      exact h
    · replace h := h.2 c
      refine r_iconst (pc := 142) (tb_at tkX11_goesOn 87 rfl) ⟨by decide, by decide⟩ ?_
      refine r_goto (tgt := 155) (pc := 143) (tb_at tkX11_goesOn 88 rfl) (by decide) ?_
      exact h
  refine q_icmp_ne (tgt := 127) (pc := 120) (tb_at tkX11_goesOn 75 rfl) (by decide) (fun c2 => ?_) (fun c2 => ?_)
  · refine r_iconst (pc := 127) (tb_at tkX11_goesOn 78 rfl) ⟨by decide, by decide⟩ ?_
    exact hJ1 _ (by simp only [if_neg c2])
  · refine r_iconst (pc := 123) (tb_at tkX11_goesOn 76 rfl) ⟨by decide, by decide⟩ ?_
    refine r_goto (tgt := 128) (pc := 124) (tb_at tkX11_goesOn 77 rfl) (by decide) ?_
    exact hJ1 _ (by simp only [if_pos c2])
set_option maxRecDepth 100000 in
set_option maxHeartbeats 4000000 in
theorem gX11_goesOn_155 {G : GE} {d : Nat} {K : Mem → Prop} {M : Mem} {v3 v6 v7 s1 s2 : Int}  (h : (0 ≤ s1 ∧ s1 < 896) ∧ ((¬ v7 = 2 → (0 ≤ v6 ∧ v6 < 896) ∧ OkV G miX11_goesOn (d + 1) K 187 [some (.inr (.inr (some 66))), none, none, some (.inl v3), none, none, none, none] [.inl ((mup M 87 (s1).toNat s2) 88 (v6).toNat), .inl v6, .inr (.inr (some 88))] (mup M 87 (s1).toNat s2)) ∧ (v7 = 2 → (0 ≤ 15 + v3 ∧ 15 + v3 < 92) ∧ OkV G miX11_goesOn (d + 1) K 187 [some (.inr (.inr (some 66))), none, none, some (.inl v3), none, none, none, none] [.inl ((mup M 87 (s1).toNat s2) 67 (15 + v3).toNat), .inl v6, .inr (.inr (some 88))] (mup M 87 (s1).toNat s2)))) : OkV G miX11_goesOn (d + 1) K 155 [some (.inr (.inr (some 66))), none, none, some (.inl v3), none, none, some (.inl v6), some (.inl v7)] [.inl s2, .inl s1, .inr (.inr (some 87))] M := by
  refine r_iast (pc := 155) (tb_at tkX11_goesOn 95 rfl) ly_87 h.1.1 h.1.2 rfl ?_
  replace h := h.2
  refine r_aload_n (pc := 156) (tb_at tkX11_goesOn 96 rfl) rfl rfl ?_
  refine r_get 10 31 (pc := 157) (tb_at tkX11_goesOn 97 rfl) ly_66 flX11_76 rfl ?_
  refine r_iload (pc := 160) (tb_at tkX11_goesOn 98 rfl) rfl ?_
  refine r_iload (pc := 162) (tb_at tkX11_goesOn 99 rfl) rfl ?_
  refine r_iconst (pc := 164) (tb_at tkX11_goesOn 100 rfl) ⟨by decide, by decide⟩ ?_
  refine q_icmp_ne (tgt := 180) (pc := 165) (tb_at tkX11_goesOn 101 rfl) (by decide) (fun c => ?_) (fun c => ?_)
  · replace h := h.1 c
    refine r_aload_n (pc := 180) (tb_at tkX11_goesOn 109 rfl) rfl rfl ?_
    refine r_get 10 31 (pc := 181) (tb_at tkX11_goesOn 110 rfl) ly_66 flX11_76 rfl ?_
    refine r_iload (pc := 184) (tb_at tkX11_goesOn 111 rfl) rfl ?_
    refine r_iald (pc := 186) (tb_at tkX11_goesOn 112 rfl) ly_88 h.1.1 h.1.2 ?_
    replace h := h.2
    exact Ok.forget h (And.intro rfl (And.intro rfl trivial))
  · replace h := h.2 c
    refine r_aload_n (pc := 168) (tb_at tkX11_goesOn 102 rfl) rfl rfl ?_
    refine r_get 10 0 (pc := 169) (tb_at tkX11_goesOn 103 rfl) ly_66 flX11_11 rfl ?_
    refine r_bipush (pc := 172) (tb_at tkX11_goesOn 104 rfl) ⟨by decide, by decide, by decide⟩ ?_
    refine r_iload_n (pc := 174) (tb_at tkX11_goesOn 105 rfl) rfl rfl ?_
    refine r_iadd (pc := 175) (tb_at tkX11_goesOn 106 rfl) ?_
    refine r_iald_w (pc := 176) (tb_at tkX11_goesOn 107 rfl) ly_67 (by decide) h.1.1 h.1.2 ?_
    replace h := h.2
    refine r_goto (tgt := 187) (pc := 177) (tb_at tkX11_goesOn 108 rfl) (by decide) ?_
    exact Ok.forget h (And.intro rfl (And.intro rfl trivial))
set_option maxRecDepth 100000 in
set_option maxHeartbeats 4000000 in
theorem gX11_goesOn_187 {G : GE} {d : Nat} {K : Mem → Prop} {M : Mem} {v3 s1 s2 : Int}  (h : (0 ≤ s1 ∧ s1 < 896) ∧ CalV G miX11_settles d [.inr (.inr (some 66)), .inl v3] (mup M 88 (s1).toNat s2) (fun M1 => K M1)) : OkV G miX11_goesOn (d + 1) K 187 [some (.inr (.inr (some 66))), none, none, some (.inl v3), none, none, none, none] [.inl s2, .inl s1, .inr (.inr (some 88))] M := by
  refine r_iast (pc := 187) (tb_at tkX11_goesOn 113 rfl) ly_88 h.1.1 h.1.2 rfl ?_
  replace h := h.2
  refine r_aload_n (pc := 188) (tb_at tkX11_goesOn 114 rfl) rfl rfl ?_
  refine r_iload_n (pc := 189) (tb_at tkX11_goesOn 115 rfl) rfl rfl ?_
  refine r_invV (mc' := 0) (ms' := 0) [.inl v3] (S := []) (pc := 190) (tb_at tkX11_goesOn 116 rfl) rfl ly_66 rfl rfl clX11_327 (Nat.le_of_ble_eq_true rfl) (Nat.le_refl _) (Nat.le_refl _) ?_
  refine Cal.mono h ?_
  rintro _ _ M1 ⟨rfl, rfl, h⟩
  show OkV G miX11_goesOn (d + 1) K 193 [some (.inr (.inr (some 66))), none, none, some (.inl v3), none, none, none, none] [] M1
  exact r_vret (pc := 193) (tb_at tkX11_goesOn 117 rfl) rfl (Nat.le_refl _) (Nat.le_refl _) ⟨rfl, rfl, h⟩
set_option maxRecDepth 100000 in
set_option maxHeartbeats 4000000 in
theorem gX11_laysLabels_0 {G : GE} {d : Nat} {K : Mem → Prop} {M : Mem} {v1 : Int}  (h : CalV G miX11_orders d [.inr (.inr (some 66))] M (fun M1 => OkV G miX11_laysLabels (d + 1) K 16 [some (.inr (.inr (some 66))), some (.inl v1), some (.inl 0), none, none, none, none] [] (mup (mup M1 66 33 0) 66 34 0))) : OkV G miX11_laysLabels (d + 1) K 0 [some (.inr (.inr (some 66))), some (.inl v1), none, none, none, none, none] [] M := by
  refine r_aload_n (pc := 0) (tb_at tkX11_laysLabels 0 rfl) rfl rfl ?_
  refine r_invV (mc' := 0) (ms' := 0) [] (S := []) (pc := 1) (tb_at tkX11_laysLabels 1 rfl) rfl ly_66 rfl rfl clX11_199 (Nat.le_of_ble_eq_true rfl) (Nat.le_refl _) (Nat.le_refl _) ?_
  refine Cal.mono h ?_
  rintro _ _ M1 ⟨rfl, rfl, h⟩
  show OkV G miX11_laysLabels (d + 1) K 4 [some (.inr (.inr (some 66))), some (.inl v1), none, none, none, none, none] [] M1
  refine r_aload_n (pc := 4) (tb_at tkX11_laysLabels 2 rfl) rfl rfl ?_
  refine r_iconst (pc := 5) (tb_at tkX11_laysLabels 3 rfl) ⟨by decide, by decide⟩ ?_
  refine r_put 10 33 0 (pc := 6) (tb_at tkX11_laysLabels 4 rfl) ly_66 flX11_330 (fun r h => by cases h; rfl) (.inl rfl) rfl (fun h => by cases h) rfl ?_
  refine r_aload_n (pc := 9) (tb_at tkX11_laysLabels 5 rfl) rfl rfl ?_
  refine r_iconst (pc := 10) (tb_at tkX11_laysLabels 6 rfl) ⟨by decide, by decide⟩ ?_
  refine r_put 10 34 0 (pc := 11) (tb_at tkX11_laysLabels 7 rfl) ly_66 flX11_321 (fun r h => by cases h; rfl) (.inl rfl) rfl (fun h => by cases h) rfl ?_
  refine r_iconst (pc := 14) (tb_at tkX11_laysLabels 8 rfl) ⟨by decide, by decide⟩ ?_
  refine r_istore_n (L' := [some (.inr (.inr (some 66))), some (.inl v1), some (.inl 0), none, none, none, none]) (pc := 15) (tb_at tkX11_laysLabels 9 rfl) rfl (by decide) rfl ?_
  exact h
set_option maxRecDepth 100000 in
set_option maxHeartbeats 4000000 in
theorem gX11_laysLabels_16 {G : GE} {d : Nat} {K : Mem → Prop} {M : Mem} {v1 v2 : Int}  (h : (((M 67 0) ≤ v2 → K M) ∧ (v2 < (M 67 0) → (0 ≤ v2 ∧ v2 < 7) ∧ (0 ≤ M 69 (v2).toNat ∧ M 69 (v2).toNat < 7) ∧ CalL G miX11_itemOf d [.inr (.inr (some 66)), .inl v1, .inl (M 69 (v2).toNat)] (mup M 84 (M 69 (v2).toNat).toNat 0) (fun x2 M1 => CalV G miX11_begins d [.inr (.inr (some 66)), .inl (M 69 (v2).toNat), .inr (.inl x2)] M1 (fun M3 => OkV G miX11_laysLabels (d + 1) K 54 [some (.inr (.inr (some 66))), some (.inl v1), some (.inl v2), some (.inl (M 69 (v2).toNat)), some (.inl 0), none, none] [] M3))))) : OkV G miX11_laysLabels (d + 1) K 16 [some (.inr (.inr (some 66))), some (.inl v1), some (.inl v2), none, none, none, none] [] M := by
  refine r_iload_n (pc := 16) (tb_at tkX11_laysLabels 10 rfl) rfl rfl ?_
  refine r_aload_n (pc := 17) (tb_at tkX11_laysLabels 11 rfl) rfl rfl ?_
  refine r_get 10 0 (pc := 18) (tb_at tkX11_laysLabels 12 rfl) ly_66 flX11_11 rfl ?_
  refine r_iconst (pc := 21) (tb_at tkX11_laysLabels 13 rfl) ⟨by decide, by decide⟩ ?_
  refine r_iald_k (k0 := 0) (pc := 22) (tb_at tkX11_laysLabels 14 rfl) ly_67 rfl (by decide) (by decide) ?_
  refine q_icmp_ge (tgt := 149) (pc := 23) (tb_at tkX11_laysLabels 15 rfl) (by decide) (fun c => ?_) (fun c => ?_)
  · replace h := h.1 c
    exact r_vret (pc := 149) (tb_at tkX11_laysLabels 84 rfl) rfl (Nat.le_refl _) (Nat.le_refl _) ⟨rfl, rfl, h⟩
  · replace h := h.2 c
    refine r_aload_n (pc := 26) (tb_at tkX11_laysLabels 16 rfl) rfl rfl ?_
    refine r_get 10 3 (pc := 27) (tb_at tkX11_laysLabels 17 rfl) ly_66 flX11_18 rfl ?_
    refine r_iload_n (pc := 30) (tb_at tkX11_laysLabels 18 rfl) rfl rfl ?_
    refine r_iald (pc := 31) (tb_at tkX11_laysLabels 19 rfl) ly_69 h.1.1 h.1.2 ?_
    replace h := h.2
    refine r_istore_n (L' := [some (.inr (.inr (some 66))), some (.inl v1), some (.inl v2), some (.inl (M 69 (v2).toNat)), none, none, none]) (pc := 32) (tb_at tkX11_laysLabels 20 rfl) rfl (by decide) rfl ?_
    refine r_aload_n (pc := 33) (tb_at tkX11_laysLabels 21 rfl) rfl rfl ?_
    refine r_get 10 27 (pc := 34) (tb_at tkX11_laysLabels 22 rfl) ly_66 flX11_64 rfl ?_
    refine r_iload_n (pc := 37) (tb_at tkX11_laysLabels 23 rfl) rfl rfl ?_
    refine r_iconst (pc := 38) (tb_at tkX11_laysLabels 24 rfl) ⟨by decide, by decide⟩ ?_
    refine r_iast (pc := 39) (tb_at tkX11_laysLabels 25 rfl) ly_84 h.1.1 h.1.2 rfl ?_
    replace h := h.2
    refine r_aload_n (pc := 40) (tb_at tkX11_laysLabels 26 rfl) rfl rfl ?_
    refine r_iload_n (pc := 41) (tb_at tkX11_laysLabels 27 rfl) rfl rfl ?_
    refine r_aload_n (pc := 42) (tb_at tkX11_laysLabels 28 rfl) rfl rfl ?_
    refine r_iload_n (pc := 43) (tb_at tkX11_laysLabels 29 rfl) rfl rfl ?_
    refine r_iload_n (pc := 44) (tb_at tkX11_laysLabels 30 rfl) rfl rfl ?_
    refine r_invV (mc' := 0) (ms' := 0) [.inl v1, .inl (M 69 (v2).toNat)] (S := [.inl (M 69 (v2).toNat), .inr (.inr (some 66))]) (pc := 45) (tb_at tkX11_laysLabels 31 rfl) rfl ly_66 rfl rfl clX11_299 (Nat.le_of_ble_eq_true rfl) (Nat.le_refl _) (Nat.le_refl _) ?_
    refine Cal.mono h ?_
    rintro _ _ M1 ⟨x2, rfl, rfl, h⟩
    show OkV G miX11_laysLabels (d + 1) K 48 [some (.inr (.inr (some 66))), some (.inl v1), some (.inl v2), some (.inl (M 69 (v2).toNat)), none, none, none] [.inr (.inl x2), .inl (M 69 (v2).toNat), .inr (.inr (some 66))] M1
    refine r_invV (mc' := 0) (ms' := 0) [.inl (M 69 (v2).toNat), .inr (.inl x2)] (S := []) (pc := 48) (tb_at tkX11_laysLabels 32 rfl) rfl ly_66 rfl rfl clX11_333 (Nat.le_of_ble_eq_true rfl) (Nat.le_refl _) (Nat.le_refl _) ?_
    refine Cal.mono h ?_
    rintro _ _ M3 ⟨rfl, rfl, h⟩
    show OkV G miX11_laysLabels (d + 1) K 51 [some (.inr (.inr (some 66))), some (.inl v1), some (.inl v2), some (.inl (M 69 (v2).toNat)), none, none, none] [] M3
    refine r_iconst (pc := 51) (tb_at tkX11_laysLabels 33 rfl) ⟨by decide, by decide⟩ ?_
    refine r_istore (L' := [some (.inr (.inr (some 66))), some (.inl v1), some (.inl v2), some (.inl (M 69 (v2).toNat)), some (.inl 0), none, none]) (pc := 52) (tb_at tkX11_laysLabels 34 rfl) (by decide) rfl ?_
    exact h
set_option maxRecDepth 100000 in
set_option maxHeartbeats 4000000 in
theorem gX11_laysLabels_54 {G : GE} {d : Nat} {K : Mem → Prop} {M : Mem} {v1 v2 v3 v4 : Int}  (h : ((v2 ≤ v4 → (0 ≤ v3 ∧ v3 < 7) ∧ OkV G miX11_laysLabels (d + 1) K 16 [some (.inr (.inr (some 66))), some (.inl v1), some (.inl (w32 (v2 + 1))), none, none, none, none] [] (mup M 66 33 (w32 ((M 66 33) + (M 84 (v3).toNat))))) ∧ (v4 < v2 → (0 ≤ v4 ∧ v4 < 7) ∧ OkV G miX11_laysLabels (d + 1) K 72 [some (.inr (.inr (some 66))), some (.inl v1), some (.inl v2), some (.inl v3), some (.inl v4), some (.inl (M 69 (v4).toNat)), some (.inl 0)] [] M))) : OkV G miX11_laysLabels (d + 1) K 54 [some (.inr (.inr (some 66))), some (.inl v1), some (.inl v2), some (.inl v3), some (.inl v4), none, none] [] M := by
  refine r_iload (pc := 54) (tb_at tkX11_laysLabels 35 rfl) rfl ?_
  refine r_iload_n (pc := 56) (tb_at tkX11_laysLabels 36 rfl) rfl rfl ?_
  refine q_icmp_ge (tgt := 128) (pc := 57) (tb_at tkX11_laysLabels 37 rfl) (by decide) (fun c => ?_) (fun c => ?_)
  · replace h := h.1 c
    refine r_aload_n (pc := 128) (tb_at tkX11_laysLabels 73 rfl) rfl rfl ?_
    refine r_dup (pc := 129) (tb_at tkX11_laysLabels 74 rfl) (fun _ h => by cases h) ?_
    refine r_get 10 33 (pc := 130) (tb_at tkX11_laysLabels 75 rfl) ly_66 flX11_330 rfl ?_
    refine r_aload_n (pc := 133) (tb_at tkX11_laysLabels 76 rfl) rfl rfl ?_
    refine r_get 10 27 (pc := 134) (tb_at tkX11_laysLabels 77 rfl) ly_66 flX11_64 rfl ?_
    refine r_iload_n (pc := 137) (tb_at tkX11_laysLabels 78 rfl) rfl rfl ?_
    refine r_iald (pc := 138) (tb_at tkX11_laysLabels 79 rfl) ly_84 h.1.1 h.1.2 ?_
    replace h := h.2
    refine r_iadd (pc := 139) (tb_at tkX11_laysLabels 80 rfl) ?_
    refine r_put 10 33 (w32 ((M 66 33) + (M 84 (v3).toNat))) (pc := 140) (tb_at tkX11_laysLabels 81 rfl) ly_66 flX11_330 (fun r h => by cases h; rfl) (.inl rfl) rfl (fun h => by cases h) rfl ?_
    refine r_iinc (L' := [some (.inr (.inr (some 66))), some (.inl v1), some (.inl (w32 (v2 + 1))), some (.inl v3), some (.inl v4), none, none]) (pc := 143) (tb_at tkX11_laysLabels 82 rfl) rfl (by decide) rfl ?_
    refine r_goto (tgt := 16) (pc := 146) (tb_at tkX11_laysLabels 83 rfl) (by decide) ?_
    exact Ok.forget h (And.intro rfl (And.intro rfl (And.intro rfl trivial)))
  · replace h := h.2 c
    refine r_aload_n (pc := 60) (tb_at tkX11_laysLabels 38 rfl) rfl rfl ?_
    refine r_get 10 3 (pc := 61) (tb_at tkX11_laysLabels 39 rfl) ly_66 flX11_18 rfl ?_
    refine r_iload (pc := 64) (tb_at tkX11_laysLabels 40 rfl) rfl ?_
    refine r_iald (pc := 66) (tb_at tkX11_laysLabels 41 rfl) ly_69 h.1.1 h.1.2 ?_
    replace h := h.2
    refine r_istore (L' := [some (.inr (.inr (some 66))), some (.inl v1), some (.inl v2), some (.inl v3), some (.inl v4), some (.inl (M 69 (v4).toNat)), none]) (pc := 67) (tb_at tkX11_laysLabels 42 rfl) (by decide) rfl ?_
    refine r_iconst (pc := 69) (tb_at tkX11_laysLabels 43 rfl) ⟨by decide, by decide⟩ ?_
    refine r_istore (L' := [some (.inr (.inr (some 66))), some (.inl v1), some (.inl v2), some (.inl v3), some (.inl v4), some (.inl (M 69 (v4).toNat)), some (.inl 0)]) (pc := 70) (tb_at tkX11_laysLabels 44 rfl) (by decide) rfl ?_
    exact h
set_option maxRecDepth 100000 in
set_option maxHeartbeats 4000000 in
theorem gX11_laysLabels_72 {G : GE} {d : Nat} {K : Mem → Prop} {M : Mem} {v1 v2 v3 v4 v5 v6 : Int}  (h : (0 ≤ v5 ∧ v5 < 7) ∧ (((M 84 (v5).toNat) ≤ v6 → OkV G miX11_laysLabels (d + 1) K 54 [some (.inr (.inr (some 66))), some (.inl v1), some (.inl v2), some (.inl v3), some (.inl (w32 (v4 + 1))), none, none] [] M) ∧ (v6 < (M 84 (v5).toNat) → CalI G miX11_followsBy d [.inr (.inr (some 66)), .inl v5, .inl v3] M (fun x2 M1 => ((x2 ≤ 0 → OkV G miX11_laysLabels (d + 1) K 54 [some (.inr (.inr (some 66))), some (.inl v1), some (.inl v2), some (.inl v3), some (.inl (w32 (v4 + 1))), none, none] [] M1) ∧ (0 < x2 → CalL G miX11_itemOf d [.inr (.inr (some 66)), .inl v1, .inl v3] M1 (fun x4 M3 => CalV G miX11_goesOn d [.inr (.inr (some 66)), .inl v5, .inl (w32 ((128 * v5) + v6)), .inl v3, .inr (.inl x4)] M3 (fun M5 => OkV G miX11_laysLabels (d + 1) K 72 [some (.inr (.inr (some 66))), some (.inl v1), some (.inl v2), some (.inl v3), some (.inl v4), some (.inl v5), some (.inl (w32 (v6 + 1)))] [] M5)))))))) : OkV G miX11_laysLabels (d + 1) K 72 [some (.inr (.inr (some 66))), some (.inl v1), some (.inl v2), some (.inl v3), some (.inl v4), some (.inl v5), some (.inl v6)] [] M := by
  refine r_iload (pc := 72) (tb_at tkX11_laysLabels 45 rfl) rfl ?_
  refine r_aload_n (pc := 74) (tb_at tkX11_laysLabels 46 rfl) rfl rfl ?_
  refine r_get 10 27 (pc := 75) (tb_at tkX11_laysLabels 47 rfl) ly_66 flX11_64 rfl ?_
  refine r_iload (pc := 78) (tb_at tkX11_laysLabels 48 rfl) rfl ?_
  refine r_iald (pc := 80) (tb_at tkX11_laysLabels 49 rfl) ly_84 h.1.1 h.1.2 ?_
  replace h := h.2
  refine q_icmp_ge (tgt := 122) (pc := 81) (tb_at tkX11_laysLabels 50 rfl) (by decide) (fun c => ?_) (fun c => ?_)
  · replace h := h.1 c
    refine r_iinc (L' := [some (.inr (.inr (some 66))), some (.inl v1), some (.inl v2), some (.inl v3), some (.inl (w32 (v4 + 1))), some (.inl v5), some (.inl v6)]) (pc := 122) (tb_at tkX11_laysLabels 71 rfl) rfl (by decide) rfl ?_
    refine r_goto (tgt := 54) (pc := 125) (tb_at tkX11_laysLabels 72 rfl) (by decide) ?_
    exact Ok.forget h (And.intro rfl (And.intro rfl (And.intro rfl (And.intro rfl (And.intro rfl trivial)))))
  · replace h := h.2 c
    refine r_aload_n (pc := 84) (tb_at tkX11_laysLabels 51 rfl) rfl rfl ?_
    refine r_iload (pc := 85) (tb_at tkX11_laysLabels 52 rfl) rfl ?_
    refine r_iload_n (pc := 87) (tb_at tkX11_laysLabels 53 rfl) rfl rfl ?_
    refine r_invV (mc' := 0) (ms' := 0) [.inl v5, .inl v3] (S := []) (pc := 88) (tb_at tkX11_laysLabels 54 rfl) rfl ly_66 rfl rfl clX11_162 (Nat.le_of_ble_eq_true rfl) (Nat.le_refl _) (Nat.le_refl _) ?_
    refine Cal.mono h ?_
    rintro _ _ M1 ⟨x2, rfl, rfl, h⟩
    show OkV G miX11_laysLabels (d + 1) K 91 [some (.inr (.inr (some 66))), some (.inl v1), some (.inl v2), some (.inl v3), some (.inl v4), some (.inl v5), some (.inl v6)] [.inl x2] M1
    refine q_if_le (tgt := 122) (pc := 91) (tb_at tkX11_laysLabels 55 rfl) (by decide) (fun c => ?_) (fun c => ?_)
    · replace h := h.1 c
      refine r_iinc (L' := [some (.inr (.inr (some 66))), some (.inl v1), some (.inl v2), some (.inl v3), some (.inl (w32 (v4 + 1))), some (.inl v5), some (.inl v6)]) (pc := 122) (tb_at tkX11_laysLabels 71 rfl) rfl (by decide) rfl ?_
      refine r_goto (tgt := 54) (pc := 125) (tb_at tkX11_laysLabels 72 rfl) (by decide) ?_
      exact Ok.forget h (And.intro rfl (And.intro rfl (And.intro rfl (And.intro rfl (And.intro rfl trivial)))))
    · replace h := h.2 c
      refine r_aload_n (pc := 94) (tb_at tkX11_laysLabels 56 rfl) rfl rfl ?_
      refine r_iload (pc := 95) (tb_at tkX11_laysLabels 57 rfl) rfl ?_
      refine r_sipush (pc := 97) (tb_at tkX11_laysLabels 58 rfl) ⟨by decide, by decide, by decide⟩ ?_
      refine r_iload (pc := 100) (tb_at tkX11_laysLabels 59 rfl) rfl ?_
      refine r_imul (pc := 102) (tb_at tkX11_laysLabels 60 rfl) ?_
      refine r_iload (pc := 103) (tb_at tkX11_laysLabels 61 rfl) rfl ?_
      refine r_iadd_l (pc := 105) (tb_at tkX11_laysLabels 62 rfl) ?_
      refine r_iload_n (pc := 106) (tb_at tkX11_laysLabels 63 rfl) rfl rfl ?_
      refine r_aload_n (pc := 107) (tb_at tkX11_laysLabels 64 rfl) rfl rfl ?_
      refine r_iload_n (pc := 108) (tb_at tkX11_laysLabels 65 rfl) rfl rfl ?_
      refine r_iload_n (pc := 109) (tb_at tkX11_laysLabels 66 rfl) rfl rfl ?_
      refine r_invV (mc' := 0) (ms' := 0) [.inl v1, .inl v3] (S := [.inl v3, .inl (w32 ((128 * v5) + v6)), .inl v5, .inr (.inr (some 66))]) (pc := 110) (tb_at tkX11_laysLabels 67 rfl) rfl ly_66 rfl rfl clX11_299 (Nat.le_of_ble_eq_true rfl) (Nat.le_refl _) (Nat.le_refl _) ?_
      refine Cal.mono h ?_
      rintro _ _ M3 ⟨x4, rfl, rfl, h⟩
      show OkV G miX11_laysLabels (d + 1) K 113 [some (.inr (.inr (some 66))), some (.inl v1), some (.inl v2), some (.inl v3), some (.inl v4), some (.inl v5), some (.inl v6)] [.inr (.inl x4), .inl v3, .inl (w32 ((128 * v5) + v6)), .inl v5, .inr (.inr (some 66))] M3
      refine r_invV (mc' := 0) (ms' := 0) [.inl v5, .inl (w32 ((128 * v5) + v6)), .inl v3, .inr (.inl x4)] (S := []) (pc := 113) (tb_at tkX11_laysLabels 68 rfl) rfl ly_66 rfl rfl clX11_337 (Nat.le_of_ble_eq_true rfl) (Nat.le_refl _) (Nat.le_refl _) ?_
      refine Cal.mono h ?_
      rintro _ _ M5 ⟨rfl, rfl, h⟩
      show OkV G miX11_laysLabels (d + 1) K 116 [some (.inr (.inr (some 66))), some (.inl v1), some (.inl v2), some (.inl v3), some (.inl v4), some (.inl v5), some (.inl v6)] [] M5
      refine r_iinc (L' := [some (.inr (.inr (some 66))), some (.inl v1), some (.inl v2), some (.inl v3), some (.inl v4), some (.inl v5), some (.inl (w32 (v6 + 1)))]) (pc := 116) (tb_at tkX11_laysLabels 69 rfl) rfl (by decide) rfl ?_
      refine r_goto (tgt := 72) (pc := 119) (tb_at tkX11_laysLabels 70 rfl) (by decide) ?_
      exact h
set_option maxRecDepth 100000 in
set_option maxHeartbeats 4000000 in
theorem gX11_labels_0 {G : GE} {d : Nat} {K : Int → Mem → Prop} {M : Mem} {v1 v2 : Int}  (h : CalI G miX11_isSheet d [.inl v1] M (fun x2 M1 => ((x2 = 0 → K (-2) M1) ∧ (¬ x2 = 0 → CalI G miX11_in d [.inr (.inl v2), .inr (.inl 0), .inr (.inl 1)] M1 (fun x4 M3 => ((¬ x4 = 0 → CalI G miX11_toldWrong d [.inr (.inr (some 66)), .inl v1, .inr (.inl (-999999))] M3 (fun x6 M5 => ((x6 = 0 → CalV G miX11_laysLabels d [.inr (.inr (some 66)), .inl v1] M5 (fun M7 => ((¬ v2 = 0 → K (M7 66 34) M7) ∧ (v2 = 0 → K (M7 66 33) M7)))) ∧ (¬ x6 = 0 → K x6 M5)))) ∧ (x4 = 0 → K (-2) M3))))))) : OkI G miX11_labels (d + 1) K 0 [some (.inr (.inr (some 66))), some (.inl v1), some (.inl v2), none] [] M := by
  refine r_iload_n (pc := 0) (tb_at tkX11_labels 0 rfl) rfl rfl ?_
  refine r_invS (mc' := 0) (ms' := 0) [.inl v1] (S := []) (pc := 1) (tb_at tkX11_labels 1 rfl) rfl clX11_296 (Nat.le_of_ble_eq_true rfl) (Nat.le_refl _) (Nat.le_refl _) ?_
  refine Cal.mono h ?_
  rintro _ _ M1 ⟨x2, rfl, rfl, h⟩
  show OkI G miX11_labels (d + 1) K 4 [some (.inr (.inr (some 66))), some (.inl v1), some (.inl v2), none] [.inl x2] M1
  refine q_if_eq (tgt := 17) (pc := 4) (tb_at tkX11_labels 2 rfl) (by decide) (fun c => ?_) (fun c => ?_)
  · replace h := h.1 c
    refine r_bipush (pc := 17) (tb_at tkX11_labels 9 rfl) ⟨by decide, by decide, by decide⟩ ?_
    exact r_iret (pc := 19) (tb_at tkX11_labels 10 rfl) rfl (Nat.le_refl _) (Nat.le_refl _) ⟨_, rfl, rfl, h⟩
  · replace h := h.2 c
    refine r_iload_n (pc := 7) (tb_at tkX11_labels 3 rfl) rfl rfl ?_
    refine r_i2l (pc := 8) (tb_at tkX11_labels 4 rfl) ?_
    refine r_lconst (v := 0) (pc := 9) (tb_at tkX11_labels 5 rfl) ⟨by decide, by decide, by decide⟩ ?_
    refine r_lconst (v := 1) (pc := 10) (tb_at tkX11_labels 6 rfl) ⟨by decide, by decide, by decide⟩ ?_
    refine r_invS (mc' := 0) (ms' := 0) [.inr (.inl v2), .inr (.inl 0), .inr (.inl 1)] (S := []) (pc := 11) (tb_at tkX11_labels 7 rfl) rfl clX11_103 (Nat.le_of_ble_eq_true rfl) (Nat.le_refl _) (Nat.le_refl _) ?_
    refine Cal.mono h ?_
    rintro _ _ M3 ⟨x4, rfl, rfl, h⟩
    show OkI G miX11_labels (d + 1) K 14 [some (.inr (.inr (some 66))), some (.inl v1), some (.inl v2), none] [.inl x4] M3
    refine q_if_ne (tgt := 20) (pc := 14) (tb_at tkX11_labels 8 rfl) (by decide) (fun c => ?_) (fun c => ?_)
    · replace h := h.1 c
      refine r_aload_n (pc := 20) (tb_at tkX11_labels 11 rfl) rfl rfl ?_
      refine r_iload_n (pc := 21) (tb_at tkX11_labels 12 rfl) rfl rfl ?_
      refine r_ldc2 (n := -999999) (pc := 22) (tb_at tkX11_labels 13 rfl) kcX11_341 ⟨by decide, by decide⟩ ?_
      refine r_invV (mc' := 0) (ms' := 0) [.inl v1, .inr (.inl (-999999))] (S := []) (pc := 25) (tb_at tkX11_labels 14 rfl) rfl ly_66 rfl rfl clX11_311 (Nat.le_of_ble_eq_true rfl) (Nat.le_refl _) (Nat.le_refl _) ?_
      refine Cal.mono h ?_
      rintro _ _ M5 ⟨x6, rfl, rfl, h⟩
      show OkI G miX11_labels (d + 1) K 28 [some (.inr (.inr (some 66))), some (.inl v1), some (.inl v2), none] [.inl x6] M5
      refine r_istore_n (L' := [some (.inr (.inr (some 66))), some (.inl v1), some (.inl v2), some (.inl x6)]) (pc := 28) (tb_at tkX11_labels 15 rfl) rfl (by decide) rfl ?_
      refine r_iload_n (pc := 29) (tb_at tkX11_labels 16 rfl) rfl rfl ?_
      refine q_if_eq (tgt := 35) (pc := 30) (tb_at tkX11_labels 17 rfl) (by decide) (fun c => ?_) (fun c => ?_)
      · replace h := h.1 c
        refine r_aload_n (pc := 35) (tb_at tkX11_labels 20 rfl) rfl rfl ?_
        refine r_iload_n (pc := 36) (tb_at tkX11_labels 21 rfl) rfl rfl ?_
        refine r_invV (mc' := 0) (ms' := 0) [.inl v1] (S := []) (pc := 37) (tb_at tkX11_labels 22 rfl) rfl ly_66 rfl rfl clX11_343 (Nat.le_of_ble_eq_true rfl) (Nat.le_refl _) (Nat.le_refl _) ?_
        refine Cal.mono h ?_
        rintro _ _ M7 ⟨rfl, rfl, h⟩
        show OkI G miX11_labels (d + 1) K 40 [some (.inr (.inr (some 66))), some (.inl v1), some (.inl v2), some (.inl x6)] [] M7
        refine r_iload_n (pc := 40) (tb_at tkX11_labels 23 rfl) rfl rfl ?_
        refine q_if_ne (tgt := 51) (pc := 41) (tb_at tkX11_labels 24 rfl) (by decide) (fun c => ?_) (fun c => ?_)
        · replace h := h.1 c
          refine r_aload_n (pc := 51) (tb_at tkX11_labels 28 rfl) rfl rfl ?_
          refine r_get 10 34 (pc := 52) (tb_at tkX11_labels 29 rfl) ly_66 flX11_321 rfl ?_
          exact r_iret (pc := 55) (tb_at tkX11_labels 30 rfl) rfl (Nat.le_refl _) (Nat.le_refl _) ⟨_, rfl, rfl, h⟩
        · replace h := h.2 c
          refine r_aload_n (pc := 44) (tb_at tkX11_labels 25 rfl) rfl rfl ?_
          refine r_get 10 33 (pc := 45) (tb_at tkX11_labels 26 rfl) ly_66 flX11_330 rfl ?_
          refine r_goto (tgt := 55) (pc := 48) (tb_at tkX11_labels 27 rfl) (by decide) ?_
          exact r_iret (pc := 55) (tb_at tkX11_labels 30 rfl) rfl (Nat.le_refl _) (Nat.le_refl _) ⟨_, rfl, rfl, h⟩
      · replace h := h.2 c
        refine r_iload_n (pc := 33) (tb_at tkX11_labels 18 rfl) rfl rfl ?_
        exact r_iret (pc := 34) (tb_at tkX11_labels 19 rfl) rfl (Nat.le_refl _) (Nat.le_refl _) ⟨_, rfl, rfl, h⟩
    · replace h := h.2 c
      refine r_bipush (pc := 17) (tb_at tkX11_labels 9 rfl) ⟨by decide, by decide, by decide⟩ ?_
      exact r_iret (pc := 19) (tb_at tkX11_labels 10 rfl) rfl (Nat.le_refl _) (Nat.le_refl _) ⟨_, rfl, rfl, h⟩
set_option maxRecDepth 100000 in
set_option maxHeartbeats 4000000 in
theorem gX11_way_0 {G : GE} {d : Nat} {K : Int → Mem → Prop} {M : Mem} {v1 : Int}  (h : CalI G miX11_isSheet d [.inl v1] M (fun x2 M1 => ((x2 = 0 → K (-9223372036854775808) M1) ∧ (¬ x2 = 0 → CalI G miX11_toldWrong d [.inr (.inr (some 66)), .inl v1, .inr (.inl (-999999))] M1 (fun x4 M3 => ((x4 = 0 → CalV G miX11_laysLabels d [.inr (.inr (some 66)), .inl v1] M3 (fun M5 => OkL G miX11_way (d + 1) K 34 [some (.inr (.inr (some 66))), none, some (.inl 0), some (.inr (.inl 0)), none, some (.inl 0), none] [] M5)) ∧ (¬ x4 = 0 → K (-9223372036854775808) M3))))))) : OkL G miX11_way (d + 1) K 0 [some (.inr (.inr (some 66))), some (.inl v1), none, none, none, none, none] [] M := by
  refine r_iload_n (pc := 0) (tb_at tkX11_way 0 rfl) rfl rfl ?_
  refine r_invS (mc' := 0) (ms' := 0) [.inl v1] (S := []) (pc := 1) (tb_at tkX11_way 1 rfl) rfl clX11_296 (Nat.le_of_ble_eq_true rfl) (Nat.le_refl _) (Nat.le_refl _) ?_
  refine Cal.mono h ?_
  rintro _ _ M1 ⟨x2, rfl, rfl, h⟩
  show OkL G miX11_way (d + 1) K 4 [some (.inr (.inr (some 66))), some (.inl v1), none, none, none, none, none] [.inl x2] M1
  refine q_if_eq (tgt := 18) (pc := 4) (tb_at tkX11_way 2 rfl) (by decide) (fun c => ?_) (fun c => ?_)
  · replace h := h.1 c
    refine r_ldc2 (n := -9223372036854775808) (pc := 18) (tb_at tkX11_way 8 rfl) kcX11_264 ⟨by decide, by decide⟩ ?_
    exact r_lret (pc := 21) (tb_at tkX11_way 9 rfl) rfl (Nat.le_refl _) (Nat.le_refl _) ⟨_, rfl, rfl, h⟩
  · replace h := h.2 c
    refine r_aload_n (pc := 7) (tb_at tkX11_way 3 rfl) rfl rfl ?_
    refine r_iload_n (pc := 8) (tb_at tkX11_way 4 rfl) rfl rfl ?_
    refine r_ldc2 (n := -999999) (pc := 9) (tb_at tkX11_way 5 rfl) kcX11_341 ⟨by decide, by decide⟩ ?_
    refine r_invV (mc' := 0) (ms' := 0) [.inl v1, .inr (.inl (-999999))] (S := []) (pc := 12) (tb_at tkX11_way 6 rfl) rfl ly_66 rfl rfl clX11_311 (Nat.le_of_ble_eq_true rfl) (Nat.le_refl _) (Nat.le_refl _) ?_
    refine Cal.mono h ?_
    rintro _ _ M3 ⟨x4, rfl, rfl, h⟩
    show OkL G miX11_way (d + 1) K 15 [some (.inr (.inr (some 66))), some (.inl v1), none, none, none, none, none] [.inl x4] M3
    refine q_if_eq (tgt := 22) (pc := 15) (tb_at tkX11_way 7 rfl) (by decide) (fun c => ?_) (fun c => ?_)
    · replace h := h.1 c
      refine r_aload_n (pc := 22) (tb_at tkX11_way 10 rfl) rfl rfl ?_
      refine r_iload_n (pc := 23) (tb_at tkX11_way 11 rfl) rfl rfl ?_
      refine r_invV (mc' := 0) (ms' := 0) [.inl v1] (S := []) (pc := 24) (tb_at tkX11_way 12 rfl) rfl ly_66 rfl rfl clX11_343 (Nat.le_of_ble_eq_true rfl) (Nat.le_refl _) (Nat.le_refl _) ?_
      refine Cal.mono h ?_
      rintro _ _ M5 ⟨rfl, rfl, h⟩
      show OkL G miX11_way (d + 1) K 27 [some (.inr (.inr (some 66))), some (.inl v1), none, none, none, none, none] [] M5
      refine r_iconst (pc := 27) (tb_at tkX11_way 13 rfl) ⟨by decide, by decide⟩ ?_
      refine r_istore_n (L' := [some (.inr (.inr (some 66))), some (.inl v1), some (.inl 0), none, none, none, none]) (pc := 28) (tb_at tkX11_way 14 rfl) rfl (by decide) rfl ?_
      refine r_lconst (v := 0) (pc := 29) (tb_at tkX11_way 15 rfl) ⟨by decide, by decide, by decide⟩ ?_
      refine r_lstore_n (L' := [some (.inr (.inr (some 66))), some (.inl v1), some (.inl 0), some (.inr (.inl 0)), none, none, none]) (pc := 30) (tb_at tkX11_way 16 rfl) rfl (by decide) rfl ?_
      refine r_iconst (pc := 31) (tb_at tkX11_way 17 rfl) ⟨by decide, by decide⟩ ?_
      refine r_istore (L' := [some (.inr (.inr (some 66))), some (.inl v1), some (.inl 0), some (.inr (.inl 0)), none, some (.inl 0), none]) (pc := 32) (tb_at tkX11_way 18 rfl) (by decide) rfl ?_
      exact Ok.forget h (And.intro rfl (And.intro rfl (And.intro rfl (And.intro rfl trivial))))
    · replace h := h.2 c
      refine r_ldc2 (n := -9223372036854775808) (pc := 18) (tb_at tkX11_way 8 rfl) kcX11_264 ⟨by decide, by decide⟩ ?_
      exact r_lret (pc := 21) (tb_at tkX11_way 9 rfl) rfl (Nat.le_refl _) (Nat.le_refl _) ⟨_, rfl, rfl, h⟩
set_option maxRecDepth 100000 in
set_option maxHeartbeats 4000000 in
theorem gX11_way_34 {G : GE} {d : Nat} {K : Int → Mem → Prop} {M : Mem} {v2 v3 v5 : Int}  (h : (((M 67 0) ≤ v5 → K (if v2 = 0 then (-9223372036854775808 : Int) else v3) M) ∧ (v5 < (M 67 0) → OkL G miX11_way (d + 1) K 53 [some (.inr (.inr (some 66))), none, some (.inl v2), some (.inr (.inl v3)), none, some (.inl v5), some (.inl (w32 (128 * v5)))] [] M))) : OkL G miX11_way (d + 1) K 34 [some (.inr (.inr (some 66))), none, some (.inl v2), some (.inr (.inl v3)), none, some (.inl v5), none] [] M := by
  refine r_iload (pc := 34) (tb_at tkX11_way 19 rfl) rfl ?_
  refine r_aload_n (pc := 36) (tb_at tkX11_way 20 rfl) rfl rfl ?_
  refine r_get 10 0 (pc := 37) (tb_at tkX11_way 21 rfl) ly_66 flX11_11 rfl ?_
  refine r_iconst (pc := 40) (tb_at tkX11_way 22 rfl) ⟨by decide, by decide⟩ ?_
  refine r_iald_k (k0 := 0) (pc := 41) (tb_at tkX11_way 23 rfl) ly_67 rfl (by decide) (by decide) ?_
  refine q_icmp_ge (tgt := 130) (pc := 42) (tb_at tkX11_way 24 rfl) (by decide) (fun c => ?_) (fun c => ?_)
  · replace h := h.1 c
    refine r_iload_n (pc := 130) (tb_at tkX11_way 70 rfl) rfl rfl ?_
    have hJ1 : ∀ t0 : Int, t0 = (if v2 = 0 then (-9223372036854775808 : Int) else v3) → OkL G miX11_way (d + 1) K 141 [some (.inr (.inr (some 66))), none, some (.inl v2), some (.inr (.inl v3)), none, some (.inl v5), none] [.inr (.inl t0)] M := by
      rintro _ rfl
      exact r_lret (pc := 141) (tb_at tkX11_way 75 rfl) rfl (Nat.le_refl _) (Nat.le_refl _) ⟨_, rfl, rfl, h⟩
    refine q_if_eq (tgt := 138) (pc := 131) (tb_at tkX11_way 71 rfl) (by decide) (fun c2 => ?_) (fun c2 => ?_)
    · refine r_ldc2 (n := -9223372036854775808) (pc := 138) (tb_at tkX11_way 74 rfl) kcX11_264 ⟨by decide, by decide⟩ ?_
      exact hJ1 _ (by simp only [if_pos c2])
    · refine r_lload_n (pc := 134) (tb_at tkX11_way 72 rfl) rfl rfl ?_
      refine r_goto (tgt := 141) (pc := 135) (tb_at tkX11_way 73 rfl) (by decide) ?_
      exact hJ1 _ (by simp only [if_neg c2])
  · replace h := h.2 c
    refine r_sipush (pc := 45) (tb_at tkX11_way 25 rfl) ⟨by decide, by decide, by decide⟩ ?_
    refine r_iload (pc := 48) (tb_at tkX11_way 26 rfl) rfl ?_
    refine r_imul (pc := 50) (tb_at tkX11_way 27 rfl) ?_
    refine r_istore (L' := [some (.inr (.inr (some 66))), none, some (.inl v2), some (.inr (.inl v3)), none, some (.inl v5), some (.inl (w32 (128 * v5)))]) (pc := 51) (tb_at tkX11_way 28 rfl) (by decide) rfl ?_
    exact h
set_option maxRecDepth 100000 in
set_option maxHeartbeats 4000000 in
theorem gX11_way_53 {G : GE} {d : Nat} {K : Int → Mem → Prop} {M : Mem} {v2 v3 v5 v6 : Int}  (h : (0 ≤ v5 ∧ v5 < 7) ∧ (((w32 ((128 * v5) + (M 84 (v5).toNat))) ≤ v6 → OkL G miX11_way (d + 1) K 34 [some (.inr (.inr (some 66))), none, some (.inl v2), some (.inr (.inl v3)), none, some (.inl (w32 (v5 + 1))), none] [] M) ∧ (v6 < (w32 ((128 * v5) + (M 84 (v5).toNat))) → (0 ≤ 8 + v5 ∧ 8 + v5 < 92) ∧ (0 ≤ v6 ∧ v6 < 896) ∧ ((¬ (M 67 (8 + v5).toNat) = (M 85 (v6).toNat) → OkL G miX11_way (d + 1) K 53 [some (.inr (.inr (some 66))), none, some (.inl v2), some (.inr (.inl v3)), none, some (.inl v5), some (.inl (w32 (v6 + 1)))] [] M) ∧ ((M 67 (8 + v5).toNat) = (M 85 (v6).toNat) → ((v2 = 0 → OkL G miX11_way (d + 1) K 108 [some (.inr (.inr (some 66))), none, none, none, none, some (.inl v5), some (.inl v6)] [] M) ∧ (¬ v2 = 0 → (0 ≤ v6 ∧ v6 < 896) ∧ ((v3 ≤ (M 89 (v6).toNat) → OkL G miX11_way (d + 1) K 53 [some (.inr (.inr (some 66))), none, some (.inl v2), some (.inr (.inl v3)), none, some (.inl v5), some (.inl (w32 (v6 + 1)))] [] M) ∧ ((M 89 (v6).toNat) < v3 → OkL G miX11_way (d + 1) K 108 [some (.inr (.inr (some 66))), none, none, none, none, some (.inl v5), some (.inl v6)] [] M))))))))) : OkL G miX11_way (d + 1) K 53 [some (.inr (.inr (some 66))), none, some (.inl v2), some (.inr (.inl v3)), none, some (.inl v5), some (.inl v6)] [] M := by
  refine r_iload (pc := 53) (tb_at tkX11_way 29 rfl) rfl ?_
  refine r_sipush (pc := 55) (tb_at tkX11_way 30 rfl) ⟨by decide, by decide, by decide⟩ ?_
  refine r_iload (pc := 58) (tb_at tkX11_way 31 rfl) rfl ?_
  refine r_imul (pc := 60) (tb_at tkX11_way 32 rfl) ?_
  refine r_aload_n (pc := 61) (tb_at tkX11_way 33 rfl) rfl rfl ?_
  refine r_get 10 27 (pc := 62) (tb_at tkX11_way 34 rfl) ly_66 flX11_64 rfl ?_
  refine r_iload (pc := 65) (tb_at tkX11_way 35 rfl) rfl ?_
  refine r_iald (pc := 67) (tb_at tkX11_way 36 rfl) ly_84 h.1.1 h.1.2 ?_
  replace h := h.2
  refine r_iadd_l (pc := 68) (tb_at tkX11_way 37 rfl) ?_
  refine q_icmp_ge (tgt := 124) (pc := 69) (tb_at tkX11_way 38 rfl) (by decide) (fun c => ?_) (fun c => ?_)
  · replace h := h.1 c
    refine r_iinc (L' := [some (.inr (.inr (some 66))), none, some (.inl v2), some (.inr (.inl v3)), none, some (.inl (w32 (v5 + 1))), some (.inl v6)]) (pc := 124) (tb_at tkX11_way 68 rfl) rfl (by decide) rfl ?_
    refine r_goto (tgt := 34) (pc := 127) (tb_at tkX11_way 69 rfl) (by decide) ?_
    exact Ok.forget h (And.intro rfl (And.intro rfl (And.intro rfl (And.intro rfl trivial))))
  · replace h := h.2 c
    refine r_aload_n (pc := 72) (tb_at tkX11_way 39 rfl) rfl rfl ?_
    refine r_get 10 0 (pc := 73) (tb_at tkX11_way 40 rfl) ly_66 flX11_11 rfl ?_
    refine r_bipush (pc := 76) (tb_at tkX11_way 41 rfl) ⟨by decide, by decide, by decide⟩ ?_
    refine r_iload (pc := 78) (tb_at tkX11_way 42 rfl) rfl ?_
    refine r_iadd (pc := 80) (tb_at tkX11_way 43 rfl) ?_
    refine r_iald_w (pc := 81) (tb_at tkX11_way 44 rfl) ly_67 (by decide) h.1.1 h.1.2 ?_
    replace h := h.2
    refine r_aload_n (pc := 82) (tb_at tkX11_way 45 rfl) rfl rfl ?_
    refine r_get 10 28 (pc := 83) (tb_at tkX11_way 46 rfl) ly_66 flX11_67 rfl ?_
    refine r_iload (pc := 86) (tb_at tkX11_way 47 rfl) rfl ?_
    refine r_iald (pc := 88) (tb_at tkX11_way 48 rfl) ly_85 h.1.1 h.1.2 ?_
    replace h := h.2
    refine q_icmp_ne (tgt := 118) (pc := 89) (tb_at tkX11_way 49 rfl) (by decide) (fun c => ?_) (fun c => ?_)
    · replace h := h.1 c
      refine r_iinc (L' := [some (.inr (.inr (some 66))), none, some (.inl v2), some (.inr (.inl v3)), none, some (.inl v5), some (.inl (w32 (v6 + 1)))]) (pc := 118) (tb_at tkX11_way 66 rfl) rfl (by decide) rfl ?_
      refine r_goto (tgt := 53) (pc := 121) (tb_at tkX11_way 67 rfl) (by decide) ?_
      exact h
    · replace h := h.2 c
      refine r_iload_n (pc := 92) (tb_at tkX11_way 50 rfl) rfl rfl ?_
      refine q_if_eq (tgt := 108) (pc := 93) (tb_at tkX11_way 51 rfl) (by decide) (fun c => ?_) (fun c => ?_)
      · replace h := h.1 c
        exact Ok.forget h (And.intro rfl (And.intro rfl (And.intro rfl trivial)))
      · replace h := h.2 c
        refine r_aload_n (pc := 96) (tb_at tkX11_way 52 rfl) rfl rfl ?_
        refine r_get 10 32 (pc := 97) (tb_at tkX11_way 53 rfl) ly_66 flX11_79 rfl ?_
        refine r_iload (pc := 100) (tb_at tkX11_way 54 rfl) rfl ?_
        refine r_lald (pc := 102) (tb_at tkX11_way 55 rfl) ly_89 h.1.1 h.1.2 ?_
        replace h := h.2
        refine r_lload_n (pc := 103) (tb_at tkX11_way 56 rfl) rfl rfl ?_
        refine r_lcmp (pc := 104) (tb_at tkX11_way 57 rfl) ?_
        refine q_lif_ge (tgt := 118) (pc := 105) (tb_at tkX11_way 58 rfl) (by decide) (fun c => ?_) (fun c => ?_)
        · replace h := h.1 c
          refine r_iinc (L' := [some (.inr (.inr (some 66))), none, some (.inl v2), some (.inr (.inl v3)), none, some (.inl v5), some (.inl (w32 (v6 + 1)))]) (pc := 118) (tb_at tkX11_way 66 rfl) rfl (by decide) rfl ?_
          refine r_goto (tgt := 53) (pc := 121) (tb_at tkX11_way 67 rfl) (by decide) ?_
          exact h
        · replace h := h.2 c
          exact Ok.forget h (And.intro rfl (And.intro rfl (And.intro rfl trivial)))
set_option maxRecDepth 100000 in
set_option maxHeartbeats 4000000 in
theorem gX11_way_108 {G : GE} {d : Nat} {K : Int → Mem → Prop} {M : Mem} {v5 v6 : Int}  (h : (0 ≤ v6 ∧ v6 < 896) ∧ OkL G miX11_way (d + 1) K 53 [some (.inr (.inr (some 66))), none, some (.inl 1), some (.inr (.inl (M 89 (v6).toNat))), none, some (.inl v5), some (.inl (w32 (v6 + 1)))] [] M) : OkL G miX11_way (d + 1) K 108 [some (.inr (.inr (some 66))), none, none, none, none, some (.inl v5), some (.inl v6)] [] M := by
  refine r_iconst (pc := 108) (tb_at tkX11_way 59 rfl) ⟨by decide, by decide⟩ ?_
  refine r_istore_n (L' := [some (.inr (.inr (some 66))), none, some (.inl 1), none, none, some (.inl v5), some (.inl v6)]) (pc := 109) (tb_at tkX11_way 60 rfl) rfl (by decide) rfl ?_
  refine r_aload_n (pc := 110) (tb_at tkX11_way 61 rfl) rfl rfl ?_
  refine r_get 10 32 (pc := 111) (tb_at tkX11_way 62 rfl) ly_66 flX11_79 rfl ?_
  refine r_iload (pc := 114) (tb_at tkX11_way 63 rfl) rfl ?_
  refine r_lald (pc := 116) (tb_at tkX11_way 64 rfl) ly_89 h.1.1 h.1.2 ?_
  replace h := h.2
  refine r_lstore_n (L' := [some (.inr (.inr (some 66))), none, some (.inl 1), some (.inr (.inl (M 89 (v6).toNat))), none, some (.inl v5), some (.inl v6)]) (pc := 117) (tb_at tkX11_way 65 rfl) rfl (by decide) rfl ?_
  refine r_iinc (L' := [some (.inr (.inr (some 66))), none, some (.inl 1), some (.inr (.inl (M 89 (v6).toNat))), none, some (.inl v5), some (.inl (w32 (v6 + 1)))]) (pc := 118) (tb_at tkX11_way 66 rfl) rfl (by decide) rfl ?_
  refine r_goto (tgt := 53) (pc := 121) (tb_at tkX11_way 67 rfl) (by decide) ?_
  exact h
set_option maxRecDepth 100000 in
set_option maxHeartbeats 4000000 in
theorem gX11_noDelays_0 {G : GE} {d : Nat} {K : Mem → Prop} {M : Mem}  (h : OkV G miX11_noDelays d K 2 [some (.inr (.inr (some 66))), some (.inl 0)] [] M) : OkV G miX11_noDelays d K 0 [some (.inr (.inr (some 66))), none] [] M := by
  refine r_iconst (pc := 0) (tb_at tkX11_noDelays 0 rfl) ⟨by decide, by decide⟩ ?_
  refine r_istore_n (L' := [some (.inr (.inr (some 66))), some (.inl 0)]) (pc := 1) (tb_at tkX11_noDelays 1 rfl) rfl (by decide) rfl ?_
  exact h
set_option maxRecDepth 100000 in
set_option maxHeartbeats 4000000 in
theorem gX11_noDelays_2 {G : GE} {d : Nat} {K : Mem → Prop} {M : Mem} {v1 : Int}  (h : ((7 ≤ v1 → K M) ∧ (v1 < 7 → (0 ≤ v1 ∧ v1 < 7) ∧ OkV G miX11_noDelays d K 2 [some (.inr (.inr (some 66))), some (.inl (w32 (v1 + 1)))] [] (mup M 90 (v1).toNat 0)))) : OkV G miX11_noDelays d K 2 [some (.inr (.inr (some 66))), some (.inl v1)] [] M := by
  refine r_iload_n (pc := 2) (tb_at tkX11_noDelays 2 rfl) rfl rfl ?_
  refine r_bipush (pc := 3) (tb_at tkX11_noDelays 3 rfl) ⟨by decide, by decide, by decide⟩ ?_
  refine q_icmp_ge (tgt := 21) (pc := 5) (tb_at tkX11_noDelays 4 rfl) (by decide) (fun c => ?_) (fun c => ?_)
  · replace h := h.1 c
    exact r_vret (pc := 21) (tb_at tkX11_noDelays 12 rfl) rfl (Nat.le_refl _) (Nat.le_refl _) ⟨rfl, rfl, h⟩
  · replace h := h.2 c
    refine r_aload_n (pc := 8) (tb_at tkX11_noDelays 5 rfl) rfl rfl ?_
    refine r_get 10 35 (pc := 9) (tb_at tkX11_noDelays 6 rfl) ly_66 flX11_82 rfl ?_
    refine r_iload_n (pc := 12) (tb_at tkX11_noDelays 7 rfl) rfl rfl ?_
    refine r_iconst (pc := 13) (tb_at tkX11_noDelays 8 rfl) ⟨by decide, by decide⟩ ?_
    refine r_iast (pc := 14) (tb_at tkX11_noDelays 9 rfl) ly_90 h.1.1 h.1.2 rfl ?_
    replace h := h.2
    refine r_iinc (L' := [some (.inr (.inr (some 66))), some (.inl (w32 (v1 + 1)))]) (pc := 15) (tb_at tkX11_noDelays 10 rfl) rfl (by decide) rfl ?_
    refine r_goto (tgt := 2) (pc := 18) (tb_at tkX11_noDelays 11 rfl) (by decide) ?_
    exact h
set_option maxRecDepth 100000 in
set_option maxHeartbeats 4000000 in
theorem gX11_allLate_0 {G : GE} {d : Nat} {K : Int → Mem → Prop} {M : Mem}  (h : OkI G miX11_allLate (d + 1) K 9 [some (.inr (.inr (some 66))), some (.inl 0), some (.inl 0), none, none, none, none, none] [] (mup M 66 37 0)) : OkI G miX11_allLate (d + 1) K 0 [some (.inr (.inr (some 66))), none, none, none, none, none, none, none] [] M := by
  refine r_iconst (pc := 0) (tb_at tkX11_allLate 0 rfl) ⟨by decide, by decide⟩ ?_
  refine r_istore_n (L' := [some (.inr (.inr (some 66))), some (.inl 0), none, none, none, none, none, none]) (pc := 1) (tb_at tkX11_allLate 1 rfl) rfl (by decide) rfl ?_
  refine r_aload_n (pc := 2) (tb_at tkX11_allLate 2 rfl) rfl rfl ?_
  refine r_iconst (pc := 3) (tb_at tkX11_allLate 3 rfl) ⟨by decide, by decide⟩ ?_
  refine r_put 10 37 0 (pc := 4) (tb_at tkX11_allLate 4 rfl) ly_66 flX11_346 (fun r h => by cases h; rfl) (.inl rfl) rfl (fun h => by cases h) rfl ?_
  refine r_iconst (pc := 7) (tb_at tkX11_allLate 5 rfl) ⟨by decide, by decide⟩ ?_
  refine r_istore_n (L' := [some (.inr (.inr (some 66))), some (.inl 0), some (.inl 0), none, none, none, none, none]) (pc := 8) (tb_at tkX11_allLate 6 rfl) rfl (by decide) rfl ?_
  exact h
set_option maxRecDepth 100000 in
set_option maxHeartbeats 4000000 in
theorem gX11_allLate_9 {G : GE} {d : Nat} {K : Int → Mem → Prop} {M : Mem} {v1 v2 : Int}  (h : (((M 67 0) ≤ v2 → OkI G miX11_allLate (d + 1) K 39 [some (.inr (.inr (some 66))), some (.inl v1), some (.inl 0), none, none, none, none, none] [] M) ∧ (v2 < (M 67 0) → (0 ≤ v2 ∧ v2 < 7) ∧ (0 ≤ v2 ∧ v2 < 7) ∧ OkI G miX11_allLate (d + 1) K 9 [some (.inr (.inr (some 66))), some (.inl v1), some (.inl (w32 (v2 + 1))), none, none, none, none, none] [] (mup M 91 (v2).toNat (M 90 (v2).toNat))))) : OkI G miX11_allLate (d + 1) K 9 [some (.inr (.inr (some 66))), some (.inl v1), some (.inl v2), none, none, none, none, none] [] M := by
  refine r_iload_n (pc := 9) (tb_at tkX11_allLate 7 rfl) rfl rfl ?_
  refine r_aload_n (pc := 10) (tb_at tkX11_allLate 8 rfl) rfl rfl ?_
  refine r_get 10 0 (pc := 11) (tb_at tkX11_allLate 9 rfl) ly_66 flX11_11 rfl ?_
  refine r_iconst (pc := 14) (tb_at tkX11_allLate 10 rfl) ⟨by decide, by decide⟩ ?_
  refine r_iald_k (k0 := 0) (pc := 15) (tb_at tkX11_allLate 11 rfl) ly_67 rfl (by decide) (by decide) ?_
  refine q_icmp_ge (tgt := 37) (pc := 16) (tb_at tkX11_allLate 12 rfl) (by decide) (fun c => ?_) (fun c => ?_)
  · replace h := h.1 c
    refine r_iconst (pc := 37) (tb_at tkX11_allLate 23 rfl) ⟨by decide, by decide⟩ ?_
    refine r_istore_n (L' := [some (.inr (.inr (some 66))), some (.inl v1), some (.inl 0), none, none, none, none, none]) (pc := 38) (tb_at tkX11_allLate 24 rfl) rfl (by decide) rfl ?_
    exact h
  · replace h := h.2 c
    refine r_aload_n (pc := 19) (tb_at tkX11_allLate 13 rfl) rfl rfl ?_
    refine r_get 10 36 (pc := 20) (tb_at tkX11_allLate 14 rfl) ly_66 flX11_85 rfl ?_
    refine r_iload_n (pc := 23) (tb_at tkX11_allLate 15 rfl) rfl rfl ?_
    refine r_aload_n (pc := 24) (tb_at tkX11_allLate 16 rfl) rfl rfl ?_
    refine r_get 10 35 (pc := 25) (tb_at tkX11_allLate 17 rfl) ly_66 flX11_82 rfl ?_
    refine r_iload_n (pc := 28) (tb_at tkX11_allLate 18 rfl) rfl rfl ?_
    refine r_iald (pc := 29) (tb_at tkX11_allLate 19 rfl) ly_90 h.1.1 h.1.2 ?_
    replace h := h.2
    refine r_iast (pc := 30) (tb_at tkX11_allLate 20 rfl) ly_91 h.1.1 h.1.2 rfl ?_
    replace h := h.2
    refine r_iinc (L' := [some (.inr (.inr (some 66))), some (.inl v1), some (.inl (w32 (v2 + 1))), none, none, none, none, none]) (pc := 31) (tb_at tkX11_allLate 21 rfl) rfl (by decide) rfl ?_
    refine r_goto (tgt := 9) (pc := 34) (tb_at tkX11_allLate 22 rfl) (by decide) ?_
    exact h
set_option maxRecDepth 100000 in
set_option maxHeartbeats 4000000 in
theorem gX11_allLate_39 {G : GE} {d : Nat} {K : Int → Mem → Prop} {M : Mem} {v1 v2 : Int}  (h : (((M 67 0) ≤ v2 → K v1 M) ∧ (v2 < (M 67 0) → (0 ≤ v2 ∧ v2 < 7) ∧ OkI G miX11_allLate (d + 1) K 59 [some (.inr (.inr (some 66))), some (.inl v1), some (.inl v2), some (.inl (M 69 (v2).toNat)), some (.inl 0), none, none, none] [] M))) : OkI G miX11_allLate (d + 1) K 39 [some (.inr (.inr (some 66))), some (.inl v1), some (.inl v2), none, none, none, none, none] [] M := by
  refine r_iload_n (pc := 39) (tb_at tkX11_allLate 25 rfl) rfl rfl ?_
  refine r_aload_n (pc := 40) (tb_at tkX11_allLate 26 rfl) rfl rfl ?_
  refine r_get 10 0 (pc := 41) (tb_at tkX11_allLate 27 rfl) ly_66 flX11_11 rfl ?_
  refine r_iconst (pc := 44) (tb_at tkX11_allLate 28 rfl) ⟨by decide, by decide⟩ ?_
  refine r_iald_k (k0 := 0) (pc := 45) (tb_at tkX11_allLate 29 rfl) ly_67 rfl (by decide) (by decide) ?_
  refine q_icmp_ge (tgt := 196) (pc := 46) (tb_at tkX11_allLate 30 rfl) (by decide) (fun c => ?_) (fun c => ?_)
  · replace h := h.1 c
    refine r_iload_n (pc := 196) (tb_at tkX11_allLate 114 rfl) rfl rfl ?_
    exact r_iret (pc := 197) (tb_at tkX11_allLate 115 rfl) rfl (Nat.le_refl _) (Nat.le_refl _) ⟨_, rfl, rfl, h⟩
  · replace h := h.2 c
    refine r_aload_n (pc := 49) (tb_at tkX11_allLate 31 rfl) rfl rfl ?_
    refine r_get 10 3 (pc := 50) (tb_at tkX11_allLate 32 rfl) ly_66 flX11_18 rfl ?_
    refine r_iload_n (pc := 53) (tb_at tkX11_allLate 33 rfl) rfl rfl ?_
    refine r_iald (pc := 54) (tb_at tkX11_allLate 34 rfl) ly_69 h.1.1 h.1.2 ?_
    replace h := h.2
    refine r_istore_n (L' := [some (.inr (.inr (some 66))), some (.inl v1), some (.inl v2), some (.inl (M 69 (v2).toNat)), none, none, none, none]) (pc := 55) (tb_at tkX11_allLate 35 rfl) rfl (by decide) rfl ?_
    refine r_iconst (pc := 56) (tb_at tkX11_allLate 36 rfl) ⟨by decide, by decide⟩ ?_
    refine r_istore (L' := [some (.inr (.inr (some 66))), some (.inl v1), some (.inl v2), some (.inl (M 69 (v2).toNat)), some (.inl 0), none, none, none]) (pc := 57) (tb_at tkX11_allLate 37 rfl) (by decide) rfl ?_
    exact h
set_option maxRecDepth 100000 in
set_option maxHeartbeats 4000000 in
theorem gX11_allLate_59 {G : GE} {d : Nat} {K : Int → Mem → Prop} {M : Mem} {v1 v2 v3 v4 : Int}  (h : (((M 66 14) ≤ v4 → (0 ≤ v3 ∧ v3 < 7) ∧ (0 ≤ v3 ∧ v3 < 7) ∧ OkI G miX11_allLate (d + 1) K 39 [some (.inr (.inr (some 66))), some (.inl (w32 (v1 + (M 91 (v3).toNat)))), some (.inl (w32 (v2 + 1))), none, none, none, none, none] [] (mup M 66 37 (ior (M 66 37) (if 0 < (M 91 (v3).toNat) then ishl 1 v3 else 0)))) ∧ (v4 < (M 66 14) → (0 ≤ v4 ∧ v4 < 7) ∧ (0 ≤ M 76 (v4).toNat ∧ M 76 (v4).toNat < 128) ∧ CalV G miX11_lines d [.inr (.inr (some 66)), .inl (M 73 (M 76 (v4).toNat).toNat)] M (fun M3 => (0 ≤ v3 ∧ v3 < 7) ∧ (((M3 70 (v3).toNat) < 0 → OkI G miX11_allLate (d + 1) K 120 [some (.inr (.inr (some 66))), some (.inl v1), some (.inl v2), some (.inl v3), some (.inl v4), none, none, none] [.inl 0] M3) ∧ (0 ≤ (M3 70 (v3).toNat) → (0 ≤ M3 70 (v3).toNat ∧ M3 70 (v3).toNat < 7) ∧ CalI G miX11_slack d [.inr (.inr (some 66)), .inl (M3 70 (v3).toNat), .inl v3] M3 (fun x5 M4 => OkI G miX11_allLate (d + 1) K 120 [some (.inr (.inr (some 66))), some (.inl v1), some (.inl v2), some (.inl v3), some (.inl v4), none, none, none] [.inl (w32 ((M3 91 (M3 70 (v3).toNat).toNat) - x5))] M4))))))) : OkI G miX11_allLate (d + 1) K 59 [some (.inr (.inr (some 66))), some (.inl v1), some (.inl v2), some (.inl v3), some (.inl v4), none, none, none] [] M := by
  refine r_iload (pc := 59) (tb_at tkX11_allLate 38 rfl) rfl ?_
  refine r_aload_n (pc := 61) (tb_at tkX11_allLate 39 rfl) rfl rfl ?_
  refine r_get 10 14 (pc := 62) (tb_at tkX11_allLate 40 rfl) ly_66 flX11_219 rfl ?_
  refine q_icmp_ge (tgt := 156) (pc := 65) (tb_at tkX11_allLate 41 rfl) (by decide) (fun c => ?_) (fun c => ?_)
  · replace h := h.1 c
    refine r_iload_n (pc := 156) (tb_at tkX11_allLate 90 rfl) rfl rfl ?_
    refine r_aload_n (pc := 157) (tb_at tkX11_allLate 91 rfl) rfl rfl ?_
    refine r_get 10 36 (pc := 158) (tb_at tkX11_allLate 92 rfl) ly_66 flX11_85 rfl ?_
    refine r_iload_n (pc := 161) (tb_at tkX11_allLate 93 rfl) rfl rfl ?_
    refine r_iald (pc := 162) (tb_at tkX11_allLate 94 rfl) ly_91 h.1.1 h.1.2 ?_
    replace h := h.2
    refine r_iadd (pc := 163) (tb_at tkX11_allLate 95 rfl) ?_
    refine r_istore_n (L' := [some (.inr (.inr (some 66))), some (.inl (w32 (v1 + (M 91 (v3).toNat)))), some (.inl v2), some (.inl v3), some (.inl v4), none, none, none]) (pc := 164) (tb_at tkX11_allLate 96 rfl) rfl (by decide) rfl ?_
    refine r_aload_n (pc := 165) (tb_at tkX11_allLate 97 rfl) rfl rfl ?_
    refine r_dup (pc := 166) (tb_at tkX11_allLate 98 rfl) (fun _ h => by cases h) ?_
    refine r_get 10 37 (pc := 167) (tb_at tkX11_allLate 99 rfl) ly_66 flX11_346 rfl ?_
    refine r_aload_n (pc := 170) (tb_at tkX11_allLate 100 rfl) rfl rfl ?_
    refine r_get 10 36 (pc := 171) (tb_at tkX11_allLate 101 rfl) ly_66 flX11_85 rfl ?_
    refine r_iload_n (pc := 174) (tb_at tkX11_allLate 102 rfl) rfl rfl ?_
    refine r_iald (pc := 175) (tb_at tkX11_allLate 103 rfl) ly_91 h.1.1 h.1.2 ?_
    replace h := h.2
    have hJ1 : ∀ t0 : Int, t0 = (if 0 < (M 91 (v3).toNat) then ishl 1 v3 else 0) → OkI G miX11_allLate (d + 1) K 186 [some (.inr (.inr (some 66))), some (.inl (w32 (v1 + (M 91 (v3).toNat)))), some (.inl v2), some (.inl v3), some (.inl v4), none, none, none] [.inl t0, .inl (M 66 37), .inr (.inr (some 66))] M := by
      rintro _ rfl
      refine r_ior (pc := 186) (tb_at tkX11_allLate 110 rfl) ?_
      refine r_put 10 37 (ior (M 66 37) (if 0 < (M 91 (v3).toNat) then ishl 1 v3 else 0)) (pc := 187) (tb_at tkX11_allLate 111 rfl) ly_66 flX11_346 (fun r h => by cases h; rfl) (.inl rfl) rfl (fun h => by cases h) rfl ?_
      refine r_iinc (L' := [some (.inr (.inr (some 66))), some (.inl (w32 (v1 + (M 91 (v3).toNat)))), some (.inl (w32 (v2 + 1))), some (.inl v3), some (.inl v4), none, none, none]) (pc := 190) (tb_at tkX11_allLate 112 rfl) rfl (by decide) rfl ?_
      refine r_goto (tgt := 39) (pc := 193) (tb_at tkX11_allLate 113 rfl) (by decide) ?_
      exact Ok.forget h (And.intro rfl (And.intro rfl (And.intro rfl trivial)))
    refine q_if_le (tgt := 185) (pc := 176) (tb_at tkX11_allLate 104 rfl) (by decide) (fun c2 => ?_) (fun c2 => ?_)
    · refine r_iconst (pc := 185) (tb_at tkX11_allLate 109 rfl) ⟨by decide, by decide⟩ ?_
      exact hJ1 _ (by simp only [if_neg (Int.not_lt.mpr c2)])
    · refine r_iconst (pc := 179) (tb_at tkX11_allLate 105 rfl) ⟨by decide, by decide⟩ ?_
      refine r_iload_n (pc := 180) (tb_at tkX11_allLate 106 rfl) rfl rfl ?_
      refine r_ishl (pc := 181) (tb_at tkX11_allLate 107 rfl) ?_
      refine r_goto (tgt := 186) (pc := 182) (tb_at tkX11_allLate 108 rfl) (by decide) ?_
      exact hJ1 _ (by simp only [if_pos c2])
  · replace h := h.2 c
    refine r_aload_n (pc := 68) (tb_at tkX11_allLate 42 rfl) rfl rfl ?_
    refine r_get 10 10 (pc := 69) (tb_at tkX11_allLate 43 rfl) ly_66 flX11_30 rfl ?_
    refine r_aload_n (pc := 72) (tb_at tkX11_allLate 44 rfl) rfl rfl ?_
    refine r_get 10 13 (pc := 73) (tb_at tkX11_allLate 45 rfl) ly_66 flX11_39 rfl ?_
    refine r_iload (pc := 76) (tb_at tkX11_allLate 46 rfl) rfl ?_
    refine r_iald (pc := 78) (tb_at tkX11_allLate 47 rfl) ly_76 h.1.1 h.1.2 ?_
    replace h := h.2
    refine r_iald (pc := 79) (tb_at tkX11_allLate 48 rfl) ly_73 h.1.1 h.1.2 ?_
    replace h := h.2
    refine r_istore (L' := [some (.inr (.inr (some 66))), some (.inl v1), some (.inl v2), some (.inl v3), some (.inl v4), some (.inl (M 73 (M 76 (v4).toNat).toNat)), none, none]) (pc := 80) (tb_at tkX11_allLate 49 rfl) (by decide) rfl ?_
    refine r_aload_n (pc := 82) (tb_at tkX11_allLate 50 rfl) rfl rfl ?_
    refine r_iload (pc := 83) (tb_at tkX11_allLate 51 rfl) rfl ?_
    refine r_invV (mc' := 0) (ms' := 0) [.inl (M 73 (M 76 (v4).toNat).toNat)] (S := []) (pc := 85) (tb_at tkX11_allLate 52 rfl) rfl ly_66 rfl rfl clX11_182 (Nat.le_of_ble_eq_true rfl) (Nat.le_refl _) (Nat.le_refl _) ?_
    refine Cal.mono h ?_
    rintro _ _ M3 ⟨rfl, rfl, h⟩
    show OkI G miX11_allLate (d + 1) K 88 [some (.inr (.inr (some 66))), some (.inl v1), some (.inl v2), some (.inl v3), some (.inl v4), some (.inl (M 73 (M 76 (v4).toNat).toNat)), none, none] [] M3
    refine r_aload_n (pc := 88) (tb_at tkX11_allLate 53 rfl) rfl rfl ?_
    refine r_get 10 4 (pc := 89) (tb_at tkX11_allLate 54 rfl) ly_66 flX11_21 rfl ?_
    refine r_iload_n (pc := 92) (tb_at tkX11_allLate 55 rfl) rfl rfl ?_
    refine r_iald (pc := 93) (tb_at tkX11_allLate 56 rfl) ly_70 h.1.1 h.1.2 ?_
    replace h := h.2
    refine r_istore (L' := [some (.inr (.inr (some 66))), some (.inl v1), some (.inl v2), some (.inl v3), some (.inl v4), some (.inl (M 73 (M 76 (v4).toNat).toNat)), some (.inl (M3 70 (v3).toNat)), none]) (pc := 94) (tb_at tkX11_allLate 57 rfl) (by decide) rfl ?_
    refine r_iload (pc := 96) (tb_at tkX11_allLate 58 rfl) rfl ?_
    refine q_if_lt (tgt := 119) (pc := 98) (tb_at tkX11_allLate 59 rfl) (by decide) (fun c => ?_) (fun c => ?_)
    · replace h := h.1 c
      refine r_iconst (pc := 119) (tb_at tkX11_allLate 70 rfl) ⟨by decide, by decide⟩ ?_
      exact Ok.forget h (And.intro rfl (And.intro rfl (And.intro rfl (And.intro rfl (And.intro rfl trivial)))))
    · replace h := h.2 c
      refine r_aload_n (pc := 101) (tb_at tkX11_allLate 60 rfl) rfl rfl ?_
      refine r_get 10 36 (pc := 102) (tb_at tkX11_allLate 61 rfl) ly_66 flX11_85 rfl ?_
      refine r_iload (pc := 105) (tb_at tkX11_allLate 62 rfl) rfl ?_
      refine r_iald (pc := 107) (tb_at tkX11_allLate 63 rfl) ly_91 h.1.1 h.1.2 ?_
      replace h := h.2
      refine r_aload_n (pc := 108) (tb_at tkX11_allLate 64 rfl) rfl rfl ?_
      refine r_iload (pc := 109) (tb_at tkX11_allLate 65 rfl) rfl ?_
      refine r_iload_n (pc := 111) (tb_at tkX11_allLate 66 rfl) rfl rfl ?_
      refine r_invV (mc' := 0) (ms' := 0) [.inl (M3 70 (v3).toNat), .inl v3] (S := [.inl (M3 91 (M3 70 (v3).toNat).toNat)]) (pc := 112) (tb_at tkX11_allLate 67 rfl) rfl ly_66 rfl rfl clX11_165 (Nat.le_of_ble_eq_true rfl) (Nat.le_refl _) (Nat.le_refl _) ?_
      refine Cal.mono h ?_
      rintro _ _ M4 ⟨x5, rfl, rfl, h⟩
      show OkI G miX11_allLate (d + 1) K 115 [some (.inr (.inr (some 66))), some (.inl v1), some (.inl v2), some (.inl v3), some (.inl v4), some (.inl (M 73 (M 76 (v4).toNat).toNat)), some (.inl (M3 70 (v3).toNat)), none] [.inl x5, .inl (M3 91 (M3 70 (v3).toNat).toNat)] M4
      refine r_isub (pc := 115) (tb_at tkX11_allLate 68 rfl) ?_
      refine r_goto (tgt := 120) (pc := 116) (tb_at tkX11_allLate 69 rfl) (by decide) ?_
      exact Ok.forget h (And.intro rfl (And.intro rfl (And.intro rfl (And.intro rfl (And.intro rfl trivial)))))
set_option maxRecDepth 100000 in
set_option maxHeartbeats 4000000 in
theorem gX11_allLate_120 {G : GE} {d : Nat} {K : Int → Mem → Prop} {M : Mem} {v1 v2 v3 v4 s0 : Int}  (h : (0 ≤ v3 ∧ v3 < 7) ∧ ((s0 ≤ (M 91 (v3).toNat) → (0 ≤ v3 ∧ v3 < 7) ∧ OkI G miX11_allLate (d + 1) K 149 [some (.inr (.inr (some 66))), some (.inl v1), some (.inl v2), some (.inl v3), some (.inl v4), none, none, none] [.inl (M 91 (v3).toNat), .inl v3, .inr (.inr (some 91))] M) ∧ ((M 91 (v3).toNat) < s0 → OkI G miX11_allLate (d + 1) K 149 [some (.inr (.inr (some 66))), some (.inl v1), some (.inl v2), some (.inl v3), some (.inl v4), none, none, none] [.inl s0, .inl v3, .inr (.inr (some 91))] M))) : OkI G miX11_allLate (d + 1) K 120 [some (.inr (.inr (some 66))), some (.inl v1), some (.inl v2), some (.inl v3), some (.inl v4), none, none, none] [.inl s0] M := by
  refine r_istore (L' := [some (.inr (.inr (some 66))), some (.inl v1), some (.inl v2), some (.inl v3), some (.inl v4), none, none, some (.inl s0)]) (pc := 120) (tb_at tkX11_allLate 71 rfl) (by decide) rfl ?_
  refine r_aload_n (pc := 122) (tb_at tkX11_allLate 72 rfl) rfl rfl ?_
  refine r_get 10 36 (pc := 123) (tb_at tkX11_allLate 73 rfl) ly_66 flX11_85 rfl ?_
  refine r_iload_n (pc := 126) (tb_at tkX11_allLate 74 rfl) rfl rfl ?_
  refine r_iload (pc := 127) (tb_at tkX11_allLate 75 rfl) rfl ?_
  refine r_aload_n (pc := 129) (tb_at tkX11_allLate 76 rfl) rfl rfl ?_
  refine r_get 10 36 (pc := 130) (tb_at tkX11_allLate 77 rfl) ly_66 flX11_85 rfl ?_
  refine r_iload_n (pc := 133) (tb_at tkX11_allLate 78 rfl) rfl rfl ?_
  refine r_iald (pc := 134) (tb_at tkX11_allLate 79 rfl) ly_91 h.1.1 h.1.2 ?_
  replace h := h.2
  refine q_icmp_le (tgt := 143) (pc := 135) (tb_at tkX11_allLate 80 rfl) (by decide) (fun c => ?_) (fun c => ?_)
  · replace h := h.1 c
    refine r_aload_n (pc := 143) (tb_at tkX11_allLate 83 rfl) rfl rfl ?_
    refine r_get 10 36 (pc := 144) (tb_at tkX11_allLate 84 rfl) ly_66 flX11_85 rfl ?_
    refine r_iload_n (pc := 147) (tb_at tkX11_allLate 85 rfl) rfl rfl ?_
    refine r_iald (pc := 148) (tb_at tkX11_allLate 86 rfl) ly_91 h.1.1 h.1.2 ?_
    replace h := h.2
    exact Ok.forget h (And.intro rfl (And.intro rfl (And.intro rfl (And.intro rfl (And.intro rfl trivial)))))
  · replace h := h.2 c
    refine r_iload (pc := 138) (tb_at tkX11_allLate 81 rfl) rfl ?_
    refine r_goto (tgt := 149) (pc := 140) (tb_at tkX11_allLate 82 rfl) (by decide) ?_
    exact Ok.forget h (And.intro rfl (And.intro rfl (And.intro rfl (And.intro rfl (And.intro rfl trivial)))))
set_option maxRecDepth 100000 in
set_option maxHeartbeats 4000000 in
theorem gX11_allLate_149 {G : GE} {d : Nat} {K : Int → Mem → Prop} {M : Mem} {v1 v2 v3 v4 s1 s2 : Int}  (h : (0 ≤ s1 ∧ s1 < 7) ∧ OkI G miX11_allLate (d + 1) K 59 [some (.inr (.inr (some 66))), some (.inl v1), some (.inl v2), some (.inl v3), some (.inl (w32 (v4 + 1))), none, none, none] [] (mup M 91 (s1).toNat s2)) : OkI G miX11_allLate (d + 1) K 149 [some (.inr (.inr (some 66))), some (.inl v1), some (.inl v2), some (.inl v3), some (.inl v4), none, none, none] [.inl s2, .inl s1, .inr (.inr (some 91))] M := by
  refine r_iast (pc := 149) (tb_at tkX11_allLate 87 rfl) ly_91 h.1.1 h.1.2 rfl ?_
  replace h := h.2
  refine r_iinc (L' := [some (.inr (.inr (some 66))), some (.inl v1), some (.inl v2), some (.inl v3), some (.inl (w32 (v4 + 1))), none, none, none]) (pc := 150) (tb_at tkX11_allLate 88 rfl) rfl (by decide) rfl ?_
  refine r_goto (tgt := 59) (pc := 153) (tb_at tkX11_allLate 89 rfl) (by decide) ?_
  exact h
set_option maxRecDepth 100000 in
set_option maxHeartbeats 4000000 in
theorem gX11_hasCover_0 {G : GE} {d : Nat} {K : Int → Mem → Prop} {M : Mem}  (h : CalV G miX11_reckons d [.inr (.inr (some 66))] M (fun M1 => CalI G miX11_covers d [.inr (.inr (some 66))] M1 (fun x3 M2 => ((x3 < 0 → K 0 M2) ∧ (0 ≤ x3 → K 1 M2))))) : OkI G miX11_hasCover (d + 1) K 0 [some (.inr (.inr (some 66)))] [] M := by
  refine r_aload_n (pc := 0) (tb_at tkX11_hasCover 0 rfl) rfl rfl ?_
  refine r_invV (mc' := 0) (ms' := 0) [] (S := []) (pc := 1) (tb_at tkX11_hasCover 1 rfl) rfl ly_66 rfl rfl clX11_212 (Nat.le_of_ble_eq_true rfl) (Nat.le_refl _) (Nat.le_refl _) ?_
  refine Cal.mono h ?_
  rintro _ _ M1 ⟨rfl, rfl, h⟩
  show OkI G miX11_hasCover (d + 1) K 4 [some (.inr (.inr (some 66)))] [] M1
  refine r_aload_n (pc := 4) (tb_at tkX11_hasCover 2 rfl) rfl rfl ?_
  refine r_invV (mc' := 0) (ms' := 0) [] (S := []) (pc := 5) (tb_at tkX11_hasCover 3 rfl) rfl ly_66 rfl rfl clX11_222 (Nat.le_of_ble_eq_true rfl) (Nat.le_refl _) (Nat.le_refl _) ?_
  refine Cal.mono h ?_
  rintro _ _ M2 ⟨x3, rfl, rfl, h⟩
  show OkI G miX11_hasCover (d + 1) K 8 [some (.inr (.inr (some 66)))] [.inl x3] M2
  refine q_if_lt (tgt := 15) (pc := 8) (tb_at tkX11_hasCover 4 rfl) (by decide) (fun c => ?_) (fun c => ?_)
  · replace h := h.1 c
    refine r_iconst (pc := 15) (tb_at tkX11_hasCover 7 rfl) ⟨by decide, by decide⟩ ?_
    exact r_zret (pc := 16) (tb_at tkX11_hasCover 8 rfl) rfl (by decide) (Nat.le_refl _) (Nat.le_refl _) ⟨_, rfl, rfl, h⟩
  · replace h := h.2 c
    refine r_iconst (pc := 11) (tb_at tkX11_hasCover 5 rfl) ⟨by decide, by decide⟩ ?_
    refine r_goto (tgt := 16) (pc := 12) (tb_at tkX11_hasCover 6 rfl) (by decide) ?_
    exact r_zret (pc := 16) (tb_at tkX11_hasCover 8 rfl) rfl (by decide) (Nat.le_refl _) (Nat.le_refl _) ⟨_, rfl, rfl, h⟩
set_option maxRecDepth 100000 in
set_option maxHeartbeats 4000000 in
theorem gX11_late_0 {G : GE} {d : Nat} {K : Int → Mem → Prop} {M : Mem} {v1 v2 v3 : Int}  (h : CalI G miX11_isFlight d [.inr (.inr (some 66)), .inl v1] M (fun x2 M1 => ((x2 = 0 → K (-2) M1) ∧ (¬ x2 = 0 → CalI G miX11_in d [.inr (.inl v2), .inr (.inl 0), .inr (.inl 99)] M1 (fun x4 M3 => ((x4 = 0 → K (-2) M3) ∧ (¬ x4 = 0 → CalI G miX11_in d [.inr (.inl v3), .inr (.inl 0), .inr (.inl 1)] M3 (fun x6 M5 => ((¬ x6 = 0 → CalI G miX11_hasCover d [.inr (.inr (some 66))] M5 (fun x8 M7 => ((¬ x8 = 0 → CalV G miX11_noDelays d [.inr (.inr (some 66))] M7 (fun M9 => (0 ≤ v1 ∧ v1 < 7) ∧ CalI G miX11_allLate d [.inr (.inr (some 66))] (mup M9 90 (v1).toNat v2) (fun x11 M10 => ((¬ v3 = 0 → K x11 M10) ∧ (v3 = 0 → K (M10 66 37) M10))))) ∧ (x8 = 0 → K (-3) M7)))) ∧ (x6 = 0 → K (-2) M5)))))))))) : OkI G miX11_late (d + 1) K 0 [some (.inr (.inr (some 66))), some (.inl v1), some (.inl v2), some (.inl v3), none] [] M := by
  refine r_aload_n (pc := 0) (tb_at tkX11_late 0 rfl) rfl rfl ?_
  refine r_iload_n (pc := 1) (tb_at tkX11_late 1 rfl) rfl rfl ?_
  refine r_invV (mc' := 0) (ms' := 0) [.inl v1] (S := []) (pc := 2) (tb_at tkX11_late 2 rfl) rfl ly_66 rfl rfl clX11_109 (Nat.le_of_ble_eq_true rfl) (Nat.le_refl _) (Nat.le_refl _) ?_
  refine Cal.mono h ?_
  rintro _ _ M1 ⟨x2, rfl, rfl, h⟩
  show OkI G miX11_late (d + 1) K 5 [some (.inr (.inr (some 66))), some (.inl v1), some (.inl v2), some (.inl v3), none] [.inl x2] M1
  refine q_if_eq (tgt := 30) (pc := 5) (tb_at tkX11_late 3 rfl) (by decide) (fun c => ?_) (fun c => ?_)
  · replace h := h.1 c
    refine r_bipush (pc := 30) (tb_at tkX11_late 16 rfl) ⟨by decide, by decide, by decide⟩ ?_
    exact r_iret (pc := 32) (tb_at tkX11_late 17 rfl) rfl (Nat.le_refl _) (Nat.le_refl _) ⟨_, rfl, rfl, h⟩
  · replace h := h.2 c
    refine r_iload_n (pc := 8) (tb_at tkX11_late 4 rfl) rfl rfl ?_
    refine r_i2l (pc := 9) (tb_at tkX11_late 5 rfl) ?_
    refine r_lconst (v := 0) (pc := 10) (tb_at tkX11_late 6 rfl) ⟨by decide, by decide, by decide⟩ ?_
    refine r_ldc2 (n := 99) (pc := 11) (tb_at tkX11_late 7 rfl) kcX11_152 ⟨by decide, by decide⟩ ?_
    refine r_invS (mc' := 0) (ms' := 0) [.inr (.inl v2), .inr (.inl 0), .inr (.inl 99)] (S := []) (pc := 14) (tb_at tkX11_late 8 rfl) rfl clX11_103 (Nat.le_of_ble_eq_true rfl) (Nat.le_refl _) (Nat.le_refl _) ?_
    refine Cal.mono h ?_
    rintro _ _ M3 ⟨x4, rfl, rfl, h⟩
    show OkI G miX11_late (d + 1) K 17 [some (.inr (.inr (some 66))), some (.inl v1), some (.inl v2), some (.inl v3), none] [.inl x4] M3
    refine q_if_eq (tgt := 30) (pc := 17) (tb_at tkX11_late 9 rfl) (by decide) (fun c => ?_) (fun c => ?_)
    · replace h := h.1 c
      refine r_bipush (pc := 30) (tb_at tkX11_late 16 rfl) ⟨by decide, by decide, by decide⟩ ?_
      exact r_iret (pc := 32) (tb_at tkX11_late 17 rfl) rfl (Nat.le_refl _) (Nat.le_refl _) ⟨_, rfl, rfl, h⟩
    · replace h := h.2 c
      refine r_iload_n (pc := 20) (tb_at tkX11_late 10 rfl) rfl rfl ?_
      refine r_i2l (pc := 21) (tb_at tkX11_late 11 rfl) ?_
      refine r_lconst (v := 0) (pc := 22) (tb_at tkX11_late 12 rfl) ⟨by decide, by decide, by decide⟩ ?_
      refine r_lconst (v := 1) (pc := 23) (tb_at tkX11_late 13 rfl) ⟨by decide, by decide, by decide⟩ ?_
      refine r_invS (mc' := 0) (ms' := 0) [.inr (.inl v3), .inr (.inl 0), .inr (.inl 1)] (S := []) (pc := 24) (tb_at tkX11_late 14 rfl) rfl clX11_103 (Nat.le_of_ble_eq_true rfl) (Nat.le_refl _) (Nat.le_refl _) ?_
      refine Cal.mono h ?_
      rintro _ _ M5 ⟨x6, rfl, rfl, h⟩
      show OkI G miX11_late (d + 1) K 27 [some (.inr (.inr (some 66))), some (.inl v1), some (.inl v2), some (.inl v3), none] [.inl x6] M5
      refine q_if_ne (tgt := 33) (pc := 27) (tb_at tkX11_late 15 rfl) (by decide) (fun c => ?_) (fun c => ?_)
      · replace h := h.1 c
        refine r_aload_n (pc := 33) (tb_at tkX11_late 18 rfl) rfl rfl ?_
        refine r_invV (mc' := 0) (ms' := 0) [] (S := []) (pc := 34) (tb_at tkX11_late 19 rfl) rfl ly_66 rfl rfl clX11_349 (Nat.le_of_ble_eq_true rfl) (Nat.le_refl _) (Nat.le_refl _) ?_
        refine Cal.mono h ?_
        rintro _ _ M7 ⟨x8, rfl, rfl, h⟩
        show OkI G miX11_late (d + 1) K 37 [some (.inr (.inr (some 66))), some (.inl v1), some (.inl v2), some (.inl v3), none] [.inl x8] M7
        refine q_if_ne (tgt := 43) (pc := 37) (tb_at tkX11_late 20 rfl) (by decide) (fun c => ?_) (fun c => ?_)
        · replace h := h.1 c
          refine r_aload_n (pc := 43) (tb_at tkX11_late 23 rfl) rfl rfl ?_
          refine r_invV (mc' := 0) (ms' := 0) [] (S := []) (pc := 44) (tb_at tkX11_late 24 rfl) rfl ly_66 rfl rfl clX11_352 (Nat.le_of_ble_eq_true rfl) (Nat.le_refl _) (Nat.le_refl _) ?_
          refine Cal.mono h ?_
          rintro _ _ M9 ⟨rfl, rfl, h⟩
          show OkI G miX11_late (d + 1) K 47 [some (.inr (.inr (some 66))), some (.inl v1), some (.inl v2), some (.inl v3), none] [] M9
          refine r_aload_n (pc := 47) (tb_at tkX11_late 25 rfl) rfl rfl ?_
          refine r_get 10 35 (pc := 48) (tb_at tkX11_late 26 rfl) ly_66 flX11_82 rfl ?_
          refine r_iload_n (pc := 51) (tb_at tkX11_late 27 rfl) rfl rfl ?_
          refine r_iload_n (pc := 52) (tb_at tkX11_late 28 rfl) rfl rfl ?_
          refine r_iast (pc := 53) (tb_at tkX11_late 29 rfl) ly_90 h.1.1 h.1.2 rfl ?_
          replace h := h.2
          refine r_aload_n (pc := 54) (tb_at tkX11_late 30 rfl) rfl rfl ?_
          refine r_invV (mc' := 0) (ms' := 0) [] (S := []) (pc := 55) (tb_at tkX11_late 31 rfl) rfl ly_66 rfl rfl clX11_355 (Nat.le_of_ble_eq_true rfl) (Nat.le_refl _) (Nat.le_refl _) ?_
          refine Cal.mono h ?_
          rintro _ _ M10 ⟨x11, rfl, rfl, h⟩
          show OkI G miX11_late (d + 1) K 58 [some (.inr (.inr (some 66))), some (.inl v1), some (.inl v2), some (.inl v3), none] [.inl x11] M10
          refine r_istore (L' := [some (.inr (.inr (some 66))), some (.inl v1), some (.inl v2), some (.inl v3), some (.inl x11)]) (pc := 58) (tb_at tkX11_late 32 rfl) (by decide) rfl ?_
          refine r_iload_n (pc := 60) (tb_at tkX11_late 33 rfl) rfl rfl ?_
          refine q_if_ne (tgt := 71) (pc := 61) (tb_at tkX11_late 34 rfl) (by decide) (fun c => ?_) (fun c => ?_)
          · replace h := h.1 c
            refine r_iload (pc := 71) (tb_at tkX11_late 38 rfl) rfl ?_
            exact r_iret (pc := 73) (tb_at tkX11_late 39 rfl) rfl (Nat.le_refl _) (Nat.le_refl _) ⟨_, rfl, rfl, h⟩
          · replace h := h.2 c
            refine r_aload_n (pc := 64) (tb_at tkX11_late 35 rfl) rfl rfl ?_
            refine r_get 10 37 (pc := 65) (tb_at tkX11_late 36 rfl) ly_66 flX11_346 rfl ?_
            refine r_goto (tgt := 73) (pc := 68) (tb_at tkX11_late 37 rfl) (by decide) ?_
            exact r_iret (pc := 73) (tb_at tkX11_late 39 rfl) rfl (Nat.le_refl _) (Nat.le_refl _) ⟨_, rfl, rfl, h⟩
        · replace h := h.2 c
          refine r_bipush (pc := 40) (tb_at tkX11_late 21 rfl) ⟨by decide, by decide, by decide⟩ ?_
          exact r_iret (pc := 42) (tb_at tkX11_late 22 rfl) rfl (Nat.le_refl _) (Nat.le_refl _) ⟨_, rfl, rfl, h⟩
      · replace h := h.2 c
        refine r_bipush (pc := 30) (tb_at tkX11_late 16 rfl) ⟨by decide, by decide, by decide⟩ ?_
        exact r_iret (pc := 32) (tb_at tkX11_late 17 rfl) rfl (Nat.le_refl _) (Nat.le_refl _) ⟨_, rfl, rfl, h⟩
set_option maxRecDepth 100000 in
set_option maxHeartbeats 4000000 in
theorem gX11_worst_0 {G : GE} {d : Nat} {K : Int → Mem → Prop} {M : Mem} {v1 : Int}  (h : CalI G miX11_in d [.inr (.inl v1), .inr (.inl 0), .inr (.inl 99)] M (fun x2 M1 => ((¬ x2 = 0 → CalI G miX11_hasCover d [.inr (.inr (some 66))] M1 (fun x4 M3 => ((¬ x4 = 0 → OkI G miX11_worst (d + 1) K 32 [some (.inr (.inr (some 66))), some (.inl v1), some (.inl (-1)), some (.inl (-1)), some (.inl 0), none] [] M3) ∧ (x4 = 0 → K (-3) M3)))) ∧ (x2 = 0 → K (-2) M1)))) : OkI G miX11_worst (d + 1) K 0 [some (.inr (.inr (some 66))), some (.inl v1), none, none, none, none] [] M := by
  refine r_iload_n (pc := 0) (tb_at tkX11_worst 0 rfl) rfl rfl ?_
  refine r_i2l (pc := 1) (tb_at tkX11_worst 1 rfl) ?_
  refine r_lconst (v := 0) (pc := 2) (tb_at tkX11_worst 2 rfl) ⟨by decide, by decide, by decide⟩ ?_
  refine r_ldc2 (n := 99) (pc := 3) (tb_at tkX11_worst 3 rfl) kcX11_152 ⟨by decide, by decide⟩ ?_
  refine r_invS (mc' := 0) (ms' := 0) [.inr (.inl v1), .inr (.inl 0), .inr (.inl 99)] (S := []) (pc := 6) (tb_at tkX11_worst 4 rfl) rfl clX11_103 (Nat.le_of_ble_eq_true rfl) (Nat.le_refl _) (Nat.le_refl _) ?_
  refine Cal.mono h ?_
  rintro _ _ M1 ⟨x2, rfl, rfl, h⟩
  show OkI G miX11_worst (d + 1) K 9 [some (.inr (.inr (some 66))), some (.inl v1), none, none, none, none] [.inl x2] M1
  refine q_if_ne (tgt := 15) (pc := 9) (tb_at tkX11_worst 5 rfl) (by decide) (fun c => ?_) (fun c => ?_)
  · replace h := h.1 c
    refine r_aload_n (pc := 15) (tb_at tkX11_worst 8 rfl) rfl rfl ?_
    refine r_invV (mc' := 0) (ms' := 0) [] (S := []) (pc := 16) (tb_at tkX11_worst 9 rfl) rfl ly_66 rfl rfl clX11_349 (Nat.le_of_ble_eq_true rfl) (Nat.le_refl _) (Nat.le_refl _) ?_
    refine Cal.mono h ?_
    rintro _ _ M3 ⟨x4, rfl, rfl, h⟩
    show OkI G miX11_worst (d + 1) K 19 [some (.inr (.inr (some 66))), some (.inl v1), none, none, none, none] [.inl x4] M3
    refine q_if_ne (tgt := 25) (pc := 19) (tb_at tkX11_worst 10 rfl) (by decide) (fun c => ?_) (fun c => ?_)
    · replace h := h.1 c
      refine r_iconst (pc := 25) (tb_at tkX11_worst 13 rfl) ⟨by decide, by decide⟩ ?_
      refine r_istore_n (L' := [some (.inr (.inr (some 66))), some (.inl v1), some (.inl (-1)), none, none, none]) (pc := 26) (tb_at tkX11_worst 14 rfl) rfl (by decide) rfl ?_
      refine r_iconst (pc := 27) (tb_at tkX11_worst 15 rfl) ⟨by decide, by decide⟩ ?_
      refine r_istore_n (L' := [some (.inr (.inr (some 66))), some (.inl v1), some (.inl (-1)), some (.inl (-1)), none, none]) (pc := 28) (tb_at tkX11_worst 16 rfl) rfl (by decide) rfl ?_
      refine r_iconst (pc := 29) (tb_at tkX11_worst 17 rfl) ⟨by decide, by decide⟩ ?_
      refine r_istore (L' := [some (.inr (.inr (some 66))), some (.inl v1), some (.inl (-1)), some (.inl (-1)), some (.inl 0), none]) (pc := 30) (tb_at tkX11_worst 18 rfl) (by decide) rfl ?_
      exact h
    · replace h := h.2 c
      refine r_bipush (pc := 22) (tb_at tkX11_worst 11 rfl) ⟨by decide, by decide, by decide⟩ ?_
      exact r_iret (pc := 24) (tb_at tkX11_worst 12 rfl) rfl (Nat.le_refl _) (Nat.le_refl _) ⟨_, rfl, rfl, h⟩
  · replace h := h.2 c
    refine r_bipush (pc := 12) (tb_at tkX11_worst 6 rfl) ⟨by decide, by decide, by decide⟩ ?_
    exact r_iret (pc := 14) (tb_at tkX11_worst 7 rfl) rfl (Nat.le_refl _) (Nat.le_refl _) ⟨_, rfl, rfl, h⟩
set_option maxRecDepth 100000 in
set_option maxHeartbeats 4000000 in
theorem gX11_worst_32 {G : GE} {d : Nat} {K : Int → Mem → Prop} {M : Mem} {v1 v2 v3 v4 : Int}  (h : (((M 67 0) ≤ v4 → K v2 M) ∧ (v4 < (M 67 0) → CalV G miX11_noDelays d [.inr (.inr (some 66))] M (fun M1 => (0 ≤ v4 ∧ v4 < 7) ∧ CalI G miX11_allLate d [.inr (.inr (some 66))] (mup M1 90 (v4).toNat v1) (fun x3 M2 => OkI G miX11_worst (d + 1) K 32 [some (.inr (.inr (some 66))), some (.inl v1), some (.inl (if v3 < x3 then v4 else v2)), some (.inl (if v3 < x3 then x3 else v3)), some (.inl (w32 (v4 + 1))), none] [] M2))))) : OkI G miX11_worst (d + 1) K 32 [some (.inr (.inr (some 66))), some (.inl v1), some (.inl v2), some (.inl v3), some (.inl v4), none] [] M := by
  refine r_iload (pc := 32) (tb_at tkX11_worst 19 rfl) rfl ?_
  refine r_aload_n (pc := 34) (tb_at tkX11_worst 20 rfl) rfl rfl ?_
  refine r_get 10 0 (pc := 35) (tb_at tkX11_worst 21 rfl) ly_66 flX11_11 rfl ?_
  refine r_iconst (pc := 38) (tb_at tkX11_worst 22 rfl) ⟨by decide, by decide⟩ ?_
  refine r_iald_k (k0 := 0) (pc := 39) (tb_at tkX11_worst 23 rfl) ly_67 rfl (by decide) (by decide) ?_
  refine q_icmp_ge (tgt := 93) (pc := 40) (tb_at tkX11_worst 24 rfl) (by decide) (fun c => ?_) (fun c => ?_)
  · replace h := h.1 c
    refine r_iload_n (pc := 93) (tb_at tkX11_worst 51 rfl) rfl rfl ?_
    exact r_iret (pc := 94) (tb_at tkX11_worst 52 rfl) rfl (Nat.le_refl _) (Nat.le_refl _) ⟨_, rfl, rfl, h⟩
  · replace h := h.2 c
    refine r_aload_n (pc := 43) (tb_at tkX11_worst 25 rfl) rfl rfl ?_
    refine r_invV (mc' := 0) (ms' := 0) [] (S := []) (pc := 44) (tb_at tkX11_worst 26 rfl) rfl ly_66 rfl rfl clX11_352 (Nat.le_of_ble_eq_true rfl) (Nat.le_refl _) (Nat.le_refl _) ?_
    refine Cal.mono h ?_
    rintro _ _ M1 ⟨rfl, rfl, h⟩
    show OkI G miX11_worst (d + 1) K 47 [some (.inr (.inr (some 66))), some (.inl v1), some (.inl v2), some (.inl v3), some (.inl v4), none] [] M1
    refine r_aload_n (pc := 47) (tb_at tkX11_worst 27 rfl) rfl rfl ?_
    refine r_get 10 35 (pc := 48) (tb_at tkX11_worst 28 rfl) ly_66 flX11_82 rfl ?_
    refine r_iload (pc := 51) (tb_at tkX11_worst 29 rfl) rfl ?_
    refine r_iload_n (pc := 53) (tb_at tkX11_worst 30 rfl) rfl rfl ?_
    refine r_iast (pc := 54) (tb_at tkX11_worst 31 rfl) ly_90 h.1.1 h.1.2 rfl ?_
    replace h := h.2
    refine r_aload_n (pc := 55) (tb_at tkX11_worst 32 rfl) rfl rfl ?_
    refine r_invV (mc' := 0) (ms' := 0) [] (S := []) (pc := 56) (tb_at tkX11_worst 33 rfl) rfl ly_66 rfl rfl clX11_355 (Nat.le_of_ble_eq_true rfl) (Nat.le_refl _) (Nat.le_refl _) ?_
    refine Cal.mono h ?_
    rintro _ _ M2 ⟨x3, rfl, rfl, h⟩
    show OkI G miX11_worst (d + 1) K 59 [some (.inr (.inr (some 66))), some (.inl v1), some (.inl v2), some (.inl v3), some (.inl v4), none] [.inl x3] M2
    refine r_istore (L' := [some (.inr (.inr (some 66))), some (.inl v1), some (.inl v2), some (.inl v3), some (.inl v4), some (.inl x3)]) (pc := 59) (tb_at tkX11_worst 34 rfl) (by decide) rfl ?_
    refine r_iload (pc := 61) (tb_at tkX11_worst 35 rfl) rfl ?_
    refine r_iload_n (pc := 63) (tb_at tkX11_worst 36 rfl) rfl rfl ?_
    have hJ6 : ∀ t0 : Int, t0 = (if v3 < x3 then v4 else v2) → OkI G miX11_worst (d + 1) K 73 [some (.inr (.inr (some 66))), some (.inl v1), some (.inl v2), some (.inl v3), some (.inl v4), some (.inl x3)] [.inl t0] M2 := by
      rintro _ rfl
      refine r_istore_n (L' := [some (.inr (.inr (some 66))), some (.inl v1), some (.inl (if v3 < x3 then v4 else v2)), some (.inl v3), some (.inl v4), some (.inl x3)]) (pc := 73) (tb_at tkX11_worst 41 rfl) rfl (by decide) rfl ?_
      refine r_iload (pc := 74) (tb_at tkX11_worst 42 rfl) rfl ?_
      refine r_iload_n (pc := 76) (tb_at tkX11_worst 43 rfl) rfl rfl ?_
      have hJ4 : ∀ t0 : Int, t0 = (if v3 < x3 then x3 else v3) → OkI G miX11_worst (d + 1) K 86 [some (.inr (.inr (some 66))), some (.inl v1), some (.inl (if v3 < x3 then v4 else v2)), some (.inl v3), some (.inl v4), some (.inl x3)] [.inl t0] M2 := by
        rintro _ rfl
        refine r_istore_n (L' := [some (.inr (.inr (some 66))), some (.inl v1), some (.inl (if v3 < x3 then v4 else v2)), some (.inl (if v3 < x3 then x3 else v3)), some (.inl v4), some (.inl x3)]) (pc := 86) (tb_at tkX11_worst 48 rfl) rfl (by decide) rfl ?_
        refine r_iinc (L' := [some (.inr (.inr (some 66))), some (.inl v1), some (.inl (if v3 < x3 then v4 else v2)), some (.inl (if v3 < x3 then x3 else v3)), some (.inl (w32 (v4 + 1))), some (.inl x3)]) (pc := 87) (tb_at tkX11_worst 49 rfl) rfl (by decide) rfl ?_
        refine r_goto (tgt := 32) (pc := 90) (tb_at tkX11_worst 50 rfl) (by decide) ?_
        exact Ok.forget h (And.intro rfl (And.intro rfl (And.intro rfl (And.intro rfl (And.intro rfl trivial)))))
      refine q_icmp_le (tgt := 85) (pc := 77) (tb_at tkX11_worst 44 rfl) (by decide) (fun c5 => ?_) (fun c5 => ?_)
      · refine r_iload_n (pc := 85) (tb_at tkX11_worst 47 rfl) rfl rfl ?_
        exact hJ4 _ (by simp only [if_neg (Int.not_lt.mpr c5)])
      · refine r_iload (pc := 80) (tb_at tkX11_worst 45 rfl) rfl ?_
        refine r_goto (tgt := 86) (pc := 82) (tb_at tkX11_worst 46 rfl) (by decide) ?_
        exact hJ4 _ (by simp only [if_pos c5])
    refine q_icmp_le (tgt := 72) (pc := 64) (tb_at tkX11_worst 37 rfl) (by decide) (fun c7 => ?_) (fun c7 => ?_)
    · refine r_iload_n (pc := 72) (tb_at tkX11_worst 40 rfl) rfl rfl ?_
      exact hJ6 _ (by simp only [if_neg (Int.not_lt.mpr c7)])
    · refine r_iload (pc := 67) (tb_at tkX11_worst 38 rfl) rfl ?_
      refine r_goto (tgt := 73) (pc := 69) (tb_at tkX11_worst 39 rfl) (by decide) ?_
      exact hJ6 _ (by simp only [if_pos c7])
set_option maxRecDepth 100000 in
set_option maxHeartbeats 4000000 in
theorem gX11_lateBy_0 {G : GE} {d : Nat} {K : Int → Mem → Prop} {M : Mem} {v1 v2 : Int}  (h : CalV G miX11_noDelays d [.inr (.inr (some 66))] M (fun M1 => OkI G miX11_lateBy (d + 1) K 9 [some (.inr (.inr (some 66))), none, some (.inl v2), some (.inl v1), some (.inl 0)] [] M1)) : OkI G miX11_lateBy (d + 1) K 0 [some (.inr (.inr (some 66))), some (.inl v1), some (.inl v2), none, none] [] M := by
  refine r_iload_n (pc := 0) (tb_at tkX11_lateBy 0 rfl) rfl rfl ?_
  refine r_istore_n (L' := [some (.inr (.inr (some 66))), some (.inl v1), some (.inl v2), some (.inl v1), none]) (pc := 1) (tb_at tkX11_lateBy 1 rfl) rfl (by decide) rfl ?_
  refine r_aload_n (pc := 2) (tb_at tkX11_lateBy 2 rfl) rfl rfl ?_
  refine r_invV (mc' := 0) (ms' := 0) [] (S := []) (pc := 3) (tb_at tkX11_lateBy 3 rfl) rfl ly_66 rfl rfl clX11_352 (Nat.le_of_ble_eq_true rfl) (Nat.le_refl _) (Nat.le_refl _) ?_
  refine Cal.mono h ?_
  rintro _ _ M1 ⟨rfl, rfl, h⟩
  show OkI G miX11_lateBy (d + 1) K 6 [some (.inr (.inr (some 66))), some (.inl v1), some (.inl v2), some (.inl v1), none] [] M1
  refine r_iconst (pc := 6) (tb_at tkX11_lateBy 4 rfl) ⟨by decide, by decide⟩ ?_
  refine r_istore (L' := [some (.inr (.inr (some 66))), some (.inl v1), some (.inl v2), some (.inl v1), some (.inl 0)]) (pc := 7) (tb_at tkX11_lateBy 5 rfl) (by decide) rfl ?_
  exact Ok.forget h (And.intro rfl (And.intro rfl (And.intro rfl (And.intro rfl trivial))))
set_option maxRecDepth 100000 in
set_option maxHeartbeats 4000000 in
theorem gX11_lateBy_9 {G : GE} {d : Nat} {K : Int → Mem → Prop} {M : Mem} {v2 v3 v4 : Int}  (h : (((M 67 0) ≤ v4 → CalI G miX11_allLate d [.inr (.inr (some 66))] M (fun x2 M1 => K x2 M1)) ∧ (v4 < (M 67 0) → ¬ v2 = 0 ∧ (0 ≤ v4 ∧ v4 < 7) ∧ OkI G miX11_lateBy (d + 1) K 9 [some (.inr (.inr (some 66))), none, some (.inl v2), some (.inl (w32 ((v3 * 1103515245) + 12345))), some (.inl (w32 (v4 + 1)))] [] (mup M 90 (v4).toNat (irem (iushr (w32 ((v3 * 1103515245) + 12345)) 9) v2))))) : OkI G miX11_lateBy (d + 1) K 9 [some (.inr (.inr (some 66))), none, some (.inl v2), some (.inl v3), some (.inl v4)] [] M := by
  refine r_iload (pc := 9) (tb_at tkX11_lateBy 6 rfl) rfl ?_
  refine r_aload_n (pc := 11) (tb_at tkX11_lateBy 7 rfl) rfl rfl ?_
  refine r_get 10 0 (pc := 12) (tb_at tkX11_lateBy 8 rfl) ly_66 flX11_11 rfl ?_
  refine r_iconst (pc := 15) (tb_at tkX11_lateBy 9 rfl) ⟨by decide, by decide⟩ ?_
  refine r_iald_k (k0 := 0) (pc := 16) (tb_at tkX11_lateBy 10 rfl) ly_67 rfl (by decide) (by decide) ?_
  refine q_icmp_ge (tgt := 49) (pc := 17) (tb_at tkX11_lateBy 11 rfl) (by decide) (fun c => ?_) (fun c => ?_)
  · replace h := h.1 c
    refine r_aload_n (pc := 49) (tb_at tkX11_lateBy 29 rfl) rfl rfl ?_
    refine r_invV (mc' := 0) (ms' := 0) [] (S := []) (pc := 50) (tb_at tkX11_lateBy 30 rfl) rfl ly_66 rfl rfl clX11_355 (Nat.le_of_ble_eq_true rfl) (Nat.le_refl _) (Nat.le_refl _) ?_
    refine Cal.mono h ?_
    rintro _ _ M1 ⟨x2, rfl, rfl, h⟩
    show OkI G miX11_lateBy (d + 1) K 53 [some (.inr (.inr (some 66))), none, some (.inl v2), some (.inl v3), some (.inl v4)] [.inl x2] M1
    exact r_iret (pc := 53) (tb_at tkX11_lateBy 31 rfl) rfl (Nat.le_refl _) (Nat.le_refl _) ⟨_, rfl, rfl, h⟩
  · replace h := h.2 c
    refine r_iload_n (pc := 20) (tb_at tkX11_lateBy 12 rfl) rfl rfl ?_
    refine r_ldcw (n := 1103515245) (pc := 21) (tb_at tkX11_lateBy 13 rfl) kcX11_358 ⟨by decide, by decide⟩ ?_
    refine r_imul (pc := 24) (tb_at tkX11_lateBy 14 rfl) ?_
    refine r_sipush (pc := 25) (tb_at tkX11_lateBy 15 rfl) ⟨by decide, by decide, by decide⟩ ?_
    refine r_iadd_l (pc := 28) (tb_at tkX11_lateBy 16 rfl) ?_
    refine r_istore_n (L' := [some (.inr (.inr (some 66))), none, some (.inl v2), some (.inl (w32 ((v3 * 1103515245) + 12345))), some (.inl v4)]) (pc := 29) (tb_at tkX11_lateBy 17 rfl) rfl (by decide) rfl ?_
    refine r_aload_n (pc := 30) (tb_at tkX11_lateBy 18 rfl) rfl rfl ?_
    refine r_get 10 35 (pc := 31) (tb_at tkX11_lateBy 19 rfl) ly_66 flX11_82 rfl ?_
    refine r_iload (pc := 34) (tb_at tkX11_lateBy 20 rfl) rfl ?_
    refine r_iload_n (pc := 36) (tb_at tkX11_lateBy 21 rfl) rfl rfl ?_
    refine r_bipush (pc := 37) (tb_at tkX11_lateBy 22 rfl) ⟨by decide, by decide, by decide⟩ ?_
    refine r_iushr (pc := 39) (tb_at tkX11_lateBy 23 rfl) ?_
    refine r_iload_n (pc := 40) (tb_at tkX11_lateBy 24 rfl) rfl rfl ?_
    refine r_irem (pc := 41) (tb_at tkX11_lateBy 25 rfl) h.1 ?_
    replace h := h.2
    refine r_iast (pc := 42) (tb_at tkX11_lateBy 26 rfl) ly_90 h.1.1 h.1.2 rfl ?_
    replace h := h.2
    refine r_iinc (L' := [some (.inr (.inr (some 66))), none, some (.inl v2), some (.inl (w32 ((v3 * 1103515245) + 12345))), some (.inl (w32 (v4 + 1)))]) (pc := 43) (tb_at tkX11_lateBy 27 rfl) rfl (by decide) rfl ?_
    refine r_goto (tgt := 9) (pc := 46) (tb_at tkX11_lateBy 28 rfl) (by decide) ?_
    exact h
set_option maxRecDepth 100000 in
set_option maxHeartbeats 4000000 in
theorem gX11_drawn_0 {G : GE} {d : Nat} {K : Int → Mem → Prop} {M : Mem} {v1 v2 : Int}  (h : CalI G miX11_in d [.inr (.inl v2), .inr (.inl 1), .inr (.inl 99)] M (fun x2 M1 => ((¬ x2 = 0 → CalI G miX11_hasCover d [.inr (.inr (some 66))] M1 (fun x4 M3 => ((x4 = 0 → K (-3) M3) ∧ (¬ x4 = 0 → CalI G miX11_lateBy d [.inr (.inr (some 66)), .inl v1, .inl v2] M3 (fun x6 M5 => K x6 M5))))) ∧ (x2 = 0 → K (-2) M1)))) : OkI G miX11_drawn (d + 1) K 0 [some (.inr (.inr (some 66))), some (.inl v1), some (.inl v2)] [] M := by
  refine r_iload_n (pc := 0) (tb_at tkX11_drawn 0 rfl) rfl rfl ?_
  refine r_i2l (pc := 1) (tb_at tkX11_drawn 1 rfl) ?_
  refine r_lconst (v := 1) (pc := 2) (tb_at tkX11_drawn 2 rfl) ⟨by decide, by decide, by decide⟩ ?_
  refine r_ldc2 (n := 99) (pc := 3) (tb_at tkX11_drawn 3 rfl) kcX11_152 ⟨by decide, by decide⟩ ?_
  refine r_invS (mc' := 0) (ms' := 0) [.inr (.inl v2), .inr (.inl 1), .inr (.inl 99)] (S := []) (pc := 6) (tb_at tkX11_drawn 4 rfl) rfl clX11_103 (Nat.le_of_ble_eq_true rfl) (Nat.le_refl _) (Nat.le_refl _) ?_
  refine Cal.mono h ?_
  rintro _ _ M1 ⟨x2, rfl, rfl, h⟩
  show OkI G miX11_drawn (d + 1) K 9 [some (.inr (.inr (some 66))), some (.inl v1), some (.inl v2)] [.inl x2] M1
  refine q_if_ne (tgt := 15) (pc := 9) (tb_at tkX11_drawn 5 rfl) (by decide) (fun c => ?_) (fun c => ?_)
  · replace h := h.1 c
    refine r_aload_n (pc := 15) (tb_at tkX11_drawn 8 rfl) rfl rfl ?_
    refine r_invV (mc' := 0) (ms' := 0) [] (S := []) (pc := 16) (tb_at tkX11_drawn 9 rfl) rfl ly_66 rfl rfl clX11_349 (Nat.le_of_ble_eq_true rfl) (Nat.le_refl _) (Nat.le_refl _) ?_
    refine Cal.mono h ?_
    rintro _ _ M3 ⟨x4, rfl, rfl, h⟩
    show OkI G miX11_drawn (d + 1) K 19 [some (.inr (.inr (some 66))), some (.inl v1), some (.inl v2)] [.inl x4] M3
    refine q_if_eq (tgt := 31) (pc := 19) (tb_at tkX11_drawn 10 rfl) (by decide) (fun c => ?_) (fun c => ?_)
    · replace h := h.1 c
      refine r_bipush (pc := 31) (tb_at tkX11_drawn 16 rfl) ⟨by decide, by decide, by decide⟩ ?_
      exact r_iret (pc := 33) (tb_at tkX11_drawn 17 rfl) rfl (Nat.le_refl _) (Nat.le_refl _) ⟨_, rfl, rfl, h⟩
    · replace h := h.2 c
      refine r_aload_n (pc := 22) (tb_at tkX11_drawn 11 rfl) rfl rfl ?_
      refine r_iload_n (pc := 23) (tb_at tkX11_drawn 12 rfl) rfl rfl ?_
      refine r_iload_n (pc := 24) (tb_at tkX11_drawn 13 rfl) rfl rfl ?_
      refine r_invV (mc' := 0) (ms' := 0) [.inl v1, .inl v2] (S := []) (pc := 25) (tb_at tkX11_drawn 14 rfl) rfl ly_66 rfl rfl clX11_359 (Nat.le_of_ble_eq_true rfl) (Nat.le_refl _) (Nat.le_refl _) ?_
      refine Cal.mono h ?_
      rintro _ _ M5 ⟨x6, rfl, rfl, h⟩
      show OkI G miX11_drawn (d + 1) K 28 [some (.inr (.inr (some 66))), some (.inl v1), some (.inl v2)] [.inl x6] M5
      refine r_goto (tgt := 33) (pc := 28) (tb_at tkX11_drawn 15 rfl) (by decide) ?_
      exact r_iret (pc := 33) (tb_at tkX11_drawn 17 rfl) rfl (Nat.le_refl _) (Nat.le_refl _) ⟨_, rfl, rfl, h⟩
  · replace h := h.2 c
    refine r_bipush (pc := 12) (tb_at tkX11_drawn 6 rfl) ⟨by decide, by decide, by decide⟩ ?_
    exact r_iret (pc := 14) (tb_at tkX11_drawn 7 rfl) rfl (Nat.le_refl _) (Nat.le_refl _) ⟨_, rfl, rfl, h⟩
set_option maxRecDepth 100000 in
set_option maxHeartbeats 4000000 in
theorem gX11_chance_0 {G : GE} {d : Nat} {K : Int → Mem → Prop} {M : Mem} {v1 v2 v3 v4 v5 : Int}  (h : CalI G miX11_in d [.inr (.inl v2), .inr (.inl 1), .inr (.inl 20)] M (fun x2 M1 => ((x2 = 0 → K (-2) M1) ∧ (¬ x2 = 0 → CalI G miX11_in d [.inr (.inl v3), .inr (.inl 1), .inr (.inl 99)] M1 (fun x4 M3 => ((x4 = 0 → K (-2) M3) ∧ (¬ x4 = 0 → CalI G miX11_in d [.inr (.inl v4), .inr (.inl 0), .inr (.inl 9999)] M3 (fun x6 M5 => ((x6 = 0 → K (-2) M5) ∧ (¬ x6 = 0 → CalI G miX11_in d [.inr (.inl v5), .inr (.inl 0), .inr (.inl 1)] M5 (fun x8 M7 => ((¬ x8 = 0 → CalI G miX11_hasCover d [.inr (.inr (some 66))] M7 (fun x10 M9 => ((¬ x10 = 0 → OkI G miX11_chance (d + 1) K 67 [some (.inr (.inr (some 66))), some (.inl v1), some (.inl v2), some (.inl v3), some (.inl v4), some (.inl v5), some (.inl 0), some (.inl 0)] [] M9) ∧ (x10 = 0 → K (-3) M9)))) ∧ (x8 = 0 → K (-2) M7))))))))))))) : OkI G miX11_chance (d + 1) K 0 [some (.inr (.inr (some 66))), some (.inl v1), some (.inl v2), some (.inl v3), some (.inl v4), some (.inl v5), none, none] [] M := by
  refine r_iload_n (pc := 0) (tb_at tkX11_chance 0 rfl) rfl rfl ?_
  refine r_i2l (pc := 1) (tb_at tkX11_chance 1 rfl) ?_
  refine r_lconst (v := 1) (pc := 2) (tb_at tkX11_chance 2 rfl) ⟨by decide, by decide, by decide⟩ ?_
  refine r_ldc2 (n := 20) (pc := 3) (tb_at tkX11_chance 3 rfl) kcX11_150 ⟨by decide, by decide⟩ ?_
  refine r_invS (mc' := 0) (ms' := 0) [.inr (.inl v2), .inr (.inl 1), .inr (.inl 20)] (S := []) (pc := 6) (tb_at tkX11_chance 4 rfl) rfl clX11_103 (Nat.le_of_ble_eq_true rfl) (Nat.le_refl _) (Nat.le_refl _) ?_
  refine Cal.mono h ?_
  rintro _ _ M1 ⟨x2, rfl, rfl, h⟩
  show OkI G miX11_chance (d + 1) K 9 [some (.inr (.inr (some 66))), some (.inl v1), some (.inl v2), some (.inl v3), some (.inl v4), some (.inl v5), none, none] [.inl x2] M1
  refine q_if_eq (tgt := 48) (pc := 9) (tb_at tkX11_chance 5 rfl) (by decide) (fun c => ?_) (fun c => ?_)
  · replace h := h.1 c
    refine r_bipush (pc := 48) (tb_at tkX11_chance 24 rfl) ⟨by decide, by decide, by decide⟩ ?_
    exact r_iret (pc := 50) (tb_at tkX11_chance 25 rfl) rfl (Nat.le_refl _) (Nat.le_refl _) ⟨_, rfl, rfl, h⟩
  · replace h := h.2 c
    refine r_iload_n (pc := 12) (tb_at tkX11_chance 6 rfl) rfl rfl ?_
    refine r_i2l (pc := 13) (tb_at tkX11_chance 7 rfl) ?_
    refine r_lconst (v := 1) (pc := 14) (tb_at tkX11_chance 8 rfl) ⟨by decide, by decide, by decide⟩ ?_
    refine r_ldc2 (n := 99) (pc := 15) (tb_at tkX11_chance 9 rfl) kcX11_152 ⟨by decide, by decide⟩ ?_
    refine r_invS (mc' := 0) (ms' := 0) [.inr (.inl v3), .inr (.inl 1), .inr (.inl 99)] (S := []) (pc := 18) (tb_at tkX11_chance 10 rfl) rfl clX11_103 (Nat.le_of_ble_eq_true rfl) (Nat.le_refl _) (Nat.le_refl _) ?_
    refine Cal.mono h ?_
    rintro _ _ M3 ⟨x4, rfl, rfl, h⟩
    show OkI G miX11_chance (d + 1) K 21 [some (.inr (.inr (some 66))), some (.inl v1), some (.inl v2), some (.inl v3), some (.inl v4), some (.inl v5), none, none] [.inl x4] M3
    refine q_if_eq (tgt := 48) (pc := 21) (tb_at tkX11_chance 11 rfl) (by decide) (fun c => ?_) (fun c => ?_)
    · replace h := h.1 c
      refine r_bipush (pc := 48) (tb_at tkX11_chance 24 rfl) ⟨by decide, by decide, by decide⟩ ?_
      exact r_iret (pc := 50) (tb_at tkX11_chance 25 rfl) rfl (Nat.le_refl _) (Nat.le_refl _) ⟨_, rfl, rfl, h⟩
    · replace h := h.2 c
      refine r_iload (pc := 24) (tb_at tkX11_chance 12 rfl) rfl ?_
      refine r_i2l (pc := 26) (tb_at tkX11_chance 13 rfl) ?_
      refine r_lconst (v := 0) (pc := 27) (tb_at tkX11_chance 14 rfl) ⟨by decide, by decide, by decide⟩ ?_
      refine r_ldc2 (n := 9999) (pc := 28) (tb_at tkX11_chance 15 rfl) kcX11_362 ⟨by decide, by decide⟩ ?_
      refine r_invS (mc' := 0) (ms' := 0) [.inr (.inl v4), .inr (.inl 0), .inr (.inl 9999)] (S := []) (pc := 31) (tb_at tkX11_chance 16 rfl) rfl clX11_103 (Nat.le_of_ble_eq_true rfl) (Nat.le_refl _) (Nat.le_refl _) ?_
      refine Cal.mono h ?_
      rintro _ _ M5 ⟨x6, rfl, rfl, h⟩
      show OkI G miX11_chance (d + 1) K 34 [some (.inr (.inr (some 66))), some (.inl v1), some (.inl v2), some (.inl v3), some (.inl v4), some (.inl v5), none, none] [.inl x6] M5
      refine q_if_eq (tgt := 48) (pc := 34) (tb_at tkX11_chance 17 rfl) (by decide) (fun c => ?_) (fun c => ?_)
      · replace h := h.1 c
        refine r_bipush (pc := 48) (tb_at tkX11_chance 24 rfl) ⟨by decide, by decide, by decide⟩ ?_
        exact r_iret (pc := 50) (tb_at tkX11_chance 25 rfl) rfl (Nat.le_refl _) (Nat.le_refl _) ⟨_, rfl, rfl, h⟩
      · replace h := h.2 c
        refine r_iload (pc := 37) (tb_at tkX11_chance 18 rfl) rfl ?_
        refine r_i2l (pc := 39) (tb_at tkX11_chance 19 rfl) ?_
        refine r_lconst (v := 0) (pc := 40) (tb_at tkX11_chance 20 rfl) ⟨by decide, by decide, by decide⟩ ?_
        refine r_lconst (v := 1) (pc := 41) (tb_at tkX11_chance 21 rfl) ⟨by decide, by decide, by decide⟩ ?_
        refine r_invS (mc' := 0) (ms' := 0) [.inr (.inl v5), .inr (.inl 0), .inr (.inl 1)] (S := []) (pc := 42) (tb_at tkX11_chance 22 rfl) rfl clX11_103 (Nat.le_of_ble_eq_true rfl) (Nat.le_refl _) (Nat.le_refl _) ?_
        refine Cal.mono h ?_
        rintro _ _ M7 ⟨x8, rfl, rfl, h⟩
        show OkI G miX11_chance (d + 1) K 45 [some (.inr (.inr (some 66))), some (.inl v1), some (.inl v2), some (.inl v3), some (.inl v4), some (.inl v5), none, none] [.inl x8] M7
        refine q_if_ne (tgt := 51) (pc := 45) (tb_at tkX11_chance 23 rfl) (by decide) (fun c => ?_) (fun c => ?_)
        · replace h := h.1 c
          refine r_aload_n (pc := 51) (tb_at tkX11_chance 26 rfl) rfl rfl ?_
          refine r_invV (mc' := 0) (ms' := 0) [] (S := []) (pc := 52) (tb_at tkX11_chance 27 rfl) rfl ly_66 rfl rfl clX11_349 (Nat.le_of_ble_eq_true rfl) (Nat.le_refl _) (Nat.le_refl _) ?_
          refine Cal.mono h ?_
          rintro _ _ M9 ⟨x10, rfl, rfl, h⟩
          show OkI G miX11_chance (d + 1) K 55 [some (.inr (.inr (some 66))), some (.inl v1), some (.inl v2), some (.inl v3), some (.inl v4), some (.inl v5), none, none] [.inl x10] M9
          refine q_if_ne (tgt := 61) (pc := 55) (tb_at tkX11_chance 28 rfl) (by decide) (fun c => ?_) (fun c => ?_)
          · replace h := h.1 c
            refine r_iconst (pc := 61) (tb_at tkX11_chance 31 rfl) ⟨by decide, by decide⟩ ?_
            refine r_istore (L' := [some (.inr (.inr (some 66))), some (.inl v1), some (.inl v2), some (.inl v3), some (.inl v4), some (.inl v5), some (.inl 0), none]) (pc := 62) (tb_at tkX11_chance 32 rfl) (by decide) rfl ?_
            refine r_iconst (pc := 64) (tb_at tkX11_chance 33 rfl) ⟨by decide, by decide⟩ ?_
            refine r_istore (L' := [some (.inr (.inr (some 66))), some (.inl v1), some (.inl v2), some (.inl v3), some (.inl v4), some (.inl v5), some (.inl 0), some (.inl 0)]) (pc := 65) (tb_at tkX11_chance 34 rfl) (by decide) rfl ?_
            exact h
          · replace h := h.2 c
            refine r_bipush (pc := 58) (tb_at tkX11_chance 29 rfl) ⟨by decide, by decide, by decide⟩ ?_
            exact r_iret (pc := 60) (tb_at tkX11_chance 30 rfl) rfl (Nat.le_refl _) (Nat.le_refl _) ⟨_, rfl, rfl, h⟩
        · replace h := h.2 c
          refine r_bipush (pc := 48) (tb_at tkX11_chance 24 rfl) ⟨by decide, by decide, by decide⟩ ?_
          exact r_iret (pc := 50) (tb_at tkX11_chance 25 rfl) rfl (Nat.le_refl _) (Nat.le_refl _) ⟨_, rfl, rfl, h⟩
set_option maxRecDepth 100000 in
set_option maxHeartbeats 4000000 in
theorem gX11_chance_67 {G : GE} {d : Nat} {K : Int → Mem → Prop} {M : Mem} {v1 v2 v3 v4 v5 v6 v7 : Int}  (h : ((v2 ≤ v7 → CalL G miX11_lowest d [.inr (.inl v6), .inr (.inl v2), .inl v5] M (fun x2 M1 => K (w32 x2) M1)) ∧ (v7 < v2 → CalI G miX11_lateBy d [.inr (.inr (some 66)), .inl (w32 (v1 + v7)), .inl v3] M (fun x4 M3 => OkI G miX11_chance (d + 1) K 67 [some (.inr (.inr (some 66))), some (.inl v1), some (.inl v2), some (.inl v3), some (.inl v4), some (.inl v5), some (.inl (w32 (v6 + (if ¬ (v4 < x4) then (1 : Int) else 0)))), some (.inl (w32 (v7 + 1)))] [] M3)))) : OkI G miX11_chance (d + 1) K 67 [some (.inr (.inr (some 66))), some (.inl v1), some (.inl v2), some (.inl v3), some (.inl v4), some (.inl v5), some (.inl v6), some (.inl v7)] [] M := by
  refine r_iload (pc := 67) (tb_at tkX11_chance 35 rfl) rfl ?_
  refine r_iload_n (pc := 69) (tb_at tkX11_chance 36 rfl) rfl rfl ?_
  refine q_icmp_ge (tgt := 103) (pc := 70) (tb_at tkX11_chance 37 rfl) (by decide) (fun c => ?_) (fun c => ?_)
  · replace h := h.1 c
    refine r_iload (pc := 103) (tb_at tkX11_chance 54 rfl) rfl ?_
    refine r_i2l (pc := 105) (tb_at tkX11_chance 55 rfl) ?_
    refine r_iload_n (pc := 106) (tb_at tkX11_chance 56 rfl) rfl rfl ?_
    refine r_i2l (pc := 107) (tb_at tkX11_chance 57 rfl) ?_
    refine r_iload (pc := 108) (tb_at tkX11_chance 58 rfl) rfl ?_
    refine r_invS (mc' := 0) (ms' := 0) [.inr (.inl v6), .inr (.inl v2), .inl v5] (S := []) (pc := 110) (tb_at tkX11_chance 59 rfl) rfl clX11_273 (Nat.le_of_ble_eq_true rfl) (Nat.le_refl _) (Nat.le_refl _) ?_
    refine Cal.mono h ?_
    rintro _ _ M1 ⟨x2, rfl, rfl, h⟩
    show OkI G miX11_chance (d + 1) K 113 [some (.inr (.inr (some 66))), some (.inl v1), some (.inl v2), some (.inl v3), some (.inl v4), some (.inl v5), some (.inl v6), some (.inl v7)] [.inr (.inl x2)] M1
    refine r_l2i (pc := 113) (tb_at tkX11_chance 60 rfl) ?_
    exact r_iret (pc := 114) (tb_at tkX11_chance 61 rfl) rfl (Nat.le_refl _) (Nat.le_refl _) ⟨_, rfl, rfl, h⟩
  · replace h := h.2 c
    refine r_iload (pc := 73) (tb_at tkX11_chance 38 rfl) rfl ?_
    refine r_aload_n (pc := 75) (tb_at tkX11_chance 39 rfl) rfl rfl ?_
    refine r_iload_n (pc := 76) (tb_at tkX11_chance 40 rfl) rfl rfl ?_
    refine r_iload (pc := 77) (tb_at tkX11_chance 41 rfl) rfl ?_
    refine r_iadd (pc := 79) (tb_at tkX11_chance 42 rfl) ?_
    refine r_iload_n (pc := 80) (tb_at tkX11_chance 43 rfl) rfl rfl ?_
    refine r_invV (mc' := 0) (ms' := 0) [.inl (w32 (v1 + v7)), .inl v3] (S := [.inl v6]) (pc := 81) (tb_at tkX11_chance 44 rfl) rfl ly_66 rfl rfl clX11_359 (Nat.le_of_ble_eq_true rfl) (Nat.le_refl _) (Nat.le_refl _) ?_
    refine Cal.mono h ?_
    rintro _ _ M3 ⟨x4, rfl, rfl, h⟩
    show OkI G miX11_chance (d + 1) K 84 [some (.inr (.inr (some 66))), some (.inl v1), some (.inl v2), some (.inl v3), some (.inl v4), some (.inl v5), some (.inl v6), some (.inl v7)] [.inl x4, .inl v6] M3
    refine r_iload (pc := 84) (tb_at tkX11_chance 45 rfl) rfl ?_
    have hJ5 : ∀ t0 : Int, t0 = (if ¬ (v4 < x4) then (1 : Int) else 0) → OkI G miX11_chance (d + 1) K 94 [some (.inr (.inr (some 66))), some (.inl v1), some (.inl v2), some (.inl v3), some (.inl v4), some (.inl v5), some (.inl v6), some (.inl v7)] [.inl t0, .inl v6] M3 := by
      rintro _ rfl
      refine r_iadd (pc := 94) (tb_at tkX11_chance 50 rfl) ?_
      refine r_istore (L' := [some (.inr (.inr (some 66))), some (.inl v1), some (.inl v2), some (.inl v3), some (.inl v4), some (.inl v5), some (.inl (w32 (v6 + (if ¬ (v4 < x4) then (1 : Int) else 0)))), some (.inl v7)]) (pc := 95) (tb_at tkX11_chance 51 rfl) (by decide) rfl ?_
      refine r_iinc (L' := [some (.inr (.inr (some 66))), some (.inl v1), some (.inl v2), some (.inl v3), some (.inl v4), some (.inl v5), some (.inl (w32 (v6 + (if ¬ (v4 < x4) then (1 : Int) else 0)))), some (.inl (w32 (v7 + 1)))]) (pc := 97) (tb_at tkX11_chance 52 rfl) rfl (by decide) rfl ?_
      refine r_goto (tgt := 67) (pc := 100) (tb_at tkX11_chance 53 rfl) (by decide) ?_
      exact h
    refine q_icmp_gt (tgt := 93) (pc := 86) (tb_at tkX11_chance 46 rfl) (by decide) (fun c6 => ?_) (fun c6 => ?_)
    · refine r_iconst (pc := 93) (tb_at tkX11_chance 49 rfl) ⟨by decide, by decide⟩ ?_
      exact hJ5 _ (by simp only [if_neg (not_not_intro c6)])
    · refine r_iconst (pc := 89) (tb_at tkX11_chance 47 rfl) ⟨by decide, by decide⟩ ?_
      refine r_goto (tgt := 94) (pc := 90) (tb_at tkX11_chance 48 rfl) (by decide) ?_
      exact hJ5 _ (by simp only [if_pos (Int.not_lt.mpr c6)])
set_option maxRecDepth 100000 in
set_option maxHeartbeats 4000000 in
theorem gX11_feed_0 {G : GE} {d : Nat} {K : Int → Mem → Prop} {M : Mem} {v1 v2 v3 v4 v5 v6 : Int}  (h : CalI G miX11_in d [.inr (.inl v1), .inr (.inl 1), .inr (.inl 5)] M (fun x2 M1 => ((x2 = 0 → K (-2) M1) ∧ (¬ x2 = 0 → CalI G miX11_in d [.inr (.inl v2), .inr (.inl 0), .inr (.inl 255)] M1 (fun x4 M3 => ((x4 = 0 → K (-2) M3) ∧ (¬ x4 = 0 → CalI G miX11_in d [.inr (.inl v3), .inr (.inl 0), .inr (.inl 255)] M3 (fun x6 M5 => ((x6 = 0 → K (-2) M5) ∧ (¬ x6 = 0 → CalI G miX11_in d [.inr (.inl v4), .inr (.inl 0), .inr (.inl 255)] M5 (fun x8 M7 => ((x8 = 0 → K (-2) M7) ∧ (¬ x8 = 0 → CalI G miX11_in d [.inr (.inl v5), .inr (.inl 0), .inr (.inl 255)] M7 (fun x10 M9 => ((x10 = 0 → K (-2) M9) ∧ (¬ x10 = 0 → CalI G miX11_in d [.inr (.inl v6), .inr (.inl 0), .inr (.inl 255)] M9 (fun x12 M11 => ((¬ x12 = 0 → (((w32 ((M11 66 39) + v1)) ≤ 60 → OkI G miX11_feed (d + 1) K 95 [some (.inr (.inr (some 66))), some (.inl v1), some (.inl v2), some (.inl v3), some (.inl v4), some (.inl v5), some (.inl v6), some (.inl 0)] [] M11) ∧ (60 < (w32 ((M11 66 39) + v1)) → K (-4) M11))) ∧ (x12 = 0 → K (-2) M11))))))))))))))))))) : OkI G miX11_feed (d + 1) K 0 [some (.inr (.inr (some 66))), some (.inl v1), some (.inl v2), some (.inl v3), some (.inl v4), some (.inl v5), some (.inl v6), none] [] M := by
  refine r_iload_n (pc := 0) (tb_at tkX11_feed 0 rfl) rfl rfl ?_
  refine r_i2l (pc := 1) (tb_at tkX11_feed 1 rfl) ?_
  refine r_lconst (v := 1) (pc := 2) (tb_at tkX11_feed 2 rfl) ⟨by decide, by decide, by decide⟩ ?_
  refine r_ldc2 (n := 5) (pc := 3) (tb_at tkX11_feed 3 rfl) kcX11_122 ⟨by decide, by decide⟩ ?_
  refine r_invS (mc' := 0) (ms' := 0) [.inr (.inl v1), .inr (.inl 1), .inr (.inl 5)] (S := []) (pc := 6) (tb_at tkX11_feed 4 rfl) rfl clX11_103 (Nat.le_of_ble_eq_true rfl) (Nat.le_refl _) (Nat.le_refl _) ?_
  refine Cal.mono h ?_
  rintro _ _ M1 ⟨x2, rfl, rfl, h⟩
  show OkI G miX11_feed (d + 1) K 9 [some (.inr (.inr (some 66))), some (.inl v1), some (.inl v2), some (.inl v3), some (.inl v4), some (.inl v5), some (.inl v6), none] [.inl x2] M1
  refine q_if_eq (tgt := 75) (pc := 9) (tb_at tkX11_feed 5 rfl) (by decide) (fun c => ?_) (fun c => ?_)
  · replace h := h.1 c
    refine r_bipush (pc := 75) (tb_at tkX11_feed 36 rfl) ⟨by decide, by decide, by decide⟩ ?_
    exact r_iret (pc := 77) (tb_at tkX11_feed 37 rfl) rfl (Nat.le_refl _) (Nat.le_refl _) ⟨_, rfl, rfl, h⟩
  · replace h := h.2 c
    refine r_iload_n (pc := 12) (tb_at tkX11_feed 6 rfl) rfl rfl ?_
    refine r_i2l (pc := 13) (tb_at tkX11_feed 7 rfl) ?_
    refine r_lconst (v := 0) (pc := 14) (tb_at tkX11_feed 8 rfl) ⟨by decide, by decide, by decide⟩ ?_
    refine r_ldc2 (n := 255) (pc := 15) (tb_at tkX11_feed 9 rfl) kcX11_364 ⟨by decide, by decide⟩ ?_
    refine r_invS (mc' := 0) (ms' := 0) [.inr (.inl v2), .inr (.inl 0), .inr (.inl 255)] (S := []) (pc := 18) (tb_at tkX11_feed 10 rfl) rfl clX11_103 (Nat.le_of_ble_eq_true rfl) (Nat.le_refl _) (Nat.le_refl _) ?_
    refine Cal.mono h ?_
    rintro _ _ M3 ⟨x4, rfl, rfl, h⟩
    show OkI G miX11_feed (d + 1) K 21 [some (.inr (.inr (some 66))), some (.inl v1), some (.inl v2), some (.inl v3), some (.inl v4), some (.inl v5), some (.inl v6), none] [.inl x4] M3
    refine q_if_eq (tgt := 75) (pc := 21) (tb_at tkX11_feed 11 rfl) (by decide) (fun c => ?_) (fun c => ?_)
    · replace h := h.1 c
      refine r_bipush (pc := 75) (tb_at tkX11_feed 36 rfl) ⟨by decide, by decide, by decide⟩ ?_
      exact r_iret (pc := 77) (tb_at tkX11_feed 37 rfl) rfl (Nat.le_refl _) (Nat.le_refl _) ⟨_, rfl, rfl, h⟩
    · replace h := h.2 c
      refine r_iload_n (pc := 24) (tb_at tkX11_feed 12 rfl) rfl rfl ?_
      refine r_i2l (pc := 25) (tb_at tkX11_feed 13 rfl) ?_
      refine r_lconst (v := 0) (pc := 26) (tb_at tkX11_feed 14 rfl) ⟨by decide, by decide, by decide⟩ ?_
      refine r_ldc2 (n := 255) (pc := 27) (tb_at tkX11_feed 15 rfl) kcX11_364 ⟨by decide, by decide⟩ ?_
      refine r_invS (mc' := 0) (ms' := 0) [.inr (.inl v3), .inr (.inl 0), .inr (.inl 255)] (S := []) (pc := 30) (tb_at tkX11_feed 16 rfl) rfl clX11_103 (Nat.le_of_ble_eq_true rfl) (Nat.le_refl _) (Nat.le_refl _) ?_
      refine Cal.mono h ?_
      rintro _ _ M5 ⟨x6, rfl, rfl, h⟩
      show OkI G miX11_feed (d + 1) K 33 [some (.inr (.inr (some 66))), some (.inl v1), some (.inl v2), some (.inl v3), some (.inl v4), some (.inl v5), some (.inl v6), none] [.inl x6] M5
      refine q_if_eq (tgt := 75) (pc := 33) (tb_at tkX11_feed 17 rfl) (by decide) (fun c => ?_) (fun c => ?_)
      · replace h := h.1 c
        refine r_bipush (pc := 75) (tb_at tkX11_feed 36 rfl) ⟨by decide, by decide, by decide⟩ ?_
        exact r_iret (pc := 77) (tb_at tkX11_feed 37 rfl) rfl (Nat.le_refl _) (Nat.le_refl _) ⟨_, rfl, rfl, h⟩
      · replace h := h.2 c
        refine r_iload (pc := 36) (tb_at tkX11_feed 18 rfl) rfl ?_
        refine r_i2l (pc := 38) (tb_at tkX11_feed 19 rfl) ?_
        refine r_lconst (v := 0) (pc := 39) (tb_at tkX11_feed 20 rfl) ⟨by decide, by decide, by decide⟩ ?_
        refine r_ldc2 (n := 255) (pc := 40) (tb_at tkX11_feed 21 rfl) kcX11_364 ⟨by decide, by decide⟩ ?_
        refine r_invS (mc' := 0) (ms' := 0) [.inr (.inl v4), .inr (.inl 0), .inr (.inl 255)] (S := []) (pc := 43) (tb_at tkX11_feed 22 rfl) rfl clX11_103 (Nat.le_of_ble_eq_true rfl) (Nat.le_refl _) (Nat.le_refl _) ?_
        refine Cal.mono h ?_
        rintro _ _ M7 ⟨x8, rfl, rfl, h⟩
        show OkI G miX11_feed (d + 1) K 46 [some (.inr (.inr (some 66))), some (.inl v1), some (.inl v2), some (.inl v3), some (.inl v4), some (.inl v5), some (.inl v6), none] [.inl x8] M7
        refine q_if_eq (tgt := 75) (pc := 46) (tb_at tkX11_feed 23 rfl) (by decide) (fun c => ?_) (fun c => ?_)
        · replace h := h.1 c
          refine r_bipush (pc := 75) (tb_at tkX11_feed 36 rfl) ⟨by decide, by decide, by decide⟩ ?_
          exact r_iret (pc := 77) (tb_at tkX11_feed 37 rfl) rfl (Nat.le_refl _) (Nat.le_refl _) ⟨_, rfl, rfl, h⟩
        · replace h := h.2 c
          refine r_iload (pc := 49) (tb_at tkX11_feed 24 rfl) rfl ?_
          refine r_i2l (pc := 51) (tb_at tkX11_feed 25 rfl) ?_
          refine r_lconst (v := 0) (pc := 52) (tb_at tkX11_feed 26 rfl) ⟨by decide, by decide, by decide⟩ ?_
          refine r_ldc2 (n := 255) (pc := 53) (tb_at tkX11_feed 27 rfl) kcX11_364 ⟨by decide, by decide⟩ ?_
          refine r_invS (mc' := 0) (ms' := 0) [.inr (.inl v5), .inr (.inl 0), .inr (.inl 255)] (S := []) (pc := 56) (tb_at tkX11_feed 28 rfl) rfl clX11_103 (Nat.le_of_ble_eq_true rfl) (Nat.le_refl _) (Nat.le_refl _) ?_
          refine Cal.mono h ?_
          rintro _ _ M9 ⟨x10, rfl, rfl, h⟩
          show OkI G miX11_feed (d + 1) K 59 [some (.inr (.inr (some 66))), some (.inl v1), some (.inl v2), some (.inl v3), some (.inl v4), some (.inl v5), some (.inl v6), none] [.inl x10] M9
          refine q_if_eq (tgt := 75) (pc := 59) (tb_at tkX11_feed 29 rfl) (by decide) (fun c => ?_) (fun c => ?_)
          · replace h := h.1 c
            refine r_bipush (pc := 75) (tb_at tkX11_feed 36 rfl) ⟨by decide, by decide, by decide⟩ ?_
            exact r_iret (pc := 77) (tb_at tkX11_feed 37 rfl) rfl (Nat.le_refl _) (Nat.le_refl _) ⟨_, rfl, rfl, h⟩
          · replace h := h.2 c
            refine r_iload (pc := 62) (tb_at tkX11_feed 30 rfl) rfl ?_
            refine r_i2l (pc := 64) (tb_at tkX11_feed 31 rfl) ?_
            refine r_lconst (v := 0) (pc := 65) (tb_at tkX11_feed 32 rfl) ⟨by decide, by decide, by decide⟩ ?_
            refine r_ldc2 (n := 255) (pc := 66) (tb_at tkX11_feed 33 rfl) kcX11_364 ⟨by decide, by decide⟩ ?_
            refine r_invS (mc' := 0) (ms' := 0) [.inr (.inl v6), .inr (.inl 0), .inr (.inl 255)] (S := []) (pc := 69) (tb_at tkX11_feed 34 rfl) rfl clX11_103 (Nat.le_of_ble_eq_true rfl) (Nat.le_refl _) (Nat.le_refl _) ?_
            refine Cal.mono h ?_
            rintro _ _ M11 ⟨x12, rfl, rfl, h⟩
            show OkI G miX11_feed (d + 1) K 72 [some (.inr (.inr (some 66))), some (.inl v1), some (.inl v2), some (.inl v3), some (.inl v4), some (.inl v5), some (.inl v6), none] [.inl x12] M11
            refine q_if_ne (tgt := 78) (pc := 72) (tb_at tkX11_feed 35 rfl) (by decide) (fun c => ?_) (fun c => ?_)
            · replace h := h.1 c
              refine r_aload_n (pc := 78) (tb_at tkX11_feed 38 rfl) rfl rfl ?_
              refine r_get 10 39 (pc := 79) (tb_at tkX11_feed 39 rfl) ly_66 flX11_366 rfl ?_
              refine r_iload_n (pc := 82) (tb_at tkX11_feed 40 rfl) rfl rfl ?_
              refine r_iadd (pc := 83) (tb_at tkX11_feed 41 rfl) ?_
              refine r_bipush (pc := 84) (tb_at tkX11_feed 42 rfl) ⟨by decide, by decide, by decide⟩ ?_
              refine q_icmp_le (tgt := 92) (pc := 86) (tb_at tkX11_feed 43 rfl) (by decide) (fun c => ?_) (fun c => ?_)
              · replace h := h.1 c
                refine r_iconst (pc := 92) (tb_at tkX11_feed 46 rfl) ⟨by decide, by decide⟩ ?_
                refine r_istore (L' := [some (.inr (.inr (some 66))), some (.inl v1), some (.inl v2), some (.inl v3), some (.inl v4), some (.inl v5), some (.inl v6), some (.inl 0)]) (pc := 93) (tb_at tkX11_feed 47 rfl) (by decide) rfl ?_
                exact h
              · replace h := h.2 c
                refine r_bipush (pc := 89) (tb_at tkX11_feed 44 rfl) ⟨by decide, by decide, by decide⟩ ?_
                exact r_iret (pc := 91) (tb_at tkX11_feed 45 rfl) rfl (Nat.le_refl _) (Nat.le_refl _) ⟨_, rfl, rfl, h⟩
            · replace h := h.2 c
              refine r_bipush (pc := 75) (tb_at tkX11_feed 36 rfl) ⟨by decide, by decide, by decide⟩ ?_
              exact r_iret (pc := 77) (tb_at tkX11_feed 37 rfl) rfl (Nat.le_refl _) (Nat.le_refl _) ⟨_, rfl, rfl, h⟩
set_option maxRecDepth 100000 in
set_option maxHeartbeats 4000000 in
theorem gX11_feed_95 {G : GE} {d : Nat} {K : Int → Mem → Prop} {M : Mem} {v1 v2 v3 v4 v5 v6 v7 : Int}  (h : ((v1 ≤ v7 → K (M 66 39) M) ∧ (v7 < v1 → (0 ≤ M 66 39 ∧ M 66 39 < 60) ∧ OkI G miX11_feed (d + 1) K 95 [some (.inr (.inr (some 66))), some (.inl v1), some (.inl v2), some (.inl v3), some (.inl v4), some (.inl v5), some (.inl v6), some (.inl (w32 (v7 + 1)))] [] (mup (mup M 92 (M 66 39).toNat (if v7 = 0 then v2 else (if v7 = 1 then v3 else (if v7 = 2 then v4 else (if v7 = 3 then v5 else v6))))) 66 39 (w32 (((mup M 92 (M 66 39).toNat (if v7 = 0 then v2 else (if v7 = 1 then v3 else (if v7 = 2 then v4 else (if v7 = 3 then v5 else v6))))) 66 39) + 1)))))) : OkI G miX11_feed (d + 1) K 95 [some (.inr (.inr (some 66))), some (.inl v1), some (.inl v2), some (.inl v3), some (.inl v4), some (.inl v5), some (.inl v6), some (.inl v7)] [] M := by
  refine r_iload (pc := 95) (tb_at tkX11_feed 48 rfl) rfl ?_
  refine r_iload_n (pc := 97) (tb_at tkX11_feed 49 rfl) rfl rfl ?_
  refine q_icmp_ge (tgt := 169) (pc := 98) (tb_at tkX11_feed 50 rfl) (by decide) (fun c => ?_) (fun c => ?_)
  · replace h := h.1 c
    refine r_aload_n (pc := 169) (tb_at tkX11_feed 84 rfl) rfl rfl ?_
    refine r_get 10 39 (pc := 170) (tb_at tkX11_feed 85 rfl) ly_66 flX11_366 rfl ?_
    exact r_iret (pc := 173) (tb_at tkX11_feed 86 rfl) rfl (Nat.le_refl _) (Nat.le_refl _) ⟨_, rfl, rfl, h⟩
  · replace h := h.2 c
    refine r_aload_n (pc := 101) (tb_at tkX11_feed 51 rfl) rfl rfl ?_
    refine r_get 10 38 (pc := 102) (tb_at tkX11_feed 52 rfl) ly_66 flX11_88 rfl ?_
    refine r_aload_n (pc := 105) (tb_at tkX11_feed 53 rfl) rfl rfl ?_
    refine r_get 10 39 (pc := 106) (tb_at tkX11_feed 54 rfl) ly_66 flX11_366 rfl ?_
    refine r_iload (pc := 109) (tb_at tkX11_feed 55 rfl) rfl ?_
    have hJ1 : ∀ t0 : Int, t0 = (if v7 = 0 then v2 else (if v7 = 1 then v3 else (if v7 = 2 then v4 else (if v7 = 3 then v5 else v6)))) → OkI G miX11_feed (d + 1) K 152 [some (.inr (.inr (some 66))), some (.inl v1), some (.inl v2), some (.inl v3), some (.inl v4), some (.inl v5), some (.inl v6), some (.inl v7)] [.inl t0, .inl (M 66 39), .inr (.inr (some 92))] M := by
      rintro _ rfl
      refine r_iast (pc := 152) (tb_at tkX11_feed 75 rfl) ly_92 h.1.1 h.1.2 rfl ?_
      replace h := h.2
      refine r_aload_n (pc := 153) (tb_at tkX11_feed 76 rfl) rfl rfl ?_
      refine r_dup (pc := 154) (tb_at tkX11_feed 77 rfl) (fun _ h => by cases h) ?_
      refine r_get 10 39 (pc := 155) (tb_at tkX11_feed 78 rfl) ly_66 flX11_366 rfl ?_
      refine r_iconst (pc := 158) (tb_at tkX11_feed 79 rfl) ⟨by decide, by decide⟩ ?_
      refine r_iadd (pc := 159) (tb_at tkX11_feed 80 rfl) ?_
      refine r_put 10 39 (w32 (((mup M 92 (M 66 39).toNat (if v7 = 0 then v2 else (if v7 = 1 then v3 else (if v7 = 2 then v4 else (if v7 = 3 then v5 else v6))))) 66 39) + 1)) (pc := 160) (tb_at tkX11_feed 81 rfl) ly_66 flX11_366 (fun r h => by cases h; rfl) (.inl rfl) rfl (fun h => by cases h) rfl ?_
      refine r_iinc (L' := [some (.inr (.inr (some 66))), some (.inl v1), some (.inl v2), some (.inl v3), some (.inl v4), some (.inl v5), some (.inl v6), some (.inl (w32 (v7 + 1)))]) (pc := 163) (tb_at tkX11_feed 82 rfl) rfl (by decide) rfl ?_
      refine r_goto (tgt := 95) (pc := 166) (tb_at tkX11_feed 83 rfl) (by decide) ?_
      exact h
    refine q_if_ne (tgt := 118) (pc := 111) (tb_at tkX11_feed 56 rfl) (by decide) (fun c2 => ?_) (fun c2 => ?_)
    · refine r_iload (pc := 118) (tb_at tkX11_feed 59 rfl) rfl ?_
      refine r_iconst (pc := 120) (tb_at tkX11_feed 60 rfl) ⟨by decide, by decide⟩ ?_
      refine q_icmp_ne (tgt := 128) (pc := 121) (tb_at tkX11_feed 61 rfl) (by decide) (fun c3 => ?_) (fun c3 => ?_)
      · refine r_iload (pc := 128) (tb_at tkX11_feed 64 rfl) rfl ?_
        refine r_iconst (pc := 130) (tb_at tkX11_feed 65 rfl) ⟨by decide, by decide⟩ ?_
        refine q_icmp_ne (tgt := 139) (pc := 131) (tb_at tkX11_feed 66 rfl) (by decide) (fun c4 => ?_) (fun c4 => ?_)
        · refine r_iload (pc := 139) (tb_at tkX11_feed 69 rfl) rfl ?_
          refine r_iconst (pc := 141) (tb_at tkX11_feed 70 rfl) ⟨by decide, by decide⟩ ?_
          refine q_icmp_ne (tgt := 150) (pc := 142) (tb_at tkX11_feed 71 rfl) (by decide) (fun c5 => ?_) (fun c5 => ?_)
          · refine r_iload (pc := 150) (tb_at tkX11_feed 74 rfl) rfl ?_
            exact hJ1 _ (by simp only [if_neg c2, if_neg c3, if_neg c4, if_neg c5])
          · refine r_iload (pc := 145) (tb_at tkX11_feed 72 rfl) rfl ?_
            refine r_goto (tgt := 152) (pc := 147) (tb_at tkX11_feed 73 rfl) (by decide) ?_
            exact hJ1 _ (by simp only [if_neg c2, if_neg c3, if_neg c4, if_pos c5])
        · refine r_iload (pc := 134) (tb_at tkX11_feed 67 rfl) rfl ?_
          refine r_goto (tgt := 152) (pc := 136) (tb_at tkX11_feed 68 rfl) (by decide) ?_
          exact hJ1 _ (by simp only [if_neg c2, if_neg c3, if_pos c4])
      · refine r_iload_n (pc := 124) (tb_at tkX11_feed 62 rfl) rfl rfl ?_
        refine r_goto (tgt := 152) (pc := 125) (tb_at tkX11_feed 63 rfl) (by decide) ?_
        exact hJ1 _ (by simp only [if_neg c2, if_pos c3])
    · refine r_iload_n (pc := 114) (tb_at tkX11_feed 57 rfl) rfl rfl ?_
      refine r_goto (tgt := 152) (pc := 115) (tb_at tkX11_feed 58 rfl) (by decide) ?_
      exact hJ1 _ (by simp only [if_pos c2])
set_option maxRecDepth 100000 in
set_option maxHeartbeats 4000000 in
theorem gX11_here_0 {G : GE} {d : Nat} {K : Int → Mem → Prop} {M : Mem}  (h : (((M 66 44) ≤ (M 66 45) → K (-1) M) ∧ ((M 66 45) < (M 66 44) → (0 ≤ M 66 45 ∧ M 66 45 < 60) ∧ K (M 92 (M 66 45).toNat) M))) : OkI G miX11_here d K 0 [some (.inr (.inr (some 66)))] [] M := by
  refine r_aload_n (pc := 0) (tb_at tkX11_here 0 rfl) rfl rfl ?_
  refine r_get 10 45 (pc := 1) (tb_at tkX11_here 1 rfl) ly_66 flX11_369 rfl ?_
  refine r_aload_n (pc := 4) (tb_at tkX11_here 2 rfl) rfl rfl ?_
  refine r_get 10 44 (pc := 5) (tb_at tkX11_here 3 rfl) ly_66 flX11_372 rfl ?_
  refine q_icmp_ge (tgt := 23) (pc := 8) (tb_at tkX11_here 4 rfl) (by decide) (fun c => ?_) (fun c => ?_)
  · replace h := h.1 c
    refine r_iconst (pc := 23) (tb_at tkX11_here 11 rfl) ⟨by decide, by decide⟩ ?_
    exact r_iret (pc := 24) (tb_at tkX11_here 12 rfl) rfl (Nat.le_refl _) (Nat.le_refl _) ⟨_, rfl, rfl, h⟩
  · replace h := h.2 c
    refine r_aload_n (pc := 11) (tb_at tkX11_here 5 rfl) rfl rfl ?_
    refine r_get 10 38 (pc := 12) (tb_at tkX11_here 6 rfl) ly_66 flX11_88 rfl ?_
    refine r_aload_n (pc := 15) (tb_at tkX11_here 7 rfl) rfl rfl ?_
    refine r_get 10 45 (pc := 16) (tb_at tkX11_here 8 rfl) ly_66 flX11_369 rfl ?_
    refine r_iald (pc := 19) (tb_at tkX11_here 9 rfl) ly_92 h.1.1 h.1.2 ?_
    replace h := h.2
    refine r_goto (tgt := 24) (pc := 20) (tb_at tkX11_here 10 rfl) (by decide) ?_
    exact r_iret (pc := 24) (tb_at tkX11_here 12 rfl) rfl (Nat.le_refl _) (Nat.le_refl _) ⟨_, rfl, rfl, h⟩
set_option maxRecDepth 100000 in
set_option maxHeartbeats 4000000 in
theorem gX11_readsWord_0 {G : GE} {d : Nat} {K : Mem → Prop} {M : Mem}  (h : CalI G miX11_here d [.inr (.inr (some 66))] M (fun x2 M1 => CalI G miX11_in d [.inr (.inl x2), .inr (.inl 97), .inr (.inl 122)] M1 (fun x4 M3 => ((x4 = 0 → OkV G miX11_readsWord (d + 1) K 37 [some (.inr (.inr (some 66))), some (.inl 0), none, none] [] (mup M3 66 46 4)) ∧ (¬ x4 = 0 → OkV G miX11_readsWord (d + 1) K 0 [some (.inr (.inr (some 66))), none, none, none] [] (mup M3 66 45 (w32 ((M3 66 45) + 1)))))))) : OkV G miX11_readsWord (d + 1) K 0 [some (.inr (.inr (some 66))), none, none, none] [] M := by
  refine r_aload_n (pc := 0) (tb_at tkX11_readsWord 0 rfl) rfl rfl ?_
  refine r_invV (mc' := 0) (ms' := 0) [] (S := []) (pc := 1) (tb_at tkX11_readsWord 1 rfl) rfl ly_66 rfl rfl clX11_375 (Nat.le_of_ble_eq_true rfl) (Nat.le_refl _) (Nat.le_refl _) ?_
  refine Cal.mono h ?_
  rintro _ _ M1 ⟨x2, rfl, rfl, h⟩
  show OkV G miX11_readsWord (d + 1) K 4 [some (.inr (.inr (some 66))), none, none, none] [.inl x2] M1
  refine r_i2l (pc := 4) (tb_at tkX11_readsWord 2 rfl) ?_
  refine r_ldc2 (n := 97) (pc := 5) (tb_at tkX11_readsWord 3 rfl) kcX11_378 ⟨by decide, by decide⟩ ?_
  refine r_ldc2 (n := 122) (pc := 8) (tb_at tkX11_readsWord 4 rfl) kcX11_380 ⟨by decide, by decide⟩ ?_
  refine r_invS (mc' := 0) (ms' := 0) [.inr (.inl x2), .inr (.inl 97), .inr (.inl 122)] (S := []) (pc := 11) (tb_at tkX11_readsWord 5 rfl) rfl clX11_103 (Nat.le_of_ble_eq_true rfl) (Nat.le_refl _) (Nat.le_refl _) ?_
  refine Cal.mono h ?_
  rintro _ _ M3 ⟨x4, rfl, rfl, h⟩
  show OkV G miX11_readsWord (d + 1) K 14 [some (.inr (.inr (some 66))), none, none, none] [.inl x4] M3
  refine q_if_eq (tgt := 30) (pc := 14) (tb_at tkX11_readsWord 6 rfl) (by decide) (fun c => ?_) (fun c => ?_)
  · replace h := h.1 c
    refine r_aload_n (pc := 30) (tb_at tkX11_readsWord 14 rfl) rfl rfl ?_
    refine r_iconst (pc := 31) (tb_at tkX11_readsWord 15 rfl) ⟨by decide, by decide⟩ ?_
    refine r_put 10 46 4 (pc := 32) (tb_at tkX11_readsWord 16 rfl) ly_66 flX11_382 (fun r h => by cases h; rfl) (.inl rfl) rfl (fun h => by cases h) rfl ?_
    refine r_iconst (pc := 35) (tb_at tkX11_readsWord 17 rfl) ⟨by decide, by decide⟩ ?_
    refine r_istore_n (L' := [some (.inr (.inr (some 66))), some (.inl 0), none, none]) (pc := 36) (tb_at tkX11_readsWord 18 rfl) rfl (by decide) rfl ?_
    exact h
  · replace h := h.2 c
    refine r_aload_n (pc := 17) (tb_at tkX11_readsWord 7 rfl) rfl rfl ?_
    refine r_dup (pc := 18) (tb_at tkX11_readsWord 8 rfl) (fun _ h => by cases h) ?_
    refine r_get 10 45 (pc := 19) (tb_at tkX11_readsWord 9 rfl) ly_66 flX11_369 rfl ?_
    refine r_iconst (pc := 22) (tb_at tkX11_readsWord 10 rfl) ⟨by decide, by decide⟩ ?_
    refine r_iadd (pc := 23) (tb_at tkX11_readsWord 11 rfl) ?_
    refine r_put 10 45 (w32 ((M3 66 45) + 1)) (pc := 24) (tb_at tkX11_readsWord 12 rfl) ly_66 flX11_369 (fun r h => by cases h; rfl) (.inl rfl) rfl (fun h => by cases h) rfl ?_
    refine r_goto (tgt := 0) (pc := 27) (tb_at tkX11_readsWord 13 rfl) (by decide) ?_
    exact h
set_option maxRecDepth 100000 in
set_option maxHeartbeats 4000000 in
theorem gX11_readsWord_37 {G : GE} {d : Nat} {K : Mem → Prop} {M : Mem} {v1 : Int}  (h : ((7 ≤ v1 → K M) ∧ (v1 < 7 → OkV G miX11_readsWord (d + 1) K 64 [some (.inr (.inr (some 66))), some (.inl v1), some (.inl (if ¬ (4 < (w32 ((M 66 45) - (M 66 47)))) then (1 : Int) else 0)), some (.inl 0)] [] M))) : OkV G miX11_readsWord (d + 1) K 37 [some (.inr (.inr (some 66))), some (.inl v1), none, none] [] M := by
  refine r_iload_n (pc := 37) (tb_at tkX11_readsWord 19 rfl) rfl rfl ?_
  refine r_bipush (pc := 38) (tb_at tkX11_readsWord 20 rfl) ⟨by decide, by decide, by decide⟩ ?_
  refine q_icmp_ge (tgt := 164) (pc := 40) (tb_at tkX11_readsWord 21 rfl) (by decide) (fun c => ?_) (fun c => ?_)
  · replace h := h.1 c
    exact r_vret (pc := 164) (tb_at tkX11_readsWord 89 rfl) rfl (Nat.le_refl _) (Nat.le_refl _) ⟨rfl, rfl, h⟩
  · replace h := h.2 c
    refine r_aload_n (pc := 43) (tb_at tkX11_readsWord 22 rfl) rfl rfl ?_
    refine r_get 10 45 (pc := 44) (tb_at tkX11_readsWord 23 rfl) ly_66 flX11_369 rfl ?_
    refine r_aload_n (pc := 47) (tb_at tkX11_readsWord 24 rfl) rfl rfl ?_
    refine r_get 10 47 (pc := 48) (tb_at tkX11_readsWord 25 rfl) ly_66 flX11_385 rfl ?_
    refine r_isub (pc := 51) (tb_at tkX11_readsWord 26 rfl) ?_
    refine r_iconst (pc := 52) (tb_at tkX11_readsWord 27 rfl) ⟨by decide, by decide⟩ ?_
    have hJ1 : ∀ t0 : Int, t0 = (if ¬ (4 < (w32 ((M 66 45) - (M 66 47)))) then (1 : Int) else 0) → OkV G miX11_readsWord (d + 1) K 61 [some (.inr (.inr (some 66))), some (.inl v1), none, none] [.inl t0] M := by
      rintro _ rfl
      refine r_istore_n (L' := [some (.inr (.inr (some 66))), some (.inl v1), some (.inl (if ¬ (4 < (w32 ((M 66 45) - (M 66 47)))) then (1 : Int) else 0)), none]) (pc := 61) (tb_at tkX11_readsWord 32 rfl) rfl (by decide) rfl ?_
      refine r_iconst (pc := 62) (tb_at tkX11_readsWord 33 rfl) ⟨by decide, by decide⟩ ?_
      refine r_istore_n (L' := [some (.inr (.inr (some 66))), some (.inl v1), some (.inl (if ¬ (4 < (w32 ((M 66 45) - (M 66 47)))) then (1 : Int) else 0)), some (.inl 0)]) (pc := 63) (tb_at tkX11_readsWord 34 rfl) rfl (by decide) rfl ?_
      exact h
    refine q_icmp_gt (tgt := 60) (pc := 53) (tb_at tkX11_readsWord 28 rfl) (by decide) (fun c2 => ?_) (fun c2 => ?_)
    · refine r_iconst (pc := 60) (tb_at tkX11_readsWord 31 rfl) ⟨by decide, by decide⟩ ?_
      exact hJ1 _ (by simp only [if_neg (not_not_intro c2)])
    · refine r_iconst (pc := 56) (tb_at tkX11_readsWord 29 rfl) ⟨by decide, by decide⟩ ?_
      refine r_goto (tgt := 61) (pc := 57) (tb_at tkX11_readsWord 30 rfl) (by decide) ?_
      exact hJ1 _ (by simp only [if_pos (Int.not_lt.mpr c2)])
set_option maxRecDepth 100000 in
set_option maxHeartbeats 4000000 in
theorem gX11_readsWord_64 {G : GE} {d : Nat} {K : Mem → Prop} {M : Mem} {v1 v2 v3 : Int}  (h : ((4 ≤ v3 → OkV G miX11_readsWord (d + 1) K 126 [some (.inr (.inr (some 66))), some (.inl v1), some (.inl v2), none] [] M) ∧ (v3 < 4 → ((v2 = 0 → OkV G miX11_readsWord (d + 1) K 126 [some (.inr (.inr (some 66))), some (.inl v1), some (.inl v2), none] [] M) ∧ (¬ v2 = 0 → (0 ≤ (4 * v1) + v3 ∧ (4 * v1) + v3 < 28) ∧ (((M 66 45) ≤ (w32 ((M 66 47) + v3)) → OkV G miX11_readsWord (d + 1) K 111 [some (.inr (.inr (some 66))), some (.inl v1), none, some (.inl v3)] [.inl 0, .inl (M 93 ((4 * v1) + v3).toNat)] M) ∧ ((w32 ((M 66 47) + v3)) < (M 66 45) → (0 ≤ (M 66 47) + v3 ∧ (M 66 47) + v3 < 60) ∧ OkV G miX11_readsWord (d + 1) K 111 [some (.inr (.inr (some 66))), some (.inl v1), none, some (.inl v3)] [.inl (M 92 ((M 66 47) + v3).toNat), .inl (M 93 ((4 * v1) + v3).toNat)] M))))))) : OkV G miX11_readsWord (d + 1) K 64 [some (.inr (.inr (some 66))), some (.inl v1), some (.inl v2), some (.inl v3)] [] M := by
  refine r_iload_n (pc := 64) (tb_at tkX11_readsWord 35 rfl) rfl rfl ?_
  refine r_iconst (pc := 65) (tb_at tkX11_readsWord 36 rfl) ⟨by decide, by decide⟩ ?_
  refine q_icmp_ge (tgt := 126) (pc := 66) (tb_at tkX11_readsWord 37 rfl) (by decide) (fun c => ?_) (fun c => ?_)
  · replace h := h.1 c
    exact Ok.forget h (And.intro rfl (And.intro rfl (And.intro rfl trivial)))
  · replace h := h.2 c
    refine r_iload_n (pc := 69) (tb_at tkX11_readsWord 38 rfl) rfl rfl ?_
    refine q_if_eq (tgt := 126) (pc := 70) (tb_at tkX11_readsWord 39 rfl) (by decide) (fun c => ?_) (fun c => ?_)
    · replace h := h.1 c
      exact Ok.forget h (And.intro rfl (And.intro rfl (And.intro rfl trivial)))
    · replace h := h.2 c
      refine r_aload_n (pc := 73) (tb_at tkX11_readsWord 40 rfl) rfl rfl ?_
      refine r_get 10 40 (pc := 74) (tb_at tkX11_readsWord 41 rfl) ly_66 flX11_91 rfl ?_
      refine r_iconst (pc := 77) (tb_at tkX11_readsWord 42 rfl) ⟨by decide, by decide⟩ ?_
      refine r_iload_n (pc := 78) (tb_at tkX11_readsWord 43 rfl) rfl rfl ?_
      refine r_imul (pc := 79) (tb_at tkX11_readsWord 44 rfl) ?_
      refine r_iload_n (pc := 80) (tb_at tkX11_readsWord 45 rfl) rfl rfl ?_
      refine r_iadd_l (pc := 81) (tb_at tkX11_readsWord 46 rfl) ?_
      refine r_iald_w (pc := 82) (tb_at tkX11_readsWord 47 rfl) ly_93 (by decide) h.1.1 h.1.2 ?_
      replace h := h.2
      refine r_aload_n (pc := 83) (tb_at tkX11_readsWord 48 rfl) rfl rfl ?_
      refine r_get 10 47 (pc := 84) (tb_at tkX11_readsWord 49 rfl) ly_66 flX11_385 rfl ?_
      refine r_iload_n (pc := 87) (tb_at tkX11_readsWord 50 rfl) rfl rfl ?_
      refine r_iadd (pc := 88) (tb_at tkX11_readsWord 51 rfl) ?_
      refine r_aload_n (pc := 89) (tb_at tkX11_readsWord 52 rfl) rfl rfl ?_
      refine r_get 10 45 (pc := 90) (tb_at tkX11_readsWord 53 rfl) ly_66 flX11_369 rfl ?_
      refine q_icmp_ge (tgt := 110) (pc := 93) (tb_at tkX11_readsWord 54 rfl) (by decide) (fun c => ?_) (fun c => ?_)
      · replace h := h.1 c
        refine r_iconst (pc := 110) (tb_at tkX11_readsWord 63 rfl) ⟨by decide, by decide⟩ ?_
        exact Ok.forget h (And.intro rfl (And.intro rfl (And.intro rfl trivial)))
      · replace h := h.2 c
        refine r_aload_n (pc := 96) (tb_at tkX11_readsWord 55 rfl) rfl rfl ?_
        refine r_get 10 38 (pc := 97) (tb_at tkX11_readsWord 56 rfl) ly_66 flX11_88 rfl ?_
        refine r_aload_n (pc := 100) (tb_at tkX11_readsWord 57 rfl) rfl rfl ?_
        refine r_get 10 47 (pc := 101) (tb_at tkX11_readsWord 58 rfl) ly_66 flX11_385 rfl ?_
        refine r_iload_n (pc := 104) (tb_at tkX11_readsWord 59 rfl) rfl rfl ?_
        refine r_iadd (pc := 105) (tb_at tkX11_readsWord 60 rfl) ?_
        refine r_iald_w (pc := 106) (tb_at tkX11_readsWord 61 rfl) ly_92 (by decide) h.1.1 h.1.2 ?_
        replace h := h.2
        refine r_goto (tgt := 111) (pc := 107) (tb_at tkX11_readsWord 62 rfl) (by decide) ?_
        exact Ok.forget h (And.intro rfl (And.intro rfl (And.intro rfl trivial)))
set_option maxRecDepth 100000 in
set_option maxHeartbeats 4000000 in
theorem gX11_readsWord_126 {G : GE} {d : Nat} {K : Mem → Prop} {M : Mem} {v1 v2 : Int}  (h : OkV G miX11_readsWord (d + 1) K 37 [some (.inr (.inr (some 66))), some (.inl (w32 (v1 + 1))), none, none] [] (mup (mup M 66 46 (if v2 = 0 then M 66 46 else 1)) 66 48 (if v2 = 0 then (mup M 66 46 (if v2 = 0 then M 66 46 else 1)) 66 48 else v1))) : OkV G miX11_readsWord (d + 1) K 126 [some (.inr (.inr (some 66))), some (.inl v1), some (.inl v2), none] [] M := by
  refine r_aload_n (pc := 126) (tb_at tkX11_readsWord 71 rfl) rfl rfl ?_
  refine r_iload_n (pc := 127) (tb_at tkX11_readsWord 72 rfl) rfl rfl ?_
  have hJ3 : ∀ t0 : Int, t0 = (if v2 = 0 then M 66 46 else 1) → OkV G miX11_readsWord (d + 1) K 139 [some (.inr (.inr (some 66))), some (.inl v1), some (.inl v2), none] [.inl t0, .inr (.inr (some 66))] M := by
    rintro _ rfl
    refine r_put 10 46 (if v2 = 0 then M 66 46 else 1) (pc := 139) (tb_at tkX11_readsWord 78 rfl) ly_66 flX11_382 (fun r h => by cases h; rfl) (.inl rfl) rfl (fun h => by cases h) rfl ?_
    refine r_aload_n (pc := 142) (tb_at tkX11_readsWord 79 rfl) rfl rfl ?_
    refine r_iload_n (pc := 143) (tb_at tkX11_readsWord 80 rfl) rfl rfl ?_
    have hJ1 : ∀ t0 : Int, t0 = (if v2 = 0 then (mup M 66 46 (if v2 = 0 then M 66 46 else 1)) 66 48 else v1) → OkV G miX11_readsWord (d + 1) K 155 [some (.inr (.inr (some 66))), some (.inl v1), some (.inl v2), none] [.inl t0, .inr (.inr (some 66))] (mup M 66 46 (if v2 = 0 then M 66 46 else 1)) := by
      rintro _ rfl
      refine r_put 10 48 (if v2 = 0 then (mup M 66 46 (if v2 = 0 then M 66 46 else 1)) 66 48 else v1) (pc := 155) (tb_at tkX11_readsWord 86 rfl) ly_66 flX11_388 (fun r h => by cases h; rfl) (.inl rfl) rfl (fun h => by cases h) rfl ?_
      refine r_iinc (L' := [some (.inr (.inr (some 66))), some (.inl (w32 (v1 + 1))), some (.inl v2), none]) (pc := 158) (tb_at tkX11_readsWord 87 rfl) rfl (by decide) rfl ?_
      refine r_goto (tgt := 37) (pc := 161) (tb_at tkX11_readsWord 88 rfl) (by decide) ?_
      exact Ok.forget h (And.intro rfl (And.intro rfl trivial))
    refine q_if_eq (tgt := 151) (pc := 144) (tb_at tkX11_readsWord 81 rfl) (by decide) (fun c2 => ?_) (fun c2 => ?_)
    · refine r_aload_n (pc := 151) (tb_at tkX11_readsWord 84 rfl) rfl rfl ?_
      refine r_get 10 48 (pc := 152) (tb_at tkX11_readsWord 85 rfl) ly_66 flX11_388 rfl ?_
      exact hJ1 _ (by simp only [if_pos c2])
    · refine r_iload_n (pc := 147) (tb_at tkX11_readsWord 82 rfl) rfl rfl ?_
      refine r_goto (tgt := 155) (pc := 148) (tb_at tkX11_readsWord 83 rfl) (by decide) ?_
      exact hJ1 _ (by simp only [if_neg c2])
  refine q_if_eq (tgt := 135) (pc := 128) (tb_at tkX11_readsWord 73 rfl) (by decide) (fun c4 => ?_) (fun c4 => ?_)
  · refine r_aload_n (pc := 135) (tb_at tkX11_readsWord 76 rfl) rfl rfl ?_
    refine r_get 10 46 (pc := 136) (tb_at tkX11_readsWord 77 rfl) ly_66 flX11_382 rfl ?_
    exact hJ3 _ (by simp only [if_pos c4])
  · refine r_iconst (pc := 131) (tb_at tkX11_readsWord 74 rfl) ⟨by decide, by decide⟩ ?_
    refine r_goto (tgt := 139) (pc := 132) (tb_at tkX11_readsWord 75 rfl) (by decide) ?_
    exact hJ3 _ (by simp only [if_neg c4])
set_option maxRecDepth 100000 in
set_option maxHeartbeats 4000000 in
theorem gX11_readsWord_111 {G : GE} {d : Nat} {K : Mem → Prop} {M : Mem} {v1 v3 s0 s1 : Int}  (h : OkV G miX11_readsWord (d + 1) K 64 [some (.inr (.inr (some 66))), some (.inl v1), some (.inl (if s0 = s1 then (1 : Int) else 0)), some (.inl (w32 (v3 + 1)))] [] M) : OkV G miX11_readsWord (d + 1) K 111 [some (.inr (.inr (some 66))), some (.inl v1), none, some (.inl v3)] [.inl s1, .inl s0] M := by
  have hJ1 : ∀ t0 : Int, t0 = (if s0 = s1 then (1 : Int) else 0) → OkV G miX11_readsWord (d + 1) K 119 [some (.inr (.inr (some 66))), some (.inl v1), none, some (.inl v3)] [.inl t0] M := by
    rintro _ rfl
    refine r_istore_n (L' := [some (.inr (.inr (some 66))), some (.inl v1), some (.inl (if s0 = s1 then (1 : Int) else 0)), some (.inl v3)]) (pc := 119) (tb_at tkX11_readsWord 68 rfl) rfl (by decide) rfl ?_
    refine r_iinc (L' := [some (.inr (.inr (some 66))), some (.inl v1), some (.inl (if s0 = s1 then (1 : Int) else 0)), some (.inl (w32 (v3 + 1)))]) (pc := 120) (tb_at tkX11_readsWord 69 rfl) rfl (by decide) rfl ?_
    refine r_goto (tgt := 64) (pc := 123) (tb_at tkX11_readsWord 70 rfl) (by decide) ?_
    exact h
  refine q_icmp_ne (tgt := 118) (pc := 111) (tb_at tkX11_readsWord 64 rfl) (by decide) (fun c2 => ?_) (fun c2 => ?_)
  · refine r_iconst (pc := 118) (tb_at tkX11_readsWord 67 rfl) ⟨by decide, by decide⟩ ?_
    exact hJ1 _ (by simp only [if_neg c2])
  · refine r_iconst (pc := 114) (tb_at tkX11_readsWord 65 rfl) ⟨by decide, by decide⟩ ?_
    refine r_goto (tgt := 119) (pc := 115) (tb_at tkX11_readsWord 66 rfl) (by decide) ?_
    exact hJ1 _ (by simp only [if_pos c2])
set_option maxRecDepth 100000 in
set_option maxHeartbeats 4000000 in
theorem gX11_readsNumber_0 {G : GE} {d : Nat} {K : Mem → Prop} {M : Mem}  (h : OkV G miX11_readsNumber (d + 1) K 5 [some (.inr (.inr (some 66)))] [] (mup M 66 48 0)) : OkV G miX11_readsNumber (d + 1) K 0 [some (.inr (.inr (some 66)))] [] M := by
  refine r_aload_n (pc := 0) (tb_at tkX11_readsNumber 0 rfl) rfl rfl ?_
  refine r_iconst (pc := 1) (tb_at tkX11_readsNumber 1 rfl) ⟨by decide, by decide⟩ ?_
  refine r_put 10 48 0 (pc := 2) (tb_at tkX11_readsNumber 2 rfl) ly_66 flX11_388 (fun r h => by cases h; rfl) (.inl rfl) rfl (fun h => by cases h) rfl ?_
  exact h
set_option maxRecDepth 100000 in
set_option maxHeartbeats 4000000 in
theorem gX11_readsNumber_5 {G : GE} {d : Nat} {K : Mem → Prop} {M : Mem}  (h : CalI G miX11_here d [.inr (.inr (some 66))] M (fun x2 M1 => CalI G miX11_in d [.inr (.inl x2), .inr (.inl 48), .inr (.inl 57)] M1 (fun x4 M3 => ((x4 = 0 → K (mup M3 66 46 (if 3 < (w32 ((M3 66 45) - (M3 66 47))) then (4 : Int) else 2))) ∧ (¬ x4 = 0 → ((3 ≤ (w32 ((M3 66 45) - (M3 66 47))) → OkV G miX11_readsNumber (d + 1) K 58 [some (.inr (.inr (some 66)))] [.inl (M3 66 48), .inr (.inr (some 66))] M3) ∧ ((w32 ((M3 66 45) - (M3 66 47))) < 3 → CalI G miX11_here d [.inr (.inr (some 66))] M3 (fun x8 M7 => OkV G miX11_readsNumber (d + 1) K 58 [some (.inr (.inr (some 66)))] [.inl (w32 (((10 * (M3 66 48)) + x8) - 48)), .inr (.inr (some 66))] M7)))))))) : OkV G miX11_readsNumber (d + 1) K 5 [some (.inr (.inr (some 66)))] [] M := by
  refine r_aload_n (pc := 5) (tb_at tkX11_readsNumber 3 rfl) rfl rfl ?_
  refine r_invV (mc' := 0) (ms' := 0) [] (S := []) (pc := 6) (tb_at tkX11_readsNumber 4 rfl) rfl ly_66 rfl rfl clX11_375 (Nat.le_of_ble_eq_true rfl) (Nat.le_refl _) (Nat.le_refl _) ?_
  refine Cal.mono h ?_
  rintro _ _ M1 ⟨x2, rfl, rfl, h⟩
  show OkV G miX11_readsNumber (d + 1) K 9 [some (.inr (.inr (some 66)))] [.inl x2] M1
  refine r_i2l (pc := 9) (tb_at tkX11_readsNumber 5 rfl) ?_
  refine r_ldc2 (n := 48) (pc := 10) (tb_at tkX11_readsNumber 6 rfl) kcX11_391 ⟨by decide, by decide⟩ ?_
  refine r_ldc2 (n := 57) (pc := 13) (tb_at tkX11_readsNumber 7 rfl) kcX11_393 ⟨by decide, by decide⟩ ?_
  refine r_invS (mc' := 0) (ms' := 0) [.inr (.inl x2), .inr (.inl 48), .inr (.inl 57)] (S := []) (pc := 16) (tb_at tkX11_readsNumber 8 rfl) rfl clX11_103 (Nat.le_of_ble_eq_true rfl) (Nat.le_refl _) (Nat.le_refl _) ?_
  refine Cal.mono h ?_
  rintro _ _ M3 ⟨x4, rfl, rfl, h⟩
  show OkV G miX11_readsNumber (d + 1) K 19 [some (.inr (.inr (some 66)))] [.inl x4] M3
  refine q_if_eq (tgt := 74) (pc := 19) (tb_at tkX11_readsNumber 9 rfl) (by decide) (fun c => ?_) (fun c => ?_)
  · replace h := h.1 c
    refine r_aload_n (pc := 74) (tb_at tkX11_readsNumber 38 rfl) rfl rfl ?_
    refine r_aload_n (pc := 75) (tb_at tkX11_readsNumber 39 rfl) rfl rfl ?_
    refine r_get 10 45 (pc := 76) (tb_at tkX11_readsNumber 40 rfl) ly_66 flX11_369 rfl ?_
    refine r_aload_n (pc := 79) (tb_at tkX11_readsNumber 41 rfl) rfl rfl ?_
    refine r_get 10 47 (pc := 80) (tb_at tkX11_readsNumber 42 rfl) ly_66 flX11_385 rfl ?_
    refine r_isub (pc := 83) (tb_at tkX11_readsNumber 43 rfl) ?_
    refine r_iconst (pc := 84) (tb_at tkX11_readsNumber 44 rfl) ⟨by decide, by decide⟩ ?_
    have hJ5 : ∀ t0 : Int, t0 = (if 3 < (w32 ((M3 66 45) - (M3 66 47))) then (4 : Int) else 2) → OkV G miX11_readsNumber (d + 1) K 93 [some (.inr (.inr (some 66)))] [.inl t0, .inr (.inr (some 66))] M3 := by
      rintro _ rfl
      refine r_put 10 46 (if 3 < (w32 ((M3 66 45) - (M3 66 47))) then (4 : Int) else 2) (pc := 93) (tb_at tkX11_readsNumber 49 rfl) ly_66 flX11_382 (fun r h => by cases h; rfl) (.inl rfl) rfl (fun h => by cases h) rfl ?_
      exact r_vret (pc := 96) (tb_at tkX11_readsNumber 50 rfl) rfl (Nat.le_refl _) (Nat.le_refl _) ⟨rfl, rfl, h⟩
    refine q_icmp_le (tgt := 92) (pc := 85) (tb_at tkX11_readsNumber 45 rfl) (by decide) (fun c6 => ?_) (fun c6 => ?_)
    · refine r_iconst (pc := 92) (tb_at tkX11_readsNumber 48 rfl) ⟨by decide, by decide⟩ ?_
      exact hJ5 _ (by simp only [if_neg (Int.not_lt.mpr c6)])
    · refine r_iconst (pc := 88) (tb_at tkX11_readsNumber 46 rfl) ⟨by decide, by decide⟩ ?_
      refine r_goto (tgt := 93) (pc := 89) (tb_at tkX11_readsNumber 47 rfl) (by decide) ?_
      exact hJ5 _ (by simp only [if_pos c6])
  · replace h := h.2 c
    refine r_aload_n (pc := 22) (tb_at tkX11_readsNumber 10 rfl) rfl rfl ?_
    refine r_aload_n (pc := 23) (tb_at tkX11_readsNumber 11 rfl) rfl rfl ?_
    refine r_get 10 45 (pc := 24) (tb_at tkX11_readsNumber 12 rfl) ly_66 flX11_369 rfl ?_
    refine r_aload_n (pc := 27) (tb_at tkX11_readsNumber 13 rfl) rfl rfl ?_
    refine r_get 10 47 (pc := 28) (tb_at tkX11_readsNumber 14 rfl) ly_66 flX11_385 rfl ?_
    refine r_isub (pc := 31) (tb_at tkX11_readsNumber 15 rfl) ?_
    refine r_iconst (pc := 32) (tb_at tkX11_readsNumber 16 rfl) ⟨by decide, by decide⟩ ?_
    refine q_icmp_ge (tgt := 54) (pc := 33) (tb_at tkX11_readsNumber 17 rfl) (by decide) (fun c => ?_) (fun c => ?_)
    · replace h := h.1 c
      refine r_aload_n (pc := 54) (tb_at tkX11_readsNumber 28 rfl) rfl rfl ?_
      refine r_get 10 48 (pc := 55) (tb_at tkX11_readsNumber 29 rfl) ly_66 flX11_388 rfl ?_
      exact h
    · replace h := h.2 c
      refine r_bipush (pc := 36) (tb_at tkX11_readsNumber 18 rfl) ⟨by decide, by decide, by decide⟩ ?_
      refine r_aload_n (pc := 38) (tb_at tkX11_readsNumber 19 rfl) rfl rfl ?_
      refine r_get 10 48 (pc := 39) (tb_at tkX11_readsNumber 20 rfl) ly_66 flX11_388 rfl ?_
      refine r_imul (pc := 42) (tb_at tkX11_readsNumber 21 rfl) ?_
      refine r_aload_n (pc := 43) (tb_at tkX11_readsNumber 22 rfl) rfl rfl ?_
      refine r_invV (mc' := 0) (ms' := 0) [] (S := [.inl (w32 (10 * (M3 66 48))), .inr (.inr (some 66))]) (pc := 44) (tb_at tkX11_readsNumber 23 rfl) rfl ly_66 rfl rfl clX11_375 (Nat.le_of_ble_eq_true rfl) (Nat.le_refl _) (Nat.le_refl _) ?_
      refine Cal.mono h ?_
      rintro _ _ M7 ⟨x8, rfl, rfl, h⟩
      show OkV G miX11_readsNumber (d + 1) K 47 [some (.inr (.inr (some 66)))] [.inl x8, .inl (w32 (10 * (M3 66 48))), .inr (.inr (some 66))] M7
      refine r_iadd_l (pc := 47) (tb_at tkX11_readsNumber 24 rfl) ?_
      refine r_bipush (pc := 48) (tb_at tkX11_readsNumber 25 rfl) ⟨by decide, by decide, by decide⟩ ?_
      refine r_isub_l (pc := 50) (tb_at tkX11_readsNumber 26 rfl) ?_
      refine r_goto (tgt := 58) (pc := 51) (tb_at tkX11_readsNumber 27 rfl) (by decide) ?_
      exact h
set_option maxRecDepth 100000 in
set_option maxHeartbeats 4000000 in
theorem gX11_readsNumber_58 {G : GE} {d : Nat} {K : Mem → Prop} {M : Mem} {s1 : Int}  (h : OkV G miX11_readsNumber (d + 1) K 5 [some (.inr (.inr (some 66)))] [] (mup (mup M 66 48 s1) 66 45 (w32 (((mup M 66 48 s1) 66 45) + 1)))) : OkV G miX11_readsNumber (d + 1) K 58 [some (.inr (.inr (some 66)))] [.inl s1, .inr (.inr (some 66))] M := by
  refine r_put 10 48 s1 (pc := 58) (tb_at tkX11_readsNumber 30 rfl) ly_66 flX11_388 (fun r h => by cases h; rfl) (.inl rfl) rfl (fun h => by cases h) rfl ?_
  refine r_aload_n (pc := 61) (tb_at tkX11_readsNumber 31 rfl) rfl rfl ?_
  refine r_dup (pc := 62) (tb_at tkX11_readsNumber 32 rfl) (fun _ h => by cases h) ?_
  refine r_get 10 45 (pc := 63) (tb_at tkX11_readsNumber 33 rfl) ly_66 flX11_369 rfl ?_
  refine r_iconst (pc := 66) (tb_at tkX11_readsNumber 34 rfl) ⟨by decide, by decide⟩ ?_
  refine r_iadd (pc := 67) (tb_at tkX11_readsNumber 35 rfl) ?_
  refine r_put 10 45 (w32 (((mup M 66 48 s1) 66 45) + 1)) (pc := 68) (tb_at tkX11_readsNumber 36 rfl) ly_66 flX11_369 (fun r h => by cases h; rfl) (.inl rfl) rfl (fun h => by cases h) rfl ?_
  refine r_goto (tgt := 5) (pc := 71) (tb_at tkX11_readsNumber 37 rfl) (by decide) ?_
  exact h
set_option maxRecDepth 100000 in
set_option maxHeartbeats 4000000 in
theorem gX11_next_0 {G : GE} {d : Nat} {K : Mem → Prop} {M : Mem}  (h : CalI G miX11_here d [.inr (.inr (some 66))] M (fun x2 M1 => ((x2 = 32 → OkV G miX11_next (d + 1) K 18 [some (.inr (.inr (some 66)))] [] M1) ∧ (¬ x2 = 32 → CalI G miX11_here d [.inr (.inr (some 66))] M1 (fun x4 M3 => ((¬ x4 = 10 → CalI G miX11_here d [.inr (.inr (some 66))] (mup M3 66 47 (M3 66 45)) (fun x6 M5 => ((0 ≤ x6 → CalI G miX11_here d [.inr (.inr (some 66))] M5 (fun x8 M7 => CalI G miX11_in d [.inr (.inl x8), .inr (.inl 97), .inr (.inl 122)] M7 (fun x10 M9 => ((x10 = 0 → CalI G miX11_here d [.inr (.inr (some 66))] M9 (fun x12 M11 => CalI G miX11_in d [.inr (.inl x12), .inr (.inl 48), .inr (.inl 57)] M11 (fun x14 M13 => ((x14 = 0 → CalI G miX11_here d [.inr (.inr (some 66))] M13 (fun x16 M15 => K (mup (mup M15 66 46 (if x16 = 59 then (3 : Int) else 4)) 66 45 (w32 (((mup M15 66 46 (if x16 = 59 then (3 : Int) else 4)) 66 45) + 1))))) ∧ (¬ x14 = 0 → CalV G miX11_readsNumber d [.inr (.inr (some 66))] M13 (fun M19 => K M19)))))) ∧ (¬ x10 = 0 → CalV G miX11_readsWord d [.inr (.inr (some 66))] M9 (fun M20 => K M20)))))) ∧ (x6 < 0 → K (mup M5 66 46 0))))) ∧ (x4 = 10 → OkV G miX11_next (d + 1) K 18 [some (.inr (.inr (some 66)))] [] M3))))))) : OkV G miX11_next (d + 1) K 0 [some (.inr (.inr (some 66)))] [] M := by
  refine r_aload_n (pc := 0) (tb_at tkX11_next 0 rfl) rfl rfl ?_
  refine r_invV (mc' := 0) (ms' := 0) [] (S := []) (pc := 1) (tb_at tkX11_next 1 rfl) rfl ly_66 rfl rfl clX11_375 (Nat.le_of_ble_eq_true rfl) (Nat.le_refl _) (Nat.le_refl _) ?_
  refine Cal.mono h ?_
  rintro _ _ M1 ⟨x2, rfl, rfl, h⟩
  show OkV G miX11_next (d + 1) K 4 [some (.inr (.inr (some 66)))] [.inl x2] M1
  refine r_bipush (pc := 4) (tb_at tkX11_next 2 rfl) ⟨by decide, by decide, by decide⟩ ?_
  refine q_icmp_eq (tgt := 18) (pc := 6) (tb_at tkX11_next 3 rfl) (by decide) (fun c => ?_) (fun c => ?_)
  · replace h := h.1 c
    exact h
  · replace h := h.2 c
    refine r_aload_n (pc := 9) (tb_at tkX11_next 4 rfl) rfl rfl ?_
    refine r_invV (mc' := 0) (ms' := 0) [] (S := []) (pc := 10) (tb_at tkX11_next 5 rfl) rfl ly_66 rfl rfl clX11_375 (Nat.le_of_ble_eq_true rfl) (Nat.le_refl _) (Nat.le_refl _) ?_
    refine Cal.mono h ?_
    rintro _ _ M3 ⟨x4, rfl, rfl, h⟩
    show OkV G miX11_next (d + 1) K 13 [some (.inr (.inr (some 66)))] [.inl x4] M3
    refine r_bipush (pc := 13) (tb_at tkX11_next 6 rfl) ⟨by decide, by decide, by decide⟩ ?_
    refine q_icmp_ne (tgt := 31) (pc := 15) (tb_at tkX11_next 7 rfl) (by decide) (fun c => ?_) (fun c => ?_)
    · replace h := h.1 c
      refine r_aload_n (pc := 31) (tb_at tkX11_next 15 rfl) rfl rfl ?_
      refine r_aload_n (pc := 32) (tb_at tkX11_next 16 rfl) rfl rfl ?_
      refine r_get 10 45 (pc := 33) (tb_at tkX11_next 17 rfl) ly_66 flX11_369 rfl ?_
      refine r_put 10 47 (M3 66 45) (pc := 36) (tb_at tkX11_next 18 rfl) ly_66 flX11_385 (fun r h => by cases h; rfl) (.inl rfl) rfl (fun h => by cases h) rfl ?_
      refine r_aload_n (pc := 39) (tb_at tkX11_next 19 rfl) rfl rfl ?_
      refine r_invV (mc' := 0) (ms' := 0) [] (S := []) (pc := 40) (tb_at tkX11_next 20 rfl) rfl ly_66 rfl rfl clX11_375 (Nat.le_of_ble_eq_true rfl) (Nat.le_refl _) (Nat.le_refl _) ?_
      refine Cal.mono h ?_
      rintro _ _ M5 ⟨x6, rfl, rfl, h⟩
      show OkV G miX11_next (d + 1) K 43 [some (.inr (.inr (some 66)))] [.inl x6] M5
      refine q_if_ge (tgt := 54) (pc := 43) (tb_at tkX11_next 21 rfl) (by decide) (fun c => ?_) (fun c => ?_)
      · replace h := h.1 c
        refine r_aload_n (pc := 54) (tb_at tkX11_next 26 rfl) rfl rfl ?_
        refine r_invV (mc' := 0) (ms' := 0) [] (S := []) (pc := 55) (tb_at tkX11_next 27 rfl) rfl ly_66 rfl rfl clX11_375 (Nat.le_of_ble_eq_true rfl) (Nat.le_refl _) (Nat.le_refl _) ?_
        refine Cal.mono h ?_
        rintro _ _ M7 ⟨x8, rfl, rfl, h⟩
        show OkV G miX11_next (d + 1) K 58 [some (.inr (.inr (some 66)))] [.inl x8] M7
        refine r_i2l (pc := 58) (tb_at tkX11_next 28 rfl) ?_
        refine r_ldc2 (n := 97) (pc := 59) (tb_at tkX11_next 29 rfl) kcX11_378 ⟨by decide, by decide⟩ ?_
        refine r_ldc2 (n := 122) (pc := 62) (tb_at tkX11_next 30 rfl) kcX11_380 ⟨by decide, by decide⟩ ?_
        refine r_invS (mc' := 0) (ms' := 0) [.inr (.inl x8), .inr (.inl 97), .inr (.inl 122)] (S := []) (pc := 65) (tb_at tkX11_next 31 rfl) rfl clX11_103 (Nat.le_of_ble_eq_true rfl) (Nat.le_refl _) (Nat.le_refl _) ?_
        refine Cal.mono h ?_
        rintro _ _ M9 ⟨x10, rfl, rfl, h⟩
        show OkV G miX11_next (d + 1) K 68 [some (.inr (.inr (some 66)))] [.inl x10] M9
        refine q_if_eq (tgt := 78) (pc := 68) (tb_at tkX11_next 32 rfl) (by decide) (fun c => ?_) (fun c => ?_)
        · replace h := h.1 c
          refine r_aload_n (pc := 78) (tb_at tkX11_next 36 rfl) rfl rfl ?_
          refine r_invV (mc' := 0) (ms' := 0) [] (S := []) (pc := 79) (tb_at tkX11_next 37 rfl) rfl ly_66 rfl rfl clX11_375 (Nat.le_of_ble_eq_true rfl) (Nat.le_refl _) (Nat.le_refl _) ?_
          refine Cal.mono h ?_
          rintro _ _ M11 ⟨x12, rfl, rfl, h⟩
          show OkV G miX11_next (d + 1) K 82 [some (.inr (.inr (some 66)))] [.inl x12] M11
          refine r_i2l (pc := 82) (tb_at tkX11_next 38 rfl) ?_
          refine r_ldc2 (n := 48) (pc := 83) (tb_at tkX11_next 39 rfl) kcX11_391 ⟨by decide, by decide⟩ ?_
          refine r_ldc2 (n := 57) (pc := 86) (tb_at tkX11_next 40 rfl) kcX11_393 ⟨by decide, by decide⟩ ?_
          refine r_invS (mc' := 0) (ms' := 0) [.inr (.inl x12), .inr (.inl 48), .inr (.inl 57)] (S := []) (pc := 89) (tb_at tkX11_next 41 rfl) rfl clX11_103 (Nat.le_of_ble_eq_true rfl) (Nat.le_refl _) (Nat.le_refl _) ?_
          refine Cal.mono h ?_
          rintro _ _ M13 ⟨x14, rfl, rfl, h⟩
          show OkV G miX11_next (d + 1) K 92 [some (.inr (.inr (some 66)))] [.inl x14] M13
          refine q_if_eq (tgt := 102) (pc := 92) (tb_at tkX11_next 42 rfl) (by decide) (fun c => ?_) (fun c => ?_)
          · replace h := h.1 c
            refine r_aload_n (pc := 102) (tb_at tkX11_next 46 rfl) rfl rfl ?_
            refine r_aload_n (pc := 103) (tb_at tkX11_next 47 rfl) rfl rfl ?_
            refine r_invV (mc' := 0) (ms' := 0) [] (S := [.inr (.inr (some 66))]) (pc := 104) (tb_at tkX11_next 48 rfl) rfl ly_66 rfl rfl clX11_375 (Nat.le_of_ble_eq_true rfl) (Nat.le_refl _) (Nat.le_refl _) ?_
            refine Cal.mono h ?_
            rintro _ _ M15 ⟨x16, rfl, rfl, h⟩
            show OkV G miX11_next (d + 1) K 107 [some (.inr (.inr (some 66)))] [.inl x16, .inr (.inr (some 66))] M15
            refine r_bipush (pc := 107) (tb_at tkX11_next 49 rfl) ⟨by decide, by decide, by decide⟩ ?_
            have hJ17 : ∀ t0 : Int, t0 = (if x16 = 59 then (3 : Int) else 4) → OkV G miX11_next (d + 1) K 117 [some (.inr (.inr (some 66)))] [.inl t0, .inr (.inr (some 66))] M15 := by
              rintro _ rfl
              refine r_put 10 46 (if x16 = 59 then (3 : Int) else 4) (pc := 117) (tb_at tkX11_next 54 rfl) ly_66 flX11_382 (fun r h => by cases h; rfl) (.inl rfl) rfl (fun h => by cases h) rfl ?_
              refine r_aload_n (pc := 120) (tb_at tkX11_next 55 rfl) rfl rfl ?_
              refine r_dup (pc := 121) (tb_at tkX11_next 56 rfl) (fun _ h => by cases h) ?_
              refine r_get 10 45 (pc := 122) (tb_at tkX11_next 57 rfl) ly_66 flX11_369 rfl ?_
              refine r_iconst (pc := 125) (tb_at tkX11_next 58 rfl) ⟨by decide, by decide⟩ ?_
              refine r_iadd (pc := 126) (tb_at tkX11_next 59 rfl) ?_
              refine r_put 10 45 (w32 (((mup M15 66 46 (if x16 = 59 then (3 : Int) else 4)) 66 45) + 1)) (pc := 127) (tb_at tkX11_next 60 rfl) ly_66 flX11_369 (fun r h => by cases h; rfl) (.inl rfl) rfl (fun h => by cases h) rfl ?_
              exact r_vret (pc := 130) (tb_at tkX11_next 61 rfl) rfl (Nat.le_refl _) (Nat.le_refl _) ⟨rfl, rfl, h⟩
            refine q_icmp_ne (tgt := 116) (pc := 109) (tb_at tkX11_next 50 rfl) (by decide) (fun c18 => ?_) (fun c18 => ?_)
            · refine r_iconst (pc := 116) (tb_at tkX11_next 53 rfl) ⟨by decide, by decide⟩ ?_
              exact hJ17 _ (by simp only [if_neg c18])
            · refine r_iconst (pc := 112) (tb_at tkX11_next 51 rfl) ⟨by decide, by decide⟩ ?_
              refine r_goto (tgt := 117) (pc := 113) (tb_at tkX11_next 52 rfl) (by decide) ?_
              exact hJ17 _ (by simp only [if_pos c18])
          · replace h := h.2 c
            refine r_aload_n (pc := 95) (tb_at tkX11_next 43 rfl) rfl rfl ?_
            refine r_invV (mc' := 0) (ms' := 0) [] (S := []) (pc := 96) (tb_at tkX11_next 44 rfl) rfl ly_66 rfl rfl clX11_398 (Nat.le_of_ble_eq_true rfl) (Nat.le_refl _) (Nat.le_refl _) ?_
            refine Cal.mono h ?_
            rintro _ _ M19 ⟨rfl, rfl, h⟩
            show OkV G miX11_next (d + 1) K 99 [some (.inr (.inr (some 66)))] [] M19
            refine r_goto (tgt := 130) (pc := 99) (tb_at tkX11_next 45 rfl) (by decide) ?_
            exact r_vret (pc := 130) (tb_at tkX11_next 61 rfl) rfl (Nat.le_refl _) (Nat.le_refl _) ⟨rfl, rfl, h⟩
        · replace h := h.2 c
          refine r_aload_n (pc := 71) (tb_at tkX11_next 33 rfl) rfl rfl ?_
          refine r_invV (mc' := 0) (ms' := 0) [] (S := []) (pc := 72) (tb_at tkX11_next 34 rfl) rfl ly_66 rfl rfl clX11_395 (Nat.le_of_ble_eq_true rfl) (Nat.le_refl _) (Nat.le_refl _) ?_
          refine Cal.mono h ?_
          rintro _ _ M20 ⟨rfl, rfl, h⟩
          show OkV G miX11_next (d + 1) K 75 [some (.inr (.inr (some 66)))] [] M20
          refine r_goto (tgt := 130) (pc := 75) (tb_at tkX11_next 35 rfl) (by decide) ?_
          exact r_vret (pc := 130) (tb_at tkX11_next 61 rfl) rfl (Nat.le_refl _) (Nat.le_refl _) ⟨rfl, rfl, h⟩
      · replace h := h.2 c
        refine r_aload_n (pc := 46) (tb_at tkX11_next 22 rfl) rfl rfl ?_
        refine r_iconst (pc := 47) (tb_at tkX11_next 23 rfl) ⟨by decide, by decide⟩ ?_
        refine r_put 10 46 0 (pc := 48) (tb_at tkX11_next 24 rfl) ly_66 flX11_382 (fun r h => by cases h; rfl) (.inl rfl) rfl (fun h => by cases h) rfl ?_
        refine r_goto (tgt := 130) (pc := 51) (tb_at tkX11_next 25 rfl) (by decide) ?_
        exact r_vret (pc := 130) (tb_at tkX11_next 61 rfl) rfl (Nat.le_refl _) (Nat.le_refl _) ⟨rfl, rfl, h⟩
    · replace h := h.2 c
      exact h
set_option maxRecDepth 100000 in
set_option maxHeartbeats 4000000 in
theorem gX11_next_18 {G : GE} {d : Nat} {K : Mem → Prop} {M : Mem}  (h : OkV G miX11_next (d + 1) K 0 [some (.inr (.inr (some 66)))] [] (mup M 66 45 (w32 ((M 66 45) + 1)))) : OkV G miX11_next (d + 1) K 18 [some (.inr (.inr (some 66)))] [] M := by
  refine r_aload_n (pc := 18) (tb_at tkX11_next 8 rfl) rfl rfl ?_
  refine r_dup (pc := 19) (tb_at tkX11_next 9 rfl) (fun _ h => by cases h) ?_
  refine r_get 10 45 (pc := 20) (tb_at tkX11_next 10 rfl) ly_66 flX11_369 rfl ?_
  refine r_iconst (pc := 23) (tb_at tkX11_next 11 rfl) ⟨by decide, by decide⟩ ?_
  refine r_iadd (pc := 24) (tb_at tkX11_next 12 rfl) ?_
  refine r_put 10 45 (w32 ((M 66 45) + 1)) (pc := 25) (tb_at tkX11_next 13 rfl) ly_66 flX11_369 (fun r h => by cases h; rfl) (.inl rfl) rfl (fun h => by cases h) rfl ?_
  refine r_goto (tgt := 0) (pc := 28) (tb_at tkX11_next 14 rfl) (by decide) ?_
  exact h
set_option maxRecDepth 100000 in
set_option maxHeartbeats 4000000 in
theorem gX11_isClause_0 {G : GE} {d : Nat} {K : Int → Mem → Prop} {M : Mem} {v1 : Int}  (h : (0 ≤ v1 ∧ v1 < 60) ∧ ((¬ ((M 66 46) = 1) → OkI G miX11_isClause (d + 1) K 41 [some (.inr (.inr (some 66))), some (.inl v1), some (.inl (if (M 66 46) = 1 then (1 : Int) else 0)), none, none] [.inl 0] (mup M 95 (v1).toNat (M 66 48))) ∧ ((M 66 46) = 1 → (0 ≤ (mup M 95 (v1).toNat (M 66 48)) 66 48 ∧ (mup M 95 (v1).toNat (M 66 48)) 66 48 < 7) ∧ OkI G miX11_isClause (d + 1) K 41 [some (.inr (.inr (some 66))), some (.inl v1), some (.inl (if (M 66 46) = 1 then (1 : Int) else 0)), none, none] [.inl ((mup M 95 (v1).toNat (M 66 48)) 94 ((mup M 95 (v1).toNat (M 66 48)) 66 48).toNat)] (mup M 95 (v1).toNat (M 66 48))))) : OkI G miX11_isClause (d + 1) K 0 [some (.inr (.inr (some 66))), some (.inl v1), none, none, none] [] M := by
  refine r_aload_n (pc := 0) (tb_at tkX11_isClause 0 rfl) rfl rfl ?_
  refine r_get 10 46 (pc := 1) (tb_at tkX11_isClause 1 rfl) ly_66 flX11_382 rfl ?_
  refine r_iconst (pc := 4) (tb_at tkX11_isClause 2 rfl) ⟨by decide, by decide⟩ ?_
  have hJ1 : ∀ t0 : Int, t0 = (if (M 66 46) = 1 then (1 : Int) else 0) → OkI G miX11_isClause (d + 1) K 13 [some (.inr (.inr (some 66))), some (.inl v1), none, none, none] [.inl t0] M := by
    rintro _ rfl
    refine r_istore_n (L' := [some (.inr (.inr (some 66))), some (.inl v1), some (.inl (if (M 66 46) = 1 then (1 : Int) else 0)), none, none]) (pc := 13) (tb_at tkX11_isClause 7 rfl) rfl (by decide) rfl ?_
    refine r_aload_n (pc := 14) (tb_at tkX11_isClause 8 rfl) rfl rfl ?_
    refine r_get 10 42 (pc := 15) (tb_at tkX11_isClause 9 rfl) ly_66 flX11_97 rfl ?_
    refine r_iload_n (pc := 18) (tb_at tkX11_isClause 10 rfl) rfl rfl ?_
    refine r_aload_n (pc := 19) (tb_at tkX11_isClause 11 rfl) rfl rfl ?_
    refine r_get 10 48 (pc := 20) (tb_at tkX11_isClause 12 rfl) ly_66 flX11_388 rfl ?_
    refine r_iast (pc := 23) (tb_at tkX11_isClause 13 rfl) ly_95 h.1.1 h.1.2 rfl ?_
    replace h := h.2
    refine r_iload_n (pc := 24) (tb_at tkX11_isClause 14 rfl) rfl rfl ?_
    refine q_bif_eq (tgt := 40) (pc := 25) (tb_at tkX11_isClause 15 rfl) (by decide) (fun c => ?_) (fun c => ?_)
    · replace h := h.1 c
      refine r_iconst (pc := 40) (tb_at tkX11_isClause 22 rfl) ⟨by decide, by decide⟩ ?_
      exact h
    · replace h := h.2 c
      refine r_aload_n (pc := 28) (tb_at tkX11_isClause 16 rfl) rfl rfl ?_
      refine r_get 10 41 (pc := 29) (tb_at tkX11_isClause 17 rfl) ly_66 flX11_94 rfl ?_
      refine r_aload_n (pc := 32) (tb_at tkX11_isClause 18 rfl) rfl rfl ?_
      refine r_get 10 48 (pc := 33) (tb_at tkX11_isClause 19 rfl) ly_66 flX11_388 rfl ?_
      refine r_iald (pc := 36) (tb_at tkX11_isClause 20 rfl) ly_94 h.1.1 h.1.2 ?_
      replace h := h.2
      refine r_goto (tgt := 41) (pc := 37) (tb_at tkX11_isClause 21 rfl) (by decide) ?_
      exact h
  refine q_icmp_ne (tgt := 12) (pc := 5) (tb_at tkX11_isClause 3 rfl) (by decide) (fun c2 => ?_) (fun c2 => ?_)
  · refine r_iconst (pc := 12) (tb_at tkX11_isClause 6 rfl) ⟨by decide, by decide⟩ ?_
    exact hJ1 _ (by simp only [if_neg c2])
  · refine r_iconst (pc := 8) (tb_at tkX11_isClause 4 rfl) ⟨by decide, by decide⟩ ?_
    refine r_goto (tgt := 13) (pc := 9) (tb_at tkX11_isClause 5 rfl) (by decide) ?_
    exact hJ1 _ (by simp only [if_pos c2])
set_option maxRecDepth 100000 in
set_option maxHeartbeats 4000000 in
theorem gX11_isClause_41 {G : GE} {d : Nat} {K : Int → Mem → Prop} {M : Mem} {v1 v2 s0 : Int}  (h : ((v2 = 0 → OkI G miX11_isClause (d + 1) K 53 [some (.inr (.inr (some 66))), some (.inl v1), some (.inl v2), some (.inl s0), some (.inl 0)] [] M) ∧ (¬ v2 = 0 → CalV G miX11_next d [.inr (.inr (some 66))] M (fun M1 => OkI G miX11_isClause (d + 1) K 53 [some (.inr (.inr (some 66))), some (.inl v1), some (.inl v2), some (.inl s0), some (.inl 0)] [] M1)))) : OkI G miX11_isClause (d + 1) K 41 [some (.inr (.inr (some 66))), some (.inl v1), some (.inl v2), none, none] [.inl s0] M := by
  refine r_istore_n (L' := [some (.inr (.inr (some 66))), some (.inl v1), some (.inl v2), some (.inl s0), none]) (pc := 41) (tb_at tkX11_isClause 23 rfl) rfl (by decide) rfl ?_
  refine r_iload_n (pc := 42) (tb_at tkX11_isClause 24 rfl) rfl rfl ?_
  refine q_if_eq (tgt := 50) (pc := 43) (tb_at tkX11_isClause 25 rfl) (by decide) (fun c => ?_) (fun c => ?_)
  · replace h := h.1 c
    refine r_iconst (pc := 50) (tb_at tkX11_isClause 28 rfl) ⟨by decide, by decide⟩ ?_
    refine r_istore (L' := [some (.inr (.inr (some 66))), some (.inl v1), some (.inl v2), some (.inl s0), some (.inl 0)]) (pc := 51) (tb_at tkX11_isClause 29 rfl) (by decide) rfl ?_
    exact h
  · replace h := h.2 c
    refine r_aload_n (pc := 46) (tb_at tkX11_isClause 26 rfl) rfl rfl ?_
    refine r_invV (mc' := 0) (ms' := 0) [] (S := []) (pc := 47) (tb_at tkX11_isClause 27 rfl) rfl ly_66 rfl rfl clX11_401 (Nat.le_of_ble_eq_true rfl) (Nat.le_refl _) (Nat.le_refl _) ?_
    refine Cal.mono h ?_
    rintro _ _ M1 ⟨rfl, rfl, h⟩
    show OkI G miX11_isClause (d + 1) K 50 [some (.inr (.inr (some 66))), some (.inl v1), some (.inl v2), some (.inl s0), none] [] M1
    refine r_iconst (pc := 50) (tb_at tkX11_isClause 28 rfl) ⟨by decide, by decide⟩ ?_
    refine r_istore (L' := [some (.inr (.inr (some 66))), some (.inl v1), some (.inl v2), some (.inl s0), some (.inl 0)]) (pc := 51) (tb_at tkX11_isClause 29 rfl) (by decide) rfl ?_
    exact h
set_option maxRecDepth 100000 in
set_option maxHeartbeats 4000000 in
theorem gX11_isClause_53 {G : GE} {d : Nat} {K : Int → Mem → Prop} {M : Mem} {v1 v2 v3 v4 : Int}  (h : ((v3 ≤ v4 → ((v2 = 0 ∨ v2 = 1) ∧ K v2 M)) ∧ (v4 < v3 → ((v2 = 0 → ((v2 = 0 ∨ v2 = 1) ∧ K v2 M)) ∧ (¬ v2 = 0 → (0 ≤ (4 * v1) + v4 ∧ (4 * v1) + v4 < 240) ∧ ((¬ ((M 66 46) = 2) → OkI G miX11_isClause (d + 1) K 53 [some (.inr (.inr (some 66))), some (.inl v1), some (.inl (if (M 66 46) = 2 then (1 : Int) else 0)), some (.inl v3), some (.inl (w32 (v4 + 1)))] [] (mup M 96 ((4 * v1) + v4).toNat (M 66 48))) ∧ ((M 66 46) = 2 → CalV G miX11_next d [.inr (.inr (some 66))] (mup M 96 ((4 * v1) + v4).toNat (M 66 48)) (fun M1 => OkI G miX11_isClause (d + 1) K 53 [some (.inr (.inr (some 66))), some (.inl v1), some (.inl (if (M 66 46) = 2 then (1 : Int) else 0)), some (.inl v3), some (.inl (w32 (v4 + 1)))] [] M1)))))))) : OkI G miX11_isClause (d + 1) K 53 [some (.inr (.inr (some 66))), some (.inl v1), some (.inl v2), some (.inl v3), some (.inl v4)] [] M := by
  refine r_iload (pc := 53) (tb_at tkX11_isClause 30 rfl) rfl ?_
  refine r_iload_n (pc := 55) (tb_at tkX11_isClause 31 rfl) rfl rfl ?_
  refine q_icmp_ge (tgt := 106) (pc := 56) (tb_at tkX11_isClause 32 rfl) (by decide) (fun c => ?_) (fun c => ?_)
  · replace h := h.1 c
    refine r_iload_n (pc := 106) (tb_at tkX11_isClause 59 rfl) rfl rfl ?_
    exact r_zret (pc := 107) (tb_at tkX11_isClause 60 rfl) rfl h.1 (Nat.le_refl _) (Nat.le_refl _) ⟨_, rfl, rfl, h.2⟩
  · replace h := h.2 c
    refine r_iload_n (pc := 59) (tb_at tkX11_isClause 33 rfl) rfl rfl ?_
    refine q_if_eq (tgt := 106) (pc := 60) (tb_at tkX11_isClause 34 rfl) (by decide) (fun c => ?_) (fun c => ?_)
    · replace h := h.1 c
      refine r_iload_n (pc := 106) (tb_at tkX11_isClause 59 rfl) rfl rfl ?_
      exact r_zret (pc := 107) (tb_at tkX11_isClause 60 rfl) rfl h.1 (Nat.le_refl _) (Nat.le_refl _) ⟨_, rfl, rfl, h.2⟩
    · replace h := h.2 c
      refine r_aload_n (pc := 63) (tb_at tkX11_isClause 35 rfl) rfl rfl ?_
      refine r_get 10 46 (pc := 64) (tb_at tkX11_isClause 36 rfl) ly_66 flX11_382 rfl ?_
      refine r_iconst (pc := 67) (tb_at tkX11_isClause 37 rfl) ⟨by decide, by decide⟩ ?_
      have hJ2 : ∀ t0 : Int, t0 = (if (M 66 46) = 2 then (1 : Int) else 0) → OkI G miX11_isClause (d + 1) K 76 [some (.inr (.inr (some 66))), some (.inl v1), some (.inl v2), some (.inl v3), some (.inl v4)] [.inl t0] M := by
        rintro _ rfl
        refine r_istore_n (L' := [some (.inr (.inr (some 66))), some (.inl v1), some (.inl (if (M 66 46) = 2 then (1 : Int) else 0)), some (.inl v3), some (.inl v4)]) (pc := 76) (tb_at tkX11_isClause 42 rfl) rfl (by decide) rfl ?_
        refine r_aload_n (pc := 77) (tb_at tkX11_isClause 43 rfl) rfl rfl ?_
        refine r_get 10 43 (pc := 78) (tb_at tkX11_isClause 44 rfl) ly_66 flX11_100 rfl ?_
        refine r_iconst (pc := 81) (tb_at tkX11_isClause 45 rfl) ⟨by decide, by decide⟩ ?_
        refine r_iload_n (pc := 82) (tb_at tkX11_isClause 46 rfl) rfl rfl ?_
        refine r_imul (pc := 83) (tb_at tkX11_isClause 47 rfl) ?_
        refine r_iload (pc := 84) (tb_at tkX11_isClause 48 rfl) rfl ?_
        refine r_iadd_l (pc := 86) (tb_at tkX11_isClause 49 rfl) ?_
        refine r_aload_n (pc := 87) (tb_at tkX11_isClause 50 rfl) rfl rfl ?_
        refine r_get 10 48 (pc := 88) (tb_at tkX11_isClause 51 rfl) ly_66 flX11_388 rfl ?_
        refine r_iast_w (pc := 91) (tb_at tkX11_isClause 52 rfl) ly_96 (by decide) h.1.1 h.1.2 rfl ?_
        replace h := h.2
        refine r_iload_n (pc := 92) (tb_at tkX11_isClause 53 rfl) rfl rfl ?_
        refine q_bif_eq (tgt := 100) (pc := 93) (tb_at tkX11_isClause 54 rfl) (by decide) (fun c => ?_) (fun c => ?_)
        · replace h := h.1 c
          refine r_iinc (L' := [some (.inr (.inr (some 66))), some (.inl v1), some (.inl (if (M 66 46) = 2 then (1 : Int) else 0)), some (.inl v3), some (.inl (w32 (v4 + 1)))]) (pc := 100) (tb_at tkX11_isClause 57 rfl) rfl (by decide) rfl ?_
          refine r_goto (tgt := 53) (pc := 103) (tb_at tkX11_isClause 58 rfl) (by decide) ?_
          exact h
        · replace h := h.2 c
          refine r_aload_n (pc := 96) (tb_at tkX11_isClause 55 rfl) rfl rfl ?_
          refine r_invV (mc' := 0) (ms' := 0) [] (S := []) (pc := 97) (tb_at tkX11_isClause 56 rfl) rfl ly_66 rfl rfl clX11_401 (Nat.le_of_ble_eq_true rfl) (Nat.le_refl _) (Nat.le_refl _) ?_
          refine Cal.mono h ?_
          rintro _ _ M1 ⟨rfl, rfl, h⟩
          show OkI G miX11_isClause (d + 1) K 100 [some (.inr (.inr (some 66))), some (.inl v1), some (.inl (if (M 66 46) = 2 then (1 : Int) else 0)), some (.inl v3), some (.inl v4)] [] M1
          refine r_iinc (L' := [some (.inr (.inr (some 66))), some (.inl v1), some (.inl (if (M 66 46) = 2 then (1 : Int) else 0)), some (.inl v3), some (.inl (w32 (v4 + 1)))]) (pc := 100) (tb_at tkX11_isClause 57 rfl) rfl (by decide) rfl ?_
          refine r_goto (tgt := 53) (pc := 103) (tb_at tkX11_isClause 58 rfl) (by decide) ?_
          exact h
      refine q_icmp_ne (tgt := 75) (pc := 68) (tb_at tkX11_isClause 38 rfl) (by decide) (fun c3 => ?_) (fun c3 => ?_)
      · refine r_iconst (pc := 75) (tb_at tkX11_isClause 41 rfl) ⟨by decide, by decide⟩ ?_
        exact hJ2 _ (by simp only [if_neg c3])
      · refine r_iconst (pc := 71) (tb_at tkX11_isClause 39 rfl) ⟨by decide, by decide⟩ ?_
        refine r_goto (tgt := 76) (pc := 72) (tb_at tkX11_isClause 40 rfl) (by decide) ?_
        exact hJ2 _ (by simp only [if_pos c3])
set_option maxRecDepth 100000 in
set_option maxHeartbeats 4000000 in
theorem gX11_does_0 {G : GE} {d : Nat} {K : Int → Mem → Prop} {M : Mem} {v1 : Int}  (h : (0 ≤ 4 * v1 ∧ 4 * v1 < 240) ∧ (0 ≤ (4 * v1) + 1 ∧ (4 * v1) + 1 < 240) ∧ (0 ≤ (4 * v1) + 2 ∧ (4 * v1) + 2 < 240) ∧ (0 ≤ v1 ∧ v1 < 60) ∧ (((M 95 (v1).toNat) = 0 → (0 ≤ (4 * v1) + 3 ∧ (4 * v1) + 3 < 240) ∧ CalI G miX11_fly d [.inr (.inr (some 66)), .inl (M 96 (4 * v1).toNat), .inl (M 96 ((4 * v1) + 1).toNat), .inl (M 96 ((4 * v1) + 2).toNat), .inl (M 96 ((4 * v1) + 3).toNat)] M (fun x2 M1 => K x2 M1)) ∧ ((M 95 (v1).toNat) = 1 → CalI G miX11_kind d [.inr (.inr (some 66)), .inl (M 96 (4 * v1).toNat), .inl (M 96 ((4 * v1) + 1).toNat), .inl (M 96 ((4 * v1) + 2).toNat)] M (fun x4 M3 => K x4 M3)) ∧ ((M 95 (v1).toNat) = 2 → CalI G miX11_base d [.inr (.inr (some 66)), .inl (M 96 (4 * v1).toNat)] M (fun x6 M5 => K x6 M5)) ∧ ((M 95 (v1).toNat) = 3 → CalI G miX11_fee d [.inr (.inr (some 66)), .inl (M 96 (4 * v1).toNat), .inl (M 96 ((4 * v1) + 1).toNat)] M (fun x8 M7 => K x8 M7)) ∧ ((M 95 (v1).toNat) = 4 → CalI G miX11_mark d [.inr (.inr (some 66)), .inl (M 96 (4 * v1).toNat), .inl (M 96 ((4 * v1) + 1).toNat), .inl 1] M (fun x10 M9 => K x10 M9)) ∧ ((M 95 (v1).toNat) = 5 → CalI G miX11_mark d [.inr (.inr (some 66)), .inl (M 96 (4 * v1).toNat), .inl (M 96 ((4 * v1) + 1).toNat), .inl 2] M (fun x12 M11 => K x12 M11)) ∧ ((M 95 (v1).toNat) < 0 ∨ 5 < (M 95 (v1).toNat) → CalI G miX11_mark d [.inr (.inr (some 66)), .inl (M 96 (4 * v1).toNat), .inl (M 96 ((4 * v1) + 1).toNat), .inl 0] M (fun x14 M13 => K x14 M13)))) : OkI G miX11_does (d + 1) K 0 [some (.inr (.inr (some 66))), some (.inl v1), none, none, none] [] M := by
  refine r_aload_n (pc := 0) (tb_at tkX11_does 0 rfl) rfl rfl ?_
  refine r_get 10 43 (pc := 1) (tb_at tkX11_does 1 rfl) ly_66 flX11_100 rfl ?_
  refine r_iconst (pc := 4) (tb_at tkX11_does 2 rfl) ⟨by decide, by decide⟩ ?_
  refine r_iload_n (pc := 5) (tb_at tkX11_does 3 rfl) rfl rfl ?_
  refine r_imul (pc := 6) (tb_at tkX11_does 4 rfl) ?_
  refine r_iald_w (pc := 7) (tb_at tkX11_does 5 rfl) ly_96 (by decide) h.1.1 h.1.2 ?_
  replace h := h.2
  refine r_istore_n (L' := [some (.inr (.inr (some 66))), some (.inl v1), some (.inl (M 96 (4 * v1).toNat)), none, none]) (pc := 8) (tb_at tkX11_does 6 rfl) rfl (by decide) rfl ?_
  refine r_aload_n (pc := 9) (tb_at tkX11_does 7 rfl) rfl rfl ?_
  refine r_get 10 43 (pc := 10) (tb_at tkX11_does 8 rfl) ly_66 flX11_100 rfl ?_
  refine r_iconst (pc := 13) (tb_at tkX11_does 9 rfl) ⟨by decide, by decide⟩ ?_
  refine r_iload_n (pc := 14) (tb_at tkX11_does 10 rfl) rfl rfl ?_
  refine r_imul (pc := 15) (tb_at tkX11_does 11 rfl) ?_
  refine r_iconst (pc := 16) (tb_at tkX11_does 12 rfl) ⟨by decide, by decide⟩ ?_
  refine r_iadd_l (pc := 17) (tb_at tkX11_does 13 rfl) ?_
  refine r_iald_w (pc := 18) (tb_at tkX11_does 14 rfl) ly_96 (by decide) h.1.1 h.1.2 ?_
  replace h := h.2
  refine r_istore_n (L' := [some (.inr (.inr (some 66))), some (.inl v1), some (.inl (M 96 (4 * v1).toNat)), some (.inl (M 96 ((4 * v1) + 1).toNat)), none]) (pc := 19) (tb_at tkX11_does 15 rfl) rfl (by decide) rfl ?_
  refine r_aload_n (pc := 20) (tb_at tkX11_does 16 rfl) rfl rfl ?_
  refine r_get 10 43 (pc := 21) (tb_at tkX11_does 17 rfl) ly_66 flX11_100 rfl ?_
  refine r_iconst (pc := 24) (tb_at tkX11_does 18 rfl) ⟨by decide, by decide⟩ ?_
  refine r_iload_n (pc := 25) (tb_at tkX11_does 19 rfl) rfl rfl ?_
  refine r_imul (pc := 26) (tb_at tkX11_does 20 rfl) ?_
  refine r_iconst (pc := 27) (tb_at tkX11_does 21 rfl) ⟨by decide, by decide⟩ ?_
  refine r_iadd_l (pc := 28) (tb_at tkX11_does 22 rfl) ?_
  refine r_iald_w (pc := 29) (tb_at tkX11_does 23 rfl) ly_96 (by decide) h.1.1 h.1.2 ?_
  replace h := h.2
  refine r_istore (L' := [some (.inr (.inr (some 66))), some (.inl v1), some (.inl (M 96 (4 * v1).toNat)), some (.inl (M 96 ((4 * v1) + 1).toNat)), some (.inl (M 96 ((4 * v1) + 2).toNat))]) (pc := 30) (tb_at tkX11_does 24 rfl) (by decide) rfl ?_
  refine r_aload_n (pc := 32) (tb_at tkX11_does 25 rfl) rfl rfl ?_
  refine r_get 10 42 (pc := 33) (tb_at tkX11_does 26 rfl) ly_66 flX11_97 rfl ?_
  refine r_iload_n (pc := 36) (tb_at tkX11_does 27 rfl) rfl rfl ?_
  refine r_iald (pc := 37) (tb_at tkX11_does 28 rfl) ly_95 h.1.1 h.1.2 ?_
  replace h := h.2
  by_cases c0 : (M 95 (v1).toNat) < 0 ∨ 5 < (M 95 (v1).toNat)
  · refine r_tblOut (tgt := 133) (pc := 38) (tb_at tkX11_does 29 rfl) c0 (by decide) ?_
    replace h := h.2.2.2.2.2.2 c0
    refine r_aload_n (pc := 133) (tb_at tkX11_does 71 rfl) rfl rfl ?_
    refine r_iload_n (pc := 134) (tb_at tkX11_does 72 rfl) rfl rfl ?_
    refine r_iload_n (pc := 135) (tb_at tkX11_does 73 rfl) rfl rfl ?_
    refine r_iconst (pc := 136) (tb_at tkX11_does 74 rfl) ⟨by decide, by decide⟩ ?_
    refine r_invV (mc' := 0) (ms' := 0) [.inl (M 96 (4 * v1).toNat), .inl (M 96 ((4 * v1) + 1).toNat), .inl 0] (S := []) (pc := 137) (tb_at tkX11_does 75 rfl) rfl ly_66 rfl rfl clX11_414 (Nat.le_of_ble_eq_true rfl) (Nat.le_refl _) (Nat.le_refl _) ?_
    refine Cal.mono h ?_
    rintro _ _ M13 ⟨x14, rfl, rfl, h⟩
    show OkI G miX11_does (d + 1) K 140 [some (.inr (.inr (some 66))), some (.inl v1), some (.inl (M 96 (4 * v1).toNat)), some (.inl (M 96 ((4 * v1) + 1).toNat)), some (.inl (M 96 ((4 * v1) + 2).toNat))] [.inl x14] M13
    exact r_iret (pc := 140) (tb_at tkX11_does 76 rfl) rfl (Nat.le_refl _) (Nat.le_refl _) ⟨_, rfl, rfl, h⟩
  · have cc : (M 95 (v1).toNat) = 0 ∨ (M 95 (v1).toNat) = 1 ∨ (M 95 (v1).toNat) = 2 ∨ (M 95 (v1).toNat) = 3 ∨ (M 95 (v1).toNat) = 4 ∨ (M 95 (v1).toNat) = 5 := by omega
    rcases cc with c | c | c | c | c | c
    · refine r_tblIn (off := 38) (tgt := 76) (pc := 38) (tb_at tkX11_does 29 rfl) (by omega) (by omega) (by rw [c]; rfl) (by decide) ?_
      replace h := h.1 c
      refine r_aload_n (pc := 76) (tb_at tkX11_does 30 rfl) rfl rfl ?_
      refine r_iload_n (pc := 77) (tb_at tkX11_does 31 rfl) rfl rfl ?_
      refine r_iload_n (pc := 78) (tb_at tkX11_does 32 rfl) rfl rfl ?_
      refine r_iload (pc := 79) (tb_at tkX11_does 33 rfl) rfl ?_
      refine r_aload_n (pc := 81) (tb_at tkX11_does 34 rfl) rfl rfl ?_
      refine r_get 10 43 (pc := 82) (tb_at tkX11_does 35 rfl) ly_66 flX11_100 rfl ?_
      refine r_iconst (pc := 85) (tb_at tkX11_does 36 rfl) ⟨by decide, by decide⟩ ?_
      refine r_iload_n (pc := 86) (tb_at tkX11_does 37 rfl) rfl rfl ?_
      refine r_imul (pc := 87) (tb_at tkX11_does 38 rfl) ?_
      refine r_iconst (pc := 88) (tb_at tkX11_does 39 rfl) ⟨by decide, by decide⟩ ?_
      refine r_iadd_l (pc := 89) (tb_at tkX11_does 40 rfl) ?_
      refine r_iald_w (pc := 90) (tb_at tkX11_does 41 rfl) ly_96 (by decide) h.1.1 h.1.2 ?_
      replace h := h.2
      refine r_invV (mc' := 0) (ms' := 0) [.inl (M 96 (4 * v1).toNat), .inl (M 96 ((4 * v1) + 1).toNat), .inl (M 96 ((4 * v1) + 2).toNat), .inl (M 96 ((4 * v1) + 3).toNat)] (S := []) (pc := 91) (tb_at tkX11_does 42 rfl) rfl ly_66 rfl rfl clX11_305 (Nat.le_of_ble_eq_true rfl) (Nat.le_refl _) (Nat.le_refl _) ?_
      refine Cal.mono h ?_
      rintro _ _ M1 ⟨x2, rfl, rfl, h⟩
      show OkI G miX11_does (d + 1) K 94 [some (.inr (.inr (some 66))), some (.inl v1), some (.inl (M 96 (4 * v1).toNat)), some (.inl (M 96 ((4 * v1) + 1).toNat)), some (.inl (M 96 ((4 * v1) + 2).toNat))] [.inl x2] M1
      exact r_iret (pc := 94) (tb_at tkX11_does 43 rfl) rfl (Nat.le_refl _) (Nat.le_refl _) ⟨_, rfl, rfl, h⟩
    · refine r_tblIn (off := 57) (tgt := 95) (pc := 38) (tb_at tkX11_does 29 rfl) (by omega) (by omega) (by rw [c]; rfl) (by decide) ?_
      replace h := h.2.1 c
      refine r_aload_n (pc := 95) (tb_at tkX11_does 44 rfl) rfl rfl ?_
      refine r_iload_n (pc := 96) (tb_at tkX11_does 45 rfl) rfl rfl ?_
      refine r_iload_n (pc := 97) (tb_at tkX11_does 46 rfl) rfl rfl ?_
      refine r_iload (pc := 98) (tb_at tkX11_does 47 rfl) rfl ?_
      refine r_invV (mc' := 0) (ms' := 0) [.inl (M 96 (4 * v1).toNat), .inl (M 96 ((4 * v1) + 1).toNat), .inl (M 96 ((4 * v1) + 2).toNat)] (S := []) (pc := 100) (tb_at tkX11_does 48 rfl) rfl ly_66 rfl rfl clX11_404 (Nat.le_of_ble_eq_true rfl) (Nat.le_refl _) (Nat.le_refl _) ?_
      refine Cal.mono h ?_
      rintro _ _ M3 ⟨x4, rfl, rfl, h⟩
      show OkI G miX11_does (d + 1) K 103 [some (.inr (.inr (some 66))), some (.inl v1), some (.inl (M 96 (4 * v1).toNat)), some (.inl (M 96 ((4 * v1) + 1).toNat)), some (.inl (M 96 ((4 * v1) + 2).toNat))] [.inl x4] M3
      exact r_iret (pc := 103) (tb_at tkX11_does 49 rfl) rfl (Nat.le_refl _) (Nat.le_refl _) ⟨_, rfl, rfl, h⟩
    · refine r_tblIn (off := 66) (tgt := 104) (pc := 38) (tb_at tkX11_does 29 rfl) (by omega) (by omega) (by rw [c]; rfl) (by decide) ?_
      replace h := h.2.2.1 c
      refine r_aload_n (pc := 104) (tb_at tkX11_does 50 rfl) rfl rfl ?_
      refine r_iload_n (pc := 105) (tb_at tkX11_does 51 rfl) rfl rfl ?_
      refine r_invV (mc' := 0) (ms' := 0) [.inl (M 96 (4 * v1).toNat)] (S := []) (pc := 106) (tb_at tkX11_does 52 rfl) rfl ly_66 rfl rfl clX11_408 (Nat.le_of_ble_eq_true rfl) (Nat.le_refl _) (Nat.le_refl _) ?_
      refine Cal.mono h ?_
      rintro _ _ M5 ⟨x6, rfl, rfl, h⟩
      show OkI G miX11_does (d + 1) K 109 [some (.inr (.inr (some 66))), some (.inl v1), some (.inl (M 96 (4 * v1).toNat)), some (.inl (M 96 ((4 * v1) + 1).toNat)), some (.inl (M 96 ((4 * v1) + 2).toNat))] [.inl x6] M5
      exact r_iret (pc := 109) (tb_at tkX11_does 53 rfl) rfl (Nat.le_refl _) (Nat.le_refl _) ⟨_, rfl, rfl, h⟩
    · refine r_tblIn (off := 72) (tgt := 110) (pc := 38) (tb_at tkX11_does 29 rfl) (by omega) (by omega) (by rw [c]; rfl) (by decide) ?_
      replace h := h.2.2.2.1 c
      refine r_aload_n (pc := 110) (tb_at tkX11_does 54 rfl) rfl rfl ?_
      refine r_iload_n (pc := 111) (tb_at tkX11_does 55 rfl) rfl rfl ?_
      refine r_iload_n (pc := 112) (tb_at tkX11_does 56 rfl) rfl rfl ?_
      refine r_invV (mc' := 0) (ms' := 0) [.inl (M 96 (4 * v1).toNat), .inl (M 96 ((4 * v1) + 1).toNat)] (S := []) (pc := 113) (tb_at tkX11_does 57 rfl) rfl ly_66 rfl rfl clX11_411 (Nat.le_of_ble_eq_true rfl) (Nat.le_refl _) (Nat.le_refl _) ?_
      refine Cal.mono h ?_
      rintro _ _ M7 ⟨x8, rfl, rfl, h⟩
      show OkI G miX11_does (d + 1) K 116 [some (.inr (.inr (some 66))), some (.inl v1), some (.inl (M 96 (4 * v1).toNat)), some (.inl (M 96 ((4 * v1) + 1).toNat)), some (.inl (M 96 ((4 * v1) + 2).toNat))] [.inl x8] M7
      exact r_iret (pc := 116) (tb_at tkX11_does 58 rfl) rfl (Nat.le_refl _) (Nat.le_refl _) ⟨_, rfl, rfl, h⟩
    · refine r_tblIn (off := 79) (tgt := 117) (pc := 38) (tb_at tkX11_does 29 rfl) (by omega) (by omega) (by rw [c]; rfl) (by decide) ?_
      replace h := h.2.2.2.2.1 c
      refine r_aload_n (pc := 117) (tb_at tkX11_does 59 rfl) rfl rfl ?_
      refine r_iload_n (pc := 118) (tb_at tkX11_does 60 rfl) rfl rfl ?_
      refine r_iload_n (pc := 119) (tb_at tkX11_does 61 rfl) rfl rfl ?_
      refine r_iconst (pc := 120) (tb_at tkX11_does 62 rfl) ⟨by decide, by decide⟩ ?_
      refine r_invV (mc' := 0) (ms' := 0) [.inl (M 96 (4 * v1).toNat), .inl (M 96 ((4 * v1) + 1).toNat), .inl 1] (S := []) (pc := 121) (tb_at tkX11_does 63 rfl) rfl ly_66 rfl rfl clX11_414 (Nat.le_of_ble_eq_true rfl) (Nat.le_refl _) (Nat.le_refl _) ?_
      refine Cal.mono h ?_
      rintro _ _ M9 ⟨x10, rfl, rfl, h⟩
      show OkI G miX11_does (d + 1) K 124 [some (.inr (.inr (some 66))), some (.inl v1), some (.inl (M 96 (4 * v1).toNat)), some (.inl (M 96 ((4 * v1) + 1).toNat)), some (.inl (M 96 ((4 * v1) + 2).toNat))] [.inl x10] M9
      exact r_iret (pc := 124) (tb_at tkX11_does 64 rfl) rfl (Nat.le_refl _) (Nat.le_refl _) ⟨_, rfl, rfl, h⟩
    · refine r_tblIn (off := 87) (tgt := 125) (pc := 38) (tb_at tkX11_does 29 rfl) (by omega) (by omega) (by rw [c]; rfl) (by decide) ?_
      replace h := h.2.2.2.2.2.1 c
      refine r_aload_n (pc := 125) (tb_at tkX11_does 65 rfl) rfl rfl ?_
      refine r_iload_n (pc := 126) (tb_at tkX11_does 66 rfl) rfl rfl ?_
      refine r_iload_n (pc := 127) (tb_at tkX11_does 67 rfl) rfl rfl ?_
      refine r_iconst (pc := 128) (tb_at tkX11_does 68 rfl) ⟨by decide, by decide⟩ ?_
      refine r_invV (mc' := 0) (ms' := 0) [.inl (M 96 (4 * v1).toNat), .inl (M 96 ((4 * v1) + 1).toNat), .inl 2] (S := []) (pc := 129) (tb_at tkX11_does 69 rfl) rfl ly_66 rfl rfl clX11_414 (Nat.le_of_ble_eq_true rfl) (Nat.le_refl _) (Nat.le_refl _) ?_
      refine Cal.mono h ?_
      rintro _ _ M11 ⟨x12, rfl, rfl, h⟩
      show OkI G miX11_does (d + 1) K 132 [some (.inr (.inr (some 66))), some (.inl v1), some (.inl (M 96 (4 * v1).toNat)), some (.inl (M 96 ((4 * v1) + 1).toNat)), some (.inl (M 96 ((4 * v1) + 2).toNat))] [.inl x12] M11
      exact r_iret (pc := 132) (tb_at tkX11_does 70 rfl) rfl (Nat.le_refl _) (Nat.le_refl _) ⟨_, rfl, rfl, h⟩
set_option maxRecDepth 100000 in
set_option maxHeartbeats 4000000 in
theorem gX11_text_0 {G : GE} {d : Nat} {K : Int → Mem → Prop} {M : Mem}  (h : CalV G miX11_next d [.inr (.inr (some 66))] (mup (mup (mup M 66 44 (M 66 39)) 66 39 0) 66 45 0) (fun M1 => CalI G miX11_isClause d [.inr (.inr (some 66)), .inl 0] M1 (fun x3 M2 => OkI G miX11_text (d + 1) K 30 [some (.inr (.inr (some 66))), some (.inl x3), some (.inl 1), none, none] [] M2))) : OkI G miX11_text (d + 1) K 0 [some (.inr (.inr (some 66))), none, none, none, none] [] M := by
  refine r_aload_n (pc := 0) (tb_at tkX11_text 0 rfl) rfl rfl ?_
  refine r_aload_n (pc := 1) (tb_at tkX11_text 1 rfl) rfl rfl ?_
  refine r_get 10 39 (pc := 2) (tb_at tkX11_text 2 rfl) ly_66 flX11_366 rfl ?_
  refine r_put 10 44 (M 66 39) (pc := 5) (tb_at tkX11_text 3 rfl) ly_66 flX11_372 (fun r h => by cases h; rfl) (.inl rfl) rfl (fun h => by cases h) rfl ?_
  refine r_aload_n (pc := 8) (tb_at tkX11_text 4 rfl) rfl rfl ?_
  refine r_iconst (pc := 9) (tb_at tkX11_text 5 rfl) ⟨by decide, by decide⟩ ?_
  refine r_put 10 39 0 (pc := 10) (tb_at tkX11_text 6 rfl) ly_66 flX11_366 (fun r h => by cases h; rfl) (.inl rfl) rfl (fun h => by cases h) rfl ?_
  refine r_aload_n (pc := 13) (tb_at tkX11_text 7 rfl) rfl rfl ?_
  refine r_iconst (pc := 14) (tb_at tkX11_text 8 rfl) ⟨by decide, by decide⟩ ?_
  refine r_put 10 45 0 (pc := 15) (tb_at tkX11_text 9 rfl) ly_66 flX11_369 (fun r h => by cases h; rfl) (.inl rfl) rfl (fun h => by cases h) rfl ?_
  refine r_aload_n (pc := 18) (tb_at tkX11_text 10 rfl) rfl rfl ?_
  refine r_invV (mc' := 0) (ms' := 0) [] (S := []) (pc := 19) (tb_at tkX11_text 11 rfl) rfl ly_66 rfl rfl clX11_401 (Nat.le_of_ble_eq_true rfl) (Nat.le_refl _) (Nat.le_refl _) ?_
  refine Cal.mono h ?_
  rintro _ _ M1 ⟨rfl, rfl, h⟩
  show OkI G miX11_text (d + 1) K 22 [some (.inr (.inr (some 66))), none, none, none, none] [] M1
  refine r_aload_n (pc := 22) (tb_at tkX11_text 12 rfl) rfl rfl ?_
  refine r_iconst (pc := 23) (tb_at tkX11_text 13 rfl) ⟨by decide, by decide⟩ ?_
  refine r_invV (mc' := 0) (ms' := 0) [.inl 0] (S := []) (pc := 24) (tb_at tkX11_text 14 rfl) rfl ly_66 rfl rfl clX11_417 (Nat.le_of_ble_eq_true rfl) (Nat.le_refl _) (Nat.le_refl _) ?_
  refine Cal.mono h ?_
  rintro _ _ M2 ⟨x3, rfl, rfl, h⟩
  show OkI G miX11_text (d + 1) K 27 [some (.inr (.inr (some 66))), none, none, none, none] [.inl x3] M2
  refine r_istore_n (L' := [some (.inr (.inr (some 66))), some (.inl x3), none, none, none]) (pc := 27) (tb_at tkX11_text 15 rfl) rfl (by decide) rfl ?_
  refine r_iconst (pc := 28) (tb_at tkX11_text 16 rfl) ⟨by decide, by decide⟩ ?_
  refine r_istore_n (L' := [some (.inr (.inr (some 66))), some (.inl x3), some (.inl 1), none, none]) (pc := 29) (tb_at tkX11_text 17 rfl) rfl (by decide) rfl ?_
  exact h
set_option maxRecDepth 100000 in
set_option maxHeartbeats 4000000 in
theorem gX11_text_30 {G : GE} {d : Nat} {K : Int → Mem → Prop} {M : Mem} {v1 v2 : Int}  (h : ((v1 = 0 → OkI G miX11_text (d + 1) K 58 [some (.inr (.inr (some 66))), some (.inl v1), some (.inl v2), none, none] [] M) ∧ (¬ v1 = 0 → ((¬ (M 66 46) = 3 → OkI G miX11_text (d + 1) K 58 [some (.inr (.inr (some 66))), some (.inl v1), some (.inl v2), none, none] [] M) ∧ ((M 66 46) = 3 → CalV G miX11_next d [.inr (.inr (some 66))] M (fun M1 => CalI G miX11_isClause d [.inr (.inr (some 66)), .inl v2] M1 (fun x3 M2 => OkI G miX11_text (d + 1) K 30 [some (.inr (.inr (some 66))), some (.inl x3), some (.inl (w32 (v2 + 1))), none, none] [] M2))))))) : OkI G miX11_text (d + 1) K 30 [some (.inr (.inr (some 66))), some (.inl v1), some (.inl v2), none, none] [] M := by
  refine r_iload_n (pc := 30) (tb_at tkX11_text 18 rfl) rfl rfl ?_
  refine q_if_eq (tgt := 58) (pc := 31) (tb_at tkX11_text 19 rfl) (by decide) (fun c => ?_) (fun c => ?_)
  · replace h := h.1 c
    exact h
  · replace h := h.2 c
    refine r_aload_n (pc := 34) (tb_at tkX11_text 20 rfl) rfl rfl ?_
    refine r_get 10 46 (pc := 35) (tb_at tkX11_text 21 rfl) ly_66 flX11_382 rfl ?_
    refine r_iconst (pc := 38) (tb_at tkX11_text 22 rfl) ⟨by decide, by decide⟩ ?_
    refine q_icmp_ne (tgt := 58) (pc := 39) (tb_at tkX11_text 23 rfl) (by decide) (fun c => ?_) (fun c => ?_)
    · replace h := h.1 c
      exact h
    · replace h := h.2 c
      refine r_aload_n (pc := 42) (tb_at tkX11_text 24 rfl) rfl rfl ?_
      refine r_invV (mc' := 0) (ms' := 0) [] (S := []) (pc := 43) (tb_at tkX11_text 25 rfl) rfl ly_66 rfl rfl clX11_401 (Nat.le_of_ble_eq_true rfl) (Nat.le_refl _) (Nat.le_refl _) ?_
      refine Cal.mono h ?_
      rintro _ _ M1 ⟨rfl, rfl, h⟩
      show OkI G miX11_text (d + 1) K 46 [some (.inr (.inr (some 66))), some (.inl v1), some (.inl v2), none, none] [] M1
      refine r_aload_n (pc := 46) (tb_at tkX11_text 26 rfl) rfl rfl ?_
      refine r_iload_n (pc := 47) (tb_at tkX11_text 27 rfl) rfl rfl ?_
      refine r_invV (mc' := 0) (ms' := 0) [.inl v2] (S := []) (pc := 48) (tb_at tkX11_text 28 rfl) rfl ly_66 rfl rfl clX11_417 (Nat.le_of_ble_eq_true rfl) (Nat.le_refl _) (Nat.le_refl _) ?_
      refine Cal.mono h ?_
      rintro _ _ M2 ⟨x3, rfl, rfl, h⟩
      show OkI G miX11_text (d + 1) K 51 [some (.inr (.inr (some 66))), some (.inl v1), some (.inl v2), none, none] [.inl x3] M2
      refine r_istore_n (L' := [some (.inr (.inr (some 66))), some (.inl x3), some (.inl v2), none, none]) (pc := 51) (tb_at tkX11_text 29 rfl) rfl (by decide) rfl ?_
      refine r_iinc (L' := [some (.inr (.inr (some 66))), some (.inl x3), some (.inl (w32 (v2 + 1))), none, none]) (pc := 52) (tb_at tkX11_text 30 rfl) rfl (by decide) rfl ?_
      refine r_goto (tgt := 30) (pc := 55) (tb_at tkX11_text 31 rfl) (by decide) ?_
      exact h
set_option maxRecDepth 100000 in
set_option maxHeartbeats 4000000 in
theorem gX11_text_58 {G : GE} {d : Nat} {K : Int → Mem → Prop} {M : Mem} {v1 v2 : Int}  (h : ((v1 = 0 → K (w32 ((-100) - (M 66 47))) M) ∧ (¬ v1 = 0 → (((M 66 46) = 0 → OkI G miX11_text (d + 1) K 82 [some (.inr (.inr (some 66))), none, some (.inl v2), some (.inl 0), some (.inl 0)] [] M) ∧ (¬ (M 66 46) = 0 → K (w32 ((-100) - (M 66 47))) M))))) : OkI G miX11_text (d + 1) K 58 [some (.inr (.inr (some 66))), some (.inl v1), some (.inl v2), none, none] [] M := by
  refine r_iload_n (pc := 58) (tb_at tkX11_text 32 rfl) rfl rfl ?_
  refine q_if_eq (tgt := 69) (pc := 59) (tb_at tkX11_text 33 rfl) (by decide) (fun c => ?_) (fun c => ?_)
  · replace h := h.1 c
    refine r_bipush (pc := 69) (tb_at tkX11_text 37 rfl) ⟨by decide, by decide, by decide⟩ ?_
    refine r_aload_n (pc := 71) (tb_at tkX11_text 38 rfl) rfl rfl ?_
    refine r_get 10 47 (pc := 72) (tb_at tkX11_text 39 rfl) ly_66 flX11_385 rfl ?_
    refine r_isub (pc := 75) (tb_at tkX11_text 40 rfl) ?_
    exact r_iret (pc := 76) (tb_at tkX11_text 41 rfl) rfl (Nat.le_refl _) (Nat.le_refl _) ⟨_, rfl, rfl, h⟩
  · replace h := h.2 c
    refine r_aload_n (pc := 62) (tb_at tkX11_text 34 rfl) rfl rfl ?_
    refine r_get 10 46 (pc := 63) (tb_at tkX11_text 35 rfl) ly_66 flX11_382 rfl ?_
    refine q_if_eq (tgt := 77) (pc := 66) (tb_at tkX11_text 36 rfl) (by decide) (fun c => ?_) (fun c => ?_)
    · replace h := h.1 c
      refine r_iconst (pc := 77) (tb_at tkX11_text 42 rfl) ⟨by decide, by decide⟩ ?_
      refine r_istore_n (L' := [some (.inr (.inr (some 66))), some (.inl v1), some (.inl v2), some (.inl 0), none]) (pc := 78) (tb_at tkX11_text 43 rfl) rfl (by decide) rfl ?_
      refine r_iconst (pc := 79) (tb_at tkX11_text 44 rfl) ⟨by decide, by decide⟩ ?_
      refine r_istore (L' := [some (.inr (.inr (some 66))), some (.inl v1), some (.inl v2), some (.inl 0), some (.inl 0)]) (pc := 80) (tb_at tkX11_text 45 rfl) (by decide) rfl ?_
      exact Ok.forget h (And.intro rfl (And.intro rfl (And.intro rfl (And.intro rfl trivial))))
    · replace h := h.2 c
      refine r_bipush (pc := 69) (tb_at tkX11_text 37 rfl) ⟨by decide, by decide, by decide⟩ ?_
      refine r_aload_n (pc := 71) (tb_at tkX11_text 38 rfl) rfl rfl ?_
      refine r_get 10 47 (pc := 72) (tb_at tkX11_text 39 rfl) ly_66 flX11_385 rfl ?_
      refine r_isub (pc := 75) (tb_at tkX11_text 40 rfl) ?_
      exact r_iret (pc := 76) (tb_at tkX11_text 41 rfl) rfl (Nat.le_refl _) (Nat.le_refl _) ⟨_, rfl, rfl, h⟩
set_option maxRecDepth 100000 in
set_option maxHeartbeats 4000000 in
theorem gX11_text_82 {G : GE} {d : Nat} {K : Int → Mem → Prop} {M : Mem} {v2 v3 v4 : Int}  (h : ((v2 ≤ v4 → K v3 M) ∧ (v4 < v2 → CalI G miX11_does d [.inr (.inr (some 66)), .inl v4] M (fun x2 M1 => OkI G miX11_text (d + 1) K 82 [some (.inr (.inr (some 66))), none, some (.inl v2), some (.inl (w32 (v3 + (if ¬ (x2 < 0) then (1 : Int) else 0)))), some (.inl (w32 (v4 + 1)))] [] M1)))) : OkI G miX11_text (d + 1) K 82 [some (.inr (.inr (some 66))), none, some (.inl v2), some (.inl v3), some (.inl v4)] [] M := by
  refine r_iload (pc := 82) (tb_at tkX11_text 46 rfl) rfl ?_
  refine r_iload_n (pc := 84) (tb_at tkX11_text 47 rfl) rfl rfl ?_
  refine q_icmp_ge (tgt := 111) (pc := 85) (tb_at tkX11_text 48 rfl) (by decide) (fun c => ?_) (fun c => ?_)
  · replace h := h.1 c
    refine r_iload_n (pc := 111) (tb_at tkX11_text 61 rfl) rfl rfl ?_
    exact r_iret (pc := 112) (tb_at tkX11_text 62 rfl) rfl (Nat.le_refl _) (Nat.le_refl _) ⟨_, rfl, rfl, h⟩
  · replace h := h.2 c
    refine r_iload_n (pc := 88) (tb_at tkX11_text 49 rfl) rfl rfl ?_
    refine r_aload_n (pc := 89) (tb_at tkX11_text 50 rfl) rfl rfl ?_
    refine r_iload (pc := 90) (tb_at tkX11_text 51 rfl) rfl ?_
    refine r_invV (mc' := 0) (ms' := 0) [.inl v4] (S := [.inl v3]) (pc := 92) (tb_at tkX11_text 52 rfl) rfl ly_66 rfl rfl clX11_420 (Nat.le_of_ble_eq_true rfl) (Nat.le_refl _) (Nat.le_refl _) ?_
    refine Cal.mono h ?_
    rintro _ _ M1 ⟨x2, rfl, rfl, h⟩
    show OkI G miX11_text (d + 1) K 95 [some (.inr (.inr (some 66))), none, some (.inl v2), some (.inl v3), some (.inl v4)] [.inl x2, .inl v3] M1
    have hJ3 : ∀ t0 : Int, t0 = (if ¬ (x2 < 0) then (1 : Int) else 0) → OkI G miX11_text (d + 1) K 103 [some (.inr (.inr (some 66))), none, some (.inl v2), some (.inl v3), some (.inl v4)] [.inl t0, .inl v3] M1 := by
      rintro _ rfl
      refine r_iadd (pc := 103) (tb_at tkX11_text 57 rfl) ?_
      refine r_istore_n (L' := [some (.inr (.inr (some 66))), none, some (.inl v2), some (.inl (w32 (v3 + (if ¬ (x2 < 0) then (1 : Int) else 0)))), some (.inl v4)]) (pc := 104) (tb_at tkX11_text 58 rfl) rfl (by decide) rfl ?_
      refine r_iinc (L' := [some (.inr (.inr (some 66))), none, some (.inl v2), some (.inl (w32 (v3 + (if ¬ (x2 < 0) then (1 : Int) else 0)))), some (.inl (w32 (v4 + 1)))]) (pc := 105) (tb_at tkX11_text 59 rfl) rfl (by decide) rfl ?_
      refine r_goto (tgt := 82) (pc := 108) (tb_at tkX11_text 60 rfl) (by decide) ?_
      exact h
    refine q_if_lt (tgt := 102) (pc := 95) (tb_at tkX11_text 53 rfl) (by decide) (fun c4 => ?_) (fun c4 => ?_)
    · refine r_iconst (pc := 102) (tb_at tkX11_text 56 rfl) ⟨by decide, by decide⟩ ?_
      exact hJ3 _ (by simp only [if_neg (not_not_intro c4)])
    · refine r_iconst (pc := 98) (tb_at tkX11_text 54 rfl) ⟨by decide, by decide⟩ ?_
      refine r_goto (tgt := 103) (pc := 99) (tb_at tkX11_text 55 rfl) (by decide) ?_
      exact hJ3 _ (by simp only [if_pos (Int.not_lt.mpr c4)])
set_option maxRecDepth 100000 in
set_option maxHeartbeats 4000000 in
theorem gX11_tells_0 {G : GE} {d : Nat} {K : Int → Mem → Prop} {M : Mem} {v1 v2 : Int}  (h : CalI G miX11_isSheet d [.inl v1] M (fun x2 M1 => ((x2 = 0 → K (-2) M1) ∧ (¬ x2 = 0 → CalI G miX11_in d [.inr (.inl v2), .inr (.inl 0), .inr (.inl 2)] M1 (fun x4 M3 => ((¬ x4 = 0 → (0 ≤ v1 ∧ v1 < 4) ∧ ((0 ≤ (M3 80 (v1).toNat) → (0 ≤ v1 ∧ v1 < 4) ∧ (((M3 81 (v1).toNat) ≤ 7 → CalV G miX11_reckons d [.inr (.inr (some 66))] M3 (fun M5 => OkI G miX11_tells (d + 1) K 63 [some (.inr (.inr (some 66))), some (.inl v1), some (.inl v2), some (.inl 0), some (.inl 0), some (.inl 0), some (.inl 0), none, none, none] [] M5)) ∧ (7 < (M3 81 (v1).toNat) → K (-2) M3))) ∧ ((M3 80 (v1).toNat) < 0 → K (-11) M3))) ∧ (x4 = 0 → K (-2) M3))))))) : OkI G miX11_tells (d + 1) K 0 [some (.inr (.inr (some 66))), some (.inl v1), some (.inl v2), none, none, none, none, none, none, none] [] M := by
  refine r_iload_n (pc := 0) (tb_at tkX11_tells 0 rfl) rfl rfl ?_
  refine r_invS (mc' := 0) (ms' := 0) [.inl v1] (S := []) (pc := 1) (tb_at tkX11_tells 1 rfl) rfl clX11_296 (Nat.le_of_ble_eq_true rfl) (Nat.le_refl _) (Nat.le_refl _) ?_
  refine Cal.mono h ?_
  rintro _ _ M1 ⟨x2, rfl, rfl, h⟩
  show OkI G miX11_tells (d + 1) K 4 [some (.inr (.inr (some 66))), some (.inl v1), some (.inl v2), none, none, none, none, none, none, none] [.inl x2] M1
  refine q_if_eq (tgt := 19) (pc := 4) (tb_at tkX11_tells 2 rfl) (by decide) (fun c => ?_) (fun c => ?_)
  · replace h := h.1 c
    refine r_bipush (pc := 19) (tb_at tkX11_tells 9 rfl) ⟨by decide, by decide, by decide⟩ ?_
    exact r_iret (pc := 21) (tb_at tkX11_tells 10 rfl) rfl (Nat.le_refl _) (Nat.le_refl _) ⟨_, rfl, rfl, h⟩
  · replace h := h.2 c
    refine r_iload_n (pc := 7) (tb_at tkX11_tells 3 rfl) rfl rfl ?_
    refine r_i2l (pc := 8) (tb_at tkX11_tells 4 rfl) ?_
    refine r_lconst (v := 0) (pc := 9) (tb_at tkX11_tells 5 rfl) ⟨by decide, by decide, by decide⟩ ?_
    refine r_ldc2 (n := 2) (pc := 10) (tb_at tkX11_tells 6 rfl) kcX11_157 ⟨by decide, by decide⟩ ?_
    refine r_invS (mc' := 0) (ms' := 0) [.inr (.inl v2), .inr (.inl 0), .inr (.inl 2)] (S := []) (pc := 13) (tb_at tkX11_tells 7 rfl) rfl clX11_103 (Nat.le_of_ble_eq_true rfl) (Nat.le_refl _) (Nat.le_refl _) ?_
    refine Cal.mono h ?_
    rintro _ _ M3 ⟨x4, rfl, rfl, h⟩
    show OkI G miX11_tells (d + 1) K 16 [some (.inr (.inr (some 66))), some (.inl v1), some (.inl v2), none, none, none, none, none, none, none] [.inl x4] M3
    refine q_if_ne (tgt := 22) (pc := 16) (tb_at tkX11_tells 8 rfl) (by decide) (fun c => ?_) (fun c => ?_)
    · replace h := h.1 c
      refine r_aload_n (pc := 22) (tb_at tkX11_tells 11 rfl) rfl rfl ?_
      refine r_get 10 23 (pc := 23) (tb_at tkX11_tells 12 rfl) ly_66 flX11_52 rfl ?_
      refine r_iload_n (pc := 26) (tb_at tkX11_tells 13 rfl) rfl rfl ?_
      refine r_iald (pc := 27) (tb_at tkX11_tells 14 rfl) ly_80 h.1.1 h.1.2 ?_
      replace h := h.2
      refine q_if_ge (tgt := 34) (pc := 28) (tb_at tkX11_tells 15 rfl) (by decide) (fun c => ?_) (fun c => ?_)
      · replace h := h.1 c
        refine r_aload_n (pc := 34) (tb_at tkX11_tells 18 rfl) rfl rfl ?_
        refine r_get 10 24 (pc := 35) (tb_at tkX11_tells 19 rfl) ly_66 flX11_55 rfl ?_
        refine r_iload_n (pc := 38) (tb_at tkX11_tells 20 rfl) rfl rfl ?_
        refine r_iald (pc := 39) (tb_at tkX11_tells 21 rfl) ly_81 h.1.1 h.1.2 ?_
        replace h := h.2
        refine r_bipush (pc := 40) (tb_at tkX11_tells 22 rfl) ⟨by decide, by decide, by decide⟩ ?_
        refine q_icmp_le (tgt := 48) (pc := 42) (tb_at tkX11_tells 23 rfl) (by decide) (fun c => ?_) (fun c => ?_)
        · replace h := h.1 c
          refine r_aload_n (pc := 48) (tb_at tkX11_tells 26 rfl) rfl rfl ?_
          refine r_invV (mc' := 0) (ms' := 0) [] (S := []) (pc := 49) (tb_at tkX11_tells 27 rfl) rfl ly_66 rfl rfl clX11_212 (Nat.le_of_ble_eq_true rfl) (Nat.le_refl _) (Nat.le_refl _) ?_
          refine Cal.mono h ?_
          rintro _ _ M5 ⟨rfl, rfl, h⟩
          show OkI G miX11_tells (d + 1) K 52 [some (.inr (.inr (some 66))), some (.inl v1), some (.inl v2), none, none, none, none, none, none, none] [] M5
          refine r_iconst (pc := 52) (tb_at tkX11_tells 28 rfl) ⟨by decide, by decide⟩ ?_
          refine r_istore_n (L' := [some (.inr (.inr (some 66))), some (.inl v1), some (.inl v2), some (.inl 0), none, none, none, none, none, none]) (pc := 53) (tb_at tkX11_tells 29 rfl) rfl (by decide) rfl ?_
          refine r_iconst (pc := 54) (tb_at tkX11_tells 30 rfl) ⟨by decide, by decide⟩ ?_
          refine r_istore (L' := [some (.inr (.inr (some 66))), some (.inl v1), some (.inl v2), some (.inl 0), some (.inl 0), none, none, none, none, none]) (pc := 55) (tb_at tkX11_tells 31 rfl) (by decide) rfl ?_
          refine r_iconst (pc := 57) (tb_at tkX11_tells 32 rfl) ⟨by decide, by decide⟩ ?_
          refine r_istore (L' := [some (.inr (.inr (some 66))), some (.inl v1), some (.inl v2), some (.inl 0), some (.inl 0), some (.inl 0), none, none, none, none]) (pc := 58) (tb_at tkX11_tells 33 rfl) (by decide) rfl ?_
          refine r_iconst (pc := 60) (tb_at tkX11_tells 34 rfl) ⟨by decide, by decide⟩ ?_
          refine r_istore (L' := [some (.inr (.inr (some 66))), some (.inl v1), some (.inl v2), some (.inl 0), some (.inl 0), some (.inl 0), some (.inl 0), none, none, none]) (pc := 61) (tb_at tkX11_tells 35 rfl) (by decide) rfl ?_
          exact h
        · replace h := h.2 c
          refine r_bipush (pc := 45) (tb_at tkX11_tells 24 rfl) ⟨by decide, by decide, by decide⟩ ?_
          exact r_iret (pc := 47) (tb_at tkX11_tells 25 rfl) rfl (Nat.le_refl _) (Nat.le_refl _) ⟨_, rfl, rfl, h⟩
      · replace h := h.2 c
        refine r_bipush (pc := 31) (tb_at tkX11_tells 16 rfl) ⟨by decide, by decide, by decide⟩ ?_
        exact r_iret (pc := 33) (tb_at tkX11_tells 17 rfl) rfl (Nat.le_refl _) (Nat.le_refl _) ⟨_, rfl, rfl, h⟩
    · replace h := h.2 c
      refine r_bipush (pc := 19) (tb_at tkX11_tells 9 rfl) ⟨by decide, by decide, by decide⟩ ?_
      exact r_iret (pc := 21) (tb_at tkX11_tells 10 rfl) rfl (Nat.le_refl _) (Nat.le_refl _) ⟨_, rfl, rfl, h⟩
set_option maxRecDepth 100000 in
set_option maxHeartbeats 4000000 in
theorem gX11_tells_63 {G : GE} {d : Nat} {K : Int → Mem → Prop} {M : Mem} {v1 v2 v3 v4 v5 v6 : Int}  (h : (0 ≤ v1 ∧ v1 < 4) ∧ (((M 81 (v1).toNat) ≤ v6 → ((v2 = 0 → K (-1) M) ∧ (¬ v2 = 0 → ((v3 = (w32 ((ishl 1 (M 67 0)) - 1)) → ((¬ v2 = 1 → K v5 M) ∧ (v2 = 1 → K v4 M))) ∧ (¬ v3 = (w32 ((ishl 1 (M 67 0)) - 1)) → K (-1) M))))) ∧ (v6 < (M 81 (v1).toNat) → CalL G miX11_itemOf d [.inr (.inr (some 66)), .inl v1, .inl v6] M (fun x2 M1 => CalI G miX11_isSet d [.inr (.inr (some 66)), .inr (.inl x2)] M1 (fun x4 M3 => (((if x4 = 0 then (0 : Int) else w32 x2) = 0 → OkI G miX11_tells (d + 1) K 123 [none, none, some (.inl v2), none, none, none, some (.inl v6), none, none, none] [] M3) ∧ (¬ (if x4 = 0 then (0 : Int) else w32 x2) = 0 → (0 ≤ (if x4 = 0 then (0 : Int) else w32 x2) ∧ (if x4 = 0 then (0 : Int) else w32 x2) < 128) ∧ (((M3 72 ((if x4 = 0 then (0 : Int) else w32 x2)).toNat) < 0 → OkI G miX11_tells (d + 1) K 123 [none, none, some (.inl v2), none, none, none, some (.inl v6), none, none, none] [] M3) ∧ (0 ≤ (M3 72 ((if x4 = 0 then (0 : Int) else w32 x2)).toNat) → (((iand (if x4 = 0 then (0 : Int) else w32 x2) v3) = 0 → (0 ≤ (if x4 = 0 then (0 : Int) else w32 x2) ∧ (if x4 = 0 then (0 : Int) else w32 x2) < 128) ∧ CalI G miX11_along d [.inr (.inr (some 66)), .inl (if x4 = 0 then (0 : Int) else w32 x2)] M3 (fun x6 M5 => OkI G miX11_tells (d + 1) K 63 [some (.inr (.inr (some 66))), some (.inl v1), some (.inl v2), some (.inl (ior v3 (if x4 = 0 then (0 : Int) else w32 x2))), some (.inl (w32 (v4 + (M3 72 ((if x4 = 0 then (0 : Int) else w32 x2)).toNat)))), some (.inl (w32 (v5 + x6))), some (.inl (w32 (v6 + 1))), none, none, none] [] M5)) ∧ (¬ (iand (if x4 = 0 then (0 : Int) else w32 x2) v3) = 0 → OkI G miX11_tells (d + 1) K 123 [none, none, some (.inl v2), none, none, none, some (.inl v6), none, none, none] [] M3))))))))))) : OkI G miX11_tells (d + 1) K 63 [some (.inr (.inr (some 66))), some (.inl v1), some (.inl v2), some (.inl v3), some (.inl v4), some (.inl v5), some (.inl v6), none, none, none] [] M := by
  refine r_iload (pc := 63) (tb_at tkX11_tells 36 rfl) rfl ?_
  refine r_aload_n (pc := 65) (tb_at tkX11_tells 37 rfl) rfl rfl ?_
  refine r_get 10 24 (pc := 66) (tb_at tkX11_tells 38 rfl) ly_66 flX11_55 rfl ?_
  refine r_iload_n (pc := 69) (tb_at tkX11_tells 39 rfl) rfl rfl ?_
  refine r_iald (pc := 70) (tb_at tkX11_tells 40 rfl) ly_81 h.1.1 h.1.2 ?_
  replace h := h.2
  refine q_icmp_ge (tgt := 168) (pc := 71) (tb_at tkX11_tells 41 rfl) (by decide) (fun c => ?_) (fun c => ?_)
  · replace h := h.1 c
    refine r_iload_n (pc := 168) (tb_at tkX11_tells 92 rfl) rfl rfl ?_
    refine q_if_eq (tgt := 186) (pc := 169) (tb_at tkX11_tells 93 rfl) (by decide) (fun c => ?_) (fun c => ?_)
    · replace h := h.1 c
      refine r_iconst (pc := 186) (tb_at tkX11_tells 104 rfl) ⟨by decide, by decide⟩ ?_
      refine r_goto (tgt := 202) (pc := 187) (tb_at tkX11_tells 105 rfl) (by decide) ?_
      exact r_iret (pc := 202) (tb_at tkX11_tells 112 rfl) rfl (Nat.le_refl _) (Nat.le_refl _) ⟨_, rfl, rfl, h⟩
    · replace h := h.2 c
      refine r_iload_n (pc := 172) (tb_at tkX11_tells 94 rfl) rfl rfl ?_
      refine r_iconst (pc := 173) (tb_at tkX11_tells 95 rfl) ⟨by decide, by decide⟩ ?_
      refine r_aload_n (pc := 174) (tb_at tkX11_tells 96 rfl) rfl rfl ?_
      refine r_get 10 0 (pc := 175) (tb_at tkX11_tells 97 rfl) ly_66 flX11_11 rfl ?_
      refine r_iconst (pc := 178) (tb_at tkX11_tells 98 rfl) ⟨by decide, by decide⟩ ?_
      refine r_iald_k (k0 := 0) (pc := 179) (tb_at tkX11_tells 99 rfl) ly_67 rfl (by decide) (by decide) ?_
      refine r_ishl (pc := 180) (tb_at tkX11_tells 100 rfl) ?_
      refine r_iconst (pc := 181) (tb_at tkX11_tells 101 rfl) ⟨by decide, by decide⟩ ?_
      refine r_isub (pc := 182) (tb_at tkX11_tells 102 rfl) ?_
      refine q_icmp_eq (tgt := 190) (pc := 183) (tb_at tkX11_tells 103 rfl) (by decide) (fun c => ?_) (fun c => ?_)
      · replace h := h.1 c
        refine r_iload_n (pc := 190) (tb_at tkX11_tells 106 rfl) rfl rfl ?_
        refine r_iconst (pc := 191) (tb_at tkX11_tells 107 rfl) ⟨by decide, by decide⟩ ?_
        refine q_icmp_ne (tgt := 200) (pc := 192) (tb_at tkX11_tells 108 rfl) (by decide) (fun c => ?_) (fun c => ?_)
        · replace h := h.1 c
          refine r_iload (pc := 200) (tb_at tkX11_tells 111 rfl) rfl ?_
          exact r_iret (pc := 202) (tb_at tkX11_tells 112 rfl) rfl (Nat.le_refl _) (Nat.le_refl _) ⟨_, rfl, rfl, h⟩
        · replace h := h.2 c
          refine r_iload (pc := 195) (tb_at tkX11_tells 109 rfl) rfl ?_
          refine r_goto (tgt := 202) (pc := 197) (tb_at tkX11_tells 110 rfl) (by decide) ?_
          exact r_iret (pc := 202) (tb_at tkX11_tells 112 rfl) rfl (Nat.le_refl _) (Nat.le_refl _) ⟨_, rfl, rfl, h⟩
      · replace h := h.2 c
        refine r_iconst (pc := 186) (tb_at tkX11_tells 104 rfl) ⟨by decide, by decide⟩ ?_
        refine r_goto (tgt := 202) (pc := 187) (tb_at tkX11_tells 105 rfl) (by decide) ?_
        exact r_iret (pc := 202) (tb_at tkX11_tells 112 rfl) rfl (Nat.le_refl _) (Nat.le_refl _) ⟨_, rfl, rfl, h⟩
  · replace h := h.2 c
    refine r_aload_n (pc := 74) (tb_at tkX11_tells 42 rfl) rfl rfl ?_
    refine r_iload_n (pc := 75) (tb_at tkX11_tells 43 rfl) rfl rfl ?_
    refine r_iload (pc := 76) (tb_at tkX11_tells 44 rfl) rfl ?_
    refine r_invV (mc' := 0) (ms' := 0) [.inl v1, .inl v6] (S := []) (pc := 78) (tb_at tkX11_tells 45 rfl) rfl ly_66 rfl rfl clX11_299 (Nat.le_of_ble_eq_true rfl) (Nat.le_refl _) (Nat.le_refl _) ?_
    refine Cal.mono h ?_
    rintro _ _ M1 ⟨x2, rfl, rfl, h⟩
    show OkI G miX11_tells (d + 1) K 81 [some (.inr (.inr (some 66))), some (.inl v1), some (.inl v2), some (.inl v3), some (.inl v4), some (.inl v5), some (.inl v6), none, none, none] [.inr (.inl x2)] M1
    refine r_lstore (L' := [some (.inr (.inr (some 66))), some (.inl v1), some (.inl v2), some (.inl v3), some (.inl v4), some (.inl v5), some (.inl v6), some (.inr (.inl x2)), none, none]) (pc := 81) (tb_at tkX11_tells 46 rfl) (by decide) rfl ?_
    refine r_aload_n (pc := 83) (tb_at tkX11_tells 47 rfl) rfl rfl ?_
    refine r_lload (pc := 84) (tb_at tkX11_tells 48 rfl) rfl ?_
    refine r_invV (mc' := 0) (ms' := 0) [.inr (.inl x2)] (S := []) (pc := 86) (tb_at tkX11_tells 49 rfl) rfl ly_66 rfl rfl clX11_208 (Nat.le_of_ble_eq_true rfl) (Nat.le_refl _) (Nat.le_refl _) ?_
    refine Cal.mono h ?_
    rintro _ _ M3 ⟨x4, rfl, rfl, h⟩
    show OkI G miX11_tells (d + 1) K 89 [some (.inr (.inr (some 66))), some (.inl v1), some (.inl v2), some (.inl v3), some (.inl v4), some (.inl v5), some (.inl v6), some (.inr (.inl x2)), none, none] [.inl x4] M3
    have hJ7 : ∀ t0 : Int, t0 = (if x4 = 0 then (0 : Int) else w32 x2) → OkI G miX11_tells (d + 1) K 99 [some (.inr (.inr (some 66))), some (.inl v1), some (.inl v2), some (.inl v3), some (.inl v4), some (.inl v5), some (.inl v6), some (.inr (.inl x2)), none, none] [.inl t0] M3 := by
      rintro _ rfl
      refine r_istore (L' := [some (.inr (.inr (some 66))), some (.inl v1), some (.inl v2), some (.inl v3), some (.inl v4), some (.inl v5), some (.inl v6), some (.inr (.inl x2)), none, some (.inl (if x4 = 0 then (0 : Int) else w32 x2))]) (pc := 99) (tb_at tkX11_tells 55 rfl) (by decide) rfl ?_
      refine r_iload (pc := 101) (tb_at tkX11_tells 56 rfl) rfl ?_
      refine q_if_eq (tgt := 123) (pc := 103) (tb_at tkX11_tells 57 rfl) (by decide) (fun c => ?_) (fun c => ?_)
      · replace h := h.1 c
        exact Ok.forget h (And.intro rfl (And.intro rfl trivial))
      · replace h := h.2 c
        refine r_aload_n (pc := 106) (tb_at tkX11_tells 58 rfl) rfl rfl ?_
        refine r_get 10 9 (pc := 107) (tb_at tkX11_tells 59 rfl) ly_66 flX11_27 rfl ?_
        refine r_iload (pc := 110) (tb_at tkX11_tells 60 rfl) rfl ?_
        refine r_iald (pc := 112) (tb_at tkX11_tells 61 rfl) ly_72 h.1.1 h.1.2 ?_
        replace h := h.2
        refine q_if_lt (tgt := 123) (pc := 113) (tb_at tkX11_tells 62 rfl) (by decide) (fun c => ?_) (fun c => ?_)
        · replace h := h.1 c
          exact Ok.forget h (And.intro rfl (And.intro rfl trivial))
        · replace h := h.2 c
          refine r_iload (pc := 116) (tb_at tkX11_tells 63 rfl) rfl ?_
          refine r_iload_n (pc := 118) (tb_at tkX11_tells 64 rfl) rfl rfl ?_
          refine r_iand (pc := 119) (tb_at tkX11_tells 65 rfl) ?_
          refine q_if_eq (tgt := 134) (pc := 120) (tb_at tkX11_tells 66 rfl) (by decide) (fun c => ?_) (fun c => ?_)
          · replace h := h.1 c
            refine r_iload_n (pc := 134) (tb_at tkX11_tells 73 rfl) rfl rfl ?_
            refine r_iload (pc := 135) (tb_at tkX11_tells 74 rfl) rfl ?_
            refine r_ior (pc := 137) (tb_at tkX11_tells 75 rfl) ?_
            refine r_istore_n (L' := [some (.inr (.inr (some 66))), some (.inl v1), some (.inl v2), some (.inl (ior v3 (if x4 = 0 then (0 : Int) else w32 x2))), some (.inl v4), some (.inl v5), some (.inl v6), some (.inr (.inl x2)), none, some (.inl (if x4 = 0 then (0 : Int) else w32 x2))]) (pc := 138) (tb_at tkX11_tells 76 rfl) rfl (by decide) rfl ?_
            refine r_iload (pc := 139) (tb_at tkX11_tells 77 rfl) rfl ?_
            refine r_aload_n (pc := 141) (tb_at tkX11_tells 78 rfl) rfl rfl ?_
            refine r_get 10 9 (pc := 142) (tb_at tkX11_tells 79 rfl) ly_66 flX11_27 rfl ?_
            refine r_iload (pc := 145) (tb_at tkX11_tells 80 rfl) rfl ?_
            refine r_iald (pc := 147) (tb_at tkX11_tells 81 rfl) ly_72 h.1.1 h.1.2 ?_
            replace h := h.2
            refine r_iadd (pc := 148) (tb_at tkX11_tells 82 rfl) ?_
            refine r_istore (L' := [some (.inr (.inr (some 66))), some (.inl v1), some (.inl v2), some (.inl (ior v3 (if x4 = 0 then (0 : Int) else w32 x2))), some (.inl (w32 (v4 + (M3 72 ((if x4 = 0 then (0 : Int) else w32 x2)).toNat)))), some (.inl v5), some (.inl v6), some (.inr (.inl x2)), none, some (.inl (if x4 = 0 then (0 : Int) else w32 x2))]) (pc := 149) (tb_at tkX11_tells 83 rfl) (by decide) rfl ?_
            refine r_iload (pc := 151) (tb_at tkX11_tells 84 rfl) rfl ?_
            refine r_aload_n (pc := 153) (tb_at tkX11_tells 85 rfl) rfl rfl ?_
            refine r_iload (pc := 154) (tb_at tkX11_tells 86 rfl) rfl ?_
            refine r_invV (mc' := 0) (ms' := 0) [.inl (if x4 = 0 then (0 : Int) else w32 x2)] (S := [.inl v5]) (pc := 156) (tb_at tkX11_tells 87 rfl) rfl ly_66 rfl rfl clX11_226 (Nat.le_of_ble_eq_true rfl) (Nat.le_refl _) (Nat.le_refl _) ?_
            refine Cal.mono h ?_
            rintro _ _ M5 ⟨x6, rfl, rfl, h⟩
            show OkI G miX11_tells (d + 1) K 159 [some (.inr (.inr (some 66))), some (.inl v1), some (.inl v2), some (.inl (ior v3 (if x4 = 0 then (0 : Int) else w32 x2))), some (.inl (w32 (v4 + (M3 72 ((if x4 = 0 then (0 : Int) else w32 x2)).toNat)))), some (.inl v5), some (.inl v6), some (.inr (.inl x2)), none, some (.inl (if x4 = 0 then (0 : Int) else w32 x2))] [.inl x6, .inl v5] M5
            refine r_iadd (pc := 159) (tb_at tkX11_tells 88 rfl) ?_
            refine r_istore (L' := [some (.inr (.inr (some 66))), some (.inl v1), some (.inl v2), some (.inl (ior v3 (if x4 = 0 then (0 : Int) else w32 x2))), some (.inl (w32 (v4 + (M3 72 ((if x4 = 0 then (0 : Int) else w32 x2)).toNat)))), some (.inl (w32 (v5 + x6))), some (.inl v6), some (.inr (.inl x2)), none, some (.inl (if x4 = 0 then (0 : Int) else w32 x2))]) (pc := 160) (tb_at tkX11_tells 89 rfl) (by decide) rfl ?_
            refine r_iinc (L' := [some (.inr (.inr (some 66))), some (.inl v1), some (.inl v2), some (.inl (ior v3 (if x4 = 0 then (0 : Int) else w32 x2))), some (.inl (w32 (v4 + (M3 72 ((if x4 = 0 then (0 : Int) else w32 x2)).toNat)))), some (.inl (w32 (v5 + x6))), some (.inl (w32 (v6 + 1))), some (.inr (.inl x2)), none, some (.inl (if x4 = 0 then (0 : Int) else w32 x2))]) (pc := 162) (tb_at tkX11_tells 90 rfl) rfl (by decide) rfl ?_
            refine r_goto (tgt := 63) (pc := 165) (tb_at tkX11_tells 91 rfl) (by decide) ?_
            exact Ok.forget h (And.intro rfl (And.intro rfl (And.intro rfl (And.intro rfl (And.intro rfl (And.intro rfl (And.intro rfl trivial)))))))
          · replace h := h.2 c
            exact Ok.forget h (And.intro rfl (And.intro rfl trivial))
    refine q_if_eq (tgt := 98) (pc := 89) (tb_at tkX11_tells 50 rfl) (by decide) (fun c8 => ?_) (fun c8 => ?_)
    · refine r_iconst (pc := 98) (tb_at tkX11_tells 54 rfl) ⟨by decide, by decide⟩ ?_
      exact hJ7 _ (by simp only [if_pos c8])
    · refine r_lload (pc := 92) (tb_at tkX11_tells 51 rfl) rfl ?_
      refine r_l2i (pc := 94) (tb_at tkX11_tells 52 rfl) ?_
      refine r_goto (tgt := 99) (pc := 95) (tb_at tkX11_tells 53 rfl) (by decide) ?_
      exact hJ7 _ (by simp only [if_neg c8])
set_option maxRecDepth 100000 in
set_option maxHeartbeats 4000000 in
theorem gX11_tells_123 {G : GE} {d : Nat} {K : Int → Mem → Prop} {M : Mem} {v2 v6 : Int}  (h : ((¬ v2 = 0 → K (-1) M) ∧ (v2 = 0 → K v6 M))) : OkI G miX11_tells (d + 1) K 123 [none, none, some (.inl v2), none, none, none, some (.inl v6), none, none, none] [] M := by
  refine r_iload_n (pc := 123) (tb_at tkX11_tells 67 rfl) rfl rfl ?_
  refine q_if_ne (tgt := 132) (pc := 124) (tb_at tkX11_tells 68 rfl) (by decide) (fun c => ?_) (fun c => ?_)
  · replace h := h.1 c
    refine r_iconst (pc := 132) (tb_at tkX11_tells 71 rfl) ⟨by decide, by decide⟩ ?_
    exact r_iret (pc := 133) (tb_at tkX11_tells 72 rfl) rfl (Nat.le_refl _) (Nat.le_refl _) ⟨_, rfl, rfl, h⟩
  · replace h := h.2 c
    refine r_iload (pc := 127) (tb_at tkX11_tells 69 rfl) rfl ?_
    refine r_goto (tgt := 133) (pc := 129) (tb_at tkX11_tells 70 rfl) (by decide) ?_
    exact r_iret (pc := 133) (tb_at tkX11_tells 72 rfl) rfl (Nat.le_refl _) (Nat.le_refl _) ⟨_, rfl, rfl, h⟩
set_option maxRecDepth 100000 in
set_option maxHeartbeats 4000000 in
theorem gX11_film_0 {G : GE} {d : Nat} {K : Int → Mem → Prop} {M : Mem} {v1 : Int}  (h : CalI G miX11_isSheet d [.inl v1] M (fun x2 M1 => ((¬ x2 = 0 → CalI G miX11_hasCover d [.inr (.inr (some 66))] M1 (fun x4 M3 => ((¬ x4 = 0 → CalI G miX11_sheet d [.inr (.inr (some 66)), .inl v1, .inl 0, .inl (M3 66 14)] M3 (fun x6 M5 => OkI G miX11_film (d + 1) K 32 [some (.inr (.inr (some 66))), some (.inl v1), none, some (.inl 0)] [] M5)) ∧ (x4 = 0 → K (-1) M3)))) ∧ (x2 = 0 → K (-2) M1)))) : OkI G miX11_film (d + 1) K 0 [some (.inr (.inr (some 66))), some (.inl v1), none, none] [] M := by
  refine r_iload_n (pc := 0) (tb_at tkX11_film 0 rfl) rfl rfl ?_
  refine r_invS (mc' := 0) (ms' := 0) [.inl v1] (S := []) (pc := 1) (tb_at tkX11_film 1 rfl) rfl clX11_296 (Nat.le_of_ble_eq_true rfl) (Nat.le_refl _) (Nat.le_refl _) ?_
  refine Cal.mono h ?_
  rintro _ _ M1 ⟨x2, rfl, rfl, h⟩
  show OkI G miX11_film (d + 1) K 4 [some (.inr (.inr (some 66))), some (.inl v1), none, none] [.inl x2] M1
  refine q_if_ne (tgt := 10) (pc := 4) (tb_at tkX11_film 2 rfl) (by decide) (fun c => ?_) (fun c => ?_)
  · replace h := h.1 c
    refine r_aload_n (pc := 10) (tb_at tkX11_film 5 rfl) rfl rfl ?_
    refine r_invV (mc' := 0) (ms' := 0) [] (S := []) (pc := 11) (tb_at tkX11_film 6 rfl) rfl ly_66 rfl rfl clX11_349 (Nat.le_of_ble_eq_true rfl) (Nat.le_refl _) (Nat.le_refl _) ?_
    refine Cal.mono h ?_
    rintro _ _ M3 ⟨x4, rfl, rfl, h⟩
    show OkI G miX11_film (d + 1) K 14 [some (.inr (.inr (some 66))), some (.inl v1), none, none] [.inl x4] M3
    refine q_if_ne (tgt := 19) (pc := 14) (tb_at tkX11_film 7 rfl) (by decide) (fun c => ?_) (fun c => ?_)
    · replace h := h.1 c
      refine r_aload_n (pc := 19) (tb_at tkX11_film 10 rfl) rfl rfl ?_
      refine r_iload_n (pc := 20) (tb_at tkX11_film 11 rfl) rfl rfl ?_
      refine r_iconst (pc := 21) (tb_at tkX11_film 12 rfl) ⟨by decide, by decide⟩ ?_
      refine r_aload_n (pc := 22) (tb_at tkX11_film 13 rfl) rfl rfl ?_
      refine r_get 10 14 (pc := 23) (tb_at tkX11_film 14 rfl) ly_66 flX11_219 rfl ?_
      refine r_invV (mc' := 0) (ms' := 0) [.inl v1, .inl 0, .inl (M3 66 14)] (S := []) (pc := 26) (tb_at tkX11_film 15 rfl) rfl ly_66 rfl rfl clX11_423 (Nat.le_of_ble_eq_true rfl) (Nat.le_refl _) (Nat.le_refl _) ?_
      refine Cal.mono h ?_
      rintro _ _ M5 ⟨x6, rfl, rfl, h⟩
      show OkI G miX11_film (d + 1) K 29 [some (.inr (.inr (some 66))), some (.inl v1), none, none] [.inl x6] M5
      refine r_istore_n (L' := [some (.inr (.inr (some 66))), some (.inl v1), some (.inl x6), none]) (pc := 29) (tb_at tkX11_film 16 rfl) rfl (by decide) rfl ?_
      refine r_iconst (pc := 30) (tb_at tkX11_film 17 rfl) ⟨by decide, by decide⟩ ?_
      refine r_istore_n (L' := [some (.inr (.inr (some 66))), some (.inl v1), some (.inl x6), some (.inl 0)]) (pc := 31) (tb_at tkX11_film 18 rfl) rfl (by decide) rfl ?_
      exact Ok.forget h (And.intro rfl (And.intro rfl (And.intro rfl trivial)))
    · replace h := h.2 c
      refine r_iconst (pc := 17) (tb_at tkX11_film 8 rfl) ⟨by decide, by decide⟩ ?_
      exact r_iret (pc := 18) (tb_at tkX11_film 9 rfl) rfl (Nat.le_refl _) (Nat.le_refl _) ⟨_, rfl, rfl, h⟩
  · replace h := h.2 c
    refine r_bipush (pc := 7) (tb_at tkX11_film 3 rfl) ⟨by decide, by decide, by decide⟩ ?_
    exact r_iret (pc := 9) (tb_at tkX11_film 4 rfl) rfl (Nat.le_refl _) (Nat.le_refl _) ⟨_, rfl, rfl, h⟩
set_option maxRecDepth 100000 in
set_option maxHeartbeats 4000000 in
theorem gX11_film_32 {G : GE} {d : Nat} {K : Int → Mem → Prop} {M : Mem} {v1 v3 : Int}  (h : (((M 66 14) ≤ v3 → K (M 66 14) M) ∧ (v3 < (M 66 14) → (0 ≤ v3 ∧ v3 < 7) ∧ (0 ≤ (40 * v1) + v3 ∧ (40 * v1) + v3 < 160) ∧ OkI G miX11_film (d + 1) K 32 [some (.inr (.inr (some 66))), some (.inl v1), none, some (.inl (w32 (v3 + 1)))] [] (mup M 82 ((40 * v1) + v3).toNat (M 76 (v3).toNat))))) : OkI G miX11_film (d + 1) K 32 [some (.inr (.inr (some 66))), some (.inl v1), none, some (.inl v3)] [] M := by
  refine r_iload_n (pc := 32) (tb_at tkX11_film 19 rfl) rfl rfl ?_
  refine r_aload_n (pc := 33) (tb_at tkX11_film 20 rfl) rfl rfl ?_
  refine r_get 10 14 (pc := 34) (tb_at tkX11_film 21 rfl) ly_66 flX11_219 rfl ?_
  refine q_icmp_ge (tgt := 64) (pc := 37) (tb_at tkX11_film 22 rfl) (by decide) (fun c => ?_) (fun c => ?_)
  · replace h := h.1 c
    refine r_aload_n (pc := 64) (tb_at tkX11_film 38 rfl) rfl rfl ?_
    refine r_get 10 14 (pc := 65) (tb_at tkX11_film 39 rfl) ly_66 flX11_219 rfl ?_
    exact r_iret (pc := 68) (tb_at tkX11_film 40 rfl) rfl (Nat.le_refl _) (Nat.le_refl _) ⟨_, rfl, rfl, h⟩
  · replace h := h.2 c
    refine r_aload_n (pc := 40) (tb_at tkX11_film 23 rfl) rfl rfl ?_
    refine r_get 10 25 (pc := 41) (tb_at tkX11_film 24 rfl) ly_66 flX11_58 rfl ?_
    refine r_bipush (pc := 44) (tb_at tkX11_film 25 rfl) ⟨by decide, by decide, by decide⟩ ?_
    refine r_iload_n (pc := 46) (tb_at tkX11_film 26 rfl) rfl rfl ?_
    refine r_imul (pc := 47) (tb_at tkX11_film 27 rfl) ?_
    refine r_iload_n (pc := 48) (tb_at tkX11_film 28 rfl) rfl rfl ?_
    refine r_iadd_l (pc := 49) (tb_at tkX11_film 29 rfl) ?_
    refine r_aload_n (pc := 50) (tb_at tkX11_film 30 rfl) rfl rfl ?_
    refine r_get 10 13 (pc := 51) (tb_at tkX11_film 31 rfl) ly_66 flX11_39 rfl ?_
    refine r_iload_n (pc := 54) (tb_at tkX11_film 32 rfl) rfl rfl ?_
    refine r_iald (pc := 55) (tb_at tkX11_film 33 rfl) ly_76 h.1.1 h.1.2 ?_
    replace h := h.2
    refine r_i2l (pc := 56) (tb_at tkX11_film 34 rfl) ?_
    refine r_last_w (pc := 57) (tb_at tkX11_film 35 rfl) ly_82 (by decide) h.1.1 h.1.2 rfl ?_
    replace h := h.2
    refine r_iinc (L' := [some (.inr (.inr (some 66))), some (.inl v1), none, some (.inl (w32 (v3 + 1)))]) (pc := 58) (tb_at tkX11_film 36 rfl) rfl (by decide) rfl ?_
    refine r_goto (tgt := 32) (pc := 61) (tb_at tkX11_film 37 rfl) (by decide) ?_
    exact h
set_option maxRecDepth 100000 in
set_option maxHeartbeats 4000000 in
theorem gX11_copies_0 {G : GE} {d : Nat} {K : Mem → Prop} {M : Mem} {a b : Nat} (ha : a = 67 ∨ a = 68) (hb : b = 67 ∨ b = 68) (h : OkV G miX11_copies d K 2 [some (.inr (.inr (some a))), some (.inr (.inr (some b))), some (.inl 0)] [] M) : OkV G miX11_copies d K 0 [some (.inr (.inr (some a))), some (.inr (.inr (some b))), none] [] M := by
  refine r_iconst (pc := 0) (tb_at tkX11_copies 0 rfl) ⟨by decide, by decide⟩ ?_
  refine r_istore_n (L' := [some (.inr (.inr (some a))), some (.inr (.inr (some b))), some (.inl 0)]) (pc := 1) (tb_at tkX11_copies 1 rfl) rfl (by decide) rfl ?_
  exact h
set_option maxRecDepth 100000 in
set_option maxHeartbeats 4000000 in
theorem gX11_copies_2 {G : GE} {d : Nat} {K : Mem → Prop} {M : Mem} {v2 : Int} {a b : Nat} (ha : a = 67 ∨ a = 68) (hb : b = 67 ∨ b = 68) (h : ((92 ≤ v2 → K M) ∧ (v2 < 92 → (0 ≤ v2 ∧ v2 < 92) ∧ (0 ≤ v2 ∧ v2 < 92) ∧ OkV G miX11_copies d K 2 [some (.inr (.inr (some a))), some (.inr (.inr (some b))), some (.inl (w32 (v2 + 1)))] [] (mup M b (v2).toNat (M a (v2).toNat))))) : OkV G miX11_copies d K 2 [some (.inr (.inr (some a))), some (.inr (.inr (some b))), some (.inl v2)] [] M := by
  refine r_iload_n (pc := 2) (tb_at tkX11_copies 2 rfl) rfl rfl ?_
  refine r_bipush (pc := 3) (tb_at tkX11_copies 3 rfl) ⟨by decide, by decide, by decide⟩ ?_
  refine q_icmp_ge (tgt := 20) (pc := 5) (tb_at tkX11_copies 4 rfl) (by decide) (fun c => ?_) (fun c => ?_)
  · replace h := h.1 c
    exact r_vret (pc := 20) (tb_at tkX11_copies 13 rfl) rfl (Nat.le_refl _) (Nat.le_refl _) ⟨rfl, rfl, h⟩
  · replace h := h.2 c
    refine r_aload_n (pc := 8) (tb_at tkX11_copies 5 rfl) rfl rfl ?_
    refine r_iload_n (pc := 9) (tb_at tkX11_copies 6 rfl) rfl rfl ?_
    refine r_aload_n (pc := 10) (tb_at tkX11_copies 7 rfl) rfl rfl ?_
    refine r_iload_n (pc := 11) (tb_at tkX11_copies 8 rfl) rfl rfl ?_
    refine r_iald (pc := 12) (tb_at tkX11_copies 9 rfl) (lyG ha) h.1.1 h.1.2 ?_
    replace h := h.2
    refine r_iast (pc := 13) (tb_at tkX11_copies 10 rfl) (lyG hb) h.1.1 h.1.2 rfl ?_
    replace h := h.2
    refine r_iinc (L' := [some (.inr (.inr (some a))), some (.inr (.inr (some b))), some (.inl (w32 (v2 + 1)))]) (pc := 14) (tb_at tkX11_copies 11 rfl) rfl (by decide) rfl ?_
    refine r_goto (tgt := 2) (pc := 17) (tb_at tkX11_copies 12 rfl) (by decide) ?_
    exact h
set_option maxRecDepth 100000 in
set_option maxHeartbeats 4000000 in
theorem gX11_image_0 {G : GE} {d : Nat} {K : Int → Mem → Prop} {M : Mem}  (h : CalV G miX11_copies d [.inr (.inr (some 67)), .inr (.inr (some 68))] M (fun M1 => K ((mup M1 66 2 1) 67 0) (mup M1 66 2 1))) : OkI G miX11_image (d + 1) K 0 [some (.inr (.inr (some 66)))] [] M := by
  refine r_aload_n (pc := 0) (tb_at tkX11_image 0 rfl) rfl rfl ?_
  refine r_get 10 0 (pc := 1) (tb_at tkX11_image 1 rfl) ly_66 flX11_11 rfl ?_
  refine r_aload_n (pc := 4) (tb_at tkX11_image 2 rfl) rfl rfl ?_
  refine r_get 10 1 (pc := 5) (tb_at tkX11_image 3 rfl) ly_66 flX11_15 rfl ?_
  refine r_invS (mc' := 0) (ms' := 0) [.inr (.inr (some 67)), .inr (.inr (some 68))] (S := []) (pc := 8) (tb_at tkX11_image 4 rfl) rfl clX11_426 (Nat.le_of_ble_eq_true rfl) (Nat.le_refl _) (Nat.le_refl _) ?_
  refine Cal.mono h ?_
  rintro _ _ M1 ⟨rfl, rfl, h⟩
  show OkI G miX11_image (d + 1) K 11 [some (.inr (.inr (some 66)))] [] M1
  refine r_aload_n (pc := 11) (tb_at tkX11_image 5 rfl) rfl rfl ?_
  refine r_iconst (pc := 12) (tb_at tkX11_image 6 rfl) ⟨by decide, by decide⟩ ?_
  refine r_put 10 2 1 (pc := 13) (tb_at tkX11_image 7 rfl) ly_66 flX11_430 (fun r h => by cases h; rfl) (.inr (.inl rfl)) rfl (fun _ => by decide) rfl ?_
  refine r_aload_n (pc := 16) (tb_at tkX11_image 8 rfl) rfl rfl ?_
  refine r_get 10 0 (pc := 17) (tb_at tkX11_image 9 rfl) ly_66 flX11_11 rfl ?_
  refine r_iconst (pc := 20) (tb_at tkX11_image 10 rfl) ⟨by decide, by decide⟩ ?_
  refine r_iald_k (k0 := 0) (pc := 21) (tb_at tkX11_image 11 rfl) ly_67 rfl (by decide) (by decide) ?_
  exact r_iret (pc := 22) (tb_at tkX11_image 12 rfl) rfl (Nat.le_refl _) (Nat.le_refl _) ⟨_, rfl, rfl, h⟩
set_option maxRecDepth 100000 in
set_option maxHeartbeats 4000000 in
theorem gX11_back_0 {G : GE} {d : Nat} {K : Int → Mem → Prop} {M : Mem}  (h : ((¬ (M 66 2) = 0 → CalV G miX11_copies d [.inr (.inr (some 68)), .inr (.inr (some 67))] M (fun M1 => K (M1 67 0) M1)) ∧ ((M 66 2) = 0 → K (-3) M))) : OkI G miX11_back (d + 1) K 0 [some (.inr (.inr (some 66)))] [] M := by
  refine r_aload_n (pc := 0) (tb_at tkX11_back 0 rfl) rfl rfl ?_
  refine r_get 10 2 (pc := 1) (tb_at tkX11_back 1 rfl) ly_66 flX11_430 rfl ?_
  refine q_if_ne (tgt := 10) (pc := 4) (tb_at tkX11_back 2 rfl) (by decide) (fun c => ?_) (fun c => ?_)
  · replace h := h.1 c
    refine r_aload_n (pc := 10) (tb_at tkX11_back 5 rfl) rfl rfl ?_
    refine r_get 10 1 (pc := 11) (tb_at tkX11_back 6 rfl) ly_66 flX11_15 rfl ?_
    refine r_aload_n (pc := 14) (tb_at tkX11_back 7 rfl) rfl rfl ?_
    refine r_get 10 0 (pc := 15) (tb_at tkX11_back 8 rfl) ly_66 flX11_11 rfl ?_
    refine r_invS (mc' := 0) (ms' := 0) [.inr (.inr (some 68)), .inr (.inr (some 67))] (S := []) (pc := 18) (tb_at tkX11_back 9 rfl) rfl clX11_426 (Nat.le_of_ble_eq_true rfl) (Nat.le_refl _) (Nat.le_refl _) ?_
    refine Cal.mono h ?_
    rintro _ _ M1 ⟨rfl, rfl, h⟩
    show OkI G miX11_back (d + 1) K 21 [some (.inr (.inr (some 66)))] [] M1
    refine r_aload_n (pc := 21) (tb_at tkX11_back 10 rfl) rfl rfl ?_
    refine r_get 10 0 (pc := 22) (tb_at tkX11_back 11 rfl) ly_66 flX11_11 rfl ?_
    refine r_iconst (pc := 25) (tb_at tkX11_back 12 rfl) ⟨by decide, by decide⟩ ?_
    refine r_iald_k (k0 := 0) (pc := 26) (tb_at tkX11_back 13 rfl) ly_67 rfl (by decide) (by decide) ?_
    exact r_iret (pc := 27) (tb_at tkX11_back 14 rfl) rfl (Nat.le_refl _) (Nat.le_refl _) ⟨_, rfl, rfl, h⟩
  · replace h := h.2 c
    refine r_bipush (pc := 7) (tb_at tkX11_back 3 rfl) ⟨by decide, by decide, by decide⟩ ?_
    exact r_iret (pc := 9) (tb_at tkX11_back 4 rfl) rfl (Nat.le_refl _) (Nat.le_refl _) ⟨_, rfl, rfl, h⟩
set_option maxRecDepth 100000 in
set_option maxHeartbeats 4000000 in
theorem gX11_twos_0 {G : GE} {d : Nat} {K : Int → Mem → Prop} {M : Mem} {v1 : Int}  (h : OkI G miX11_twos (d + 1) K 4 [some (.inr (.inr (some 66))), some (.inl v1), some (.inl 0), some (.inl 0), none] [] M) : OkI G miX11_twos (d + 1) K 0 [some (.inr (.inr (some 66))), some (.inl v1), none, none, none] [] M := by
  refine r_iconst (pc := 0) (tb_at tkX11_twos 0 rfl) ⟨by decide, by decide⟩ ?_
  refine r_istore_n (L' := [some (.inr (.inr (some 66))), some (.inl v1), some (.inl 0), none, none]) (pc := 1) (tb_at tkX11_twos 1 rfl) rfl (by decide) rfl ?_
  refine r_iconst (pc := 2) (tb_at tkX11_twos 2 rfl) ⟨by decide, by decide⟩ ?_
  refine r_istore_n (L' := [some (.inr (.inr (some 66))), some (.inl v1), some (.inl 0), some (.inl 0), none]) (pc := 3) (tb_at tkX11_twos 3 rfl) rfl (by decide) rfl ?_
  exact h
set_option maxRecDepth 100000 in
set_option maxHeartbeats 4000000 in
theorem gX11_twos_4 {G : GE} {d : Nat} {K : Int → Mem → Prop} {M : Mem} {v1 v2 v3 : Int}  (h : (((M 67 0) ≤ v3 → K v2 M) ∧ (v3 < (M 67 0) → OkI G miX11_twos (d + 1) K 17 [some (.inr (.inr (some 66))), some (.inl v1), some (.inl v2), some (.inl v3), some (.inl 0)] [] M))) : OkI G miX11_twos (d + 1) K 4 [some (.inr (.inr (some 66))), some (.inl v1), some (.inl v2), some (.inl v3), none] [] M := by
  refine r_iload_n (pc := 4) (tb_at tkX11_twos 4 rfl) rfl rfl ?_
  refine r_aload_n (pc := 5) (tb_at tkX11_twos 5 rfl) rfl rfl ?_
  refine r_get 10 0 (pc := 6) (tb_at tkX11_twos 6 rfl) ly_66 flX11_11 rfl ?_
  refine r_iconst (pc := 9) (tb_at tkX11_twos 7 rfl) ⟨by decide, by decide⟩ ?_
  refine r_iald_k (k0 := 0) (pc := 10) (tb_at tkX11_twos 8 rfl) ly_67 rfl (by decide) (by decide) ?_
  refine q_icmp_ge (tgt := 80) (pc := 11) (tb_at tkX11_twos 9 rfl) (by decide) (fun c => ?_) (fun c => ?_)
  · replace h := h.1 c
    refine r_iload_n (pc := 80) (tb_at tkX11_twos 44 rfl) rfl rfl ?_
    exact r_iret (pc := 81) (tb_at tkX11_twos 45 rfl) rfl (Nat.le_refl _) (Nat.le_refl _) ⟨_, rfl, rfl, h⟩
  · replace h := h.2 c
    refine r_iconst (pc := 14) (tb_at tkX11_twos 10 rfl) ⟨by decide, by decide⟩ ?_
    refine r_istore (L' := [some (.inr (.inr (some 66))), some (.inl v1), some (.inl v2), some (.inl v3), some (.inl 0)]) (pc := 15) (tb_at tkX11_twos 11 rfl) (by decide) rfl ?_
    exact h
set_option maxRecDepth 100000 in
set_option maxHeartbeats 4000000 in
theorem gX11_twos_17 {G : GE} {d : Nat} {K : Int → Mem → Prop} {M : Mem} {v1 v2 v3 v4 : Int}  (h : (((M 67 0) ≤ v4 → OkI G miX11_twos (d + 1) K 4 [some (.inr (.inr (some 66))), some (.inl v1), some (.inl v2), some (.inl (w32 (v3 + 1))), none] [] M) ∧ (v4 < (M 67 0) → ((v1 = 0 → CalI G miX11_followsBy d [.inr (.inr (some 66)), .inl v3, .inl v4] M (fun x2 M1 => OkI G miX11_twos (d + 1) K 17 [some (.inr (.inr (some 66))), some (.inl v1), some (.inl (w32 (v2 + (if 0 < x2 then (1 : Int) else 0)))), some (.inl v3), some (.inl (w32 (v4 + 1)))] [] M1)) ∧ (¬ v1 = 0 → CalI G miX11_markOf d [.inr (.inr (some 66)), .inl v3, .inl v4] M (fun x6 M5 => OkI G miX11_twos (d + 1) K 17 [some (.inr (.inr (some 66))), some (.inl v1), some (.inl (w32 (v2 + (if 0 < x6 then (1 : Int) else 0)))), some (.inl v3), some (.inl (w32 (v4 + 1)))] [] M5)))))) : OkI G miX11_twos (d + 1) K 17 [some (.inr (.inr (some 66))), some (.inl v1), some (.inl v2), some (.inl v3), some (.inl v4)] [] M := by
  refine r_iload (pc := 17) (tb_at tkX11_twos 12 rfl) rfl ?_
  refine r_aload_n (pc := 19) (tb_at tkX11_twos 13 rfl) rfl rfl ?_
  refine r_get 10 0 (pc := 20) (tb_at tkX11_twos 14 rfl) ly_66 flX11_11 rfl ?_
  refine r_iconst (pc := 23) (tb_at tkX11_twos 15 rfl) ⟨by decide, by decide⟩ ?_
  refine r_iald_k (k0 := 0) (pc := 24) (tb_at tkX11_twos 16 rfl) ly_67 rfl (by decide) (by decide) ?_
  refine q_icmp_ge (tgt := 74) (pc := 25) (tb_at tkX11_twos 17 rfl) (by decide) (fun c => ?_) (fun c => ?_)
  · replace h := h.1 c
    refine r_iinc (L' := [some (.inr (.inr (some 66))), some (.inl v1), some (.inl v2), some (.inl (w32 (v3 + 1))), some (.inl v4)]) (pc := 74) (tb_at tkX11_twos 42 rfl) rfl (by decide) rfl ?_
    refine r_goto (tgt := 4) (pc := 77) (tb_at tkX11_twos 43 rfl) (by decide) ?_
    exact Ok.forget h (And.intro rfl (And.intro rfl (And.intro rfl (And.intro rfl trivial))))
  · replace h := h.2 c
    refine r_iload_n (pc := 28) (tb_at tkX11_twos 18 rfl) rfl rfl ?_
    refine r_iload_n (pc := 29) (tb_at tkX11_twos 19 rfl) rfl rfl ?_
    refine q_if_eq (tgt := 51) (pc := 30) (tb_at tkX11_twos 20 rfl) (by decide) (fun c => ?_) (fun c => ?_)
    · replace h := h.1 c
      refine r_aload_n (pc := 51) (tb_at tkX11_twos 30 rfl) rfl rfl ?_
      refine r_iload_n (pc := 52) (tb_at tkX11_twos 31 rfl) rfl rfl ?_
      refine r_iload (pc := 53) (tb_at tkX11_twos 32 rfl) rfl ?_
      refine r_invV (mc' := 0) (ms' := 0) [.inl v3, .inl v4] (S := [.inl v2]) (pc := 55) (tb_at tkX11_twos 33 rfl) rfl ly_66 rfl rfl clX11_162 (Nat.le_of_ble_eq_true rfl) (Nat.le_refl _) (Nat.le_refl _) ?_
      refine Cal.mono h ?_
      rintro _ _ M1 ⟨x2, rfl, rfl, h⟩
      show OkI G miX11_twos (d + 1) K 58 [some (.inr (.inr (some 66))), some (.inl v1), some (.inl v2), some (.inl v3), some (.inl v4)] [.inl x2, .inl v2] M1
      have hJ3 : ∀ t0 : Int, t0 = (if 0 < x2 then (1 : Int) else 0) → OkI G miX11_twos (d + 1) K 66 [some (.inr (.inr (some 66))), some (.inl v1), some (.inl v2), some (.inl v3), some (.inl v4)] [.inl t0, .inl v2] M1 := by
        rintro _ rfl
        refine r_iadd (pc := 66) (tb_at tkX11_twos 38 rfl) ?_
        refine r_istore_n (L' := [some (.inr (.inr (some 66))), some (.inl v1), some (.inl (w32 (v2 + (if 0 < x2 then (1 : Int) else 0)))), some (.inl v3), some (.inl v4)]) (pc := 67) (tb_at tkX11_twos 39 rfl) rfl (by decide) rfl ?_
        refine r_iinc (L' := [some (.inr (.inr (some 66))), some (.inl v1), some (.inl (w32 (v2 + (if 0 < x2 then (1 : Int) else 0)))), some (.inl v3), some (.inl (w32 (v4 + 1)))]) (pc := 68) (tb_at tkX11_twos 40 rfl) rfl (by decide) rfl ?_
        refine r_goto (tgt := 17) (pc := 71) (tb_at tkX11_twos 41 rfl) (by decide) ?_
        exact h
      refine q_if_le (tgt := 65) (pc := 58) (tb_at tkX11_twos 34 rfl) (by decide) (fun c4 => ?_) (fun c4 => ?_)
      · refine r_iconst (pc := 65) (tb_at tkX11_twos 37 rfl) ⟨by decide, by decide⟩ ?_
        exact hJ3 _ (by simp only [if_neg (Int.not_lt.mpr c4)])
      · refine r_iconst (pc := 61) (tb_at tkX11_twos 35 rfl) ⟨by decide, by decide⟩ ?_
        refine r_goto (tgt := 66) (pc := 62) (tb_at tkX11_twos 36 rfl) (by decide) ?_
        exact hJ3 _ (by simp only [if_pos c4])
    · replace h := h.2 c
      refine r_aload_n (pc := 33) (tb_at tkX11_twos 21 rfl) rfl rfl ?_
      refine r_iload_n (pc := 34) (tb_at tkX11_twos 22 rfl) rfl rfl ?_
      refine r_iload (pc := 35) (tb_at tkX11_twos 23 rfl) rfl ?_
      refine r_invV (mc' := 0) (ms' := 0) [.inl v3, .inl v4] (S := [.inl v2]) (pc := 37) (tb_at tkX11_twos 24 rfl) rfl ly_66 rfl rfl clX11_179 (Nat.le_of_ble_eq_true rfl) (Nat.le_refl _) (Nat.le_refl _) ?_
      refine Cal.mono h ?_
      rintro _ _ M5 ⟨x6, rfl, rfl, h⟩
      show OkI G miX11_twos (d + 1) K 40 [some (.inr (.inr (some 66))), some (.inl v1), some (.inl v2), some (.inl v3), some (.inl v4)] [.inl x6, .inl v2] M5
      have hJ7 : ∀ t0 : Int, t0 = (if 0 < x6 then (1 : Int) else 0) → OkI G miX11_twos (d + 1) K 66 [some (.inr (.inr (some 66))), some (.inl v1), some (.inl v2), some (.inl v3), some (.inl v4)] [.inl t0, .inl v2] M5 := by
        rintro _ rfl
        refine r_iadd (pc := 66) (tb_at tkX11_twos 38 rfl) ?_
        refine r_istore_n (L' := [some (.inr (.inr (some 66))), some (.inl v1), some (.inl (w32 (v2 + (if 0 < x6 then (1 : Int) else 0)))), some (.inl v3), some (.inl v4)]) (pc := 67) (tb_at tkX11_twos 39 rfl) rfl (by decide) rfl ?_
        refine r_iinc (L' := [some (.inr (.inr (some 66))), some (.inl v1), some (.inl (w32 (v2 + (if 0 < x6 then (1 : Int) else 0)))), some (.inl v3), some (.inl (w32 (v4 + 1)))]) (pc := 68) (tb_at tkX11_twos 40 rfl) rfl (by decide) rfl ?_
        refine r_goto (tgt := 17) (pc := 71) (tb_at tkX11_twos 41 rfl) (by decide) ?_
        exact h
      refine q_if_le (tgt := 47) (pc := 40) (tb_at tkX11_twos 25 rfl) (by decide) (fun c8 => ?_) (fun c8 => ?_)
      · refine r_iconst (pc := 47) (tb_at tkX11_twos 28 rfl) ⟨by decide, by decide⟩ ?_
        refine r_goto (tgt := 66) (pc := 48) (tb_at tkX11_twos 29 rfl) (by decide) ?_
        exact hJ7 _ (by simp only [if_neg (Int.not_lt.mpr c8)])
      · refine r_iconst (pc := 43) (tb_at tkX11_twos 26 rfl) ⟨by decide, by decide⟩ ?_
        refine r_goto (tgt := 66) (pc := 44) (tb_at tkX11_twos 27 rfl) (by decide) ?_
        exact hJ7 _ (by simp only [if_pos c8])
set_option maxRecDepth 100000 in
set_option maxHeartbeats 4000000 in
theorem gX11_hadMany_0 {G : GE} {d : Nat} {K : Int → Mem → Prop} {M : Mem}  (h : CalV G miX11_reckons d [.inr (.inr (some 66))] M (fun M1 => OkI G miX11_hadMany (d + 1) K 8 [some (.inr (.inr (some 66))), some (.inl 0), some (.inl 1)] [] M1)) : OkI G miX11_hadMany (d + 1) K 0 [some (.inr (.inr (some 66))), none, none] [] M := by
  refine r_aload_n (pc := 0) (tb_at tkX11_hadMany 0 rfl) rfl rfl ?_
  refine r_invV (mc' := 0) (ms' := 0) [] (S := []) (pc := 1) (tb_at tkX11_hadMany 1 rfl) rfl ly_66 rfl rfl clX11_212 (Nat.le_of_ble_eq_true rfl) (Nat.le_refl _) (Nat.le_refl _) ?_
  refine Cal.mono h ?_
  rintro _ _ M1 ⟨rfl, rfl, h⟩
  show OkI G miX11_hadMany (d + 1) K 4 [some (.inr (.inr (some 66))), none, none] [] M1
  refine r_iconst (pc := 4) (tb_at tkX11_hadMany 2 rfl) ⟨by decide, by decide⟩ ?_
  refine r_istore_n (L' := [some (.inr (.inr (some 66))), some (.inl 0), none]) (pc := 5) (tb_at tkX11_hadMany 3 rfl) rfl (by decide) rfl ?_
  refine r_iconst (pc := 6) (tb_at tkX11_hadMany 4 rfl) ⟨by decide, by decide⟩ ?_
  refine r_istore_n (L' := [some (.inr (.inr (some 66))), some (.inl 0), some (.inl 1)]) (pc := 7) (tb_at tkX11_hadMany 5 rfl) rfl (by decide) rfl ?_
  exact h
set_option maxRecDepth 100000 in
set_option maxHeartbeats 4000000 in
theorem gX11_hadMany_8 {G : GE} {d : Nat} {K : Int → Mem → Prop} {M : Mem} {v1 v2 : Int}  (h : (((ishl 1 (M 67 0)) ≤ v2 → K v1 M) ∧ (v2 < (ishl 1 (M 67 0)) → (0 ≤ v2 ∧ v2 < 128) ∧ OkI G miX11_hadMany (d + 1) K 8 [some (.inr (.inr (some 66))), some (.inl (w32 (v1 + (if ¬ ((M 72 (v2).toNat) < 0) then (1 : Int) else 0)))), some (.inl (w32 (v2 + 1)))] [] M))) : OkI G miX11_hadMany (d + 1) K 8 [some (.inr (.inr (some 66))), some (.inl v1), some (.inl v2)] [] M := by
  refine r_iload_n (pc := 8) (tb_at tkX11_hadMany 6 rfl) rfl rfl ?_
  refine r_iconst (pc := 9) (tb_at tkX11_hadMany 7 rfl) ⟨by decide, by decide⟩ ?_
  refine r_aload_n (pc := 10) (tb_at tkX11_hadMany 8 rfl) rfl rfl ?_
  refine r_get 10 0 (pc := 11) (tb_at tkX11_hadMany 9 rfl) ly_66 flX11_11 rfl ?_
  refine r_iconst (pc := 14) (tb_at tkX11_hadMany 10 rfl) ⟨by decide, by decide⟩ ?_
  refine r_iald_k (k0 := 0) (pc := 15) (tb_at tkX11_hadMany 11 rfl) ly_67 rfl (by decide) (by decide) ?_
  refine r_ishl (pc := 16) (tb_at tkX11_hadMany 12 rfl) ?_
  refine q_icmp_ge (tgt := 43) (pc := 17) (tb_at tkX11_hadMany 13 rfl) (by decide) (fun c => ?_) (fun c => ?_)
  · replace h := h.1 c
    refine r_iload_n (pc := 43) (tb_at tkX11_hadMany 27 rfl) rfl rfl ?_
    exact r_iret (pc := 44) (tb_at tkX11_hadMany 28 rfl) rfl (Nat.le_refl _) (Nat.le_refl _) ⟨_, rfl, rfl, h⟩
  · replace h := h.2 c
    refine r_iload_n (pc := 20) (tb_at tkX11_hadMany 14 rfl) rfl rfl ?_
    refine r_aload_n (pc := 21) (tb_at tkX11_hadMany 15 rfl) rfl rfl ?_
    refine r_get 10 9 (pc := 22) (tb_at tkX11_hadMany 16 rfl) ly_66 flX11_27 rfl ?_
    refine r_iload_n (pc := 25) (tb_at tkX11_hadMany 17 rfl) rfl rfl ?_
    refine r_iald (pc := 26) (tb_at tkX11_hadMany 18 rfl) ly_72 h.1.1 h.1.2 ?_
    replace h := h.2
    have hJ1 : ∀ t0 : Int, t0 = (if ¬ ((M 72 (v2).toNat) < 0) then (1 : Int) else 0) → OkI G miX11_hadMany (d + 1) K 35 [some (.inr (.inr (some 66))), some (.inl v1), some (.inl v2)] [.inl t0, .inl v1] M := by
      rintro _ rfl
      refine r_iadd (pc := 35) (tb_at tkX11_hadMany 23 rfl) ?_
      refine r_istore_n (L' := [some (.inr (.inr (some 66))), some (.inl (w32 (v1 + (if ¬ ((M 72 (v2).toNat) < 0) then (1 : Int) else 0)))), some (.inl v2)]) (pc := 36) (tb_at tkX11_hadMany 24 rfl) rfl (by decide) rfl ?_
      refine r_iinc (L' := [some (.inr (.inr (some 66))), some (.inl (w32 (v1 + (if ¬ ((M 72 (v2).toNat) < 0) then (1 : Int) else 0)))), some (.inl (w32 (v2 + 1)))]) (pc := 37) (tb_at tkX11_hadMany 25 rfl) rfl (by decide) rfl ?_
      refine r_goto (tgt := 8) (pc := 40) (tb_at tkX11_hadMany 26 rfl) (by decide) ?_
      exact h
    refine q_if_lt (tgt := 34) (pc := 27) (tb_at tkX11_hadMany 19 rfl) (by decide) (fun c2 => ?_) (fun c2 => ?_)
    · refine r_iconst (pc := 34) (tb_at tkX11_hadMany 22 rfl) ⟨by decide, by decide⟩ ?_
      exact hJ1 _ (by simp only [if_neg (not_not_intro c2)])
    · refine r_iconst (pc := 30) (tb_at tkX11_hadMany 20 rfl) ⟨by decide, by decide⟩ ?_
      refine r_goto (tgt := 35) (pc := 31) (tb_at tkX11_hadMany 21 rfl) (by decide) ?_
      exact hJ1 _ (by simp only [if_pos (Int.not_lt.mpr c2)])
set_option maxRecDepth 100000 in
set_option maxHeartbeats 4000000 in
theorem gX11_count_0 {G : GE} {d : Nat} {K : Int → Mem → Prop} {M : Mem} {v1 : Int}  (h : ((v1 = 0 → K (M 67 0) M) ∧ (v1 = 1 → CalI G miX11_twos d [.inr (.inr (some 66)), .inl (if v1 = 1 then (1 : Int) else 0)] M (fun x2 M1 => K x2 M1)) ∧ (v1 = 2 → K (M 66 39) M) ∧ (v1 = 3 → CalI G miX11_twos d [.inr (.inr (some 66)), .inl (if v1 = 1 then (1 : Int) else 0)] M (fun x6 M5 => K x6 M5)) ∧ (v1 = 4 → CalI G miX11_hadMany d [.inr (.inr (some 66))] M (fun x10 M9 => K x10 M9)) ∧ (v1 = 5 → K (M 67 86) M) ∧ (v1 < 0 ∨ 5 < v1 → CalI G miX11_in d [.inr (.inl v1), .inr (.inl 10), .inr (.inl 14)] M (fun x12 M11 => ((x12 = 0 → K (-2) M11) ∧ (¬ x12 = 0 → (0 ≤ (87 + v1) - 10 ∧ (87 + v1) - 10 < 92) ∧ K (M11 67 ((87 + v1) - 10).toNat) M11)))))) : OkI G miX11_count (d + 1) K 0 [some (.inr (.inr (some 66))), some (.inl v1)] [] M := by
  refine r_iload_n (pc := 0) (tb_at tkX11_count 0 rfl) rfl rfl ?_
  by_cases c0 : v1 < 0 ∨ 5 < v1
  · refine r_tblOut (tgt := 80) (pc := 1) (tb_at tkX11_count 1 rfl) c0 (by decide) ?_
    replace h := h.2.2.2.2.2.2 c0
    refine r_iload_n (pc := 80) (tb_at tkX11_count 27 rfl) rfl rfl ?_
    refine r_i2l (pc := 81) (tb_at tkX11_count 28 rfl) ?_
    refine r_ldc2 (n := 10) (pc := 82) (tb_at tkX11_count 29 rfl) kcX11_441 ⟨by decide, by decide⟩ ?_
    refine r_ldc2 (n := 14) (pc := 85) (tb_at tkX11_count 30 rfl) kcX11_443 ⟨by decide, by decide⟩ ?_
    refine r_invS (mc' := 0) (ms' := 0) [.inr (.inl v1), .inr (.inl 10), .inr (.inl 14)] (S := []) (pc := 88) (tb_at tkX11_count 31 rfl) rfl clX11_103 (Nat.le_of_ble_eq_true rfl) (Nat.le_refl _) (Nat.le_refl _) ?_
    refine Cal.mono h ?_
    rintro _ _ M11 ⟨x12, rfl, rfl, h⟩
    show OkI G miX11_count (d + 1) K 91 [some (.inr (.inr (some 66))), some (.inl v1)] [.inl x12] M11
    refine q_if_eq (tgt := 109) (pc := 91) (tb_at tkX11_count 32 rfl) (by decide) (fun c => ?_) (fun c => ?_)
    · replace h := h.1 c
      refine r_bipush (pc := 109) (tb_at tkX11_count 42 rfl) ⟨by decide, by decide, by decide⟩ ?_
      exact r_iret (pc := 111) (tb_at tkX11_count 43 rfl) rfl (Nat.le_refl _) (Nat.le_refl _) ⟨_, rfl, rfl, h⟩
    · replace h := h.2 c
      refine r_aload_n (pc := 94) (tb_at tkX11_count 33 rfl) rfl rfl ?_
      refine r_get 10 0 (pc := 95) (tb_at tkX11_count 34 rfl) ly_66 flX11_11 rfl ?_
      refine r_bipush (pc := 98) (tb_at tkX11_count 35 rfl) ⟨by decide, by decide, by decide⟩ ?_
      refine r_iload_n (pc := 100) (tb_at tkX11_count 36 rfl) rfl rfl ?_
      refine r_iadd (pc := 101) (tb_at tkX11_count 37 rfl) ?_
      refine r_bipush (pc := 102) (tb_at tkX11_count 38 rfl) ⟨by decide, by decide, by decide⟩ ?_
      refine r_isub_l (pc := 104) (tb_at tkX11_count 39 rfl) ?_
      refine r_iald_w (pc := 105) (tb_at tkX11_count 40 rfl) ly_67 (by decide) h.1.1 h.1.2 ?_
      replace h := h.2
      refine r_goto (tgt := 111) (pc := 106) (tb_at tkX11_count 41 rfl) (by decide) ?_
      exact r_iret (pc := 111) (tb_at tkX11_count 43 rfl) rfl (Nat.le_refl _) (Nat.le_refl _) ⟨_, rfl, rfl, h⟩
  · have cc : v1 = 0 ∨ v1 = 1 ∨ v1 = 2 ∨ v1 = 3 ∨ v1 = 4 ∨ v1 = 5 := by omega
    rcases cc with c | c | c | c | c | c
    · refine r_tblIn (off := 39) (tgt := 40) (pc := 1) (tb_at tkX11_count 1 rfl) (by omega) (by omega) (by rw [c]; rfl) (by decide) ?_
      replace h := h.1 c
      refine r_aload_n (pc := 40) (tb_at tkX11_count 2 rfl) rfl rfl ?_
      refine r_get 10 0 (pc := 41) (tb_at tkX11_count 3 rfl) ly_66 flX11_11 rfl ?_
      refine r_iconst (pc := 44) (tb_at tkX11_count 4 rfl) ⟨by decide, by decide⟩ ?_
      refine r_iald_k (k0 := 0) (pc := 45) (tb_at tkX11_count 5 rfl) ly_67 rfl (by decide) (by decide) ?_
      exact r_iret (pc := 46) (tb_at tkX11_count 6 rfl) rfl (Nat.le_refl _) (Nat.le_refl _) ⟨_, rfl, rfl, h⟩
    · refine r_tblIn (off := 46) (tgt := 47) (pc := 1) (tb_at tkX11_count 1 rfl) (by omega) (by omega) (by rw [c]; rfl) (by decide) ?_
      replace h := h.2.1 c
      refine r_aload_n (pc := 47) (tb_at tkX11_count 7 rfl) rfl rfl ?_
      refine r_iload_n (pc := 48) (tb_at tkX11_count 8 rfl) rfl rfl ?_
      refine r_iconst (pc := 49) (tb_at tkX11_count 9 rfl) ⟨by decide, by decide⟩ ?_
      have hJ3 : ∀ t0 : Int, t0 = (if v1 = 1 then (1 : Int) else 0) → OkI G miX11_count (d + 1) K 58 [some (.inr (.inr (some 66))), some (.inl v1)] [.inl t0, .inr (.inr (some 66))] M := by
        rintro _ rfl
        refine r_invV (mc' := 0) (ms' := 0) [.inl (if v1 = 1 then (1 : Int) else 0)] (S := []) (pc := 58) (tb_at tkX11_count 14 rfl) rfl ly_66 rfl rfl clX11_434 (Nat.le_of_ble_eq_true rfl) (Nat.le_refl _) (Nat.le_refl _) ?_
        refine Cal.mono h ?_
        rintro _ _ M1 ⟨x2, rfl, rfl, h⟩
        show OkI G miX11_count (d + 1) K 61 [some (.inr (.inr (some 66))), some (.inl v1)] [.inl x2] M1
        exact r_iret (pc := 61) (tb_at tkX11_count 15 rfl) rfl (Nat.le_refl _) (Nat.le_refl _) ⟨_, rfl, rfl, h⟩
      refine q_icmp_ne (tgt := 57) (pc := 50) (tb_at tkX11_count 10 rfl) (by decide) (fun c4 => ?_) (fun c4 => ?_)
      · refine r_iconst (pc := 57) (tb_at tkX11_count 13 rfl) ⟨by decide, by decide⟩ ?_
        exact hJ3 _ (by simp only [if_neg c4])
      · refine r_iconst (pc := 53) (tb_at tkX11_count 11 rfl) ⟨by decide, by decide⟩ ?_
        refine r_goto (tgt := 58) (pc := 54) (tb_at tkX11_count 12 rfl) (by decide) ?_
        exact hJ3 _ (by simp only [if_pos c4])
    · refine r_tblIn (off := 61) (tgt := 62) (pc := 1) (tb_at tkX11_count 1 rfl) (by omega) (by omega) (by rw [c]; rfl) (by decide) ?_
      replace h := h.2.2.1 c
      refine r_aload_n (pc := 62) (tb_at tkX11_count 16 rfl) rfl rfl ?_
      refine r_get 10 39 (pc := 63) (tb_at tkX11_count 17 rfl) ly_66 flX11_366 rfl ?_
      exact r_iret (pc := 66) (tb_at tkX11_count 18 rfl) rfl (Nat.le_refl _) (Nat.le_refl _) ⟨_, rfl, rfl, h⟩
    · refine r_tblIn (off := 46) (tgt := 47) (pc := 1) (tb_at tkX11_count 1 rfl) (by omega) (by omega) (by rw [c]; rfl) (by decide) ?_
      replace h := h.2.2.2.1 c
      refine r_aload_n (pc := 47) (tb_at tkX11_count 7 rfl) rfl rfl ?_
      refine r_iload_n (pc := 48) (tb_at tkX11_count 8 rfl) rfl rfl ?_
      refine r_iconst (pc := 49) (tb_at tkX11_count 9 rfl) ⟨by decide, by decide⟩ ?_
      have hJ7 : ∀ t0 : Int, t0 = (if v1 = 1 then (1 : Int) else 0) → OkI G miX11_count (d + 1) K 58 [some (.inr (.inr (some 66))), some (.inl v1)] [.inl t0, .inr (.inr (some 66))] M := by
        rintro _ rfl
        refine r_invV (mc' := 0) (ms' := 0) [.inl (if v1 = 1 then (1 : Int) else 0)] (S := []) (pc := 58) (tb_at tkX11_count 14 rfl) rfl ly_66 rfl rfl clX11_434 (Nat.le_of_ble_eq_true rfl) (Nat.le_refl _) (Nat.le_refl _) ?_
        refine Cal.mono h ?_
        rintro _ _ M5 ⟨x6, rfl, rfl, h⟩
        show OkI G miX11_count (d + 1) K 61 [some (.inr (.inr (some 66))), some (.inl v1)] [.inl x6] M5
        exact r_iret (pc := 61) (tb_at tkX11_count 15 rfl) rfl (Nat.le_refl _) (Nat.le_refl _) ⟨_, rfl, rfl, h⟩
      refine q_icmp_ne (tgt := 57) (pc := 50) (tb_at tkX11_count 10 rfl) (by decide) (fun c8 => ?_) (fun c8 => ?_)
      · refine r_iconst (pc := 57) (tb_at tkX11_count 13 rfl) ⟨by decide, by decide⟩ ?_
        exact hJ7 _ (by simp only [if_neg c8])
      · refine r_iconst (pc := 53) (tb_at tkX11_count 11 rfl) ⟨by decide, by decide⟩ ?_
        refine r_goto (tgt := 58) (pc := 54) (tb_at tkX11_count 12 rfl) (by decide) ?_
        exact hJ7 _ (by simp only [if_pos c8])
    · refine r_tblIn (off := 66) (tgt := 67) (pc := 1) (tb_at tkX11_count 1 rfl) (by omega) (by omega) (by rw [c]; rfl) (by decide) ?_
      replace h := h.2.2.2.2.1 c
      refine r_aload_n (pc := 67) (tb_at tkX11_count 19 rfl) rfl rfl ?_
      refine r_invV (mc' := 0) (ms' := 0) [] (S := []) (pc := 68) (tb_at tkX11_count 20 rfl) rfl ly_66 rfl rfl clX11_438 (Nat.le_of_ble_eq_true rfl) (Nat.le_refl _) (Nat.le_refl _) ?_
      refine Cal.mono h ?_
      rintro _ _ M9 ⟨x10, rfl, rfl, h⟩
      show OkI G miX11_count (d + 1) K 71 [some (.inr (.inr (some 66))), some (.inl v1)] [.inl x10] M9
      exact r_iret (pc := 71) (tb_at tkX11_count 21 rfl) rfl (Nat.le_refl _) (Nat.le_refl _) ⟨_, rfl, rfl, h⟩
    · refine r_tblIn (off := 71) (tgt := 72) (pc := 1) (tb_at tkX11_count 1 rfl) (by omega) (by omega) (by rw [c]; rfl) (by decide) ?_
      replace h := h.2.2.2.2.2.1 c
      refine r_aload_n (pc := 72) (tb_at tkX11_count 22 rfl) rfl rfl ?_
      refine r_get 10 0 (pc := 73) (tb_at tkX11_count 23 rfl) ly_66 flX11_11 rfl ?_
      refine r_bipush (pc := 76) (tb_at tkX11_count 24 rfl) ⟨by decide, by decide, by decide⟩ ?_
      refine r_iald_k (k0 := 86) (pc := 78) (tb_at tkX11_count 25 rfl) ly_67 rfl (by decide) (by decide) ?_
      exact r_iret (pc := 79) (tb_at tkX11_count 26 rfl) rfl (Nat.le_refl _) (Nat.le_refl _) ⟨_, rfl, rfl, h⟩
