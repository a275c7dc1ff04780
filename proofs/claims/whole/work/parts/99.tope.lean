/-! the law: its loop, its start -/
section TOPE
variable {G : GE} {d : Nat} {M : Mem}
theorem Bo.one {n : Nat} (h : Bo n M) : Bo (n + 1) M := by
  obtain ⟨g, kg, t, so, sz, it, hs, m, hp, hc, hr⟩ := h
  exact ⟨g, kg, t, so, sz, it, hs, m, hp, hc.one, hr⟩
def K1 : Int → Mem → Prop := fun x _ => x = 1
theorem lw_loop (hL : G.2.2.2.2.1 ≤ 3584) : ∀ (fuel n : Nat) (M : Mem), G.2.2.2.2.1 ≤ 7 * (n + fuel) → 7 * n ≤ 3591 → Bo n M → OkW G d K1 18 ((7 * n : Nat) : Int) M := by
  have hGL : G.2.2.2.2.1 < 2147483648 := Nat.lt_of_le_of_lt hL (by decide)
  have hGN : G.2.2.2.2.1 ≤ 2147483647 := Nat.le_trans hL (by decide)
  intro fuel
  induction fuel with
  | zero =>
    intro n M h1 h2 hB
    refine gL_law_18 hGL hGN ⟨fun _ => rfl, fun c => absurd c ?_⟩
    rw [w32_eq (by omega) (by omega)]; omega
  | succ fuel ih =>
    intro n M h1 h2 hB
    have bo1 := hB.one
    refine gL_law_18 hGL hGN ⟨fun _ => rfl, fun c => ?_⟩
    rw [w32_eq (by omega) (by omega)] at c
    have hn6 : n ≤ 600 := by omega
    have v0 : 0 ≤ ((7 * n : Nat) : Int) := by omega
    have v7 : ((7 * n : Nat) : Int) + 7 ≤ (G.2.2.2.2.1 : Int) := by omega
    have nx : ∀ M2, Bo (n + 1) M2 → OkW G d K1 18 (w32 (((7 * n : Nat) : Int) + 7)) M2 := fun M2 hB2 => by
      rw [show w32 (((7 * n : Nat) : Int) + 7) = ((7 * (n + 1) : Nat) : Int) by rw [w32_eq (by omega) (by omega)]; omega]
      exact ih (n + 1) M2 (by omega) (by omega) hB2
    exact ⟨⟨by omega, by omega⟩, fun _ => lw_204 hGL hGN v0 v7 hn6 hB nx, fun _ => lw_257 hGL hGN v0 v7 hn6 hB nx, fun _ => lw_270 hGL hGN v0 v7 hB nx, fun _ => lw_303 hGL hGN v0 v7 hn6 hB nx, fun _ => lw_346 hGL hGN v0 v7 hn6 hB nx, fun _ => lw_389 hGL hGN v0 v7 hB nx, fun _ => lw_422 hGL hGN v0 v7 hB nx, fun _ => lw_455 hGL hGN v0 v7 hn6 hB nx, fun _ => lw_478 hGL hGN v0 v7 hn6 hB nx, fun _ => lw_511 hGL hGN v0 v7 hn6 hB nx, fun _ => lw_554 hGL hGN v0 v7 hB nx, fun _ => lw_587 hGL hGN v0 v7 hB nx, fun _ => lw_620 hGL hGN v0 v7 hB nx, fun _ => lw_643 hGL hGN v0 v7 hB nx, fun _ => lw_676 hGL hGN v0 v7 hB nx, fun _ => lw_699 hGL hGN v0 v7 hB nx, fun _ => lw_732 hGL hGN v0 v7 hB nx, fun _ => lw_756 hGL hGN v0 v7 hB nx, fun _ => lw_790 hGL hGN v0 v7 hB nx, fun _ => lw_844 hGL hGN v0 v7 hB nx, fun _ => lw_867 hGL hGN v0 v7 hB nx, fun _ => lw_910 hGL hGN v0 v7 hB nx, fun _ => lw_943 hGL hGN v0 v7 hB nx, fun _ => lw_967 hGL hGN v0 v7 hB nx, fun _ => lw_1010 hGL hGN v0 v7 hB nx, fun _ => lw_1033 hGL hGN v0 v7 hB nx, fun _ => lw_1066 hGL hGN v0 v7 hB nx, fun _ => lw_1129 hGL hGN v0 v7 hn6 hB nx, fun _ => lw_1204 hGL hGN v0 v7 hn6 hB nx, fun _ => lw_1217 hGL hGN v0 v7 hB nx, fun _ => lw_1250 hGL hGN v0 v7 hn6 hB nx, fun _ => lw_1273 hGL hGN v0 v7 hn6 hB nx, fun _ => lw_1326 hGL hGN v0 v7 hn6 hB nx, fun _ => lw_1339 hGL hGN v0 v7 hn6 hB nx, fun _ => lw_1352 hGL hGN v0 v7 hB nx, fun _ => lw_1375 hGL hGN v0 v7 hn6 hB nx, fun _ => lw_1418 hGL hGN v0 v7 hn6 hB nx, fun _ => lw_1491 hGL hGN v0 v7 hn6 hB nx, fun _ => lw_1525 hGL hGN v0 v7 hn6 hB nx, fun _ => nx M bo1⟩
end TOPE
set_option maxRecDepth 100000 in
theorem cz_0 (i : Nat) : cmZ 0 i = (if i = 15 then (-1) else if i = 14 then (-1) else if i = 13 then (-1) else 0 : Int) := rfl
set_option maxRecDepth 100000 in
theorem cz_1 (i : Nat) : cmZ 1 i = (if i = 10 then 0 else if i = 9 then 1 else if i = 8 then 0 else 0 : Int) := rfl
set_option maxRecDepth 100000 in
theorem cz_2 (i : Nat) : cmZ 2 i = (0 : Int) := rfl
set_option maxRecDepth 100000 in
theorem cz_3 (i : Nat) : cmZ 3 i = (0 : Int) := rfl
set_option maxRecDepth 100000 in
theorem cz_4 (i : Nat) : cmZ 4 i = (0 : Int) := rfl
set_option maxRecDepth 100000 in
theorem cz_5 (i : Nat) : cmZ 5 i = (0 : Int) := rfl
set_option maxRecDepth 100000 in
theorem cz_6 (i : Nat) : cmZ 6 i = (0 : Int) := rfl
set_option maxRecDepth 100000 in
theorem cz_7 (i : Nat) : cmZ 7 i = (0 : Int) := rfl
set_option maxRecDepth 100000 in
theorem cz_8 (i : Nat) : cmZ 8 i = (if i = 4 then 2 else if i = 3 then 20 else if i = 2 then 5 else if i = 1 then 1 else if i = 0 then 10 else 0 : Int) := rfl
set_option maxRecDepth 100000 in
theorem cz_9 (i : Nat) : cmZ 9 i = (0 : Int) := rfl
set_option maxRecDepth 100000 in
theorem cz_58 (i : Nat) : cmZ 58 i = (if i = 4 then (-1) else if i = 3 then 0 else if i = 2 then 0 else 0 : Int) := rfl
set_option maxRecDepth 100000 in
theorem cz_62 (i : Nat) : cmZ 62 i = (if i = 3 then (-1) else if i = 2 then (-1) else if i = 1 then (-1) else if i = 0 then (-1) else 0 : Int) := rfl
set_option maxRecDepth 100000 in
theorem cz_63 (i : Nat) : cmZ 63 i = (0 : Int) := rfl
set_option maxRecDepth 100000 in
theorem cz_64 (i : Nat) : cmZ 64 i = (0 : Int) := rfl
set_option maxRecDepth 100000 in
theorem cz_66 (i : Nat) : cmZ 66 i = (0 : Int) := rfl
set_option maxRecDepth 100000 in
theorem cz_67 (i : Nat) : cmZ 67 i = (if i = 91 then 2 else if i = 90 then 20 else if i = 89 then 5 else if i = 88 then 1 else if i = 87 then 10 else if i = 86 then 1 else 0 : Int) := rfl
set_option maxRecDepth 100000 in
theorem cz_80 (i : Nat) : cmZ 80 i = (if i = 3 then (-1) else if i = 2 then (-1) else if i = 1 then (-1) else if i = 0 then (-1) else 0 : Int) := rfl
set_option maxRecDepth 100000 in
theorem cz_81 (i : Nat) : cmZ 81 i = (0 : Int) := rfl
set_option maxRecDepth 100000 in
theorem cz_82 (i : Nat) : cmZ 82 i = (0 : Int) := rfl
set_option maxRecDepth 100000 in
theorem cz_wd : ((List.range 7).all fun w => (List.range 4).all fun k => decide (cmZ 93 (4 * w + k) = wdT w k)) = true := by decide +kernel
set_option maxRecDepth 100000 in
theorem cz_wt : ((List.range 7).all fun w => decide (cmZ 94 w = (wantN w : Int))) = true := by decide +kernel
section START
variable {M : Mem}
theorem st_WF (h67 : ∀ i, M 67 i = (if i = 91 then 2 else if i = 90 then 20 else if i = 89 then 5 else if i = 88 then 1 else if i = 87 then 10 else if i = 86 then 1 else 0 : Int)) : WF (M 67) := by
  have z : ∀ i, i < 86 → M 67 i = 0 := fun i hi => by rw [h67]; (repeat' split) <;> omega
  have e0 : nF (M 67) = 0 := by unfold nF; rw [z 0 (by omega)]; rfl
  have v86 : M 67 86 = 1 := by rw [h67]; decide
  have v87 : M 67 87 = 10 := by rw [h67]; decide
  have v88 : M 67 88 = 1 := by rw [h67]; decide
  have v89 : M 67 89 = 5 := by rw [h67]; decide
  have v90 : M 67 90 = 20 := by rw [h67]; decide
  have v91 : M 67 91 = 2 := by rw [h67]; decide
  refine ⟨?_, fun i hi => ?_, fun i hi => ?_, fun a ha => ?_, ?_, ?_, fun i hi => ?_, fun a b ha hb _ => ?_⟩
  · rw [z 0 (by omega)]; omega
  · rw [z _ (by omega), z _ (by omega), z _ (by omega), z _ (by omega)]; omega
  · rw [e0] at hi; omega
  · rw [z _ (by omega), z _ (by omega)]; omega
  · rw [v86]; omega
  · rw [v87, v88, v89, v90, v91]; omega
  · rw [z _ (by omega)]; omega
  · rw [z _ (by omega)]
theorem st_Bo (h0 : ∀ i, M 0 i = (if i = 15 then (-1) else if i = 14 then (-1) else if i = 13 then (-1) else 0 : Int)) (h1 : ∀ i, M 1 i = (if i = 10 then 0 else if i = 9 then 1 else if i = 8 then 0 else 0 : Int)) (h2 : ∀ i, M 2 i = (0 : Int)) (h3 : ∀ i, M 3 i = (0 : Int)) (h4 : ∀ i, M 4 i = (0 : Int)) (h5 : ∀ i, M 5 i = (0 : Int)) (h6 : ∀ i, M 6 i = (0 : Int)) (h7 : ∀ i, M 7 i = (0 : Int)) (h8 : ∀ i, M 8 i = (if i = 4 then 2 else if i = 3 then 20 else if i = 2 then 5 else if i = 1 then 1 else if i = 0 then 10 else 0 : Int)) (h9 : ∀ i, M 9 i = (0 : Int)) (h58 : ∀ i, M 58 i = (if i = 4 then (-1) else if i = 3 then 0 else if i = 2 then 0 else 0 : Int)) (h62 : ∀ i, M 62 i = (if i = 3 then (-1) else if i = 2 then (-1) else if i = 1 then (-1) else if i = 0 then (-1) else 0 : Int)) (h63 : ∀ i, M 63 i = (0 : Int)) (h64 : ∀ i, M 64 i = (0 : Int)) (h66 : ∀ i, M 66 i = (0 : Int)) (h67 : ∀ i, M 67 i = (if i = 91 then 2 else if i = 90 then 20 else if i = 89 then 5 else if i = 88 then 1 else if i = 87 then 10 else if i = 86 then 1 else 0 : Int)) (h80 : ∀ i, M 80 i = (if i = 3 then (-1) else if i = 2 then (-1) else if i = 1 then (-1) else if i = 0 then (-1) else 0 : Int)) (h81 : ∀ i, M 81 i = (0 : Int)) (h82 : ∀ i, M 82 i = (0 : Int)) (hwd : wdM M) (hwt : wtM M) : Bo 0 M := by
  have v110 : M 1 10 = 0 := by rw [h1]; decide
  have v13 : M 0 13 = -1 := by rw [h0]; decide
  have v14 : M 0 14 = -1 := by rw [h0]; decide
  have v15 : M 0 15 = -1 := by rw [h0]; decide
  have hw := st_WF h67
  have z : ∀ i, i < 86 → M 67 i = 0 := fun i hi => by rw [h67]; (repeat' split) <;> omega
  have hP : Pl (M 67) M := by
    refine ⟨⟨?_, ?_⟩, fun i hi => ⟨?_, ?_, ?_, ?_⟩, fun i hi => ⟨?_, ?_⟩, fun i hi => ?_, fun i hi => ?_⟩
    · rw [h1, h67]; decide
    · rw [h1, h67]; decide
    · rw [h2, z _ (by omega)]
    · rw [h3, z _ (by omega)]
    · rw [h4, z _ (by omega)]
    · rw [h5, z _ (by omega)]
    · rw [h6, z _ (by omega)]
    · rw [h7, z _ (by omega)]
    · rw [h8, h67]; (repeat' split) <;> omega
    · rw [h9, z _ (by omega)]
  refine ⟨M 67, M 68, M 92, M 80, M 81, M 82, 0, 0, ⟨hw, fun z => absurd rfl z, by decide, fun i hi => absurd hi (Nat.not_lt_zero _), fun v hv => ?_⟩, ⟨⟨⟨hP, hw⟩, by omega, fun z => absurd z (by omega), fun z => absurd z (by omega), fun z => absurd z (by omega)⟩, by omega, ⟨by rw [h0]; decide, fun z => absurd rfl z⟩, ⟨by rw [h58]; decide, fun i hi => absurd hi (Nat.not_lt_zero _)⟩, ?_, ?_, ?_⟩, rfl, rfl, h66 2, ⟨h66 39, fun i hi => absurd hi (Nat.not_lt_zero _)⟩, ⟨rfl, rfl, rfl⟩, hwd, hwt⟩
  · rw [h80, h81]; (repeat' split) <;> omega
  · funext i; rw [h62, h80]
  · funext i; rw [h63, h81]
  · funext i; rw [h64, h82]
end START
theorem bo_start : Bo 0 cmZ := st_Bo cz_0 cz_1 cz_2 cz_3 cz_4 cz_5 cz_6 cz_7 cz_8 cz_9 cz_58 cz_62 cz_63 cz_64 cz_66 cz_67 cz_80 cz_81 cz_82 (fun w hw k hk => of_decide_eq_true (List.all_eq_true.mp (List.all_eq_true.mp cz_wd w (List.mem_range.mpr hw)) k (List.mem_range.mpr hk))) (fun w hw => of_decide_eq_true (List.all_eq_true.mp cz_wt w (List.mem_range.mpr hw)))
