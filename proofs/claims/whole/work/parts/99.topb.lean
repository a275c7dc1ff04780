/-! the law: calls that ask -/
section TOPB
variable {G : GE} {d : Nat} {K : Int → Mem → Prop} {M : Mem} {v3 : Int} {n : Nat}
theorem lw_270 (hGL : G.2.2.2.2.1 < 2147483648) (hGN : G.2.2.2.2.1 ≤ 2147483647) (v0 : 0 ≤ v3) (v7 : v3 + 7 ≤ (G.2.2.2.2.1 : Int)) (hB : Bo n M) (nx : ∀ M2, Bo (n + 1) M2 → OkW G d K 18 (w32 (v3 + 7)) M2) : OkW G d K 270 v3 M := by
  obtain ⟨g, kg, t, so, sz, it, hs, m, hp, hc, hr⟩ := hB
  have hw := hp.1
  refine gL_law_270 hGL hGN ⟨by omega, by omega, c10_of hc.1 (fun M1 f1 hC1 => ?_)⟩
  have hr1 := hr.up (SFc_up f1)
  exact ⟨by omega, by omega, c11_of hr1.1 hw ⟨fun _ => nx M1 (bo_ask hp hc hr f1 hC1 Fr.rf ok_no), fun z => absurd (rfl) z⟩⟩
theorem lw_587 (hGL : G.2.2.2.2.1 < 2147483648) (hGN : G.2.2.2.2.1 ≤ 2147483647) (v0 : 0 ≤ v3) (v7 : v3 + 7 ≤ (G.2.2.2.2.1 : Int)) (hB : Bo n M) (nx : ∀ M2, Bo (n + 1) M2 → OkW G d K 18 (w32 (v3 + 7)) M2) : OkW G d K 587 v3 M := by
  obtain ⟨g, kg, t, so, sz, it, hs, m, hp, hc, hr⟩ := hB
  have hw := hp.1
  refine gL_law_587 hGL hGN ⟨by omega, by omega, c10_pairing hc.1 (fun M1 f1 hC1 => ?_)⟩
  have hr1 := hr.up (SFc_up f1)
  exact ⟨by omega, by omega, c11_pairing hr1.1 hw (fun M2 f2 => ⟨fun _ => nx M2 (bo_ask hp hc hr f1 hC1 f2 ok_SR), fun z => absurd (rfl) z⟩)⟩
theorem lw_620 (hGL : G.2.2.2.2.1 < 2147483648) (hGN : G.2.2.2.2.1 ≤ 2147483647) (v0 : 0 ≤ v3) (v7 : v3 + 7 ≤ (G.2.2.2.2.1 : Int)) (hB : Bo n M) (nx : ∀ M2, Bo (n + 1) M2 → OkW G d K 18 (w32 (v3 + 7)) M2) : OkW G d K 620 v3 M := by
  obtain ⟨g, kg, t, so, sz, it, hs, m, hp, hc, hr⟩ := hB
  have hw := hp.1
  refine gL_law_620 hGL hGN ⟨by omega, c10_pairings hc.1 (fun M1 f1 hC1 => ?_)⟩
  have hr1 := hr.up (SFc_up f1)
  exact ⟨by omega, c11_pairings hr1.1 hw (fun M2 f2 => ⟨fun _ => nx M2 (bo_ask hp hc hr f1 hC1 f2 ok_SR), fun z => absurd (rfl) z⟩)⟩
theorem lw_643 (hGL : G.2.2.2.2.1 < 2147483648) (hGN : G.2.2.2.2.1 ≤ 2147483647) (v0 : 0 ≤ v3) (v7 : v3 + 7 ≤ (G.2.2.2.2.1 : Int)) (hB : Bo n M) (nx : ∀ M2, Bo (n + 1) M2 → OkW G d K 18 (w32 (v3 + 7)) M2) : OkW G d K 643 v3 M := by
  obtain ⟨g, kg, t, so, sz, it, hs, m, hp, hc, hr⟩ := hB
  have hw := hp.1
  refine gL_law_643 hGL hGN ⟨by omega, by omega, c10_had hc.1 (fun M1 f1 hC1 => ?_)⟩
  have hr1 := hr.up (SFc_up f1)
  exact ⟨by omega, by omega, c11_had hr1.1 hw (fun M2 f2 => ⟨fun _ => nx M2 (bo_ask hp hc hr f1 hC1 f2 ok_SR), fun z => absurd (rfl) z⟩)⟩
theorem lw_676 (hGL : G.2.2.2.2.1 < 2147483648) (hGN : G.2.2.2.2.1 ≤ 2147483647) (v0 : 0 ≤ v3) (v7 : v3 + 7 ≤ (G.2.2.2.2.1 : Int)) (hB : Bo n M) (nx : ∀ M2, Bo (n + 1) M2 → OkW G d K 18 (w32 (v3 + 7)) M2) : OkW G d K 676 v3 M := by
  obtain ⟨g, kg, t, so, sz, it, hs, m, hp, hc, hr⟩ := hB
  have hw := hp.1
  refine gL_law_676 hGL hGN ⟨by omega, c10_best hc.1 (fun M1 f1 hC1 => ?_)⟩
  have hr1 := hr.up (SFc_up f1)
  exact ⟨by omega, c11_best hr1.1 hw (fun M2 f2 => ⟨fun _ => nx M2 (bo_ask hp hc hr f1 hC1 f2 ok_SV), fun z => absurd (rfl) z⟩)⟩
theorem lw_699 (hGL : G.2.2.2.2.1 < 2147483648) (hGN : G.2.2.2.2.1 ≤ 2147483647) (v0 : 0 ≤ v3) (v7 : v3 + 7 ≤ (G.2.2.2.2.1 : Int)) (hB : Bo n M) (nx : ∀ M2, Bo (n + 1) M2 → OkW G d K 18 (w32 (v3 + 7)) M2) : OkW G d K 699 v3 M := by
  obtain ⟨g, kg, t, so, sz, it, hs, m, hp, hc, hr⟩ := hB
  have hw := hp.1
  refine gL_law_699 hGL hGN ⟨by omega, by omega, c10_bestOf hc.1 (fun M1 f1 hC1 => ?_)⟩
  have hr1 := hr.up (SFc_up f1)
  exact ⟨by omega, by omega, c11_bestOf hr1.1 hw (fun M2 f2 => ⟨fun _ => nx M2 (bo_ask hp hc hr f1 hC1 f2 ok_SV), fun z => absurd (rfl) z⟩)⟩
theorem lw_732 (hGL : G.2.2.2.2.1 < 2147483648) (hGN : G.2.2.2.2.1 ≤ 2147483647) (v0 : 0 ≤ v3) (v7 : v3 + 7 ≤ (G.2.2.2.2.1 : Int)) (hB : Bo n M) (nx : ∀ M2, Bo (n + 1) M2 → OkW G d K 18 (w32 (v3 + 7)) M2) : OkW G d K 732 v3 M := by
  obtain ⟨g, kg, t, so, sz, it, hs, m, hp, hc, hr⟩ := hB
  have hw := hp.1
  refine gL_law_732 hGL hGN ⟨by omega, c10_bound p25 hc.1 (fun M1 f1 hC1 => ?_)⟩
  have hr1 := hr.up (SFc_up f1)
  exact ⟨by omega, c11_bound hr1.1 hw (fun M2 f2 => ⟨fun _ => nx M2 (bo_ask hp hc hr f1 hC1 f2 ok_SB2), fun z => absurd (rfl) z⟩)⟩
theorem lw_756 (hGL : G.2.2.2.2.1 < 2147483648) (hGN : G.2.2.2.2.1 ≤ 2147483647) (v0 : 0 ≤ v3) (v7 : v3 + 7 ≤ (G.2.2.2.2.1 : Int)) (hB : Bo n M) (nx : ∀ M2, Bo (n + 1) M2 → OkW G d K 18 (w32 (v3 + 7)) M2) : OkW G d K 756 v3 M := by
  obtain ⟨g, kg, t, so, sz, it, hs, m, hp, hc, hr⟩ := hB
  have hw := hp.1
  refine gL_law_756 hGL hGN ⟨by omega, by omega, c10_price p25 hc.1 (fun M1 f1 hC1 => ?_)⟩
  have hr1 := hr.up (SFc_up f1)
  exact ⟨by omega, by omega, c11_price hr1.1 hw (fun M2 f2 => ⟨fun _ => nx M2 (bo_ask hp hc hr f1 hC1 f2 ok_SB2), fun z => absurd (rfl) z⟩)⟩
theorem lw_790 (hGL : G.2.2.2.2.1 < 2147483648) (hGN : G.2.2.2.2.1 ≤ 2147483647) (v0 : 0 ≤ v3) (v7 : v3 + 7 ≤ (G.2.2.2.2.1 : Int)) (hB : Bo n M) (nx : ∀ M2, Bo (n + 1) M2 → OkW G d K 18 (w32 (v3 + 7)) M2) : OkW G d K 790 v3 M := by
  obtain ⟨g, kg, t, so, sz, it, hs, m, hp, hc, hr⟩ := hB
  have hw := hp.1
  refine gL_law_790 hGL hGN ⟨by omega, by omega, by omega, by omega, c10_branch p25 hc.1 (fun M1 f1 hC1 => ?_)⟩
  have hr1 := hr.up (SFc_up f1)
  exact ⟨by omega, by omega, by omega, by omega, c11_branch hr1.1 hw (fun M2 f2 => ⟨fun _ => nx M2 (bo_ask hp hc hr f1 hC1 f2 ok_SB2), fun z => absurd (rfl) z⟩)⟩
theorem lw_844 (hGL : G.2.2.2.2.1 < 2147483648) (hGN : G.2.2.2.2.1 ≤ 2147483647) (v0 : 0 ≤ v3) (v7 : v3 + 7 ≤ (G.2.2.2.2.1 : Int)) (hB : Bo n M) (nx : ∀ M2, Bo (n + 1) M2 → OkW G d K 18 (w32 (v3 + 7)) M2) : OkW G d K 844 v3 M := by
  obtain ⟨g, kg, t, so, sz, it, hs, m, hp, hc, hr⟩ := hB
  have hw := hp.1
  refine gL_law_844 hGL hGN ⟨by omega, c10_tree p25 hc.1 (fun M1 f1 hC1 => ?_)⟩
  have hr1 := hr.up (SFc_up f1)
  exact ⟨by omega, c11_tree hr1.1 hw (fun M2 f2 => ⟨fun _ => nx M2 (bo_ask hp hc hr f1 hC1 f2 ok_ST), fun z => absurd (rfl) z⟩)⟩
theorem lw_867 (hGL : G.2.2.2.2.1 < 2147483648) (hGN : G.2.2.2.2.1 ≤ 2147483647) (v0 : 0 ≤ v3) (v7 : v3 + 7 ≤ (G.2.2.2.2.1 : Int)) (hB : Bo n M) (nx : ∀ M2, Bo (n + 1) M2 → OkW G d K 18 (w32 (v3 + 7)) M2) : OkW G d K 867 v3 M := by
  obtain ⟨g, kg, t, so, sz, it, hs, m, hp, hc, hr⟩ := hB
  have hw := hp.1
  refine gL_law_867 hGL hGN ⟨by omega, by omega, by omega, c10_proves p25 hc.1 (show ShC M from by unfold ShC; rw [hc.2.2.2.2.1, hc.2.2.2.2.2.1]; exact hp.2.2.2.2) (fun M1 f1 hC1 => ?_)⟩
  have hr1 := hr.up (SFc_up f1)
  exact ⟨by omega, by omega, by omega, c11_proves hr1.1 hw (show shW (M1 80) (M1 81) from by rw [hr1.2.2.2.2.1.1, hr1.2.2.2.2.1.2.1]; exact hp.2.2.2.2) (fun M2 f2 => ⟨fun _ => nx M2 (bo_ask hp hc hr f1 hC1 f2 ok_SB2), fun z => absurd (by rw [hc.2.2.2.2.1, hc.2.2.2.2.2.1, hc.2.2.2.2.2.2, hr1.2.2.2.2.1.1, hr1.2.2.2.2.1.2.1, hr1.2.2.2.2.1.2.2]) z⟩)⟩
theorem lw_910 (hGL : G.2.2.2.2.1 < 2147483648) (hGN : G.2.2.2.2.1 ≤ 2147483647) (v0 : 0 ≤ v3) (v7 : v3 + 7 ≤ (G.2.2.2.2.1 : Int)) (hB : Bo n M) (nx : ∀ M2, Bo (n + 1) M2 → OkW G d K 18 (w32 (v3 + 7)) M2) : OkW G d K 910 v3 M := by
  obtain ⟨g, kg, t, so, sz, it, hs, m, hp, hc, hr⟩ := hB
  have hw := hp.1
  refine gL_law_910 hGL hGN ⟨by omega, by omega, c10_labels hc.1 (show ShC M from by unfold ShC; rw [hc.2.2.2.2.1, hc.2.2.2.2.2.1]; exact hp.2.2.2.2) (fun M1 f1 hC1 => ?_)⟩
  have hr1 := hr.up (SFc_up f1)
  exact ⟨by omega, by omega, c11_labels hr1.1 hw (show shW (M1 80) (M1 81) from by rw [hr1.2.2.2.2.1.1, hr1.2.2.2.2.1.2.1]; exact hp.2.2.2.2) (fun M2 f2 => ⟨fun _ => nx M2 (bo_ask hp hc hr f1 hC1 f2 ok_SY), fun z => absurd (by rw [hc.2.2.2.2.1, hc.2.2.2.2.2.1, hc.2.2.2.2.2.2, hr1.2.2.2.2.1.1, hr1.2.2.2.2.1.2.1, hr1.2.2.2.2.1.2.2]) z⟩)⟩
theorem lw_943 (hGL : G.2.2.2.2.1 < 2147483648) (hGN : G.2.2.2.2.1 ≤ 2147483647) (v0 : 0 ≤ v3) (v7 : v3 + 7 ≤ (G.2.2.2.2.1 : Int)) (hB : Bo n M) (nx : ∀ M2, Bo (n + 1) M2 → OkW G d K 18 (w32 (v3 + 7)) M2) : OkW G d K 943 v3 M := by
  obtain ⟨g, kg, t, so, sz, it, hs, m, hp, hc, hr⟩ := hB
  have hw := hp.1
  refine gL_law_943 hGL hGN ⟨by omega, c10_way hc.1 (show ShC M from by unfold ShC; rw [hc.2.2.2.2.1, hc.2.2.2.2.2.1]; exact hp.2.2.2.2) (fun M1 f1 hC1 => ?_)⟩
  have hr1 := hr.up (SFc_up f1)
  exact ⟨by omega, c11_way hr1.1 hw (show shW (M1 80) (M1 81) from by rw [hr1.2.2.2.2.1.1, hr1.2.2.2.2.1.2.1]; exact hp.2.2.2.2) (fun M2 f2 => ⟨fun _ => nx M2 (bo_ask hp hc hr f1 hC1 f2 ok_SY), fun z => absurd (by rw [hc.2.2.2.2.1, hc.2.2.2.2.2.1, hc.2.2.2.2.2.2, hr1.2.2.2.2.1.1, hr1.2.2.2.2.1.2.1, hr1.2.2.2.2.1.2.2]) z⟩)⟩
theorem lw_967 (hGL : G.2.2.2.2.1 < 2147483648) (hGN : G.2.2.2.2.1 ≤ 2147483647) (v0 : 0 ≤ v3) (v7 : v3 + 7 ≤ (G.2.2.2.2.1 : Int)) (hB : Bo n M) (nx : ∀ M2, Bo (n + 1) M2 → OkW G d K 18 (w32 (v3 + 7)) M2) : OkW G d K 967 v3 M := by
  obtain ⟨g, kg, t, so, sz, it, hs, m, hp, hc, hr⟩ := hB
  have hw := hp.1
  refine gL_law_967 hGL hGN ⟨by omega, by omega, by omega, c10_late hc.1 (fun M1 f1 hC1 => ?_)⟩
  have hr1 := hr.up (SFc_up f1)
  exact ⟨by omega, by omega, by omega, c11_late hr1.1 hw (fun M2 f2 => ⟨fun _ => nx M2 (bo_ask hp hc hr f1 hC1 f2 ok_SW), fun z => absurd (rfl) z⟩)⟩
theorem lw_1010 (hGL : G.2.2.2.2.1 < 2147483648) (hGN : G.2.2.2.2.1 ≤ 2147483647) (v0 : 0 ≤ v3) (v7 : v3 + 7 ≤ (G.2.2.2.2.1 : Int)) (hB : Bo n M) (nx : ∀ M2, Bo (n + 1) M2 → OkW G d K 18 (w32 (v3 + 7)) M2) : OkW G d K 1010 v3 M := by
  obtain ⟨g, kg, t, so, sz, it, hs, m, hp, hc, hr⟩ := hB
  have hw := hp.1
  refine gL_law_1010 hGL hGN ⟨by omega, c10_worst hc.1 (fun M1 f1 hC1 => ?_)⟩
  have hr1 := hr.up (SFc_up f1)
  exact ⟨by omega, c11_worst hr1.1 hw (fun M2 f2 => ⟨fun _ => nx M2 (bo_ask hp hc hr f1 hC1 f2 ok_SW), fun z => absurd (rfl) z⟩)⟩
theorem lw_1033 (hGL : G.2.2.2.2.1 < 2147483648) (hGN : G.2.2.2.2.1 ≤ 2147483647) (v0 : 0 ≤ v3) (v7 : v3 + 7 ≤ (G.2.2.2.2.1 : Int)) (hB : Bo n M) (nx : ∀ M2, Bo (n + 1) M2 → OkW G d K 18 (w32 (v3 + 7)) M2) : OkW G d K 1033 v3 M := by
  obtain ⟨g, kg, t, so, sz, it, hs, m, hp, hc, hr⟩ := hB
  have hw := hp.1
  refine gL_law_1033 hGL hGN ⟨by omega, by omega, c10_drawn hc.1 (fun M1 f1 hC1 => ?_)⟩
  have hr1 := hr.up (SFc_up f1)
  exact ⟨by omega, by omega, c11_drawn hr1.1 hw (fun M2 f2 => ⟨fun _ => nx M2 (bo_ask hp hc hr f1 hC1 f2 ok_SW), fun z => absurd (rfl) z⟩)⟩
theorem lw_1066 (hGL : G.2.2.2.2.1 < 2147483648) (hGN : G.2.2.2.2.1 ≤ 2147483647) (v0 : 0 ≤ v3) (v7 : v3 + 7 ≤ (G.2.2.2.2.1 : Int)) (hB : Bo n M) (nx : ∀ M2, Bo (n + 1) M2 → OkW G d K 18 (w32 (v3 + 7)) M2) : OkW G d K 1066 v3 M := by
  obtain ⟨g, kg, t, so, sz, it, hs, m, hp, hc, hr⟩ := hB
  have hw := hp.1
  refine gL_law_1066 hGL hGN ⟨by omega, by omega, by omega, by omega, by omega, c10_chance hc.1 (fun M1 f1 hC1 => ?_)⟩
  have hr1 := hr.up (SFc_up f1)
  exact ⟨by omega, by omega, by omega, by omega, by omega, c11_chance hr1.1 hw (fun M2 f2 => ⟨fun _ => nx M2 (bo_ask hp hc hr f1 hC1 f2 ok_SW), fun z => absurd (rfl) z⟩)⟩
theorem lw_1217 (hGL : G.2.2.2.2.1 < 2147483648) (hGN : G.2.2.2.2.1 ≤ 2147483647) (v0 : 0 ≤ v3) (v7 : v3 + 7 ≤ (G.2.2.2.2.1 : Int)) (hB : Bo n M) (nx : ∀ M2, Bo (n + 1) M2 → OkW G d K 18 (w32 (v3 + 7)) M2) : OkW G d K 1217 v3 M := by
  obtain ⟨g, kg, t, so, sz, it, hs, m, hp, hc, hr⟩ := hB
  have hw := hp.1
  refine gL_law_1217 hGL hGN ⟨by omega, by omega, c10_tells hc.1 (show ShC M from by unfold ShC; rw [hc.2.2.2.2.1, hc.2.2.2.2.2.1]; exact hp.2.2.2.2) (fun M1 f1 hC1 => ?_)⟩
  have hr1 := hr.up (SFc_up f1)
  exact ⟨by omega, by omega, c11_tells hr1.1 hw (show shW (M1 80) (M1 81) from by rw [hr1.2.2.2.2.1.1, hr1.2.2.2.2.1.2.1]; exact hp.2.2.2.2) (fun M2 f2 => ⟨fun _ => nx M2 (bo_ask hp hc hr f1 hC1 f2 ok_SR), fun z => absurd (by rw [hc.2.2.2.2.1, hc.2.2.2.2.2.1, hc.2.2.2.2.2.2, hr1.2.2.2.2.1.1, hr1.2.2.2.2.1.2.1, hr1.2.2.2.2.1.2.2]) z⟩)⟩
theorem lw_389 (hGL : G.2.2.2.2.1 < 2147483648) (hGN : G.2.2.2.2.1 ≤ 2147483647) (v0 : 0 ≤ v3) (v7 : v3 + 7 ≤ (G.2.2.2.2.1 : Int)) (hB : Bo n M) (nx : ∀ M2, Bo (n + 1) M2 → OkW G d K 18 (w32 (v3 + 7)) M2) : OkW G d K 389 v3 M := by
  obtain ⟨g, kg, t, so, sz, it, hs, m, hp, hc, hr⟩ := hB
  have hw := hp.1
  refine gL_law_389 hGL hGN ⟨by omega, by omega, c10_told hc.1.1.1 hw ?_⟩
  exact ⟨by omega, by omega, c11_told hr.1 hw ⟨fun _ => nx M ⟨g, kg, t, so, sz, it, hs, m, hp, hc.one, hr⟩, fun z => absurd rfl z⟩⟩
theorem lw_422 (hGL : G.2.2.2.2.1 < 2147483648) (hGN : G.2.2.2.2.1 ≤ 2147483647) (v0 : 0 ≤ v3) (v7 : v3 + 7 ≤ (G.2.2.2.2.1 : Int)) (hB : Bo n M) (nx : ∀ M2, Bo (n + 1) M2 → OkW G d K 18 (w32 (v3 + 7)) M2) : OkW G d K 422 v3 M := by
  obtain ⟨g, kg, t, so, sz, it, hs, m, hp, hc, hr⟩ := hB
  have hw := hp.1
  refine gL_law_422 hGL hGN ⟨by omega, by omega, c10_taken hc.1.1.1 hw ?_⟩
  exact ⟨by omega, by omega, c11_taken hr.1 hw ⟨fun _ => nx M ⟨g, kg, t, so, sz, it, hs, m, hp, hc.one, hr⟩, fun z => absurd rfl z⟩⟩
theorem lw_554 (hGL : G.2.2.2.2.1 < 2147483648) (hGN : G.2.2.2.2.1 ≤ 2147483647) (v0 : 0 ≤ v3) (v7 : v3 + 7 ≤ (G.2.2.2.2.1 : Int)) (hB : Bo n M) (nx : ∀ M2, Bo (n + 1) M2 → OkW G d K 18 (w32 (v3 + 7)) M2) : OkW G d K 554 v3 M := by
  obtain ⟨g, kg, t, so, sz, it, hs, m, hp, hc, hr⟩ := hB
  have hw := hp.1
  have hn := hw.n
  refine gL_law_554 hGL hGN ⟨by omega, by omega, c10_follows hc.1 (fun M1 f1 hC1 => ?_)⟩
  have hr1 := hr.up (SFc_up f1)
  have bo := bo_ask hp hc hr f1 hC1 Fr.rf ok_no
  refine ⟨by omega, by omega, c11_follows hr1.1 hw (fun f k ef ek hf hk hne => ⟨fun _ => nx M1 bo, fun z => absurd ?_ z⟩) (fun hb => ⟨fun _ => nx M1 bo, fun z => absurd ?_ z⟩)⟩
  · unfold folR; rw [if_neg (by omega), ef, ek, Int.toNat_natCast, Int.toNat_natCast]
  · unfold folR; rw [if_pos hb]
theorem lw_1352 (hGL : G.2.2.2.2.1 < 2147483648) (hGN : G.2.2.2.2.1 ≤ 2147483647) (v0 : 0 ≤ v3) (v7 : v3 + 7 ≤ (G.2.2.2.2.1 : Int)) (hB : Bo n M) (nx : ∀ M2, Bo (n + 1) M2 → OkW G d K 18 (w32 (v3 + 7)) M2) : OkW G d K 1352 v3 M := by
  obtain ⟨g, kg, t, so, sz, it, hs, m, hp, hc, hr⟩ := hB
  have hw := hp.1
  refine gL_law_1352 hGL hGN ⟨by omega, c10_count hc.1 (fun M1 f1 hC1 => ?_)⟩
  have hr1 := hr.up (SFc_up f1)
  exact ⟨by omega, c11_count hr1.1 hw (fun M2 f2 => ⟨fun _ => nx M2 (bo_ask hp hc hr f1 hC1 f2 ok_SR), fun z => absurd (by rw [hc.2.2.2.1.1, hr1.2.2.2.1.1]) z⟩)⟩
end TOPB
