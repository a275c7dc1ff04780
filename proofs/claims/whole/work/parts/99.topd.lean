/-! the law: image, back, sheets -/
section TOPD
variable {G : GE} {d : Nat} {K : Int → Mem → Prop} {M : Mem} {v3 : Int} {n : Nat}
theorem lw_1326 (hGL : G.2.2.2.2.1 < 2147483648) (hGN : G.2.2.2.2.1 ≤ 2147483647) (v0 : 0 ≤ v3) (v7 : v3 + 7 ≤ (G.2.2.2.2.1 : Int)) (hn6 : n ≤ 600) (hB : Bo n M) (nx : ∀ M2, Bo (n + 1) M2 → OkW G d K 18 (w32 (v3 + 7)) M2) : OkW G d K 1326 v3 M := by
  obtain ⟨g, kg, t, so, sz, it, hs, m, hp, hc, hr⟩ := hB
  have hw := hp.1
  have hv : 0 ≤ M 1 10 ∧ M 1 10 ≤ 1000000 := ⟨hc.1.2.1.2.2.2, by have := hc.2.1; omega⟩
  have hso : shW so sz := hp.2.2.2.2
  refine gL_law_1326 hGL hGN (c10_image hc.1 (fun M1 f1 hC1 hP1 e11 => ?_))
  have u1 : Up M M1 := fr_up f1 (fun c i h => by unfold SIm; simp; omega)
  have hr1 := hr.up u1
  have hc1 : BC n g (cpy g kg) t so sz it 1 m M1 := by
    obtain ⟨_, h2, _, ⟨h4, h4'⟩, h5, h6, h7⟩ := hc
    have e : ∀ c i, 1 ≤ c ∧ c ≤ 9 ∨ 19 ≤ c → M1 c i = M c i := fun c i h => f1 c i (by unfold SIm; simp; omega)
    refine ⟨hC1, by rw [e 1 10 (by omega)]; exact h2, ⟨e11, fun _ => pl_cpy hP1⟩, ⟨by rw [e 58 2 (by omega)]; exact h4, fun i hi => by rw [e 59 i (by omega)]; exact h4' i hi⟩, ?_, ?_, ?_⟩
    · rw [← h5]; funext i; exact e 62 i (by omega)
    · rw [← h6]; funext i; exact e 63 i (by omega)
    · rw [← h7]; funext i; exact e 64 i (by omega)
  obtain ⟨r1, r2, r3, r4, r5, r8, r9⟩ := hr1
  refine c11_image ?_
  rw [r1, r2]
  refine ⟨fun _ => nx _ ⟨g, cpy g kg, t, so, sz, it, 1, m, ⟨hw, fun _ => wf_cpy hw, hp.2.2⟩, (hc1.dn ((dn_set 68 (by decide) _).tr (dn_up 66 2 (by decide) _))).one, ?_⟩, fun z => absurd rfl z⟩
  have q : ∀ c, c ≠ 66 → c ≠ 68 → (mup (mset M1 68 (cpy g kg)) 66 2 1) c = M1 c := fun c h1 h2 => by rw [mup_ne h1, mset_ne _ h2]
  unfold BR wdM wtM
  rw [q 67 (by decide) (by decide), q 92 (by decide) (by decide), q 80 (by decide) (by decide), q 81 (by decide) (by decide), q 82 (by decide) (by decide), q 93 (by decide) (by decide), q 94 (by decide) (by decide)]
  exact ⟨r1, by rw [mup_ne (by decide), mset_at], by rw [mup_at], ⟨by rw [mup_at_ne (by decide), mset_ne _ (by decide)]; exact r4.1, r4.2⟩, r5, r8, r9⟩
theorem lw_1339 (hGL : G.2.2.2.2.1 < 2147483648) (hGN : G.2.2.2.2.1 ≤ 2147483647) (v0 : 0 ≤ v3) (v7 : v3 + 7 ≤ (G.2.2.2.2.1 : Int)) (hn6 : n ≤ 600) (hB : Bo n M) (nx : ∀ M2, Bo (n + 1) M2 → OkW G d K 18 (w32 (v3 + 7)) M2) : OkW G d K 1339 v3 M := by
  obtain ⟨g, kg, t, so, sz, it, hs, m, hp, hc, hr⟩ := hB
  have hw := hp.1
  have hv : 0 ≤ M 1 10 ∧ M 1 10 ≤ 1000000 := ⟨hc.1.2.1.2.2.2, by have := hc.2.1; omega⟩
  have hso : shW so sz := hp.2.2.2.2
  refine gL_law_1339 hGL hGN (c10_back (kg := cpy kg g) hc.1 (by omega) (fun z => ?_) (fun z M1 f1 hC1 ev => ?_) (fun z => ?_))
  · rw [hc.2.2.1.1] at z
    exact ⟨pl_cpy (hc.2.2.1.2 z), wf_cpy (hp.2.1 z)⟩
  · rw [hc.2.2.1.1] at z
    have u1 : Up M M1 := fr_up f1 (fun c i h => rg_no (by omega))
    have hr1 := hr.up u1
    have hc1 : BC (n + 1) (cpy kg g) kg t so sz it hs m M1 := hc.gen f1 (fun c i h => rg_no (by omega)) hC1 (by have := hc.2.1; omega)
    refine c11_back (fun _ => ?_) (fun z2 => absurd (hr1.2.2.1.symm.trans z2) z)
    rw [hr1.1, hr1.2.1]
    exact ⟨fun _ => nx _ ⟨cpy kg g, kg, t, so, sz, it, hs, m, ⟨wf_cpy (hp.2.1 z), hp.2⟩, hc1.dn (dn_set 67 (by decide) _), hr1.pl⟩, fun z2 => absurd (show cpy kg g 0 = kg 0 from if_pos (by decide)) z2⟩
  · rw [hc.2.2.1.1] at z
    refine c11_back (fun z2 => absurd (hr.2.2.1.trans z) z2) (fun _ => ⟨fun _ => nx M ⟨g, kg, t, so, sz, it, hs, m, hp, hc.one, hr⟩, fun z2 => absurd rfl z2⟩)
theorem bc_sheets {g kg t so sz it so' sz' it' : Nat → Int} {hs : Int} {m : Nat} (hc : BC n g kg t so sz it hs m M) : BC n g kg t so' sz' it' hs m (n3 M so' sz' it') := by
  have f := n3_rg M so' sz' it'
  obtain ⟨h1, h2, ⟨h3, h3'⟩, ⟨h4, h4'⟩, _⟩ := hc
  obtain ⟨q1, q2, q3⟩ := n3_c M so' sz' it'
  exact ⟨cs_rg h1 f (by omega), by rw [fr_rg f (by omega)]; exact h2, ⟨by rw [fr_rg f (by omega)]; exact h3, fun z => plO_fr (h3' z) (fun c i a b => fr_rg f (by omega))⟩, ⟨by rw [fr_rg f (by omega)]; exact h4, fun i hi => by rw [fr_rg f (by omega)]; exact h4' i hi⟩, q1, q2, q3⟩
theorem br_sheets {g kg t so sz it so' sz' it' : Nat → Int} {hs : Int} {m : Nat} (hr : BR g kg t so sz it hs m M) : BR g kg t so' sz' it' hs m (m3 M so' sz' it') := by
  obtain ⟨h1, h2, h3, h4, _, h6, h7⟩ := hr
  have q : ∀ c, c ≠ 80 → c ≠ 81 → c ≠ 82 → (m3 M so' sz' it') c = M c := fun c a1 a2 a3 => by unfold m3; rw [mset_ne _ a3, mset_ne _ a2, mset_ne _ a1]
  have e80 : (m3 M so' sz' it') 80 = so' := by unfold m3; rw [mset_ne _ (by decide), mset_ne _ (by decide), mset_at]
  have e81 : (m3 M so' sz' it') 81 = sz' := by unfold m3; rw [mset_ne _ (by decide), mset_at]
  have e82 : (m3 M so' sz' it') 82 = it' := by unfold m3; rw [mset_at]
  unfold BR wdM wtM
  rw [q 67 (by decide) (by decide) (by decide), q 68 (by decide) (by decide) (by decide), q 66 (by decide) (by decide) (by decide), q 92 (by decide) (by decide) (by decide), q 93 (by decide) (by decide) (by decide), q 94 (by decide) (by decide) (by decide), e80, e81, e82]
  exact ⟨h1, h2, h3, h4, ⟨rfl, rfl, rfl⟩, h6, h7⟩
theorem n3_up (so sz it : Nat → Int) : Up M (n3 M so sz it) := fr_up (n3_rg M so sz it) (fun c i h => rg_no (by omega))
theorem m3_dn (so sz it : Nat → Int) : Dn M (m3 M so sz it) := fun c i h => by unfold m3; rw [mset_ne _ (by omega), mset_ne _ (by omega), mset_ne _ (by omega)]
theorem m3_eq (it : Nat → Int) : mset M 82 it = m3 M (M 80) (M 81) it := by unfold m3; rw [mset_self, mset_self]
theorem n3_eq (it : Nat → Int) : mset M 64 it = n3 M (M 62) (M 63) it := by unfold n3; rw [mset_self, mset_self]
theorem shW_up {so sz : Nat → Int} (h : shW so sz) {v : Nat} {s k : Int} (hs : s = -1 ∨ s = 0 ∨ s = 1) (hk : 0 ≤ k ∧ k ≤ 40) (hz : s = -1 → k = 0) : shW (fup so v s) (fup sz v k) := by
  intro y hy
  unfold fup
  by_cases e : y = v
  · rw [if_pos e, if_pos e]; exact ⟨hs, hk, hz⟩
  · rw [if_neg e, if_neg e]; exact h y hy
theorem lw_1375 (hGL : G.2.2.2.2.1 < 2147483648) (hGN : G.2.2.2.2.1 ≤ 2147483647) (v0 : 0 ≤ v3) (v7 : v3 + 7 ≤ (G.2.2.2.2.1 : Int)) (hn6 : n ≤ 600) (hB : Bo n M) (nx : ∀ M2, Bo (n + 1) M2 → OkW G d K 18 (w32 (v3 + 7)) M2) : OkW G d K 1375 v3 M := by
  obtain ⟨g, kg, t, so, sz, it, hs, m, hp, hc, hr⟩ := hB
  have hw := hp.1
  have hv : 0 ≤ M 1 10 ∧ M 1 10 ≤ 1000000 := ⟨hc.1.2.1.2.2.2, by have := hc.2.1; omega⟩
  have hso : shW so sz := hp.2.2.2.2
  have u0 : ∀ M3, Bo (n + 1) M3 → OkW G d K 18 (w32 (v3 + 7)) M3 := nx
  refine gL_law_1375 hGL hGN ⟨by omega, by omega, by omega, c10_sheet ?_⟩
  generalize (G.2.2.2.2.2 (v3 + 1).toNat).toInt = v at *
  generalize (G.2.2.2.2.2 (v3 + 2).toNat).toInt = s at *
  generalize (G.2.2.2.2.2 (v3 + 3).toNat).toInt = k at *
  rw [hc.2.2.2.2.1, hc.2.2.2.2.2.1, hc.2.2.2.2.2.2]
  by_cases c1 : sheR v s k = 1
  · rw [if_pos c1]
    have hr1 := hr.up (n3_up (fup so v.toNat s) (fup sz v.toNat (if s < 0 then 0 else k)) (clr it v.toNat))
    have hc1 := bc_sheets (so' := fup so v.toNat s) (sz' := fup sz v.toNat (if s < 0 then 0 else k)) (it' := clr it v.toNat) hc
    generalize n3 M (fup so v.toNat s) (fup sz v.toNat (if s < 0 then 0 else k)) (clr it v.toNat) = M1 at *
    refine ⟨by omega, by omega, by omega, c11_sheet ?_⟩
    rw [if_pos c1, hr1.2.2.2.2.1.1, hr1.2.2.2.2.1.2.1, hr1.2.2.2.2.1.2.2]
    have hb : (s = -1 ∨ s = 0 ∨ s = 1) ∧ (0 ≤ s → 0 ≤ k ∧ k ≤ 40) := by
      unfold sheR at c1
      split at c1
      · omega
      · split at c1 <;> omega
    have hw2 : shW (fup so v.toNat s) (fup sz v.toNat (if s < 0 then 0 else k)) := shW_up hso hb.1 (by split <;> omega) (fun z => by rw [if_pos (by omega)])
    exact ⟨fun _ => nx _ ⟨g, kg, t, _, _, _, hs, m, ⟨hw, hp.2.1, hp.2.2.1, hp.2.2.2.1, hw2⟩, (hc1.dn (m3_dn _ _ _)).one, br_sheets hr1⟩, fun z => absurd rfl z⟩
  · rw [if_neg c1]
    refine ⟨by omega, by omega, by omega, c11_sheet ?_⟩
    rw [if_neg c1]
    exact ⟨fun _ => nx _ ⟨g, kg, t, so, sz, it, hs, m, hp, hc.one, hr⟩, fun z => absurd rfl z⟩
theorem lw_1418 (hGL : G.2.2.2.2.1 < 2147483648) (hGN : G.2.2.2.2.1 ≤ 2147483647) (v0 : 0 ≤ v3) (v7 : v3 + 7 ≤ (G.2.2.2.2.1 : Int)) (hn6 : n ≤ 600) (hB : Bo n M) (nx : ∀ M2, Bo (n + 1) M2 → OkW G d K 18 (w32 (v3 + 7)) M2) : OkW G d K 1418 v3 M := by
  obtain ⟨g, kg, t, so, sz, it, hs, m, hp, hc, hr⟩ := hB
  have hw := hp.1
  have hv : 0 ≤ M 1 10 ∧ M 1 10 ≤ 1000000 := ⟨hc.1.2.1.2.2.2, by have := hc.2.1; omega⟩
  have hso : shW so sz := hp.2.2.2.2
  refine gL_law_1418 hGL hGN ⟨by omega, by omega, by omega, by omega, c10_put (by rw [hc.2.2.2.2.1, hc.2.2.2.2.2.1]; exact hso) ?_⟩
  generalize (lor (lshl ((G.2.2.2.2.2 (v3 + 3).toNat).toInt) 32) (land ((G.2.2.2.2.2 (v3 + 4).toNat).toInt) 4294967295)) = x at *
  generalize (G.2.2.2.2.2 (v3 + 1).toNat).toInt = v at *
  generalize (G.2.2.2.2.2 (v3 + 2).toNat).toInt = i at *
  rw [n3_eq, hc.2.2.2.2.1, hc.2.2.2.2.2.1, hc.2.2.2.2.2.2]
  by_cases c1 : putR so sz v i = 1
  · rw [if_pos c1]
    have hr1 := hr.up (n3_up so sz (fup it (40 * v.toNat + i.toNat) (if so v.toNat = 1 then w32 x else x)))
    have hc1 := bc_sheets (so' := so) (sz' := sz) (it' := fup it (40 * v.toNat + i.toNat) (if so v.toNat = 1 then w32 x else x)) hc
    generalize n3 M so sz (fup it (40 * v.toNat + i.toNat) (if so v.toNat = 1 then w32 x else x)) = M1 at *
    refine ⟨by omega, by omega, by omega, by omega, c11_put (by rw [hr1.2.2.2.2.1.1, hr1.2.2.2.2.1.2.1]; exact hso) ?_⟩
    rw [m3_eq, hr1.2.2.2.2.1.1, hr1.2.2.2.2.1.2.1, hr1.2.2.2.2.1.2.2, if_pos c1]
    exact ⟨fun _ => nx _ ⟨g, kg, t, so, sz, _, hs, m, hp, (hc1.dn (m3_dn _ _ _)).one, br_sheets hr1⟩, fun z => absurd rfl z⟩
  · rw [if_neg c1]
    refine ⟨by omega, by omega, by omega, by omega, c11_put (by rw [hr.2.2.2.2.1.1, hr.2.2.2.2.1.2.1]; exact hso) ?_⟩
    rw [hr.2.2.2.2.1.1, hr.2.2.2.2.1.2.1, if_neg c1]
    exact ⟨fun _ => nx _ ⟨g, kg, t, so, sz, it, hs, m, hp, hc.one, hr⟩, fun z => absurd rfl z⟩
theorem lw_1491 (hGL : G.2.2.2.2.1 < 2147483648) (hGN : G.2.2.2.2.1 ≤ 2147483647) (v0 : 0 ≤ v3) (v7 : v3 + 7 ≤ (G.2.2.2.2.1 : Int)) (hn6 : n ≤ 600) (hB : Bo n M) (nx : ∀ M2, Bo (n + 1) M2 → OkW G d K 18 (w32 (v3 + 7)) M2) : OkW G d K 1491 v3 M := by
  obtain ⟨g, kg, t, so, sz, it, hs, m, hp, hc, hr⟩ := hB
  have hw := hp.1
  have hv : 0 ≤ M 1 10 ∧ M 1 10 ≤ 1000000 := ⟨hc.1.2.1.2.2.2, by have := hc.2.1; omega⟩
  have hso : shW so sz := hp.2.2.2.2
  refine gL_law_1491 hGL hGN ⟨by omega, by omega, c10_item (by rw [hc.2.2.2.2.1, hc.2.2.2.2.2.1]; exact hso) ⟨by omega, by omega, c11_item (by rw [hr.2.2.2.2.1.1, hr.2.2.2.2.1.2.1]; exact hso) ⟨fun _ => nx _ ⟨g, kg, t, so, sz, it, hs, m, hp, hc.one, hr⟩, fun z => absurd (by rw [hc.2.2.2.2.2.1, hc.2.2.2.2.2.2, hr.2.2.2.2.1.2.1, hr.2.2.2.2.1.2.2]) z⟩⟩⟩
theorem lw_1525 (hGL : G.2.2.2.2.1 < 2147483648) (hGN : G.2.2.2.2.1 ≤ 2147483647) (v0 : 0 ≤ v3) (v7 : v3 + 7 ≤ (G.2.2.2.2.1 : Int)) (hn6 : n ≤ 600) (hB : Bo n M) (nx : ∀ M2, Bo (n + 1) M2 → OkW G d K 18 (w32 (v3 + 7)) M2) : OkW G d K 1525 v3 M := by
  obtain ⟨g, kg, t, so, sz, it, hs, m, hp, hc, hr⟩ := hB
  have hw := hp.1
  have hv : 0 ≤ M 1 10 ∧ M 1 10 ≤ 1000000 := ⟨hc.1.2.1.2.2.2, by have := hc.2.1; omega⟩
  have hso : shW so sz := hp.2.2.2.2
  have hs1 : shW (M 62) (M 63) := by rw [hc.2.2.2.2.1, hc.2.2.2.2.2.1]; exact hso
  refine gL_law_1525 hGL hGN ⟨by omega, by omega, by omega, by omega, by omega, c10_copy hs1 (fun hcb => ?_) (fun hcn => ?_)⟩
  · rw [hc.2.2.2.2.1, hc.2.2.2.2.2.1] at hcb
    rw [n3_eq, hc.2.2.2.2.1, hc.2.2.2.2.2.1, hc.2.2.2.2.2.2]
    generalize (G.2.2.2.2.2 (v3 + 1).toNat).toInt = v at *
    generalize (G.2.2.2.2.2 (v3 + 2).toNat).toInt = i at *
    generalize (G.2.2.2.2.2 (v3 + 3).toNat).toInt = w at *
    generalize (G.2.2.2.2.2 (v3 + 4).toNat).toInt = j at *
    generalize (G.2.2.2.2.2 (v3 + 5).toNat).toInt = k at *
    have hr1 := hr.up (n3_up so sz (mvT it (40 * v.toNat + i.toNat) (40 * w.toNat + j.toNat) k.toNat))
    have hc1 := bc_sheets (so' := so) (sz' := sz) (it' := mvT it (40 * v.toNat + i.toNat) (40 * w.toNat + j.toNat) k.toNat) hc
    generalize n3 M so sz (mvT it (40 * v.toNat + i.toNat) (40 * w.toNat + j.toNat) k.toNat) = M1 at *
    have hneg : ¬ copR so sz v i w j k < 0 := by
      obtain ⟨a1, a2, a3, a4⟩ := hcb
      unfold copR; rw [if_neg a1, if_neg a2, if_neg (fun z => z a3), if_neg a4]; omega
    refine ⟨by omega, by omega, by omega, by omega, by omega, c11_copy (by rw [hr1.2.2.2.2.1.1, hr1.2.2.2.2.1.2.1]; exact hso) (fun _ M2 f2 => ?_) (fun z => absurd z (by rw [hr1.2.2.2.2.1.1, hr1.2.2.2.2.1.2.1]; exact hneg))⟩
    rw [m3_eq, hr1.2.2.2.2.1.1, hr1.2.2.2.2.1.2.1, hr1.2.2.2.2.1.2.2] at f2
    have ok83 : RefOK (fun c _ => c == 83) := fun c i h => by simp; omega
    exact ⟨fun _ => nx _ ⟨g, kg, t, so, sz, _, hs, m, hp, ((hc1.dn (m3_dn _ _ _)).dn (ref_dn f2 ok83)).one, (br_sheets hr1).ask f2 ok83⟩, fun z => absurd rfl z⟩
  · rw [hc.2.2.2.2.1, hc.2.2.2.2.2.1] at hcn ⊢
    generalize (G.2.2.2.2.2 (v3 + 1).toNat).toInt = v at *
    generalize (G.2.2.2.2.2 (v3 + 2).toNat).toInt = i at *
    generalize (G.2.2.2.2.2 (v3 + 3).toNat).toInt = w at *
    generalize (G.2.2.2.2.2 (v3 + 4).toNat).toInt = j at *
    generalize (G.2.2.2.2.2 (v3 + 5).toNat).toInt = k at *
    refine ⟨by omega, by omega, by omega, by omega, by omega, c11_copy (by rw [hr.2.2.2.2.1.1, hr.2.2.2.2.1.2.1]; exact hso) (fun hcb => ?_) (fun _ => ?_)⟩
    · rw [hr.2.2.2.2.1.1, hr.2.2.2.2.1.2.1] at hcb
      obtain ⟨a1, a2, a3, a4⟩ := hcb
      unfold copR at hcn; rw [if_neg a1, if_neg a2, if_neg (fun z => z a3), if_neg a4] at hcn; omega
    · rw [hr.2.2.2.2.1.1, hr.2.2.2.2.1.2.1]
      exact ⟨fun _ => nx _ ⟨g, kg, t, so, sz, it, hs, m, hp, hc.one, hr⟩, fun z => absurd rfl z⟩
theorem lw_1250 (hGL : G.2.2.2.2.1 < 2147483648) (hGN : G.2.2.2.2.1 ≤ 2147483647) (v0 : 0 ≤ v3) (v7 : v3 + 7 ≤ (G.2.2.2.2.1 : Int)) (hn6 : n ≤ 600) (hB : Bo n M) (nx : ∀ M2, Bo (n + 1) M2 → OkW G d K 18 (w32 (v3 + 7)) M2) : OkW G d K 1250 v3 M := by
  obtain ⟨g, kg, t, so, sz, it, hs, m, hp, hc, hr⟩ := hB
  have hw := hp.1
  have hv : 0 ≤ M 1 10 ∧ M 1 10 ≤ 1000000 := ⟨hc.1.2.1.2.2.2, by have := hc.2.1; omega⟩
  have hso : shW so sz := hp.2.2.2.2
  have hsh : ShC M := by unfold ShC; rw [hc.2.2.2.2.1, hc.2.2.2.2.2.1]; exact hso
  have hl := bestL_len g
  refine gL_law_1250 hGL hGN ⟨by omega, c10_film hc.1 hsh (fun a b hcv M1 f1 hC1 => ?_) (fun hneg M1 f1 hC1 => ?_)⟩
  · rw [hc.2.2.2.2.1, hc.2.2.2.2.2.1, hc.2.2.2.2.2.2] at f1
    generalize (G.2.2.2.2.2 (v3 + 1).toNat).toInt = v at *
    have hr1 := (hr.up (n3_up (fup so v.toNat 0) (fup sz v.toNat ((bestL g).length : Int)) (filT g it v.toNat (bestL g).length))).up (SFc_up f1)
    have hc1 := (bc_sheets (so' := fup so v.toNat 0) (sz' := fup sz v.toNat ((bestL g).length : Int)) (it' := filT g it v.toNat (bestL g).length) hc).ask f1 hC1
    have hw2 : shW (fup so v.toNat 0) (fup sz v.toNat ((bestL g).length : Int)) := shW_up hso (.inr (.inl rfl)) (by omega) (fun z => absurd z (by decide))
    have hnn : ¬ filR g v < 0 := by
      have hc' : totG g < 1000000 := hcv
      unfold filR; rw [if_neg (by omega), if_pos hc']; omega
    refine ⟨by omega, c11_film hr1.1 hw (fun _ _ _ M2 f2 => ?_) (fun z => absurd z hnn)⟩
    rw [hr1.2.2.2.2.1.1, hr1.2.2.2.2.1.2.1, hr1.2.2.2.2.1.2.2] at f2
    exact ⟨fun _ => nx _ ⟨g, kg, t, _, _, _, hs, m, ⟨hw, hp.2.1, hp.2.2.1, hp.2.2.2.1, hw2⟩, ((hc1.dn (m3_dn _ _ _)).dn (ref_dn f2 ok_SV)).one, (br_sheets hr1).ask f2 ok_SV⟩, fun z => absurd rfl z⟩
  · generalize (G.2.2.2.2.2 (v3 + 1).toNat).toInt = v at *
    have hr1 := hr.up (SFc_up f1)
    refine ⟨by omega, c11_film hr1.1 hw (fun a b hcv => ?_) (fun _ M2 f2 => ⟨fun _ => nx M2 (bo_ask hp hc hr f1 hC1 f2 ok_SV), fun z => absurd rfl z⟩)⟩
    have hc' : totG g < 1000000 := hcv
    unfold filR at hneg; rw [if_neg (by omega), if_pos hc'] at hneg; omega
end TOPD
