/-! the law: calls that change -/
section TOPC
variable {G : GE} {d : Nat} {K : Int → Mem → Prop} {M : Mem} {v3 : Int} {n : Nat}
theorem BC.chn {B : Int} {g g' kg t so sz it : Nat → Int} {hs : Int} {m : Nat} {M1 : Mem} (hc : BC n g kg t so sz it hs m M) (ch : Chn B g g' M M1) (hB : B ≤ 60) (hw : WF g') : BC (n + 1) g' kg t so sz it hs m M1 ∧ Up M M1 := by
  have hC := hc.1.chn hw ch
  have hv := ch.2.2.1
  have h2 := hc.2.1
  exact ⟨hc.gen ch.1 (fun c i h => rg_no (by omega)) hC (by omega), fr_up ch.1 (fun c i h => rg_no (by omega))⟩
theorem BR.pl {g g' kg t so sz it : Nat → Int} {hs : Int} {m : Nat} (hr : BR g kg t so sz it hs m M) : BR g' kg t so sz it hs m (mset M 67 g') := by
  obtain ⟨h1, h2, h3, h4, h5, h6, h7⟩ := hr
  unfold BR wdM wtM
  rw [mset_at, mset_ne _ (by decide), mset_ne _ (by decide), mset_ne _ (by decide), mset_ne _ (by decide), mset_ne _ (by decide), mset_ne _ (by decide), mset_ne _ (by decide), mset_ne _ (by decide)]
  exact ⟨rfl, h2, h3, h4, h5, h6, h7⟩
theorem dn_set (c : Nat) (hc : 66 ≤ c) (o : Nat → Int) : Dn M (mset M c o) := fun a i h => by rw [mset_ne _ (by omega)]
theorem Dn.tr {M1 M2 : Mem} (h : Dn M M1) (h' : Dn M1 M2) : Dn M M2 := fun c i hc => (h' c i hc).trans (h c i hc)
theorem Up.tr {M1 M2 : Mem} (h : Up M M1) (h' : Up M1 M2) : Up M M2 := fun c i hc => (h' c i hc).trans (h c i hc)
theorem dn_up (c i : Nat) (hc : 66 ≤ c) (x : Int) : Dn M (mup M c i x) := fun a j h => by rw [mup_ne (by omega)]
theorem bo_pl {B : Int} {g g' kg t so sz it : Nat → Int} {hs : Int} {m : Nat} {M1 : Mem} (hp : BPo g kg t so sz hs m) (hc : BC n g kg t so sz it hs m M) (hr : BR g kg t so sz it hs m M) (ch : Chn B g g' M M1) (hB : B ≤ 60) (hw : WF g') : Bo (n + 1) (mset M1 67 g') := by
  obtain ⟨h1, h2⟩ := hc.chn ch hB hw
  exact ⟨g', kg, t, so, sz, it, hs, m, ⟨hw, hp.2⟩, h1.dn (dn_set 67 (by decide) g'), (hr.up h2).pl⟩
theorem lw_204 (hGL : G.2.2.2.2.1 < 2147483648) (hGN : G.2.2.2.2.1 ≤ 2147483647) (v0 : 0 ≤ v3) (v7 : v3 + 7 ≤ (G.2.2.2.2.1 : Int)) (hn6 : n ≤ 600) (hB : Bo n M) (nx : ∀ M2, Bo (n + 1) M2 → OkW G d K 18 (w32 (v3 + 7)) M2) : OkW G d K 204 v3 M := by
  obtain ⟨g, kg, t, so, sz, it, hs, m, hp, hc, hr⟩ := hB
  have hw := hp.1
  have hv : 0 ≤ M 1 10 ∧ M 1 10 ≤ 1000000 := ⟨hc.1.2.1.2.2.2, by have := hc.2.1; omega⟩
  refine gL_law_204 hGL hGN ⟨by omega, by omega, by omega, by omega, c10_fly hc.1.1.1 hw ⟨hv.1, by omega⟩ (fun M1 ch => ?_)⟩
  have bo := bo_pl hp hc hr (ch.chn hc.1.1.1) (by decide) (flyN_WF hw _ _ _ _)
  have hr1 := hr.up (hc.chn (ch.chn hc.1.1.1) (by decide) (flyN_WF hw _ _ _ _)).2
  have e67 := hr1.1
  exact ⟨by omega, by omega, by omega, by omega, c11_fly (by rw [e67]; exact hw.1) (by rw [e67]; exact ⟨fun _ => nx _ bo, fun z => absurd rfl z⟩)⟩
theorem lw_257 (hGL : G.2.2.2.2.1 < 2147483648) (hGN : G.2.2.2.2.1 ≤ 2147483647) (v0 : 0 ≤ v3) (v7 : v3 + 7 ≤ (G.2.2.2.2.1 : Int)) (hn6 : n ≤ 600) (hB : Bo n M) (nx : ∀ M2, Bo (n + 1) M2 → OkW G d K 18 (w32 (v3 + 7)) M2) : OkW G d K 257 v3 M := by
  obtain ⟨g, kg, t, so, sz, it, hs, m, hp, hc, hr⟩ := hB
  have hw := hp.1
  have hv : 0 ≤ M 1 10 ∧ M 1 10 ≤ 1000000 := ⟨hc.1.2.1.2.2.2, by have := hc.2.1; omega⟩
  refine gL_law_257 hGL hGN (c10_drop hc.1.1.1 hw ⟨hv.1, by omega⟩ (fun M1 ch => ?_))
  have bo := bo_pl hp hc hr (ch.chn hc.1.1.1) (by decide) (dropN_WF hw)
  have hr1 := hr.up (hc.chn (ch.chn hc.1.1.1) (by decide) (dropN_WF hw)).2
  exact (c11_drop hr1.1 hw ⟨fun _ => nx _ bo, fun z => absurd rfl z⟩)
theorem lw_303 (hGL : G.2.2.2.2.1 < 2147483648) (hGN : G.2.2.2.2.1 ≤ 2147483647) (v0 : 0 ≤ v3) (v7 : v3 + 7 ≤ (G.2.2.2.2.1 : Int)) (hn6 : n ≤ 600) (hB : Bo n M) (nx : ∀ M2, Bo (n + 1) M2 → OkW G d K 18 (w32 (v3 + 7)) M2) : OkW G d K 303 v3 M := by
  obtain ⟨g, kg, t, so, sz, it, hs, m, hp, hc, hr⟩ := hB
  have hw := hp.1
  have hv : 0 ≤ M 1 10 ∧ M 1 10 ≤ 1000000 := ⟨hc.1.2.1.2.2.2, by have := hc.2.1; omega⟩
  refine gL_law_303 hGL hGN ⟨by omega, by omega, by omega, c10_shift hc.1.1.1 hw ⟨hv.1, by omega⟩ (fun M1 ch => ?_)⟩
  have bo := bo_pl hp hc hr (ch.chn hc.1.1.1) (by decide) (shiN_WF hw _ _ _)
  have hr1 := hr.up (hc.chn (ch.chn hc.1.1.1) (by decide) (shiN_WF hw _ _ _)).2
  exact ⟨by omega, by omega, by omega, c11_shift hr1.1 hw ⟨fun _ => nx _ bo, fun z => absurd rfl z⟩⟩
theorem lw_346 (hGL : G.2.2.2.2.1 < 2147483648) (hGN : G.2.2.2.2.1 ≤ 2147483647) (v0 : 0 ≤ v3) (v7 : v3 + 7 ≤ (G.2.2.2.2.1 : Int)) (hn6 : n ≤ 600) (hB : Bo n M) (nx : ∀ M2, Bo (n + 1) M2 → OkW G d K 18 (w32 (v3 + 7)) M2) : OkW G d K 346 v3 M := by
  obtain ⟨g, kg, t, so, sz, it, hs, m, hp, hc, hr⟩ := hB
  have hw := hp.1
  have hv : 0 ≤ M 1 10 ∧ M 1 10 ≤ 1000000 := ⟨hc.1.2.1.2.2.2, by have := hc.2.1; omega⟩
  refine gL_law_346 hGL hGN ⟨by omega, by omega, by omega, c10_kind hc.1.1.1 hw ⟨hv.1, by omega⟩ (fun M1 ch => ?_)⟩
  have bo := bo_pl hp hc hr (ch.chn hc.1.1.1) (by decide) (kindN_WF hw _ _ _)
  have hr1 := hr.up (hc.chn (ch.chn hc.1.1.1) (by decide) (kindN_WF hw _ _ _)).2
  exact ⟨by omega, by omega, by omega, c11_kind hr1.1 hw ⟨fun _ => nx _ bo, fun z => absurd rfl z⟩⟩
theorem lw_455 (hGL : G.2.2.2.2.1 < 2147483648) (hGN : G.2.2.2.2.1 ≤ 2147483647) (v0 : 0 ≤ v3) (v7 : v3 + 7 ≤ (G.2.2.2.2.1 : Int)) (hn6 : n ≤ 600) (hB : Bo n M) (nx : ∀ M2, Bo (n + 1) M2 → OkW G d K 18 (w32 (v3 + 7)) M2) : OkW G d K 455 v3 M := by
  obtain ⟨g, kg, t, so, sz, it, hs, m, hp, hc, hr⟩ := hB
  have hw := hp.1
  have hv : 0 ≤ M 1 10 ∧ M 1 10 ≤ 1000000 := ⟨hc.1.2.1.2.2.2, by have := hc.2.1; omega⟩
  refine gL_law_455 hGL hGN ⟨by omega, c10_base hc.1.1.1 ⟨hv.1, by omega⟩ (fun M1 ch => ?_)⟩
  have bo := bo_pl hp hc hr (ch.chn hc.1.1.1) (by decide) (baseN_WF hw _)
  have hr1 := hr.up (hc.chn (ch.chn hc.1.1.1) (by decide) (baseN_WF hw _)).2
  exact ⟨by omega, c11_base hr1.1 ⟨fun _ => nx _ bo, fun z => absurd rfl z⟩⟩
theorem lw_478 (hGL : G.2.2.2.2.1 < 2147483648) (hGN : G.2.2.2.2.1 ≤ 2147483647) (v0 : 0 ≤ v3) (v7 : v3 + 7 ≤ (G.2.2.2.2.1 : Int)) (hn6 : n ≤ 600) (hB : Bo n M) (nx : ∀ M2, Bo (n + 1) M2 → OkW G d K 18 (w32 (v3 + 7)) M2) : OkW G d K 478 v3 M := by
  obtain ⟨g, kg, t, so, sz, it, hs, m, hp, hc, hr⟩ := hB
  have hw := hp.1
  have hv : 0 ≤ M 1 10 ∧ M 1 10 ≤ 1000000 := ⟨hc.1.2.1.2.2.2, by have := hc.2.1; omega⟩
  refine gL_law_478 hGL hGN ⟨by omega, by omega, c10_fee hc.1.1.1 ⟨hv.1, by omega⟩ (fun M1 ch => ?_)⟩
  have bo := bo_pl hp hc hr (ch.chn hc.1.1.1) (by decide) (feeN_WF hw _ _)
  have hr1 := hr.up (hc.chn (ch.chn hc.1.1.1) (by decide) (feeN_WF hw _ _)).2
  exact ⟨by omega, by omega, c11_fee hr1.1 ⟨fun _ => nx _ bo, fun z => absurd rfl z⟩⟩
theorem lw_511 (hGL : G.2.2.2.2.1 < 2147483648) (hGN : G.2.2.2.2.1 ≤ 2147483647) (v0 : 0 ≤ v3) (v7 : v3 + 7 ≤ (G.2.2.2.2.1 : Int)) (hn6 : n ≤ 600) (hB : Bo n M) (nx : ∀ M2, Bo (n + 1) M2 → OkW G d K 18 (w32 (v3 + 7)) M2) : OkW G d K 511 v3 M := by
  obtain ⟨g, kg, t, so, sz, it, hs, m, hp, hc, hr⟩ := hB
  have hw := hp.1
  have hv : 0 ≤ M 1 10 ∧ M 1 10 ≤ 1000000 := ⟨hc.1.2.1.2.2.2, by have := hc.2.1; omega⟩
  refine gL_law_511 hGL hGN ⟨by omega, by omega, by omega, c10_mark hc.1.1.1 hw ⟨hv.1, by omega⟩ (fun M1 ch => ?_)⟩
  have bo := bo_pl hp hc hr (ch.chn hc.1.1.1) (by decide) (markN_WF hw _ _ _)
  have hr1 := hr.up (hc.chn (ch.chn hc.1.1.1) (by decide) (markN_WF hw _ _ _)).2
  exact ⟨by omega, by omega, by omega, c11_mark hr1.1 hw ⟨fun _ => nx _ bo, fun z => absurd rfl z⟩⟩
theorem lw_1273 (hGL : G.2.2.2.2.1 < 2147483648) (hGN : G.2.2.2.2.1 ≤ 2147483647) (v0 : 0 ≤ v3) (v7 : v3 + 7 ≤ (G.2.2.2.2.1 : Int)) (hn6 : n ≤ 600) (hB : Bo n M) (nx : ∀ M2, Bo (n + 1) M2 → OkW G d K 18 (w32 (v3 + 7)) M2) : OkW G d K 1273 v3 M := by
  obtain ⟨g, kg, t, so, sz, it, hs, m, hp, hc, hr⟩ := hB
  have hw := hp.1
  have hv : 0 ≤ M 1 10 ∧ M 1 10 ≤ 1000000 := ⟨hc.1.2.1.2.2.2, by have := hc.2.1; omega⟩
  have hsh : ShC M := by unfold ShC; rw [hc.2.2.2.2.1, hc.2.2.2.2.2.1]; exact hp.2.2.2.2
  refine gL_law_1273 hGL hGN ⟨by omega, by omega, by omega, by omega, c10_load hc.1.1.1 hw ⟨hv.1, by omega⟩ hsh (fun M1 ch => ?_)⟩
  rw [hc.2.2.2.2.1, hc.2.2.2.2.2.1, hc.2.2.2.2.2.2] at ch ⊢
  have bo := bo_pl hp hc hr ch (by decide) (lodN_WF hw _ _ _ _)
  have hr1 := hr.up (hc.chn ch (by decide) (lodN_WF hw _ _ _ _)).2
  refine ⟨by omega, by omega, by omega, by omega, c11_load hr1.1 hw.1 (by rw [hr1.2.2.2.2.1.1, hr1.2.2.2.2.1.2.1]; exact hp.2.2.2.2) ?_⟩
  rw [hr1.2.2.2.2.1.1, hr1.2.2.2.2.1.2.1, hr1.2.2.2.2.1.2.2]
  exact ⟨fun _ => nx _ bo, fun z => absurd rfl z⟩
theorem cs_gen {S : Nat → Nat → Bool} {g g' : Nat → Int} {M' : Mem} (h : Cs g M) (hf : Fr S M M') (hS : ∀ c i, c = 0 ∨ 20 ≤ c ∧ c ≤ 45 ∨ c = 55 → S c i = false) (hP : Pl g' M') (hw : WF g') (hv : M 1 10 ≤ M' 1 10) (hz : M' 1 10 = M 1 10 → g' = g) : Cs g' M' := by
  have e : ∀ i, M' 0 i = M 0 i := fun i => hf 0 i (hS _ _ (by omega))
  obtain ⟨h1, h2, h3, h4, h5⟩ := h
  by_cases c : M' 1 10 = M 1 10
  · have eg := hz c
    subst eg
    refine ⟨⟨hP, hw⟩, by rw [e 13, e 14, e 15, c]; exact h2, fun z => ?_, fun z => ?_, fun z => ?_⟩
    · rw [e, c] at z; exact (h3 z).fr hf (fun c i a => hS c i (by omega))
    · rw [e, c] at z; exact (h4 z).fr hf (fun c i a => hS c i (by omega))
    · rw [e, c] at z; exact (h5 z).fr hf (fun c i a => hS c i (by omega))
  · refine ⟨⟨hP, hw⟩, by rw [e 13, e 14, e 15]; omega, fun z => ?_, fun z => ?_, fun z => ?_⟩
    · rw [e] at z; omega
    · rw [e] at z; omega
    · rw [e] at z; omega
theorem lw_1204 (hGL : G.2.2.2.2.1 < 2147483648) (hGN : G.2.2.2.2.1 ≤ 2147483647) (v0 : 0 ≤ v3) (v7 : v3 + 7 ≤ (G.2.2.2.2.1 : Int)) (hn6 : n ≤ 600) (hB : Bo n M) (nx : ∀ M2, Bo (n + 1) M2 → OkW G d K 18 (w32 (v3 + 7)) M2) : OkW G d K 1204 v3 M := by
  obtain ⟨g, kg, t, so, sz, it, hs, m, hp, hc, hr⟩ := hB
  have hw := hp.1
  have hv : 0 ≤ M 1 10 ∧ M 1 10 ≤ 1000000 := ⟨hc.1.2.1.2.2.2, by have := hc.2.1; omega⟩
  refine gL_law_1204 hGL hGN (c10_text hc.1.1.1 hw ⟨hv.1, by omega⟩ hc.2.2.2.1.1 hc.2.2.2.1.2 hp.2.2.1 (fun M1 f1 e58 hP1 v1 hz => ?_))
  have hw1 := txtR_WF hw t m
  have hC1 := cs_gen hc.1 f1 (fun c i h => by unfold STt; rw [rg_no (by omega)]; simp; omega) hP1 hw1 v1.1 hz
  have u1 : Up M M1 := fr_up f1 (fun c i h => by unfold STt; rw [rg_no (by omega)]; simp; omega)
  have hr1 := hr.up u1
  have hc1 : BC (n + 1) (txtR g t m).2 kg t so sz it hs 0 M1 := by
    obtain ⟨_, h2, ⟨h3, h3'⟩, _, h5, h6, h7⟩ := hc
    have e : ∀ c i, c = 0 ∨ 10 ≤ c ∧ c ≤ 18 ∨ 62 ≤ c ∧ c ≤ 64 → M1 c i = M c i := fun c i h => f1 c i (by unfold STt; rw [rg_no (by omega)]; simp; omega)
    refine ⟨hC1, by have := v1.2; omega, ⟨by rw [e 0 11 (by omega)]; exact h3, fun z => plO_fr (h3' z) (fun c i a b => e c i (by omega))⟩, ⟨e58, fun i hi => absurd hi (Nat.not_lt_zero _)⟩, ?_, ?_, ?_⟩
    · rw [← h5]; funext i; exact e 62 i (by omega)
    · rw [← h6]; funext i; exact e 63 i (by omega)
    · rw [← h7]; funext i; exact e 64 i (by omega)
  obtain ⟨r1, r2, r3, ⟨r4, r4'⟩, ⟨r5, r6, r7⟩, r8, r9⟩ := hr1
  refine c11_text r1 hw r4 hp.2.2.1 r4' (fun i hi => (hp.2.2.2.1 i hi).1) r8 r9 (fun M2 f2 e39 e67 => ⟨fun _ => nx M2 ?_, fun z => absurd rfl z⟩)
  have q : ∀ c i, c ≤ 65 ∨ c = 68 ∨ c = 66 ∧ i = 2 ∨ 80 ≤ c ∧ c ≤ 82 ∨ 93 ≤ c ∧ c ≤ 94 → M2 c i = M1 c i := fun c i h => f2 c i (by unfold STx SK; simp; omega)
  have qf : ∀ c, c ≤ 65 ∨ c = 68 ∨ 80 ≤ c ∧ c ≤ 82 ∨ 93 ≤ c ∧ c ≤ 94 → M2 c = M1 c := fun c h => funext fun i => q c i (by omega)
  refine ⟨(txtR g t m).2, kg, t, so, sz, it, hs, 0, ⟨hw1, hp.2.1, by omega, fun i hi => absurd hi (Nat.not_lt_zero _), hp.2.2.2.2⟩, hc1.dn (fun c i h => q c i (by omega)), e67, by rw [qf 68 (by omega)]; exact r2, by rw [q 66 2 (by omega)]; exact r3, ⟨e39, fun i hi => absurd hi (Nat.not_lt_zero _)⟩, ⟨by rw [qf 80 (by omega)]; exact r5, by rw [qf 81 (by omega)]; exact r6, by rw [qf 82 (by omega)]; exact r7⟩, ?_, ?_⟩
  · unfold wdM; rw [qf 93 (by omega)]; exact r8
  · unfold wtM; rw [qf 94 (by omega)]; exact r9
theorem feT_eq {t t' : Nat → Int} {m : Nat} {a b c e f : Int} (h : ∀ i, i < m → t i = t' i) : ∀ k i, i < m + k → feT t m a b c e f k i = feT t' m a b c e f k i := by
  intro k
  induction k with
  | zero => intro i hi; exact h i (by omega)
  | succ k ih =>
    intro i hi
    rw [feT, feT]
    unfold fup
    by_cases q : i = m + k
    · rw [if_pos q, if_pos q]
    · rw [if_neg q, if_neg q]; exact ih i (by omega)
theorem feT_bd {t : Nat → Int} {m : Nat} {n a b c e f : Int} (hb : ¬ feBad n a b c e f) (h : ∀ i, i < m → 0 ≤ t i ∧ t i ≤ 255) : ∀ k i, i < m + k → 0 ≤ feT t m a b c e f k i ∧ feT t m a b c e f k i ≤ 255 := by
  intro k
  induction k with
  | zero => intro i hi; exact h i (by omega)
  | succ k ih =>
    intro i hi
    rw [feT]
    unfold fup
    by_cases q : i = m + k
    · rw [if_pos q]
      unfold feBad at hb
      unfold feV; (repeat' split) <;> omega
    · rw [if_neg q]; exact ih i (by omega)
theorem lw_1129 (hGL : G.2.2.2.2.1 < 2147483648) (hGN : G.2.2.2.2.1 ≤ 2147483647) (v0 : 0 ≤ v3) (v7 : v3 + 7 ≤ (G.2.2.2.2.1 : Int)) (hn6 : n ≤ 600) (hB : Bo n M) (nx : ∀ M2, Bo (n + 1) M2 → OkW G d K 18 (w32 (v3 + 7)) M2) : OkW G d K 1129 v3 M := by
  obtain ⟨g, kg, t, so, sz, it, hs, m, hp, hc, hr⟩ := hB
  have hw := hp.1
  have hv : 0 ≤ M 1 10 ∧ M 1 10 ≤ 1000000 := ⟨hc.1.2.1.2.2.2, by have := hc.2.1; omega⟩
  have m60 := hp.2.2.1
  refine gL_law_1129 hGL hGN ⟨by omega, by omega, by omega, by omega, by omega, by omega, c10_feed hc.2.2.2.1.1 m60 (fun hb => ?_) (fun hb h6 => ?_) (fun hb h6 => ?_)⟩
  · refine ⟨by omega, by omega, by omega, by omega, by omega, by omega, c11_feed hr.2.2.2.1.1 m60 (fun _ => ⟨fun _ => nx M ⟨g, kg, t, so, sz, it, hs, m, hp, hc.one, hr⟩, fun z => absurd rfl z⟩) (fun z => absurd hb z) (fun z => absurd hb z)⟩
  · refine ⟨by omega, by omega, by omega, by omega, by omega, by omega, c11_feed hr.2.2.2.1.1 m60 (fun z => absurd z hb) (fun _ _ => ⟨fun _ => nx M ⟨g, kg, t, so, sz, it, hs, m, hp, hc.one, hr⟩, fun z => absurd rfl z⟩) (fun _ z => absurd z (by omega))⟩
  · have hn1 : 1 ≤ (G.2.2.2.2.2 (v3 + 1).toNat).toInt ∧ (G.2.2.2.2.2 (v3 + 1).toNat).toInt ≤ 5 := by unfold feBad at hb; omega
    generalize (G.2.2.2.2.2 (v3 + 1).toNat).toInt = nn at *
    generalize (G.2.2.2.2.2 (v3 + 2).toNat).toInt = a1 at *
    generalize (G.2.2.2.2.2 (v3 + 3).toNat).toInt = a2 at *
    generalize (G.2.2.2.2.2 (v3 + 4).toNat).toInt = a3 at *
    generalize (G.2.2.2.2.2 (v3 + 5).toNat).toInt = a4 at *
    generalize (G.2.2.2.2.2 (v3 + 6).toNat).toInt = a5 at *
    have hf : Fr (fun c i => c == 59 || (c == 58 && i == 2)) M (mup (mset M 59 (feT (M 59) m a1 a2 a3 a4 a5 nn.toNat)) 58 2 ((m : Int) + nn)) := (Fr.rf.ms (fun _ => by simp)).up (by simp)
    have u1 : Up M (mup (mset M 59 (feT (M 59) m a1 a2 a3 a4 a5 nn.toNat)) 58 2 ((m : Int) + nn)) := fr_up hf (fun c i h => by simp; omega)
    have hC1 := hc.1.fr hf (fun c i h => by unfold NeedC at h; simp; omega)
    have e59 : (mup (mset M 59 (feT (M 59) m a1 a2 a3 a4 a5 nn.toNat)) 58 2 ((m : Int) + nn)) 59 = feT (M 59) m a1 a2 a3 a4 a5 nn.toNat := by rw [mup_ne (by decide), mset_at]
    have e58 : (mup (mset M 59 (feT (M 59) m a1 a2 a3 a4 a5 nn.toNat)) 58 2 ((m : Int) + nn)) 58 2 = (m : Int) + nn := mup_at _ _ _ _
    generalize mup (mset M 59 (feT (M 59) m a1 a2 a3 a4 a5 nn.toNat)) 58 2 ((m : Int) + nn) = M1 at *
    have hr1 := hr.up u1
    have hc1 : BC (n + 1) g kg (feT t m a1 a2 a3 a4 a5 nn.toNat) so sz it hs (m + nn.toNat) M1 := by
      obtain ⟨_, h2, ⟨h3, h3'⟩, ⟨h4, h4'⟩, h5, h6', h7⟩ := hc
      have e : ∀ c i, c = 0 ∨ c = 1 ∨ 10 ≤ c ∧ c ≤ 18 ∨ 62 ≤ c ∧ c ≤ 64 → M1 c i = M c i := fun c i h => hf c i (by simp; omega)
      refine ⟨hC1, by rw [e 1 10 (by omega)]; omega, ⟨by rw [e 0 11 (by omega)]; exact h3, fun z => plO_fr (h3' z) (fun c i a b => e c i (by omega))⟩, ⟨by rw [e58]; omega, fun i hi => by rw [e59]; exact feT_eq h4' _ i hi⟩, ?_, ?_, ?_⟩
      · rw [← h5]; funext i; exact e 62 i (by omega)
      · rw [← h6']; funext i; exact e 63 i (by omega)
      · rw [← h7]; funext i; exact e 64 i (by omega)
    refine ⟨by omega, by omega, by omega, by omega, by omega, by omega, c11_feed hr1.2.2.2.1.1 m60 (fun z => absurd z hb) (fun _ z => absurd z (by omega)) (fun _ _ => ⟨fun _ => nx _ ⟨g, kg, feT t m a1 a2 a3 a4 a5 nn.toNat, so, sz, it, hs, m + nn.toNat, ⟨hw, hp.2.1, by omega, fun i hi => feT_bd hb hp.2.2.2.1 _ i hi, hp.2.2.2.2⟩, hc1.dn ((dn_set 92 (by decide) _).tr (dn_up 66 39 (by decide) _)), ?_⟩, fun z => absurd rfl z⟩)⟩
    obtain ⟨r1, r2, r3, ⟨r4, r4'⟩, ⟨r5, r6, r7⟩, r8, r9⟩ := hr1
    have q : ∀ c, c ≠ 66 → c ≠ 92 → (mup (mset M1 92 (feT (M1 92) m a1 a2 a3 a4 a5 nn.toNat)) 66 39 ((m : Int) + nn)) c = M1 c := fun c h1 h2 => by rw [mup_ne h1, mset_ne _ h2]
    unfold BR wdM wtM
    rw [q 67 (by decide) (by decide), q 68 (by decide) (by decide), q 80 (by decide) (by decide), q 81 (by decide) (by decide), q 82 (by decide) (by decide), q 93 (by decide) (by decide), q 94 (by decide) (by decide)]
    refine ⟨r1, r2, by rw [mup_at_ne (by decide), mset_ne _ (by decide)]; exact r3, ⟨by rw [mup_at]; omega, fun i hi => by rw [mup_ne (by decide), mset_at]; exact feT_eq r4' _ i hi⟩, ⟨r5, r6, r7⟩, r8, r9⟩
end TOPC
