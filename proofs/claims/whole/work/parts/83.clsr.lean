/-! prices that are fair: the best there are; the class: branches, the tree -/
theorem least_ex {P : Nat → Prop} {C : Nat → Nat} : ∀ k, (∀ c, c < k → ¬ P c) ∨ ∃ p, p < k ∧ P p ∧ ∀ c, c < k → P c → C p ≤ C c := by
  intro k
  induction k with
  | zero => exact .inl (fun c hc => absurd hc (Nat.not_lt_zero _))
  | succ k ih =>
    by_cases hk : P k
    · rcases ih with h | ⟨p, h1, h2, h3⟩
      · refine .inr ⟨k, by omega, hk, fun c hc hP => ?_⟩
        by_cases e : c = k
        · subst e; exact Nat.le_refl _
        · exact absurd hP (h c (by omega))
      · by_cases hlt : C k < C p
        · refine .inr ⟨k, by omega, hk, fun c hc hP => ?_⟩
          by_cases e : c = k
          · subst e; exact Nat.le_refl _
          · have := h3 c (by omega) hP; omega
        · refine .inr ⟨p, by omega, h2, fun c hc hP => ?_⟩
          by_cases e : c = k
          · subst e; omega
          · exact h3 c (by omega) hP
    · rcases ih with h | ⟨p, h1, h2, h3⟩
      · refine .inl (fun c hc => ?_)
        by_cases e : c = k
        · subst e; exact hk
        · exact h c (by omega)
      · refine .inr ⟨p, by omega, h2, fun c hc hP => ?_⟩
        by_cases e : c = k
        · subst e; exact absurd hP hk
        · exact h3 c (by omega) hP
theorem gOK_ex {n R : Nat} {T : Nat → Nat → Int} {Rn : Nat → Nat} {f : Nat} : ∀ k, (∀ r, r < k → ¬ 0 < T r f) ∨ ∃ r0, gOK n R T Rn f k r0 := by
  intro k
  induction k with
  | zero => exact .inl (fun c hc => absurd hc (Nat.not_lt_zero _))
  | succ k ih =>
    by_cases hk : 0 < T k f
    · rcases ih with h | ⟨r0, h2, h3, h4⟩
      · refine .inr ⟨k, by omega, hk, fun r hr hP => ?_⟩
        by_cases e : r = k
        · subst e; exact ⟨Int.le_refl _, fun _ => Nat.le_refl _⟩
        · exact absurd hP (h r (by omega))
      · by_cases ct : T k n * T r0 f < T r0 n * T k f ∨ (T k n * T r0 f = T r0 n * T k f ∧ Rn k < Rn r0)
        · refine .inr ⟨k, by omega, hk, fun r hr hr2 => ?_⟩
          by_cases e2 : r = k
          · subst e2; exact ⟨Int.le_refl _, fun _ => Nat.le_refl _⟩
          · have h5 := h4 r (by omega) hr2
            refine ⟨rt1 hk h3 hr2 (by omega) h5.1, fun q3 => ?_⟩
            have q4 : T k n * T r0 f = T r0 n * T k f := by
              refine Int.le_antisymm (by omega) (Int.not_lt.mp (fun hlt => ?_))
              have := rt2 hk h3 hr2 hlt h5.1
              omega
            have q5 := rt3 hk q4 q3
            exact Nat.le_trans (by omega) (h5.2 q5)
        · refine .inr ⟨r0, by omega, h3, fun r hr hr2 => ?_⟩
          by_cases e2 : r = k
          · subst e2; exact ⟨by omega, fun q => by omega⟩
          · exact h4 r (by omega) hr2
    · rcases ih with h | ⟨r0, h2, h3, h4⟩
      · refine .inl (fun c hc => ?_)
        by_cases e : c = k
        · subst e; exact hk
        · exact h c (by omega)
      · refine .inr ⟨r0, by omega, h3, fun r hr hP => ?_⟩
        by_cases e : r = k
        · subst e; exact absurd hP hk
        · exact h4 r (by omega) hP
/-- where every flight is had, there are best prices -/
theorem opt_ex {g : Nat → Int} (hw : WF g) (hb : bndB g = true) : ∃ (z : Nat → Int) (d : Int), Opt (nF g) (feasP g) (nF g + 1) z d := by
  have hn := hw.n
  have loop : ∀ (fuel L : Nat) (σ dv : Int) (N V T : Nat → Nat → Int) (C Rn : Nat → Nat), ch (7 + nR g) (nF g - 1) + 1 ≤ L + fuel → Hist (nF g) (nR g + 1 + nF g) 0 (nR g) (nR g) (nF g + 1) (gvR (nF g) (sR g) (hadF g)) (NmR (nF g) (nR g)) L σ dv N V T C Rn → ∃ (z : Nat → Int) (d : Int), Opt (nF g) (feasP g) (nF g + 1) z d := by
    intro fuel
    induction fuel with
    | zero =>
      intro L σ dv N V T C Rn hL hist
      have := hist.cnt (fun x => x) (7 + nR g) (fun x hx => by unfold NmR at hx; omega) (fun x y _ _ e => e)
      omega
    | succ fuel ih =>
      intro L σ dv N V T C Rn hL hist
      have I := hist.si
      rcases least_ex (P := fun c => impr (nF g) (nR g) T c) (C := C) (nF g) with hno | ⟨p, hp, him, hleast⟩
      · exact ⟨_, _, (I.opt hno).congr (feasN_R hw)⟩
      · have hex := I.goes (bounded_R hw hb) hp him
        rcases gOK_ex (n := nF g) (R := nR g) (T := T) (Rn := Rn) (f := p) (nR g) with hno | ⟨r0, hgo⟩
        · obtain ⟨q, _, q2, q3⟩ := hex
          exact absurd q3 (hno q q2)
        · have B : BP (nF g) 0 (nR g) (nR g) (nF g + 1) T C Rn p r0 := ⟨hp, him, fun c hc hi => hleast c hc hi, ⟨Nat.zero_le _, hgo.1⟩, hgo.2.1, fun r _ hr hpos => hgo.2.2 r hr hpos⟩
          exact ih (L + 1) _ _ _ _ _ _ _ (by omega) (hist.step B (T' := piv T dv r0 p) (fun q c _ _ => rfl))
  exact loop _ 0 _ _ _ _ _ _ _ (by rw [Nat.zero_add]; exact Nat.le_refl _) (Hist.zero (SI_R (sR g) (hadF g) hn.2 (fun r hr => (sel_ok hr).2.2.1)))
theorem optP_of {g : Nat → Int} (hw : WF g) (hb : bndB g = true) : Opt (nF g) (feasP g) (nF g + 1) (optP g).1 (optP g).2 := by
  obtain ⟨z, d, h⟩ := opt_ex hw hb
  exact optP_ok h
/-- at most 25 pairings -/
def P25 : Prop := ∀ q : Nat → Int, WF q → nC q ≤ 25
theorem fup_ag {g q : Nat → Int} (h : Ag g q) {k : Nat} (hk : k < 49) (m : Int) : Ag g (fup q (29 + k) m) := fun i hi => by rw [fup_ne _ (by omega)]; exact h i hi
def VR (F : Nat) (q : Nat → Int) (nd sh : Nat) (M' : Mem) : Prop := (∀ i, i < 49 → M' 45 i = q (29 + i)) ∧ M' 38 5 = ((growF F q nd sh).2.2 : Int) ∧ (((growF F q nd sh).1 = true ∧ M' 38 4 = ((growF F q nd sh).2.1 : Int)) ∨ ((growF F q nd sh).1 = false ∧ ∃ m : Nat, M' 38 4 = (m : Int) ∧ 40 < m ∧ m ≤ 41 + F))
def SHB : Nat → Nat → Bool := fun c _ => (decide (34 ≤ c) && decide (c ≤ 37)) || (decide (40 ≤ c) && decide (c ≤ 45))
theorem SHB_rg {a b : Nat} {M M' : Mem} (h : Fr (rg a b) M M') (hab : 34 ≤ a ∧ b ≤ 37 ∨ 40 ≤ a ∧ b ≤ 45) : Fr SHB M M' := h.mo fun c i hc => by
  unfold SHB at hc; simp at hc; exact rg_no (by omega)
section CLSR
variable {G : GE} {d : Nat} {M : Mem}
theorem c0_isDear {K : Int → Mem → Prop} (h1 : 40 < M 38 4 → K 1 M) (h0 : M 38 4 ≤ 40 → K 0 M) : CalI G miX0_isDear d [.inr (.inr (some 38))] M K := by
  refine Cal.of (by decide) (Nat.le_of_ble_eq_true rfl) rfl (gX0_isDear_0 ⟨h0, h1⟩)
theorem c0_visitDear {K : Mem → Prop} {v : Int} {nd : Nat} (h4 : M 38 4 = (nd : Int)) (hnd : 40 < nd ∧ nd < 1000) (h : K (mup M 38 4 ((nd + 1 : Nat) : Int))) : CalV G miX0_visit (d + 1) [.inr (.inr (some 38)), .inl v] M K := by
  refine Cal.of (by decide) (Nat.le_of_ble_eq_true rfl) rfl (gX0_visit_0 ?_)
  rw [h4, w32n (by omega)]
  refine c0_isDear (fun _ => n1 h) (fun c => ?_)
  rw [mup_at] at c
  exact absurd c (by omega)
/-- the plan's marks laid aside, one changed -/
theorem mk_cpy {g q : Nat → Int} (hP : Pl g M) (hN : NetM g M) (hw : WF g) : Mk 45 g g (mcp M 9 45 0 0 49) := by
  have e : ∀ c, c ≠ 45 → (mcp M 9 45 0 0 49) c = M c := fun c hc => mcp_ne hc
  have f : Fr (fun c _ => c == 45) M (mcp M 9 45 0 0 49) := fun c i hc => by rw [e c (by simpa using hc)]
  refine ⟨⟨hP.fr f (fun c i h1 h2 => by simp; omega), hN.fr f (fun c i h1 h2 => by simp; omega), fun i hi => ?_⟩, ⟨hw, hw, ag_rf⟩, .inr rfl⟩
  rw [mcp_at]
  unfold va_cpy
  rw [if_pos (by omega)]
  simpa using hP.mk hi
theorem Mk.up {g q : Nat → Int} (hM : Mk 45 g q M) {k : Nat} {m : Int} (hk : k / 7 < nF q ∧ k % 7 < nF q ∧ k / 7 ≠ k % 7) (h49 : k < 49) (hm : 0 ≤ m ∧ m ≤ 2) : Mk 45 g (fup q (29 + k) m) (mup M 45 k m) := by
  obtain ⟨⟨hP, hN, h45⟩, ⟨hwg, hw, hA⟩, -⟩ := hM
  have hw2 := mkK_WF hw hk hm
  have hA2 := fup_ag hA h49 m
  have hA3 : Ag q (fup q (29 + k) m) := fup_ag ag_rf h49 m
  have f : Fr (rg 45 45) M (mup M 45 k m) := Fr.up1 (rg_yes (by omega))
  refine ⟨⟨pl_rg hP f (by omega), net_rg (ag_net hA3 hw hN) f (by omega), fun i hi => ?_⟩, ⟨hwg, hw2, hA2⟩, .inr rfl⟩
  by_cases e : i = k
  · subst e; rw [mup_at]; unfold fup; rw [if_pos rfl]
  · rw [mup_at_ne e, fup_ne _ (by omega)]; exact h45 i hi
theorem Mk.of {g q : Nat → Int} {M' : Mem} {a b : Nat} (hM : Mk 45 g q M) (hf : Fr (rg a b) M M') (ha : 27 < a) (h45 : ∀ i, i < 49 → M' 45 i = q (29 + i)) : Mk 45 g q M' :=
  ⟨⟨pl_rg hM.1.1 hf (by omega), net_rg hM.1.2.1 hf (by omega), h45⟩, hM.2⟩
theorem c0_visit (h25 : P25) : ∀ (F : Nat) {M : Mem} {K : Mem → Prop} {g q : Nat → Int} {D nd sh : Nat} {v : Int}, Mk 45 g q M → M 38 4 = (nd : Int) → M 38 5 = (sh : Int) → v = (D : Int) → D ≤ nd → 41 ≤ nd + F → F ≤ 100 → sh ≤ nd → nd ≤ 40 → (∀ M', Fr (rg 34 45) M M' → VR F q nd sh M' → K M') → CalV G miX0_visit (d + F + 4) [.inr (.inr (some 38)), .inl v] M K := by
  intro F
  induction F with
  | zero => intro M K g q D nd sh v _ _ _ _ _ h1 _ _ h2 _; omega
  | succ F ih =>
    intro M K g q D nd sh v hM h4 h5 e hD hF hF2 hsh hnd h
    subst e
    have hw := hM.2.1.2.1
    have hn := hw.n
    refine Cal.of (d := d + F + 5) (by decide) (Nat.le_of_ble_eq_true rfl) rfl (gX0_visit_0 ?_)
    rw [h4, w32n (by omega)]
    have f0 : Fr (rg 34 45) M (mup M 38 4 ((nd + 1 : Nat) : Int)) := Fr.up1 (rg_yes (by omega))
    have a5 : (mup M 38 4 ((nd + 1 : Nat) : Int)) 38 5 = (sh : Int) := by rw [mup_at_ne (by decide), h5]
    have a4 : (mup M 38 4 ((nd + 1 : Nat) : Int)) 38 4 = ((nd + 1 : Nat) : Int) := mup_at _ _ _ _
    have a45 : ∀ i, i < 49 → (mup M 38 4 ((nd + 1 : Nat) : Int)) 45 i = q (29 + i) := fun i hi => by rw [mup_ne (by decide)]; exact hM.1.2.2 i hi
    generalize mup M 38 4 ((nd + 1 : Nat) : Int) = M1 at *
    have hM1 := hM.of f0 (by omega) a45
    refine c0_isDear (fun c => ?_) (fun c => ?_)
    · have c40 : 40 < nd + 1 := by omega
      refine n1 (h M1 f0 ⟨a45, by rw [growF_1 c40]; exact a5, .inr ⟨by rw [growF_1 c40], nd + 1, a4, c40, by omega⟩⟩)
    · have c40 : ¬ 40 < nd + 1 := by omega
      refine n0 ⟨fun _ => ?_, fun z => absurd z (by omega)⟩
      refine c1_workOut (.inr rfl) hM1 (fun M2 f2 hC => ?_)
      have hM2 := mk_rg hM1 f2 (by omega)
      have b4 : M2 38 4 = ((nd + 1 : Nat) : Int) := by rw [fr_rg f2 (by omega)]; exact a4
      have b5 : M2 38 5 = (sh : Int) := by rw [fr_rg f2 (by omega)]; exact a5
      have f3 : Fr (rg 34 45) M M2 := f0.tr (fr_wide f2 (by omega))
      have hCq : Cq 39 g q M2 := ⟨⟨hM2.1.1, hC⟩, hM2.2.1⟩
      have done : ∀ M3, Fr (rg 34 37) M2 M3 → (growF (F + 1) q nd sh) = (true, nd + 1, sh) → K M3 := fun M3 g3 hg => by
        refine h M3 (f3.tr (fr_wide g3 (by omega))) ⟨fun i hi => by rw [fr_rg g3 (by omega)]; exact hM2.1.2.2 i hi, by rw [hg, fr_rg g3 (by omega)]; exact b5, .inl ⟨by rw [hg], by rw [hg, fr_rg g3 (by omega)]; exact b4⟩⟩
      refine c1_hasCover (.inr rfl) hCq (fun hc => n1 ?_) (fun hc => n0 ?_)
      · have hc' := covb_t hc
        have ht := totG_nn hw hc
        have htb : totG q < 1000000 := hc
        -- the two below
        have below : ∀ M4, Fr (rg 34 37) M2 M4 → eqB q = false → OkV G miX0_visit (d + (F + 1) + 4) K 91 [some (.inr (.inr (some 38))), some (.inl (D : Int)), none] [] M4 := by
          intro M4 g4 hne
          have hM4 := mk_rg hM2 g4 (by omega)
          have hC4 := cv_rg hC g4 (by omega)
          have d4 : M4 38 4 = ((nd + 1 : Nat) : Int) := by rw [fr_rg g4 (by omega)]; exact b4
          have d5 : M4 38 5 = (sh : Int) := by rw [fr_rg g4 (by omega)]; exact b5
          have f5 : Fr (rg 34 45) M M4 := f3.tr (fr_wide g4 (by omega))
          refine gX0_visit_91 (c1_firstFree (.inr rfl) hM4 hC4 ?_)
          cases hft : ft49 q with
          | none =>
            have hg := growF_4 (f := F) (nd := nd) (sh := sh) c40 hc' hne hft
            refine ⟨fun z => absurd z (by simp [fdI]), fun _ => done M4 g4 hg⟩
          | some k =>
            obtain ⟨k49, kk⟩ := ftT_ok 49 hft
            have kz := kk.2.2.2
            have kw : k / 7 < nF q ∧ k % 7 < nF q ∧ k / 7 ≠ k % 7 := ⟨kk.1, kk.2.1, kk.2.2.1⟩
            have eq0 : ∀ m : Int, fup (fup q (29 + k) m) (29 + k) 0 = q := fun m => by
              funext i; unfold fup; split
              · subst_vars; exact kz.symm
              · rfl
            simp only [fdI]
            refine ⟨fun _ => ⟨by omega, ?_⟩, fun z => absurd z (by omega)⟩
            rw [Int.toNat_natCast, w32n (by omega)]
            have gb := growF_bd F (fup q (29 + k) 1) (nd + 1) sh (by omega) (by omega)
            have hM5 := Mk.up hM4 kw k49 (m := 1) ⟨by decide, by decide⟩
            have f6 : Fr (rg 34 45) M (mup M4 45 k 1) := f5.up (rg_yes (by omega))
            refine ih (D := D + 1) (nd := nd + 1) (sh := sh) hM5 (by rw [mup_ne (by decide)]; exact d4) (by rw [mup_ne (by decide)]; exact d5) rfl (by omega) (by omega) (by omega) (by omega) (by omega) (fun M6 f7 hv => ⟨by omega, ?_⟩)
            have hM6 := Mk.of hM5 f7 (by omega) hv.1
            have hM7 := Mk.up hM6 (show k / 7 < nF (fup q (29 + k) 1) ∧ k % 7 < nF (fup q (29 + k) 1) ∧ k / 7 ≠ k % 7 from by rw [ag_nF (fup_ag ag_rf k49 1)]; exact kw) k49 (m := 2) ⟨by decide, by decide⟩
            rw [show fup (fup q (29 + k) 1) (29 + k) 2 = fup q (29 + k) 2 by funext i; unfold fup; split <;> rfl] at hM7
            have f8 : Fr (rg 34 45) M (mup M6 45 k 2) := (f6.tr f7).up (rg_yes (by omega))
            have last : ∀ M9, Fr (rg 34 45) M M9 → Mk 45 g (fup q (29 + k) 2) M9 → M9 38 5 = ((growF (F + 1) q nd sh).2.2 : Int) → (((growF (F + 1) q nd sh).1 = true ∧ M9 38 4 = ((growF (F + 1) q nd sh).2.1 : Int)) ∨ ((growF (F + 1) q nd sh).1 = false ∧ ∃ m : Nat, M9 38 4 = (m : Int) ∧ 40 < m ∧ m ≤ 41 + (F + 1))) → K (mup M9 45 k 0) := fun M9 f9 hM9 z5 z4 => by
              have hMa := Mk.up hM9 (show k / 7 < nF (fup q (29 + k) 2) ∧ k % 7 < nF (fup q (29 + k) 2) ∧ k / 7 ≠ k % 7 from by rw [ag_nF (fup_ag ag_rf k49 2)]; exact kw) k49 (m := 0) ⟨by decide, by decide⟩
              rw [eq0] at hMa
              exact h _ (f9.up (rg_yes (by omega))) ⟨hMa.1.2.2, by rw [mup_ne (by decide)]; exact z5, by rw [mup_ne (by decide)]; exact z4⟩
            rcases hv.2.2 with ⟨hr1, e4⟩ | ⟨hr1, m, e4, m1, m2⟩
            · have hle := gb.2.2.1 hr1
              have hg := growF_5 (f := F) (nd := nd) (sh := sh) c40 hc' hne hft hr1
              refine ih (D := D + 1) (nd := (growF F (fup q (29 + k) 1) (nd + 1) sh).2.1) (sh := (growF F (fup q (29 + k) 1) (nd + 1) sh).2.2) hM7 (by rw [mup_ne (by decide)]; exact e4) (by rw [mup_ne (by decide)]; exact hv.2.1) rfl (by have := gb.2.2.2; omega) (by have := gb.2.2.2; omega) (by omega) gb.1 hle (fun M8 f9 hv2 => ⟨by omega, ?_⟩)
              refine last M8 (f8.tr f9) (Mk.of hM7 f9 (by omega) hv2.1) (by rw [hg]; exact hv2.2.1) ?_
              rw [hg]
              rcases hv2.2.2 with ⟨hr2, x4⟩ | ⟨hr2, m, x4, x1, x2⟩
              · exact .inl ⟨hr2, x4⟩
              · exact .inr ⟨hr2, m, x4, x1, by omega⟩
            · have hg := growF_6 (f := F) (nd := nd) (sh := sh) c40 hc' hne hft hr1
              have e4' : (mup M6 45 k 2) 38 4 = (m : Int) := by rw [mup_ne (by decide)]; exact e4
              refine c0_visitDear e4' ⟨m1, by omega⟩ ⟨by omega, ?_⟩
              have fz : Fr (rg 38 38) (mup M6 45 k 2) (mup (mup M6 45 k 2) 38 4 ((m + 1 : Nat) : Int)) := Fr.up1 (rg_yes (by omega))
              refine last _ (f8.up (rg_yes (by omega))) (mk_rg hM7 fz (by omega)) ?_ (.inr ⟨by rw [hg]; exact hr1, m + 1, mup_at _ _ _ _, by omega, by omega⟩)
              rw [hg, mup_at_ne (by decide), mup_ne (by decide)]; exact hv.2.1
        refine c8_solve (k := 1) (.inr rfl) hCq (h25 q hw) rfl ⟨Nat.le_refl _, by omega⟩ (fun hb M4 g4 hO => ?_) (fun hb => b0 (below M2 Fr.rf (by unfold eqB; rw [hb]; rfl)))
        have hCq4 : Cq 39 g q M4 := ⟨⟨pl_rg hCq.1.1 g4 (by omega), cv_rg hC g4 (by omega)⟩, hCq.2⟩
        refine b1 (c1_leastTotal (.inr rfl) hCq4 ?_)
        have een : enT (totG q) = totG q := if_pos htb
        rw [een]
        refine c8_boundIs hO ⟨Nat.le_refl _, by omega⟩ hn.2 (optP_of hw hb) ⟨by omega, by omega⟩ ⟨by decide, by decide⟩ (fun ee => b1 ?_) (fun ee => b0 (below M4 g4 ?_))
        · rw [Int.mul_one] at ee
          have he : eqB q = true := by unfold eqB; rw [hb, ee]; simp
          exact done M4 g4 (growF_3 c40 hc' he)
        · rw [Int.mul_one] at ee
          unfold eqB
          rw [hb, decide_eq_false (fun z => ee z.symm)]; rfl
      · have hg := growF_2 (f := F) (sh := sh) c40 (covb_f hc)
        rw [b5, w32n (by omega)]
        refine h _ (f3.up (rg_yes (by omega))) ⟨fun i hi => by rw [mup_ne (by decide)]; exact hM2.1.2.2 i hi, by rw [hg, mup_at], .inl ⟨by rw [hg], by rw [hg, mup_at_ne (by decide)]; exact b4⟩⟩
theorem c0_grow {K : Mem → Prop} {g : Nat → Int} (h25 : P25) (hP : Pl g M) (hN : NetM g M) (hw : WF g) (h : ∀ M', Fr (rg 34 45) M M' → VR 42 g 0 0 M' → K M') : CalV G miX0_grow (d + 47) [.inr (.inr (some 38))] M K := by
  refine Cal.of (by decide) (Nat.le_of_ble_eq_true rfl) rfl (gX0_grow_0 ?_)
  have f0 : Fr (rg 34 45) M (mcp M 9 45 0 0 49) := fun c i hc => by rw [mcp_ne (by have := rg_of hc; omega)]
  have hM0 := mk_cpy (q := g) hP hN hw
  generalize mcp M 9 45 0 0 49 = M0 at *
  have f1 : Fr (rg 38 38) M0 (mup (mup M0 38 4 0) 38 5 0) := (Fr.up1 (rg_yes (by omega))).up (rg_yes (by omega))
  exact c0_visit (d := d) h25 42 (D := 0) (nd := 0) (sh := 0) (mk_rg hM0 f1 (by omega)) (by rw [mup_at_ne (by decide), mup_at]; rfl) (by rw [mup_at]; rfl) rfl (Nat.le_refl _) (by decide) (by decide) (Nat.le_refl _) (by decide) (fun M' f' hv => h M' ((f0.tr (fr_wide f1 (by omega))).tr f') hv)
theorem c0_hasBoundWith {K : Int → Mem → Prop} {g : Nat → Int} {v w m : Int} {f k : Nat} (h25 : P25) (hP : Pl g M) (hN : NetM g M) (hw : WF g) (e : v = (f : Int)) (e' : w = (k : Int)) (hf : f < nF g) (hk : k < nF g) (hne : f ≠ k) (hm : 0 ≤ m ∧ m ≤ 2) (h1 : bndB (mkG g f k m) = true → ∀ M', Fr SHB M M' → OpC (mkG g f k m) 1 M' → K 1 M') (h0 : bndB (mkG g f k m) = false → ∀ M', Fr SHB M M' → K 0 M') : CalI G miX0_hasBoundWith (d + 3) [.inr (.inr (some 38)), .inl v, .inl w, .inl m] M K := by
  subst e; subst e'
  have hn := hw.n
  have hM0 := mk_cpy (q := g) hP hN hw
  have f0 : Fr SHB M (mcp M 9 45 0 0 49) := fun c i hc => by rw [mcp_ne (by unfold SHB at hc; simp at hc; omega)]
  have hM1 := Mk.up hM0 (k := 7 * f + k) (m := m) ⟨by omega, by omega, by omega⟩ (by omega) hm
  refine Cal.of (by decide) (Nat.le_of_ble_eq_true rfl) rfl (gX0_hasBoundWith_0 ⟨by omega, ?_⟩)
  rw [show ((f : Int) * 7 + (k : Int)).toNat = 7 * f + k by omega]
  have f1 : Fr SHB M (mup (mcp M 9 45 0 0 49) 45 (7 * f + k) m) := f0.up (by unfold SHB; simp)
  generalize mup (mcp M 9 45 0 0 49) 45 (7 * f + k) m = M1 at *
  refine c1_workOut (.inr rfl) hM1 (fun M2 f2 hC => ?_)
  have hM2 := mk_rg hM1 f2 (by omega)
  have f3 : Fr SHB M M2 := f1.tr (SHB_rg f2 (by omega))
  have hw2 := hM2.2.1.2.1
  refine c8_solve (k := 1) (.inr rfl) ⟨⟨hM2.1.1, hC⟩, hM2.2.1⟩ (h25 _ hw2) rfl ⟨Nat.le_refl _, by omega⟩ (fun hb M4 g4 hO => ⟨.inr rfl, h1 hb M4 (f3.tr (SHB_rg g4 (by omega))) hO⟩) (fun hb => ⟨.inl rfl, h0 hb M2 f3⟩)
end CLSR
