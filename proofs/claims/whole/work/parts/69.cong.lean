/-! what doesn't look at the marks -/
def Ag (g q : Nat → Int) : Prop := ∀ i, i < 29 ∨ 78 ≤ i → q i = g i
theorem ag_nF {g q : Nat → Int} (h : Ag g q) : nF q = nF g := by unfold nF; rw [h 0 (by omega)]
theorem ag_at {g q : Nat → Int} (h : Ag g q) {i : Nat} (hi : i < 29 ∨ 78 ≤ i) : q i = g i := h i hi
theorem shft_cong {dep dep' : Nat → Int} (hd : ∀ i, i < 7 → dep i = dep' i) (v : Int) : ∀ (p : Nat) (o : Nat → Int), (∀ i, i < p → (o i).toNat < 7) → shft dep v p o = shft dep' v p o := by
  intro p
  induction p with
  | zero => intro o _; rfl
  | succ p ih =>
    intro o ho
    have e := hd _ (ho p (by omega))
    have ih' := ih (fup o (p + 1) (o p)) (fun i hi => by rw [fup_ne _ (by omega)]; exact ho i (by omega))
    rw [shft, shft, e, ih']
theorem ordT_cong {dep dep' : Nat → Int} (hd : ∀ i, i < 7 → dep i = dep' i) : ∀ k, k ≤ 7 → ordT dep k = ordT dep' k := by
  intro k
  induction k with
  | zero => intro _; rfl
  | succ k ih =>
    intro hk
    have e : shft dep (dep k) k (ordT dep k) = shft dep' (dep k) k (ordT dep k) := shft_cong hd _ _ _ (fun i hi => by have := (ordT_ord dep k).1 i hi; omega)
    show insO dep k (ordT dep k) = insO dep' k (ordT dep' k)
    unfold insO
    rw [← ih (by omega), e, hd k (by omega)]
theorem ag_oN {g q : Nat → Int} (h : Ag g q) (hw : WF g) (i : Nat) : oN q i = oN g i := by
  have hn := hw.n
  unfold oN ordF
  rw [ag_nF h, ordT_cong (dep := fun i => q (15 + i)) (dep' := fun i => g (15 + i)) (fun i hi => ag_at h (by omega)) _ hn.2]
theorem ag_sit {g q : Nat → Int} (h : Ag g q) {a : Nat} : sitF q a = sitF g a := by unfold sitF; rw [ag_at h (i := 78 + a) (by omega), ag_at h (i := 82 + a) (by omega)]
theorem ag_rest {g q : Nat → Int} (h : Ag g q) {a : Nat} : restF q a = restF g a := by unfold restF; rw [ag_at h (i := 78 + a) (by omega), ag_at h (i := 82 + a) (by omega)]
theorem ag_legs {g q : Nat → Int} (h : Ag g q) {a : Nat} : legsF q a = legsF g a := by unfold legsF; rw [ag_at h (i := 78 + a) (by omega)]
theorem ag_span {g q : Nat → Int} (h : Ag g q) {a : Nat} : spanF q a = spanF g a := by unfold spanF; rw [ag_at h (i := 78 + a) (by omega), ag_at h (i := 82 + a) (by omega)]
theorem ag_dut {g q : Nat → Int} (h : Ag g q) {a : Nat} : dutF q a = dutF g a := by unfold dutF; rw [ag_at h (i := 78 + a) (by omega)]
theorem ag_how {g q : Nat → Int} (h : Ag g q) {f k : Nat} (hf : f < 7) (hk : k < 7) : howF q f k = howF g f k := by
  unfold howF; rw [ag_at h (i := 1 + k) (by omega), ag_at h (i := 8 + f) (by omega), ag_at h (i := 15 + k) (by omega), ag_at h (i := 22 + f) (by omega), ag_rest h, ag_sit h]
theorem ag_slk {g q : Nat → Int} (h : Ag g q) {f k : Nat} (hf : f < 7) (hk : k < 7) : slkF q f k = slkF g f k := by
  unfold slkF; rw [ag_how h hf hk, ag_at h (i := 8 + f) (by omega), ag_at h (i := 15 + k) (by omega), ag_at h (i := 22 + f) (by omega), ag_rest h, ag_sit h]
theorem ag_tgt {g q : Nat → Int} (h : Ag g q) {f k : Nat} (hf : f < 7) (hk : k < 7) : tgtB q f k = tgtB g f k := by
  unfold tgtB; rw [ag_how h hf hk, ag_slk h hf hk, ag_at h (i := 91) (by omega)]
theorem ag_last {g q : Nat → Int} (h : Ag g q) (hw : WF g) (s : Nat) : ∀ j, lastP q s j = lastP g s j := by
  intro j
  induction j with
  | zero => rfl
  | succ j ih => rw [lastP, lastP, ag_oN h hw, ih]
theorem ag_rb {g q : Nat → Int} (h : Ag g q) (hw : WF g) (s f k : Nat) : rbB q s f k = rbB g s f k := by
  unfold rbB; rw [ag_nF h]; congr 1; funext j; rw [ag_oN h hw, ag_last h hw]
theorem ag_bw {g q : Nat → Int} (h : Ag g q) (hw : WF g) (i : Nat) : ∀ k, bwN q i k = bwN g i k := by
  intro k
  induction k with
  | zero => rfl
  | succ k ih => rw [bwN, bwN, ih, ag_oN h hw]
theorem ag_wstep {g q : Nat → Int} (h : Ag g q) (hw : WF g) {s k : Nat} {w : WSt} (hk : k < 7) (hi : w.2.1 < 0 ∨ (w.2.1 < 7 ∧ 0 ≤ w.1 ∧ w.1 < 7)) : wstep q s k w = wstep g s k w := by
  cases hb : s.testBit k with
  | false => rw [wstep_no hb, wstep_no hb]
  | true =>
    have ey : wY q k w = wY g k w := by
      unfold wY
      split
      · rfl
      · rw [ag_how h (by omega) hk]
    have es : wSt q k w = wSt g k w := by unfold wSt; rw [ey, ag_at h (i := 15 + k) (by omega)]
    have el : wLe q k w = wLe g k w := by unfold wLe; rw [ey]
    have ed : wDu q k w = wDu g k w := by unfold wDu; rw [ey]
    have et : wTi q k w = wTi g k w := by
      unfold wTi
      by_cases c : w.2.1 < 0
      · rw [if_neg (by omega), if_neg (by omega)]
      · rw [ag_tgt h (f := w.2.1.toNat) (by omega) hk]
    have fi : wFi k w = (wFi k w).toNat ∧ (wFi k w).toNat < 7 := by
      unfold wFi; split <;> omega
    have eb : wBad q k (wY q k w) (wFi k w) (wSt q k w) (wLe q k w) (wDu q k w) ↔ wBad g k (wY g k w) (wFi k w) (wSt g k w) (wLe g k w) (wDu g k w) := by
      unfold wBad
      rw [ey, es, el, ed, ag_at h (i := 1 + (wFi k w).toNat) (by omega), ag_at h (i := 22 + k) (by omega), ag_legs h, ag_span h, ag_dut h]
    by_cases hc : wBad g k (wY g k w) (wFi k w) (wSt g k w) (wLe g k w) (wDu g k w)
    · rw [wstep_bad hb hc, wstep_bad hb (eb.mpr hc)]
    · rw [wstep_ok hb hc, wstep_ok hb (fun c => hc (eb.mp c)), es, el, ed, et]
theorem ag_wfold {g q : Nat → Int} (h : Ag g q) (hw : WF g) (s : Nat) : ∀ k, k ≤ nF g → wfold q s k = wfold g s k := by
  intro k
  have hn := hw.n
  induction k with
  | zero => intro _; rfl
  | succ k ih =>
    intro hk
    have hlt := oN_lt g (i := k) (by omega)
    cases hz : wfold g s k with
    | none => rw [wfold, wfold, ih (by omega), hz]; rfl
    | some w =>
      have hq : wfold q s k = some w := by rw [ih (by omega), hz]
      rw [wfold_succ hz, wfold_succ hq, ag_oN h hw]
      refine ag_wstep h hw (by omega) ?_
      rcases wfold_inv hw s k (by omega) w hz with ⟨e, -⟩ | ⟨i, j, h1, h2, h3⟩
      · subst e; exact .inl (by decide)
      · have := oN_lt g (i := i) (by omega)
        have := oN_lt g (i := j) (by omega)
        exact .inr (by omega)
theorem ag_prCost {g q : Nat → Int} (h : Ag g q) {w : WSt} (h1 : w.1.toNat < 7) (h2 : w.2.1.toNat < 7) : prCost q w = prCost g w := by
  unfold prCost
  rw [ag_at h (i := 87) (by omega), ag_at h (i := 88) (by omega), ag_at h (i := 89) (by omega), ag_at h (i := 22 + w.2.1.toNat) (by omega), ag_at h (i := 15 + w.1.toNat) (by omega)]
theorem wfold_st {g : Nat → Int} (hw : WF g) {s : Nat} {w : WSt} (h : wfold g s (nF g) = some w) : w.1.toNat < 7 ∧ w.2.1.toNat < 7 := by
  have hn := hw.n
  rcases wfold_inv hw s _ (Nat.le_refl _) w h with ⟨e, -⟩ | ⟨i, j, h1, h2, h3⟩
  · subst e; exact ⟨by decide, by decide⟩
  · have := oN_lt g (i := i) (by omega)
    have := oN_lt g (i := j) (by omega)
    omega
theorem ag_prF {g q : Nat → Int} (h : Ag g q) (hw : WF g) (s : Nat) : prF q s = prF g s := by
  unfold prF
  rw [ag_nF h, ag_wfold h hw s _ (Nat.le_refl _)]
  cases hz : wfold g s (nF g) with
  | none => rfl
  | some w =>
    have hb := wfold_st hw hz
    have e : prEnd q w = prEnd g w := by
      unfold prEnd; rw [ag_at h (i := 86) (by omega), ag_at h (i := 1 + w.1.toNat) (by omega), ag_at h (i := 8 + w.2.1.toNat) (by omega)]
    simp only [e]
theorem ag_pc {g q : Nat → Int} (h : Ag g q) (hw : WF g) (s : Nat) : pcF q s = pcF g s := by
  unfold pcF
  rw [ag_prF h hw]
  cases hp : prF g s with
  | none => rfl
  | some w =>
    have hb := wfold_st hw (prF_both hp).1
    exact ag_prCost h hb.1 hb.2
theorem ag_net {g q : Nat → Int} {M : Mem} (h : Ag g q) (hw : WF g) (hN : NetM g M) : NetM q M := by
  have hn := hw.n
  obtain ⟨h1, h2, h3, h4⟩ := hN
  refine ⟨fun i hi => by rw [ag_oN h hw]; exact h1 i (by rw [ag_nF h] at hi; exact hi), fun f k hf hk => ?_, fun i j hi hj => ?_, fun s h0 hs => ?_⟩
  · rw [ag_nF h] at hf hk
    rw [ag_how h (by omega) (by omega), ag_slk h (by omega) (by omega)]; exact h2 f k hf hk
  · rw [ag_nF h] at hi hj
    rw [ag_oN h hw, ag_oN h hw, ag_bw h hw]; exact h3 i j hi hj
  · rw [ag_nF h] at hs
    obtain ⟨a, b⟩ := h4 s h0 hs
    refine ⟨by rw [ag_pc h hw]; exact a, fun w hp => ?_⟩
    rw [ag_prF h hw] at hp
    have hb := wfold_st hw (prF_both hp).1
    rw [ag_at h (i := 1 + w.1.toNat) (by omega)]; exact b w hp
theorem ag_allF {g q : Nat → Int} (h : Ag g q) : allF q = allF g := by unfold allF; rw [ag_nF h]
theorem ag_rf {g : Nat → Int} : Ag g g := fun _ _ => rfl
