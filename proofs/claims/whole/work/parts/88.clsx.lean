/-! the class: what it keeps between calls -/
def WkM (g : Nat → Int) (M : Mem) : Prop := NetM g M ∧ CvM 28 g M ∧ AhM g M
def BdM (g : Nat → Int) (M : Mem) : Prop := M 0 12 = bI (bndB g) ∧ (bndB g = true → OpC g (nF g + 1) M)
def TrM (g : Nat → Int) (M : Mem) : Prop := M 38 5 = ((growF 42 g 0 0).2.2 : Int) ∧ (((growF 42 g 0 0).1 = true ∧ M 38 4 = ((growF 42 g 0 0).2.1 : Int)) ∨ ((growF 42 g 0 0).1 = false ∧ 40 < M 38 4))
def Cs (g : Nat → Int) (M : Mem) : Prop := (Pl g M ∧ WF g) ∧ (M 0 13 ≤ M 1 10 ∧ M 0 14 ≤ M 1 10 ∧ M 0 15 ≤ M 1 10 ∧ 0 ≤ M 1 10) ∧ (M 0 13 = M 1 10 → WkM g M) ∧ (M 0 14 = M 1 10 → BdM g M) ∧ (M 0 15 = M 1 10 → TrM g M)
/-- what the invariant reads -/
def NeedC (c i : Nat) : Prop := c = 0 ∧ 12 ≤ i ∧ i ≤ 15 ∨ 1 ≤ c ∧ c ≤ 9 ∨ 20 ≤ c ∧ c ≤ 45 ∨ c = 55
theorem WkM.fr {g : Nat → Int} {M M' : Mem} {S : Nat → Nat → Bool} (h : WkM g M) (hf : Fr S M M') (hS : ∀ c i, 20 ≤ c ∧ c ≤ 33 ∨ c = 55 → S c i = false) : WkM g M' :=
  ⟨h.1.fr hf (fun c i h1 h2 => hS c i (by omega)), h.2.1.fr hf (fun c i h1 h2 => hS c i (by omega)), fun hc k hk => by rw [hf 55 _ (hS _ _ (by omega))]; exact h.2.2 hc k hk⟩
theorem BdM.fr {g : Nat → Int} {M M' : Mem} {S : Nat → Nat → Bool} (h : BdM g M) (hf : Fr S M M') (hS : ∀ c i, c = 0 ∧ i = 12 ∨ 34 ≤ c ∧ c ≤ 37 → S c i = false) : BdM g M' :=
  ⟨by rw [hf 0 12 (hS _ _ (by omega))]; exact h.1, fun hb => (h.2 hb).fr hf (fun c i h1 h2 => hS c i (by omega))⟩
theorem TrM.fr {g : Nat → Int} {M M' : Mem} {S : Nat → Nat → Bool} (h : TrM g M) (hf : Fr S M M') (hS : ∀ c i, c = 38 → S c i = false) : TrM g M' := by
  unfold TrM; rw [hf 38 5 (hS _ _ rfl), hf 38 4 (hS _ _ rfl)]; exact h
theorem Cs.fr {g : Nat → Int} {M M' : Mem} {S : Nat → Nat → Bool} (h : Cs g M) (hf : Fr S M M') (hS : ∀ c i, NeedC c i → S c i = false) : Cs g M' := by
  have e13 := hf 0 13 (hS _ _ (by unfold NeedC; omega))
  have e14 := hf 0 14 (hS _ _ (by unfold NeedC; omega))
  have e15 := hf 0 15 (hS _ _ (by unfold NeedC; omega))
  have ev := hf 1 10 (hS _ _ (by unfold NeedC; omega))
  obtain ⟨h1, h2, h3, h4, h5⟩ := h
  refine ⟨⟨h1.1.fr hf (fun c i a b => hS c i (by unfold NeedC; omega)), h1.2⟩, by rw [e13, e14, e15, ev]; exact h2, fun e => ?_, fun e => ?_, fun e => ?_⟩
  · rw [e13, ev] at e; exact (h3 e).fr hf (fun c i a => hS c i (by unfold NeedC; omega))
  · rw [e14, ev] at e; exact (h4 e).fr hf (fun c i a => hS c i (by unfold NeedC; omega))
  · rw [e15, ev] at e; exact (h5 e).fr hf (fun c i a => hS c i (by unfold NeedC; omega))
theorem cs_rg {g : Nat → Int} {M M' : Mem} {a b : Nat} (h : Cs g M) (hf : Fr (rg a b) M M') (hab : 46 ≤ a ∧ (b ≤ 54 ∨ 56 ≤ a)) : Cs g M' := h.fr hf (fun c i hc => rg_no (by unfold NeedC at hc; omega))
theorem Cs.n {g : Nat → Int} {M : Mem} (h : Cs g M) : M 1 8 = (nF g : Int) := h.1.1.n h.1.2
/-- another plan: all is stale -/
theorem Cs.new {g g' : Nat → Int} {M M' : Mem} (h : Cs g M) (hf : Fr (rg 1 9) M M') (hP : Pl g' M') (hw : WF g') (hv : M 1 10 < M' 1 10) : Cs g' M' := by
  have e : ∀ i, M' 0 i = M 0 i := fun i => fr_rg hf (by omega)
  obtain ⟨h1, h2, h3, h4, h5⟩ := h
  refine ⟨⟨hP, hw⟩, by rw [e 13, e 14, e 15]; omega, fun z => ?_, fun z => ?_, fun z => ?_⟩
  · rw [e] at z; omega
  · rw [e] at z; omega
  · rw [e] at z; omega
theorem Cs.chn {g g' : Nat → Int} {M M' : Mem} {B : Int} (h : Cs g M) (hw : WF g') (hc : Chn B g g' M M') : Cs g' M' := by
  obtain ⟨hf, hP, hv, hz⟩ := hc
  by_cases e : M' 1 10 = M 1 10
  · have eg := hz e
    subst eg
    have e0 : ∀ i, M' 0 i = M 0 i := fun i => fr_rg hf (by omega)
    obtain ⟨h1, h2, h3, h4, h5⟩ := h
    refine ⟨⟨hP, hw⟩, by rw [e0 13, e0 14, e0 15, e]; exact h2, fun z => ?_, fun z => ?_, fun z => ?_⟩
    · rw [e0, e] at z; exact (h3 z).fr hf (fun c i a => rg_no (by omega))
    · rw [e0, e] at z; exact (h4 z).fr hf (fun c i a => rg_no (by omega))
    · rw [e0, e] at z; exact (h5 z).fr hf (fun c i a => rg_no (by omega))
  · exact h.new hf hP hw (by omega)
theorem Chs.chn {g g' : Nat → Int} {M M' : Mem} (hP : Pl g M) (h : Chs g g' M M') : Chn 1 g g' M M' := by
  rcases h with ⟨h1, h2, h3⟩ | ⟨h1, h2⟩
  · exact ⟨h1, h2, by omega, fun e => by omega⟩
  · subst h1; subst h2
    exact ⟨Fr.rf, hP, by omega, fun _ => rfl⟩
/-- what asking calls may change -/
def SFc : Nat → Nat → Bool := fun c i => (c == 0 && (decide (12 ≤ i) && decide (i ≤ 15))) || ((decide (19 ≤ c) && decide (c ≤ 57)) || c == 65)
theorem SFc_no {c i : Nat} (h : (c = 0 → i < 12 ∨ 15 < i) ∧ (c < 19 ∨ 57 < c) ∧ c ≠ 65) : SFc c i = false := by unfold SFc; simp; omega
theorem SFc_yes {c i : Nat} (h : c = 0 ∧ 12 ≤ i ∧ i ≤ 15 ∨ 19 ≤ c ∧ c ≤ 57 ∨ c = 65) : SFc c i = true := by unfold SFc; simp; omega
theorem SFc_of {c i : Nat} (h : SFc c i = false) : (c = 0 → i < 12 ∨ 15 < i) ∧ (c < 19 ∨ 57 < c) ∧ c ≠ 65 := by unfold SFc at h; simp at h; omega
theorem SFc_rg {a b : Nat} {M M' : Mem} (h : Fr (rg a b) M M') (hab : 19 ≤ a ∧ b ≤ 57 ∨ a = 65 ∧ b = 65) : Fr SFc M M' := h.mo fun c i hc => by have := SFc_of hc; exact rg_no (by omega)
/-- without the prices told -/
def SFd : Nat → Nat → Bool := fun c i => (c == 0 && (decide (12 ≤ i) && decide (i ≤ 15))) || (decide (19 ≤ c) && decide (c ≤ 57))
theorem SFd_no {c i : Nat} (h : (c = 0 → i < 12 ∨ 15 < i) ∧ (c < 19 ∨ 57 < c)) : SFd c i = false := by unfold SFd; simp; omega
theorem SFd_yes {c i : Nat} (h : c = 0 ∧ 12 ≤ i ∧ i ≤ 15 ∨ 19 ≤ c ∧ c ≤ 57) : SFd c i = true := by unfold SFd; simp; omega
theorem SFd_of {c i : Nat} (h : SFd c i = false) : (c = 0 → i < 12 ∨ 15 < i) ∧ (c < 19 ∨ 57 < c) := by unfold SFd at h; simp at h; omega
theorem SFd_rg {a b : Nat} {M M' : Mem} (h : Fr (rg a b) M M') (hab : 19 ≤ a ∧ b ≤ 57) : Fr SFd M M' := h.mo fun c i hc => by have := SFd_of hc; exact rg_no (by omega)
theorem SFd_c {M M' : Mem} (h : Fr SFd M M') : Fr SFc M M' := h.mo fun c i hc => by have := SFc_of hc; exact SFd_no (by omega)
def AskI (g : Nat → Int) (M : Mem) (x : Int) (K : Int → Mem → Prop) : Prop := ∀ M', Fr SFc M M' → Cs g M' → K x M'
section CLSX
variable {G : GE} {d : Nat} {M : Mem}
theorem c10_refreshD {K : Mem → Prop} {g : Nat → Int} (hC : Cs g M) (h : ∀ M', Fr SFd M M' → Cs g M' → WkM g M' → K M') : CalV G miX10_refresh (d + 5) [.inr (.inr (some 0))] M K := by
  refine Cal.of (by decide) (Nat.le_of_ble_eq_true rfl) rfl (gX10_refresh_0 ⟨fun c => h M Fr.rf hC (hC.2.2.1 c), fun c => ?_⟩)
  obtain ⟨⟨hP, hw⟩, hv, -, h4, h5⟩ := hC
  refine c4_workOut hP hw (fun M1 f1 hN => ?_)
  have hP1 := pl_rg hP f1 (by omega)
  refine c1_workOut (mk := 9) (.inl rfl) (g := g) (q := g) ⟨⟨hP1, hN, fun i hi => hP1.mk hi⟩, ⟨hw, hw, ag_rf⟩, .inl rfl⟩ (fun M2 f2 hCv => ?_)
  have hP2 := pl_rg hP1 f2 (by omega)
  have hN2 := net_rg hN f2 (by omega)
  refine c2_learn ⟨⟨hP2, hCv⟩, hw, hw, ag_rf⟩ hN2 (fun q hA => ?_)
  have f3 : Fr SFd M (mup (mset M2 55 q) 0 13 ((mset M2 55 q) 1 10)) := (((SFd_rg f1 (by omega)).tr (SFd_rg f2 (by omega))).ms (fun _ => SFd_yes (by omega))).up (SFd_yes (by omega))
  have fa : Fr (rg 55 55) M2 (mset M2 55 q) := Fr.rf.ms (fun _ => rg_yes (by omega))
  have wk : WkM g (mset M2 55 q) := ⟨net_rg hN2 fa (by omega), cv_rg hCv fa (by omega), hA⟩
  have wk2 : WkM g (mup (mset M2 55 q) 0 13 ((mset M2 55 q) 1 10)) := wk.fr (S := fun c _ => c == 0) (Fr.up1 (by simp)) (fun c i hc => by simp; omega)
  have e : ∀ c i, (c = 0 ∧ i ≠ 13) ∨ (1 ≤ c ∧ c < 20) ∨ (34 ≤ c ∧ c ≤ 38) → (mup (mset M2 55 q) 0 13 ((mset M2 55 q) 1 10)) c i = M c i := fun c i hc => by
    have q1 : (mup (mset M2 55 q) 0 13 ((mset M2 55 q) 1 10)) c i = (mset M2 55 q) c i := by
      unfold mup; split
      · rw [if_neg (by omega)]
      · rfl
    rw [q1, mset_ne _ (by omega), fr_rg f2 (by omega), fr_rg f1 (by omega)]
  have ev := e 1 10 (by omega)
  have e14 := e 0 14 (by omega)
  have e15 := e 0 15 (by omega)
  have em : (mset M2 55 q) 1 10 = M 1 10 := by rw [mset_ne _ (by decide), fr_rg f2 (by omega), fr_rg f1 (by omega)]
  have fr38 : Fr (fun c i => !(decide ((c = 0 ∧ i ≠ 13) ∨ (1 ≤ c ∧ c < 20) ∨ (34 ≤ c ∧ c ≤ 38)))) M (mup (mset M2 55 q) 0 13 ((mset M2 55 q) 1 10)) := fun c i hc => e c i (by simp only [Bool.not_eq_false', decide_eq_true_eq] at hc; exact hc)
  refine h _ f3 ⟨⟨hP.fr f3 (fun c i h1 h2 => SFd_no (by omega)), hw⟩, ?_, fun _ => wk2, fun z => ?_, fun z => ?_⟩ wk2
  · rw [ev, e14, e15, mup_at, em]; omega
  · rw [e14, ev] at z
    exact (h4 z).fr fr38 (fun c i hc => by simp; omega)
  · rw [e15, ev] at z
    exact (h5 z).fr fr38 (fun c i hc => by simp; omega)
theorem c10_isPricedD {K : Int → Mem → Prop} {g : Nat → Int} (h25 : P25) (hC : Cs g M) (h : ∀ M', Fr SFd M M' → Cs g M' → WkM g M' → (bndB g = true → OpC g (nF g + 1) M') → K (bI (bndB g)) M') : CalI G miX10_isPriced (d + 6) [.inr (.inr (some 0))] M K := by
  refine Cal.of (by decide) (Nat.le_of_ble_eq_true rfl) rfl (gX10_isPriced_0 ?_)
  refine c10_refreshD hC (fun M1 f1 hC1 wk => ⟨fun c => ?_, fun c => ?_⟩)
  · obtain ⟨b1', b2'⟩ := hC1.2.2.2.1 c
    rw [b1']
    exact ⟨by cases bndB g <;> simp [bI], h M1 f1 hC1 wk b2'⟩
  · have hn := hC1.1.2.n
    have e8 := hC1.n
    have fin : ∀ (M2 : Mem) (x : Int), Fr (rg 34 37) M1 M2 → x = bI (bndB g) → (bndB g = true → OpC g (nF g + 1) M2) → (x = 0 ∨ x = 1) ∧ (((mup (mup M2 0 12 x) 0 14 ((mup M2 0 12 x) 1 10)) 0 12 = 0 ∨ (mup (mup M2 0 12 x) 0 14 ((mup M2 0 12 x) 1 10)) 0 12 = 1) ∧ K ((mup (mup M2 0 12 x) 0 14 ((mup M2 0 12 x) 1 10)) 0 12) (mup (mup M2 0 12 x) 0 14 ((mup M2 0 12 x) 1 10))) := fun M2 x f2 hx hO => by
      have x01 : x = 0 ∨ x = 1 := by rw [hx]; cases bndB g <;> simp [bI]
      have ea : (mup (mup M2 0 12 x) 0 14 ((mup M2 0 12 x) 1 10)) 0 12 = x := by rw [mup_at_ne (by decide), mup_at]
      have e110 : (mup M2 0 12 x) 1 10 = M1 1 10 := by rw [mup_ne (by decide), fr_rg f2 (by omega)]
      have fz : Fr (fun c i => c == 0 && (i == 12 || i == 14)) M2 (mup (mup M2 0 12 x) 0 14 ((mup M2 0 12 x) 1 10)) := (Fr.up1 (by simp)).up (by simp)
      have f3 : Fr SFd M (mup (mup M2 0 12 x) 0 14 ((mup M2 0 12 x) 1 10)) := ((f1.tr (SFd_rg f2 (by omega))).up (SFd_yes (by omega))).up (SFd_yes (by omega))
      have wk2 : WkM g (mup (mup M2 0 12 x) 0 14 ((mup M2 0 12 x) 1 10)) := (wk.fr f2 (fun c i hc => rg_no (by omega))).fr fz (fun c i hc => by simp; omega)
      have hO2 : bndB g = true → OpC g (nF g + 1) (mup (mup M2 0 12 x) 0 14 ((mup M2 0 12 x) 1 10)) := fun hb => (hO hb).fr fz (fun c i h1 h2 => by simp; omega)
      rw [ea]
      have m10 : (mup (mup M2 0 12 x) 0 14 ((mup M2 0 12 x) 1 10)) 1 10 = M1 1 10 := by rw [mup_ne (by decide), e110]
      have m13 : (mup (mup M2 0 12 x) 0 14 ((mup M2 0 12 x) 1 10)) 0 13 = M1 0 13 := by rw [mup_at_ne (by decide), mup_at_ne (by decide), fr_rg f2 (by omega)]
      have m14 : (mup (mup M2 0 12 x) 0 14 ((mup M2 0 12 x) 1 10)) 0 14 = M1 1 10 := by rw [mup_at, e110]
      have m15 : (mup (mup M2 0 12 x) 0 14 ((mup M2 0 12 x) 1 10)) 0 15 = M1 0 15 := by rw [mup_at_ne (by decide), mup_at_ne (by decide), fr_rg f2 (by omega)]
      obtain ⟨q1, q2, q3, q4, q5⟩ := hC1
      refine ⟨x01, x01, ?_⟩
      have hcs : Cs g (mup (mup M2 0 12 x) 0 14 ((mup M2 0 12 x) 1 10)) := by
        refine ⟨⟨(pl_rg q1.1 f2 (by omega)).fr fz (fun c i h1 h2 => by simp; omega), q1.2⟩, by rw [m10, m13, m14, m15]; omega, fun _ => wk2, fun _ => ⟨by rw [ea]; exact hx, hO2⟩, fun z => ?_⟩
        rw [m15, m10] at z
        exact ((q5 z).fr f2 (fun c i hc => rg_no (by omega))).fr fz (fun c i hc => by simp; omega)
      have := h _ f3 hcs wk2 hO2
      rw [← hx] at this; exact this
    rw [e8, show w32 (1 + (nF g : Int)) = ((nF g + 1 : Nat) : Int) by rw [w32_eq (by omega) (by omega)]; omega]
    refine c8_solve (q := g) (.inl rfl) ⟨⟨hC1.1.1, wk.2.1⟩, hC1.1.2, hC1.1.2, ag_rf⟩ (h25 g hC1.1.2) rfl ⟨by omega, Nat.le_refl _⟩ (fun hb M2 f2 hO => fin M2 1 f2 (by rw [hb]; rfl) (fun _ => hO)) (fun hb => fin M1 0 Fr.rf (by rw [hb]; rfl) (fun z => by rw [hb] at z; cases z))
theorem c10_refresh {K : Mem → Prop} {g : Nat → Int} (hC : Cs g M) (h : ∀ M', Fr SFc M M' → Cs g M' → WkM g M' → K M') : CalV G miX10_refresh (d + 5) [.inr (.inr (some 0))] M K :=
  c10_refreshD hC (fun M1 f1 h1 h2 => h M1 (SFd_c f1) h1 h2)
theorem c10_isPriced {K : Int → Mem → Prop} {g : Nat → Int} (h25 : P25) (hC : Cs g M) (h : ∀ M', Fr SFc M M' → Cs g M' → WkM g M' → (bndB g = true → OpC g (nF g + 1) M') → K (bI (bndB g)) M') : CalI G miX10_isPriced (d + 6) [.inr (.inr (some 0))] M K :=
  c10_isPricedD h25 hC (fun M1 f1 h1 h2 h3 => h M1 (SFd_c f1) h1 h2 h3)
end CLSX
