/-! the class: image, back -/
def tkM (M : Mem) (a b : Nat) : Mem := mcp (mcp (mcp (mcp (mcp (mcp (mcp (mcp M (b + 1) (a + 1) 0 0 7) (b + 2) (a + 2) 0 0 7) (b + 3) (a + 3) 0 0 7) (b + 4) (a + 4) 0 0 7) (b + 5) (a + 5) 0 0 4) (b + 6) (a + 6) 0 0 4) (b + 7) (a + 7) 0 0 5) (b + 8) (a + 8) 0 0 49
def tkN (M : Mem) (a b : Nat) : Mem := mup (mup (mup (tkM M a b) a 8 (tkM M a b b 8)) a 9 ((mup (tkM M a b) a 8 (tkM M a b b 8)) b 9)) a 10 (w32 (((mup (mup (tkM M a b) a 8 (tkM M a b b 8)) a 9 ((mup (tkM M a b) a 8 (tkM M a b b 8)) b 9)) a 10) + 1))
/-- the plan stands o cells on -/
def PlO (o : Nat) (g : Nat → Int) (M : Mem) : Prop := Pl g (fun c => M (c + o))
theorem plO_0 {g : Nat → Int} {M : Mem} : PlO 0 g M ↔ Pl g M := Iff.rfl
theorem tk_img {g : Nat → Int} {M : Mem} (hP : Pl g M) : PlO 9 g (tkN M 10 1) := by
  obtain ⟨⟨h1, h2⟩, h3, h4, h5, h6⟩ := hP
  refine ⟨⟨?_, ?_⟩, fun i hi => ⟨?_, ?_, ?_, ?_⟩, fun i hi => ⟨?_, ?_⟩, fun i hi => ?_, fun i hi => ?_⟩
  · show tkN M 10 1 10 8 = _
    simp [tkN, tkM, mup, mcp]; exact h1
  · show tkN M 10 1 10 9 = _
    simp [tkN, tkM, mup, mcp]; exact h2
  · show tkN M 10 1 11 i = _
    simp [tkN, tkM, mup, mcp, va_cpy, hi]; exact (h3 i hi).1
  · show tkN M 10 1 12 i = _
    simp [tkN, tkM, mup, mcp, va_cpy, hi]; exact (h3 i hi).2.1
  · show tkN M 10 1 13 i = _
    simp [tkN, tkM, mup, mcp, va_cpy, hi]; exact (h3 i hi).2.2.1
  · show tkN M 10 1 14 i = _
    simp [tkN, tkM, mup, mcp, va_cpy, hi]; exact (h3 i hi).2.2.2
  · show tkN M 10 1 15 i = _
    simp [tkN, tkM, mup, mcp, va_cpy, hi]; exact (h4 i hi).1
  · show tkN M 10 1 16 i = _
    simp [tkN, tkM, mup, mcp, va_cpy, hi]; exact (h4 i hi).2
  · show tkN M 10 1 17 i = _
    simp [tkN, tkM, mup, mcp, va_cpy, hi]; exact h5 i hi
  · show tkN M 10 1 18 i = _
    simp [tkN, tkM, mup, mcp, va_cpy, hi]; exact h6 i hi
theorem tk_back {g : Nat → Int} {M : Mem} (hP : PlO 9 g M) : Pl g (tkN M 1 10) := by
  obtain ⟨⟨h1, h2⟩, h3, h4, h5, h6⟩ := hP
  refine ⟨⟨?_, ?_⟩, fun i hi => ⟨?_, ?_, ?_, ?_⟩, fun i hi => ⟨?_, ?_⟩, fun i hi => ?_, fun i hi => ?_⟩
  · simp [tkN, tkM, mup, mcp]; exact h1
  · simp [tkN, tkM, mup, mcp]; exact h2
  · simp [tkN, tkM, mup, mcp, va_cpy, hi]; exact (h3 i hi).1
  · simp [tkN, tkM, mup, mcp, va_cpy, hi]; exact (h3 i hi).2.1
  · simp [tkN, tkM, mup, mcp, va_cpy, hi]; exact (h3 i hi).2.2.1
  · simp [tkN, tkM, mup, mcp, va_cpy, hi]; exact (h3 i hi).2.2.2
  · simp [tkN, tkM, mup, mcp, va_cpy, hi]; exact (h4 i hi).1
  · simp [tkN, tkM, mup, mcp, va_cpy, hi]; exact (h4 i hi).2
  · simp [tkN, tkM, mup, mcp, va_cpy, hi]; exact h5 i hi
  · simp [tkN, tkM, mup, mcp, va_cpy, hi]; exact h6 i hi
theorem tk_fr {M : Mem} {a b : Nat} : Fr (rg a (a + 8)) M (tkN M a b) := by
  have m : ∀ {N : Mem} {x y n : Nat}, Fr (rg a (a + 8)) M N → a ≤ y ∧ y ≤ a + 8 → Fr (rg a (a + 8)) M (mcp N x y 0 0 n) := fun {N x y n} h hy c i hc => by
    rw [mcp_ne (by have := rg_of hc; omega)]; exact h c i hc
  unfold tkN tkM
  refine ((((?_ : Fr (rg a (a + 8)) M _).up (rg_yes (by omega))).up (rg_yes (by omega))).up (rg_yes (by omega)))
  exact m (m (m (m (m (m (m (m Fr.rf (by omega)) (by omega)) (by omega)) (by omega)) (by omega)) (by omega)) (by omega)) (by omega)
theorem tk_ver (M : Mem) : tkN M 1 10 1 10 = w32 (M 1 10 + 1) := by simp [tkN, tkM, mup, mcp]
theorem pl_cpy {o : Nat} {g x : Nat → Int} {M : Mem} (h : PlO o g M) : PlO o (cpy g x) M := by
  have e : ∀ i, i < 92 → cpy g x i = g i := fun i hi => if_pos hi
  obtain ⟨⟨h1, h2⟩, h3, h4, h5, h6⟩ := h
  refine ⟨⟨?_, ?_⟩, fun i hi => ?_, fun i hi => ?_, fun i hi => ?_, fun i hi => ?_⟩
  · rw [e _ (by omega)]; exact h1
  · rw [e _ (by omega)]; exact h2
  · rw [e _ (by omega), e _ (by omega), e _ (by omega), e _ (by omega)]; exact h3 i hi
  · rw [e _ (by omega), e _ (by omega)]; exact h4 i hi
  · rw [e _ (by omega)]; exact h5 i hi
  · rw [e _ (by omega)]; exact h6 i hi
theorem wf_cpy {g x : Nat → Int} (h : WF g) : WF (cpy g x) := by
  have e : ∀ i, i < 92 → cpy g x i = g i := fun i hi => if_pos hi
  have en : nF (cpy g x) = nF g := by unfold nF; rw [e 0 (by omega)]
  have hn := h.n
  obtain ⟨h1, h2, h3, h4, h5, h6, h7, h8⟩ := h
  refine ⟨by rw [e 0 (by omega)]; exact h1, fun i hi => by rw [e _ (by omega), e _ (by omega), e _ (by omega), e _ (by omega)]; exact h2 i hi, fun i hi => ?_, fun a ha => by rw [e _ (by omega), e _ (by omega)]; exact h4 a ha, by rw [e _ (by omega)]; exact h5, by rw [e _ (by omega), e _ (by omega), e _ (by omega), e _ (by omega), e _ (by omega)]; exact h6, fun i hi => by rw [e _ (by omega)]; exact h7 i hi, fun a b ha hb hc => by rw [e _ (by omega)]; exact h8 a b ha hb (by rw [en] at hc; exact hc)⟩
  rw [en] at hi
  rw [e _ (by omega), e _ (by omega), e _ (by omega), e _ (by omega)]; exact h3 i hi
def SIm : Nat → Nat → Bool := fun c i => (decide (10 ≤ c) && decide (c ≤ 18)) || (c == 0 && i == 11)
section CLTD
variable {G : GE} {d : Nat} {M : Mem} {K : Int → Mem → Prop}
theorem c5_takeFrom {K : Mem → Prop} {a b : Nat} (ha : a = 1 ∨ a = 10) (hb : b = 1 ∨ b = 10) (h : K (tkN M a b)) : CalV G miX5_takeFrom (d + 1) [.inr (.inr (some a)), .inr (.inr (some b))] M K := by
  refine Cal.of (by decide) (Nat.le_of_ble_eq_true rfl) rfl (gX5_takeFrom_0 ha hb h)
theorem c10_image {g : Nat → Int} (hC : Cs g M) (h : ∀ M', Fr SIm M M' → Cs g M' → PlO 9 g M' → M' 0 11 = 1 → K (g 0) M') : CalI G miX10_image (d + 2) [.inr (.inr (some 0))] M K := by
  refine Cal.of (by decide) (Nat.le_of_ble_eq_true rfl) rfl (gX10_image_0 (c5_takeFrom (.inr rfl) (.inl rfl) ?_))
  have f1 : Fr SIm M (mup (tkN M 10 1) 0 11 1) := (tk_fr.mo (fun c i hc => by unfold SIm at hc; simp at hc; exact rg_no (by omega))).up (by unfold SIm; simp)
  have hC1 := hC.fr f1 (fun c i hc => by unfold NeedC at hc; unfold SIm; simp; omega)
  have hP : PlO 9 g (mup (tkN M 10 1) 0 11 1) := by
    have := tk_img hC.1.1
    unfold PlO at this ⊢
    have e : (fun c => (mup (tkN M 10 1) 0 11 1) (c + 9)) = (fun c => (tkN M 10 1) (c + 9)) := by funext c; rw [mup_ne (by omega)]
    rw [e]; exact this
  have hK := h _ f1 hC1 hP (mup_at _ _ _ _)
  rw [hC1.1.1.1.1]; exact hK
theorem c10_back {g kg : Nat → Int} (hC : Cs g M) (hv : M 1 10 ≤ 2000000000) (hk : M 0 11 ≠ 0 → PlO 9 kg M ∧ WF kg) (h1 : M 0 11 ≠ 0 → ∀ M', Fr (rg 1 9) M M' → Cs kg M' → M' 1 10 = M 1 10 + 1 → K (kg 0) M') (h0 : M 0 11 = 0 → K (-3) M) : CalI G miX10_back (d + 2) [.inr (.inr (some 0))] M K := by
  refine Cal.of (by decide) (Nat.le_of_ble_eq_true rfl) rfl (gX10_back_0 ⟨fun c => c5_takeFrom (.inl rfl) (.inr rfl) ?_, h0⟩)
  obtain ⟨hP, hw⟩ := hk c
  have hP1 := tk_back hP
  have f1 : Fr (rg 1 9) M (tkN M 1 10) := tk_fr
  have ev : tkN M 1 10 1 10 = M 1 10 + 1 := by
    have := hC.2.1
    rw [tk_ver, w32_eq (by omega) (by omega)]
  have hK := h1 c _ f1 (hC.new f1 hP1 hw (by omega)) ev
  rw [hP1.1.1]; exact hK
end CLTD
