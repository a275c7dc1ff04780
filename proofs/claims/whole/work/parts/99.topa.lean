/-! both sides on one memory -/
def BPo (g kg t so sz : Nat → Int) (hs : Int) (m : Nat) : Prop := WF g ∧ (hs ≠ 0 → WF kg) ∧ m ≤ 60 ∧ (∀ i, i < m → 0 ≤ t i ∧ t i ≤ 255) ∧ shW so sz
def BC (n : Nat) (g kg t so sz it : Nat → Int) (hs : Int) (m : Nat) (M : Mem) : Prop := Cs g M ∧ M 1 10 ≤ 60 * (n : Int) ∧ (M 0 11 = hs ∧ (hs ≠ 0 → PlO 9 kg M)) ∧ (M 58 2 = (m : Int) ∧ ∀ i, i < m → M 59 i = t i) ∧ (M 62 = so ∧ M 63 = sz ∧ M 64 = it)
def BR (g kg t so sz it : Nat → Int) (hs : Int) (m : Nat) (M : Mem) : Prop := M 67 = g ∧ M 68 = kg ∧ M 66 2 = hs ∧ (M 66 39 = (m : Int) ∧ ∀ i, i < m → M 92 i = t i) ∧ (M 80 = so ∧ M 81 = sz ∧ M 82 = it) ∧ wdM M ∧ wtM M
def Bo (n : Nat) (M : Mem) : Prop := ∃ (g kg t so sz it : Nat → Int) (hs : Int) (m : Nat), BPo g kg t so sz hs m ∧ BC n g kg t so sz it hs m M ∧ BR g kg t so sz it hs m M
def Up (M M1 : Mem) : Prop := ∀ c i, 66 ≤ c → M1 c i = M c i
def Dn (M M1 : Mem) : Prop := ∀ c i, c ≤ 65 → M1 c i = M c i
def RefOK (S : Nat → Nat → Bool) : Prop := ∀ c i, (c ≤ 65 ∨ c = 67 ∨ c = 68 ∨ c = 66 ∧ (i = 2 ∨ i = 39) ∨ 80 ≤ c ∧ c ≤ 82 ∨ 92 ≤ c ∧ c ≤ 94) → S c i = false
theorem plO_fr {o : Nat} {g : Nat → Int} {M M' : Mem} (h : PlO o g M) (e : ∀ c i, o + 1 ≤ c → c ≤ o + 9 → M' c i = M c i) : PlO o g M' := by
  unfold PlO at h ⊢
  refine h.fr (S := fun c _ => !(decide (1 ≤ c) && decide (c ≤ 9))) (M' := fun c => M' (c + o)) (fun c i hc => e (c + o) i ?_ ?_) (fun c i h1 h2 => by simp; omega)
  · simp at hc; omega
  · simp at hc; omega
section TOPA
variable {n : Nat} {g kg t so sz it : Nat → Int} {hs : Int} {m : Nat} {M M1 M2 : Mem}
theorem fr_up {S : Nat → Nat → Bool} (f : Fr S M M1) (hS : ∀ c i, 66 ≤ c → S c i = false) : Up M M1 := fun c i h => f c i (hS c i h)
theorem BC.one (hc : BC n g kg t so sz it hs m M) : BC (n + 1) g kg t so sz it hs m M := ⟨hc.1, by have := hc.2.1; omega, hc.2.2⟩
/-- the class's side, where only Cs is new -/
theorem BC.gen {S : Nat → Nat → Bool} {g' : Nat → Int} {n' : Nat} (hc : BC n g kg t so sz it hs m M) (f : Fr S M M1) (hS : ∀ c i, c = 0 ∧ i = 11 ∨ 10 ≤ c ∧ c ≤ 18 ∨ c = 58 ∧ i = 2 ∨ c = 59 ∨ 62 ≤ c ∧ c ≤ 64 → S c i = false) (hC : Cs g' M1) (hv : M1 1 10 ≤ 60 * (n' : Int)) : BC n' g' kg t so sz it hs m M1 := by
  obtain ⟨_, _, ⟨h3, h3'⟩, ⟨h4, h4'⟩, h5, h6, h7⟩ := hc
  refine ⟨hC, hv, ⟨by rw [f 0 11 (hS _ _ (by omega))]; exact h3, fun z => plO_fr (h3' z) (fun c i h1 h2 => f c i (hS _ _ (by omega)))⟩, ⟨by rw [f 58 2 (hS _ _ (by omega))]; exact h4, fun i hi => by rw [f 59 i (hS _ _ (by omega))]; exact h4' i hi⟩, ?_, ?_, ?_⟩
  · rw [← h5]; funext i; exact f 62 i (hS _ _ (by omega))
  · rw [← h6]; funext i; exact f 63 i (hS _ _ (by omega))
  · rw [← h7]; funext i; exact f 64 i (hS _ _ (by omega))
theorem BC.ask (hc : BC n g kg t so sz it hs m M) (f : Fr SFc M M1) (hC : Cs g M1) : BC n g kg t so sz it hs m M1 :=
  hc.gen f (fun c i h => SFc_no (by omega)) hC (by rw [f 1 10 (SFc_no (by omega))]; exact hc.2.1)
theorem BC.dn (hc : BC n g kg t so sz it hs m M1) (u : Dn M1 M2) : BC n g kg t so sz it hs m M2 := by
  have f : Fr (fun c _ => decide (66 ≤ c)) M1 M2 := fun c i h => u c i (by simp at h; omega)
  exact hc.gen f (fun c i h => by simp; omega) (hc.1.fr f (fun c i h => by unfold NeedC at h; simp; omega)) (by rw [f 1 10 (by decide)]; exact hc.2.1)
theorem BR.up (hr : BR g kg t so sz it hs m M) (u : Up M M1) : BR g kg t so sz it hs m M1 := by
  have e : ∀ c, 66 ≤ c → M1 c = M c := fun c hc => funext fun i => u c i hc
  obtain ⟨h1, h2, h3, h4, h5, h6, h7⟩ := hr
  unfold BR wdM wtM
  rw [e 67 (by decide), e 68 (by decide), e 66 (by decide), e 92 (by decide), e 80 (by decide), e 81 (by decide), e 82 (by decide), e 93 (by decide), e 94 (by decide)]
  exact ⟨h1, h2, h3, h4, h5, h6, h7⟩
theorem BR.ask {S : Nat → Nat → Bool} (hr : BR g kg t so sz it hs m M1) (f : Fr S M1 M2) (hS : RefOK S) : BR g kg t so sz it hs m M2 := by
  have e : ∀ c, c = 67 ∨ c = 68 ∨ 80 ≤ c ∧ c ≤ 82 ∨ 92 ≤ c ∧ c ≤ 94 → M2 c = M1 c := fun c hc => funext fun i => f c i (hS c i (by omega))
  obtain ⟨h1, h2, h3, h4, h5, h6, h7⟩ := hr
  unfold BR wdM wtM
  rw [e 67 (by decide), e 68 (by decide), f 66 2 (hS _ _ (by decide)), f 66 39 (hS _ _ (by decide)), e 92 (by decide), e 80 (by decide), e 81 (by decide), e 82 (by decide), e 93 (by decide), e 94 (by decide)]
  exact ⟨h1, h2, h3, h4, h5, h6, h7⟩
theorem ref_dn {S : Nat → Nat → Bool} (f : Fr S M1 M2) (hS : RefOK S) : Dn M1 M2 := fun c i h => f c i (hS c i (by omega))
theorem SFc_up (f : Fr SFc M M1) : Up M M1 := fun c i h => f c i (SFc_no (by omega))
theorem bo_ask {S : Nat → Nat → Bool} (hp : BPo g kg t so sz hs m) (hc : BC n g kg t so sz it hs m M) (hr : BR g kg t so sz it hs m M) (f1 : Fr SFc M M1) (hC : Cs g M1) (f2 : Fr S M1 M2) (hS : RefOK S) : Bo (n + 1) M2 :=
  ⟨g, kg, t, so, sz, it, hs, m, hp, ((hc.ask f1 hC).dn (ref_dn f2 hS)).one, (hr.up (SFc_up f1)).ask f2 hS⟩
theorem ok_SR : RefOK SR := fun c i h => by unfold SR; simp; omega
theorem ok_SV : RefOK SV := fun c i h => by unfold SV SR SF; simp; omega
theorem ok_SW : RefOK SW := fun c i h => by unfold SW SV SR SF SL; simp; omega
theorem ok_SB2 : RefOK SB2 := fun c i h => by unfold SB2 SR SB; simp; omega
theorem ok_ST : RefOK ST := fun c i h => by unfold ST SV SR SF SB; simp; omega
theorem ok_SY : RefOK SY := fun c i h => by unfold SY; simp; omega
theorem ok_no : RefOK (fun _ _ => false) := fun _ _ _ => rfl
end TOPA
abbrev OkW (G : GE) (d : Nat) (K : Int → Mem → Prop) (pc : Nat) (v3 : Int) (M : Mem) : Prop := Ok G miL_law (d + 61) 97 11937 (QI K) pc [some (.inr (.inr (some 1001))), some (.inr (.inr (some 0))), some (.inr (.inr (some 66))), some (.inl v3)] [] lay0 M 97 11937
