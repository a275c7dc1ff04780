/-! the reference: isBound, bound, price, branch -/
theorem Opt.zc {n : Nat} {feas : (Nat → Int) → Prop} {K : Nat} {z z' : Nat → Int} {d : Int} (h : Opt n feas K z d) (e : ∀ k, k < K → z' k = z k) : Opt n feas K z' d :=
  ⟨h.1, by obtain ⟨φ, f1, f2, f3⟩ := h.2.1; exact ⟨φ, f1, f2, fun k hk => by rw [e k hk]; exact f3 k hk⟩, fun ψ hψ hl => h.2.2 ψ hψ (lxn_congr (fun k hk => by rw [e k hk]) hl)⟩
section REFO
variable {G : GE} {d : Nat} {M : Mem}
def SB2 : Nat → Nat → Bool := fun c i => SR c i || SB c i
theorem SB_SB2 : ∀ c i, SB2 c i = false → SB c i = false := fun c i h => by unfold SB2 at h; simp only [Bool.or_eq_false_iff] at h; exact h.2
theorem SR_SB2 : ∀ c i, SB2 c i = false → SR c i = false := fun c i h => by unfold SB2 at h; simp only [Bool.or_eq_false_iff] at h; exact h.1
theorem SB267 {g : Nat → Int} (hg : M 67 = g) : ∀ {M' : Mem}, Fr SB2 M M' → M' 67 = g := fun hf => by rw [← hg]; funext i; exact hf 67 i rfl
theorem c11_isBound {K : Int → Mem → Prop} {g : Nat → Int} (hg : M 67 = g) (hw : WF g) (h72 : ∀ s, s ≠ 0 → s < 2 ^ nF g → M 72 s = hadF g s) (h1 : bndB g = true → ∀ M', Fr SB M M' → OptM g M' → K 1 M') (h0 : bndB g = false → K 0 M) : CalI G miX11_isBound (d + 3) [.inr (.inr (some 66))] M K := by
  have hn := hw.n
  have hR := nR_lt hw
  refine Cal.of (by decide) (Nat.le_of_ble_eq_true rfl) rfl (gX11_isBound_0 ?_)
  refine c11_areInSome hg hw h72 (fun hb => n1 ?_) (fun hb => n0 (h0 hb))
  have loop : ∀ (fuel L : Nat) (M1 : Mem) (σ dv : Int) (N V T : Nat → Nat → Int) (C Rn : Nat → Nat), ch (7 + nR g) (nF g - 1) + 1 ≤ L + fuel → Hist (nF g) (nR g + 1 + nF g) 0 (nR g) (nR g) (nF g + 1) (gvR (nF g) (sR g) (hadF g)) (NmR (nF g) (nR g)) L σ dv N V T C Rn → Fr SB M M1 → TbM (nF g) (nR g) M1 dv T C Rn → CalI G miX11_comes (d + 2) [.inr (.inr (some 66))] M1 (fun x5 M4 => OkI G miX11_isBound (d + 3) K 18 [some (.inr (.inr (some 66))), some (.inl x5)] [] M4) := by
    intro fuel
    induction fuel with
    | zero =>
      intro L M1 σ dv N V T C Rn hL hist _ _
      have := hist.cnt (fun x => x) (7 + nR g) (fun x hx => by unfold NmR at hx; omega) (fun x y _ _ e => e)
      omega
    | succ fuel ih =>
      intro L M1 σ dv N V T C Rn hL hist hf hT
      have I := hist.si
      have hbd := bdT_of hn.2 I (NmR_bd hw)
      refine c11_comes (SB67 hg hf) hw hR hT (fun p hp him hleast => ?_) (fun hno => ?_)
      · refine gX11_isBound_18 ⟨fun c => absurd c (by omega), fun _ => ?_⟩
        have hex := I.goes (bounded_R hw hb) hp him
        refine c11_goes (SB67 hg hf) hw hR hT hbd rfl hp (by obtain ⟨q, _, q2, q3⟩ := hex; exact ⟨q, q2, q3⟩) (fun r0 hgo => ?_)
        have B : BP (nF g) 0 (nR g) (nR g) (nF g + 1) T C Rn p r0 := ⟨hp, him, fun c hc hi => hleast c hc hi, ⟨Nat.zero_le _, hgo.1⟩, hgo.2.1, fun r _ hr hpos => hgo.2.2 r hr hpos⟩
        have hist' := hist.step B (T' := piv T dv r0 p) (fun q c _ _ => rfl)
        have hbd' := bdT_of hn.2 hist'.si (NmR_bd hw)
        have hex2 := (SX_piv I.1 hp (show r0 < nR g + 1 + nF g by have := hgo.1; omega) hgo.2.1).2
        refine c11_turns (SB67 hg hf) hw hR hT hbd rfl rfl hgo.1 hp hbd'.2 hex2 (fun M2 f2 hT2 => ?_)
        exact ih (L + 1) M2 _ _ _ _ _ _ _ (by omega) hist' (hf.tr f2) hT2
      · refine gX11_isBound_18 ⟨fun _ => h1 hb M1 hf ?_, fun c => absurd c (by decide)⟩
        have O := (I.opt hno).congr (feasN_R hw)
        obtain ⟨a18, a19, a20, a77, a78, a79⟩ := hT
        have ez : ∀ k, k < nF g + 1 → M1 77 (8 * (nR g + k) + nF g) = T (nR g + k) (nF g) := fun k hk => a77 _ _ (by omega) (Nat.le_refl _)
        refine ⟨nR g, hR, a18, by rw [a20]; exact hbd.1, ?_, fun k hk => ?_⟩
        · rw [a20]
          exact O.zc ez
        · rw [ez k hk]
          exact ⟨O.nn (Nat.le_refl _) hk, (hbd.2 (nR g + k) (nF g) (by omega) (Nat.le_refl _)).2⟩
  refine c11_laysTable hg hw h72 (fun M1 f1 hT => ?_)
  exact loop _ 0 M1 _ _ _ _ _ _ _ (by rw [Nat.zero_add]; exact Nat.le_refl _) (Hist.zero (SI_R (sR g) (hadF g) hn.2 (fun r hr => (sel_ok hr).2.2.1))) f1 hT
def NO : Int := -9223372036854775808
noncomputable def boundR (g : Nat → Int) (x : Int) : Int := if x < 0 ∨ 1 < x ∨ bndB g = false then NO else lowR ((optP g).1 0).toNat (optP g).2.toNat x
noncomputable def priceR (g : Nat → Int) (f x : Int) : Int := if f < 0 ∨ g 0 ≤ f ∨ x < 0 ∨ 1 < x ∨ bndB g = false then NO else lowR ((optP g).1 (1 + f.toNat)).toNat (optP g).2.toNat x
theorem c11_boundAbove {K : Int → Mem → Prop} {g : Nat → Int} {R : Nat} (hg : M 67 = g) (hw : WF g) (hR : R < 128) (h18 : M 66 18 = (R : Int)) (h : K (M 77 (8 * (R + 0) + nF g)) M) : CalL G miX11_boundAbove d [.inr (.inr (some 66))] M K := by
  have hn := hw.n
  have e : M 67 0 = (nF g : Int) := by rw [hg]; exact hn.1
  refine Cal.of (by decide) (Nat.le_of_ble_eq_true rfl) rfl (gX11_boundAbove_0 ?_)
  rw [h18, e, show ((8 * (R : Int)) + (nF g : Int)).toNat = 8 * (R + 0) + nF g by omega]
  exact ⟨by omega, h⟩
theorem OptM.low {g : Nat → Int} {R : Nat} (O : Opt (nF g) (feasP g) (nF g + 1) (fun k => M 77 (8 * (R + k) + nF g)) (M 66 20)) {k : Nat} (hk : k < nF g + 1) (x : Int) : lowR (M 77 (8 * (R + k) + nF g)).toNat (M 66 20).toNat x = lowR ((optP g).1 k).toNat (optP g).2.toNat x :=
  low_opt O (Nat.le_refl _) (optP_ok O) hk x
theorem c11_lowestI {K : Int → Mem → Prop} {a b x : Int} (ha : 0 ≤ a ∧ a ≤ BND) (hb : 0 < b ∧ b ≤ BND) (h : K (lowR a.toNat b.toNat x) M) : CalL G miX11_lowest d [.inr (.inl a), .inr (.inl b), .inl x] M K := by
  have hB : BND = 197285760 := rfl
  have e1 : a = (a.toNat : Int) := by omega
  have e2 : b = (b.toNat : Int) := by omega
  rw [e1, e2]
  exact c11_lowest (by omega) (by omega) (by omega) h
theorem c11_bound {K : Int → Mem → Prop} {g : Nat → Int} {x : Int} (hg : M 67 = g) (hw : WF g) (h : ∀ M', Fr SB2 M M' → K (boundR g x) M') : CalL G miX11_bound (d + 6) [.inr (.inr (some 66)), .inl x] M K := by
  refine Cal.of (by decide) (Nat.le_of_ble_eq_true rfl) rfl (gX11_bound_0 ?_)
  refine c11_in (fun a b => n1 ?_) (fun a => n0 (kv (h M Fr.rf) (by unfold boundR; rw [if_pos (by omega)]; rfl)))
  refine c11_reckons hg hw (fun M1 f1 rk => ?_)
  refine c11_isBound (SR67 hg f1) hw (fun s p q => (rk.2 s p q).2.1) (fun hb M2 f2 ho => b1 ?_) (fun hb => b0 (kv (h M1 (f1.mo SR_SB2)) (by unfold boundR; rw [if_pos (.inr (.inr hb))]; rfl)))
  obtain ⟨R, hR, h18, h20, O, hz⟩ := ho
  have fr : Fr SB2 M M2 := (f1.mo SR_SB2).tr (f2.mo SB_SB2)
  refine c11_boundAbove (SB67 (SR67 hg f1) f2) hw hR h18 ?_
  refine c11_lowestI (hz 0 (by omega)) h20 ?_
  have hK := h M2 fr
  have hbad : ¬ (x < 0 ∨ 1 < x ∨ bndB g = false) := by rintro (q | q | q); omega; omega; rw [hb] at q; cases q
  unfold boundR at hK
  rw [if_neg hbad] at hK
  rw [OptM.low O (by omega)]; exact hK
theorem c11_price {K : Int → Mem → Prop} {g : Nat → Int} {v x : Int} (hg : M 67 = g) (hw : WF g) (h : ∀ M', Fr SB2 M M' → K (priceR g v x) M') : CalL G miX11_price (d + 6) [.inr (.inr (some 66)), .inl v, .inl x] M K := by
  have hn := hw.n
  refine Cal.of (by decide) (Nat.le_of_ble_eq_true rfl) rfl (gX11_price_0 ?_)
  refine c11_isFlight (by rw [hg]; exact hw.1) (fun a b => b1 ?_) (fun a => b0 (kv (h M Fr.rf) (by rw [hg] at a; unfold priceR; rw [if_pos (by omega)]; rfl)))
  refine c11_in (fun a2 b2 => n1 ?_) (fun a2 => n0 (kv (h M Fr.rf) (by unfold priceR; rw [if_pos (by omega)]; rfl)))
  rw [hg] at b
  refine c11_reckons hg hw (fun M1 f1 rk => ?_)
  refine c11_isBound (SR67 hg f1) hw (fun s p q => (rk.2 s p q).2.1) (fun hb M2 f2 ho => b1 ?_) (fun hb => b0 (kv (h M1 (f1.mo SR_SB2)) (by unfold priceR; rw [if_pos (.inr (.inr (.inr (.inr hb))))]; rfl)))
  obtain ⟨R, hR, h18, h20, O, hz⟩ := ho
  have fr : Fr SB2 M M2 := (f1.mo SR_SB2).tr (f2.mo SB_SB2)
  have e67 : M2 67 0 = (nF g : Int) := by rw [SB267 hg fr]; exact hn.1
  rw [h18, e67, show ((8 * (((R : Int) + 1) + v)) + (nF g : Int)).toNat = 8 * (R + (1 + v.toNat)) + nF g by omega]
  refine ⟨by omega, ?_⟩
  refine c11_lowestI (hz (1 + v.toNat) (by omega)) h20 ?_
  have hK := h M2 fr
  have hbad : ¬ (v < 0 ∨ g 0 ≤ v ∨ x < 0 ∨ 1 < x ∨ bndB g = false) := by rintro (q | q | q | q | q); omega; omega; omega; omega; rw [hb] at q; cases q
  unfold priceR at hK
  rw [if_neg hbad] at hK
  rw [OptM.low O (by omega)]; exact hK
/-- a mark changed -/
def mkG (g : Nat → Int) (f k : Nat) (m : Int) : Nat → Int := fup g (29 + (7 * f + k)) m
theorem mkG_lo {g : Nat → Int} {f k : Nat} {m : Int} {i : Nat} (h : i < 29 ∨ 78 ≤ i) (hf : f < 7) (hk : k < 7) : mkG g f k m i = g i := by unfold mkG; rw [fup_ne _ (by omega)]
theorem mkG_WF {g : Nat → Int} (hw : WF g) {f k : Nat} {m : Int} (hf : f < nF g) (hk : k < nF g) (hne : f ≠ k) (hm : 0 ≤ m ∧ m ≤ 2) : WF (mkG g f k m) := by
  have hn := hw.n
  have e : ∀ i, i < 29 ∨ 78 ≤ i → mkG g f k m i = g i := fun i h => mkG_lo h (by omega) (by omega)
  have en : nF (mkG g f k m) = nF g := by unfold nF; rw [e 0 (by omega)]
  obtain ⟨h1, h2, h3, h4, h5, h6, h7, h8⟩ := hw
  refine ⟨by rw [e 0 (by omega)]; exact h1, fun i hi => by rw [e _ (by omega), e _ (by omega), e _ (by omega), e _ (by omega)]; exact h2 i hi, fun i hi => by rw [e _ (by omega), e _ (by omega), e _ (by omega), e _ (by omega)]; exact h3 i (by rw [en] at hi; exact hi), fun a ha => by rw [e _ (by omega), e _ (by omega)]; exact h4 a ha, by rw [e _ (by omega)]; exact h5, by rw [e _ (by omega), e _ (by omega), e _ (by omega), e _ (by omega), e _ (by omega)]; exact h6, fun i hi => ?_, fun a b ha hb hc => ?_⟩
  · unfold mkG fup; split
    · exact hm
    · exact h7 i hi
  · rw [en] at hc
    unfold mkG; rw [fup_ne _ (by omega)]; exact h8 a b ha hb hc
noncomputable def branR (g : Nat → Int) (v w m x : Int) : Int := if v < 0 ∨ g 0 ≤ v ∨ w < 0 ∨ g 0 ≤ w ∨ v = w ∨ m < 1 ∨ 2 < m ∨ x < 0 ∨ 1 < x then NO else boundR (mkG g v.toNat w.toNat m) x
theorem c11_branch {K : Int → Mem → Prop} {g : Nat → Int} {v w m x : Int} (hg : M 67 = g) (hw : WF g) (h : ∀ M', Fr SB2 M M' → K (branR g v w m x) M') : CalL G miX11_branch (d + 7) [.inr (.inr (some 66)), .inl v, .inl w, .inl m, .inl x] M K := by
  have hn := hw.n
  refine Cal.of (by decide) (Nat.le_of_ble_eq_true rfl) rfl (gX11_branch_0 ?_)
  have bad : (v < 0 ∨ g 0 ≤ v ∨ w < 0 ∨ g 0 ≤ w ∨ v = w ∨ m < 1 ∨ 2 < m ∨ x < 0 ∨ 1 < x) → K (-9223372036854775808) M := fun hb => kv (h M Fr.rf) (by unfold branR; rw [if_pos hb]; rfl)
  refine c11_areTwo (by rw [hg]; exact hw.1) (fun a b a' b' c => b1 ?_) (fun a => b0 (bad (by rw [hg] at a; omega)))
  rw [hg] at b b'
  refine c11_in (fun a2 b2 => b1 ?_) (fun a2 => b0 (bad (by omega)))
  refine c11_in (fun a3 b3 => n1 ?_) (fun a3 => n0 (bad (by omega)))
  rw [w32_eq (by omega) (by omega)]
  refine c11_becomes (by omega) ?_
  have ei : ((29 + (7 * v)) + w).toNat = 29 + (7 * v.toNat + w.toNat) := by omega
  rw [ei, hg]
  have hg2 : (mset M 67 (mkG g v.toNat w.toNat m)) 67 = mkG g v.toNat w.toNat m := mset_at _ _ _
  have hw2 := mkG_WF hw (f := v.toNat) (k := w.toNat) (m := m) (by omega) (by omega) (by omega) (by omega)
  refine c11_bound hg2 hw2 (fun M2 f2 => ⟨by omega, ?_⟩)
  have hK := h (mup M2 67 (29 + (7 * v.toNat + w.toNat)) (g (29 + (7 * v.toNat + w.toNat)))) (fun c i hci => ?_)
  · unfold branR at hK
    rw [if_neg (by omega)] at hK; exact hK
  · by_cases e : c = 67 ∧ i = 29 + (7 * v.toNat + w.toNat)
    · rw [e.1, e.2, mup_at, hg]
    · have e1 : (mup M2 67 (29 + (7 * v.toNat + w.toNat)) (g (29 + (7 * v.toNat + w.toNat)))) c i = M2 c i := by
        unfold mup; split
        · split
          · exact absurd ⟨by assumption, by assumption⟩ e
          · rfl
        · rfl
      rw [e1, f2 c i hci]
      unfold mset; split
      · rename_i h67
        subst h67
        rw [fup_ne _ (fun q => e ⟨rfl, q⟩), hg]
      · rfl
end REFO
