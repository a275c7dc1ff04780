/-! the class: calls that ask, on prices, branches, the tree -/
def SM : Nat → Nat → Bool := fun c i => SFc c i || (decide (61 ≤ c) && decide (c ≤ 64))
section CLSZ
variable {G : GE} {d : Nat} {M : Mem} {K : Int → Mem → Prop}
theorem c10_bound {g : Nat → Int} {x : Int} (h25 : P25) (hC : Cs g M) (h : AskI g M (boundR g x) K) : CalL G miX10_bound (d + 7) [.inr (.inr (some 0)), .inl x] M K := by
  have hw := hC.1.2
  have hn := hw.n
  refine Cal.of (by decide) (Nat.le_of_ble_eq_true rfl) rfl (gX10_bound_0 ?_)
  refine c10_isHalf (fun a b => b1 ?_) (fun a => b0 (kv (h M Fr.rf hC) (by unfold boundR; rw [if_pos (by omega)]; rfl)))
  refine c10_isPriced h25 hC (fun M1 f1 hC1 wk hO => ?_)
  have hK := h M1 f1 hC1
  cases hb : bndB g with
  | false =>
    unfold boundR at hK
    rw [if_pos (.inr (.inr hb))] at hK
    exact n0 hK
  | true =>
    have hbad : ¬ (x < 0 ∨ 1 < x ∨ bndB g = false) := by rintro (q | q | q); omega; omega; rw [hb] at q; cases q
    unfold boundR at hK
    rw [if_neg hbad] at hK
    exact n1 (c8_lowest (q := g) (k := nF g + 1) (j := 0) (hO hb) rfl (by omega) (Nat.le_refl _) hn.2 (optP_of hw hb) hK)
theorem c10_price {g : Nat → Int} {v x : Int} (h25 : P25) (hC : Cs g M) (h : AskI g M (priceR g v x) K) : CalL G miX10_price (d + 7) [.inr (.inr (some 0)), .inl v, .inl x] M K := by
  have hw := hC.1.2
  have hn := hw.n
  have e8 := hC.n
  refine Cal.of (by decide) (Nat.le_of_ble_eq_true rfl) rfl (gX10_price_0 ?_)
  refine c5_hasFlight (fun a b => b1 ?_) (fun a => b0 (kv (h M Fr.rf hC) (by unfold priceR; rw [if_pos (by omega)]; rfl)))
  refine c10_isHalf (fun a2 b2 => b1 ?_) (fun a => b0 (kv (h M Fr.rf hC) (by unfold priceR; rw [if_pos (by omega)]; rfl)))
  refine c10_isPriced h25 hC (fun M1 f1 hC1 wk hO => ?_)
  have hK := h M1 f1 hC1
  cases hb : bndB g with
  | false =>
    unfold priceR at hK
    rw [if_pos (.inr (.inr (.inr (.inr hb))))] at hK
    exact n0 hK
  | true =>
    have hbad : ¬ (v < 0 ∨ g 0 ≤ v ∨ x < 0 ∨ 1 < x ∨ bndB g = false) := by rintro (q | q | q | q | q); omega; omega; omega; omega; rw [hb] at q; cases q
    unfold priceR at hK
    rw [if_neg hbad] at hK
    refine n1 (c8_lowest (q := g) (k := nF g + 1) (j := 1 + v.toNat) (hO hb) ?_ (by omega) (Nat.le_refl _) hn.2 (optP_of hw hb) hK)
    rw [w32_eq (by omega) (by omega)]; omega
/-- prices stale, branches tried -/
theorem cs_branch {g : Nat → Int} {M1 M2 : Mem} (hC : Cs g M1) (hf : Fr SHB (mup M1 0 14 (-1)) M2) : Cs g M2 := by
  have e : ∀ c i, ¬ (c = 0 ∧ i = 14) → c < 34 ∨ c = 38 ∨ 45 < c → M2 c i = M1 c i := fun c i h1 h2 => by
    rw [hf c i (by unfold SHB; simp; omega)]
    unfold mup; split
    · rw [if_neg (by omega)]
    · rfl
  have e14 : M2 0 14 = -1 := by rw [hf 0 14 (by unfold SHB; simp), mup_at]
  have ev := e 1 10 (by omega) (by omega)
  have e13 := e 0 13 (by omega) (by omega)
  have e15 := e 0 15 (by omega) (by omega)
  have fr : Fr (fun c i => !(decide (¬ (c = 0 ∧ i = 14) ∧ (c < 34 ∨ c = 38 ∨ 45 < c)))) M1 M2 := fun c i hc => by
    simp only [Bool.not_eq_false', decide_eq_true_eq] at hc
    exact e c i hc.1 hc.2
  obtain ⟨h1, h2, h3, h4, h5⟩ := hC
  refine ⟨⟨h1.1.fr fr (fun c i a b => by simp; omega), h1.2⟩, by rw [e13, e14, e15, ev]; omega, fun z => ?_, fun z => ?_, fun z => ?_⟩
  · rw [e13, ev] at z; exact (h3 z).fr fr (fun c i hc => by simp; omega)
  · rw [e14, ev] at z; omega
  · rw [e15, ev] at z; exact (h5 z).fr fr (fun c i hc => by simp; omega)
theorem c10_branch {g : Nat → Int} {v w m x : Int} (h25 : P25) (hC : Cs g M) (h : AskI g M (branR g v w m x) K) : CalL G miX10_branch (d + 7) [.inr (.inr (some 0)), .inl v, .inl w, .inl m, .inl x] M K := by
  have hw := hC.1.2
  have hn := hw.n
  have e8 := hC.n
  have bad : (v < 0 ∨ g 0 ≤ v ∨ w < 0 ∨ g 0 ≤ w ∨ v = w ∨ m < 1 ∨ 2 < m ∨ x < 0 ∨ 1 < x) → K (-9223372036854775808) M := fun hb => kv (h M Fr.rf hC) (by unfold branR; rw [if_pos hb]; rfl)
  refine Cal.of (by decide) (Nat.le_of_ble_eq_true rfl) rfl (gX10_branch_0 ?_)
  refine c5_areTwo (fun a b a2 b2 c => b1 ?_) (fun a => b0 (bad (by omega)))
  refine ⟨fun c2 => bad (by omega), fun c2 => ⟨fun c3 => bad (by omega), fun c3 => ?_⟩⟩
  refine c10_isHalf (fun a3 b3 => n1 ?_) (fun a3 => n0 (bad (by omega)))
  refine c10_refresh hC (fun M1 f1 hC1 wk => ?_)
  have f2 : Fr (fun c i => c == 0 && i == 14) M1 (mup M1 0 14 (-1)) := Fr.up1 (by simp)
  have hP2 : Pl g (mup M1 0 14 (-1)) := pl_mup hC1.1.1 (.inr rfl) _
  have hN2 : NetM g (mup M1 0 14 (-1)) := wk.1.fr f2 (fun c i a b => by simp; omega)
  have hw2 := mkG_WF hw (f := v.toNat) (k := w.toNat) (m := m) (by omega) (by omega) (by omega) (by omega)
  have hn2 := hw2.n
  have sf : ∀ M2, Fr SHB (mup M1 0 14 (-1)) M2 → Fr SFc M M2 := fun M2 f3 => (f1.up (SFc_yes (by omega))).tr (f3.mo (fun c i hc => by have := SFc_of hc; unfold SHB; simp; omega))
  have eR : branR g v w m x = boundR (mkG g v.toNat w.toNat m) x := by unfold branR; rw [if_neg (by omega)]
  refine c0_hasBoundWith (f := v.toNat) (k := w.toNat) h25 hP2 hN2 hw (by omega) (by omega) (by omega) (by omega) (by omega) (by omega) (fun hb M2 f3 hO => ?_) (fun hb M2 f3 => ?_)
  · have hK := h M2 (sf M2 f3) (cs_branch hC1 f3)
    rw [eR] at hK
    have hbad : ¬ (x < 0 ∨ 1 < x ∨ bndB (mkG g v.toNat w.toNat m) = false) := by rintro (q | q | q); omega; omega; rw [hb] at q; cases q
    unfold boundR at hK
    rw [if_neg hbad] at hK
    exact b1 (c8_lowest (k := 1) (j := 0) hO rfl (by omega) (by omega) hn2.2 (optP_of hw2 hb) hK)
  · have hK := h M2 (sf M2 f3) (cs_branch hC1 f3)
    rw [eR] at hK
    unfold boundR at hK
    rw [if_pos (.inr (.inr hb))] at hK
    exact b0 hK
theorem c10_tree {g : Nat → Int} {x : Int} (h25 : P25) (hC : Cs g M) (h : AskI g M (treeR g x) K) : CalI G miX10_tree (d + 48) [.inr (.inr (some 0)), .inl x] M K := by
  have hw := hC.1.2
  have hn := hw.n
  refine Cal.of (d := d + 48) (by decide) (Nat.le_of_ble_eq_true rfl) rfl (gX10_tree_0 ?_)
  refine c10_isHalf (fun a b => n1 ?_) (fun a => n0 (kv (h M Fr.rf hC) (by unfold treeR; rw [if_pos (by omega)])))
  have hbad : ¬ (x < 0 ∨ 1 < x) := by omega
  have fin : ∀ M2, Fr SFc M M2 → Cs g M2 → TrM g M2 → OkI G miX10_tree (d + 48) K 51 [some (.inr (.inr (some 0))), some (.inl x)] [] M2 := fun M2 f2 hC2 ht => by
    have hK := h M2 f2 hC2
    unfold treeR at hK
    rw [if_neg hbad] at hK
    refine gX10_tree_51 ?_
    rcases ht with ⟨t5, ⟨t1, t4⟩ | ⟨t1, t4⟩⟩
    · have hb := growF_bd 42 g 0 0 (Nat.le_refl _) (by decide)
      have := hb.2.2.1 t1
      refine c0_isDear (fun z => absurd z (by rw [t4]; omega)) (fun _ => b0 ⟨fun c => ?_, fun c => ?_⟩)
      · rw [t1, if_pos rfl, if_neg c] at hK; rw [t5]; exact hK
      · rw [t1, if_pos rfl, if_pos c] at hK; rw [t4]; exact hK
    · rw [t1, if_neg (by decide)] at hK
      refine c0_isDear (fun _ => b1 hK) (fun z => absurd z (by omega))
  refine c10_refresh hC (fun M1 f1 hC1 wk => ⟨fun c => fin M1 f1 hC1 (hC1.2.2.2.2 c), fun c => ?_⟩)
  have f2 : Fr (fun c i => c == 0 && i == 14) M1 (mup M1 0 14 (-1)) := Fr.up1 (by simp)
  have hP2 : Pl g (mup M1 0 14 (-1)) := pl_mup hC1.1.1 (.inr rfl) _
  have hN2 : NetM g (mup M1 0 14 (-1)) := wk.1.fr f2 (fun c i a b => by simp; omega)
  refine c0_grow h25 hP2 hN2 hw (fun M2 f3 hv => ?_)
  have e : ∀ c i, ¬ (c = 0 ∧ (i = 14 ∨ i = 15)) → c < 34 ∨ 45 < c → (mup M2 0 15 (M2 1 10)) c i = M1 c i := fun c i h1 h2 => by
    have q1 : (mup M2 0 15 (M2 1 10)) c i = M2 c i := by
      unfold mup; split
      · rw [if_neg (by omega)]
      · rfl
    rw [q1, fr_rg f3 (by omega)]
    unfold mup; split
    · rw [if_neg (by omega)]
    · rfl
  have em : M2 1 10 = M1 1 10 := by rw [fr_rg f3 (by omega), mup_ne (by decide)]
  have e14 : (mup M2 0 15 (M2 1 10)) 0 14 = -1 := by rw [mup_at_ne (by decide), fr_rg f3 (by omega), mup_at]
  have ev := e 1 10 (by omega) (by omega)
  have e13 := e 0 13 (by omega) (by omega)
  have fr : Fr (fun c i => !(decide (¬ (c = 0 ∧ (i = 14 ∨ i = 15)) ∧ (c < 34 ∨ 45 < c)))) M1 (mup M2 0 15 (M2 1 10)) := fun c i hc => by
    simp only [Bool.not_eq_false', decide_eq_true_eq] at hc
    exact e c i hc.1 hc.2
  have tr : TrM g (mup M2 0 15 (M2 1 10)) := by
    unfold TrM
    rw [mup_ne (by decide)]
    refine ⟨hv.2.1, ?_⟩
    rcases hv.2.2 with q | ⟨q1, m, q2, q3, -⟩
    · exact .inl q
    · exact .inr ⟨q1, by omega⟩
  have f4 : Fr SFc M (mup M2 0 15 (M2 1 10)) := ((f1.up (SFc_yes (by omega))).tr (SFc_rg f3 (by omega))).up (SFc_yes (by omega))
  refine fin _ f4 ?_ tr
  obtain ⟨h1, h2, h3, h4, h5⟩ := hC1
  refine ⟨⟨h1.1.fr fr (fun c i a b => by simp; omega), h1.2⟩, by rw [e13, e14, mup_at, ev, em]; omega, fun z => ?_, fun z => ?_, fun _ => tr⟩
  · rw [e13, ev] at z; exact (h3 z).fr fr (fun c i hc => by simp; omega)
  · rw [e14, ev] at z; omega
end CLSZ
