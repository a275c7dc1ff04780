/-! the class: calls that ask, on prices told, labels, who is late -/
theorem cm_all (it : Nat → Int) (v : Nat) (g : Nat → Int) : cmF it v (allF g) (nF g) = sumT (fun f => it (40 * v + f)) (nF g) := by
  unfold cmF
  refine sumT_congr (fun f hf => ?_)
  have : (allF g).testBit f = true := by unfold allF; rw [Nat.testBit_two_pow_sub_one]; simpa using hf
  unfold bitI; rw [if_pos this]; omega
theorem sumT_bd2 {p : Nat → Int} : ∀ k, (∀ f, f < k → -999999 ≤ p f ∧ p f ≤ 999999) → -999999 * (k : Int) ≤ sumT p k ∧ sumT p k ≤ 999999 * (k : Int) := by
  intro k
  induction k with
  | zero => intro _; exact ⟨Int.le_refl _, Int.le_refl _⟩
  | succ k ih =>
    intro h
    have a := ih (fun f hf => h f (by omega))
    have b := h k (by omega)
    simp only [sumT]; omega
/-- where the sheets stand -/
def ShC (M : Mem) : Prop := shW (M 62) (M 63)
theorem shc_same {M M' : Mem} (hf : Fr SFc M M') : M' 62 = M 62 ∧ M' 63 = M 63 ∧ M' 64 = M 64 := ⟨funext fun i => hf 62 i (SFc_no (by omega)), funext fun i => hf 63 i (SFc_no (by omega)), funext fun i => hf 64 i (SFc_no (by omega))⟩
section CLTA
variable {G : GE} {d : Nat} {M : Mem}
theorem c10_sumOfTold {K : Int → Mem → Prop} {g p : Nat → Int} (hP : Pl g M) (hw : WF g) (h65 : ∀ f, f < nF g → M 65 f = p f) (hp : ∀ f, f < nF g → -999999 ≤ p f ∧ p f ≤ 999999) (h : K (sumT p (nF g)) M) : CalL G miX10_sumOfTold d [.inr (.inr (some 0))] M K := by
  have hn := hw.n
  have e8 := hP.n hw
  refine Cal.of (by decide) (Nat.le_of_ble_eq_true rfl) rfl (gX10_sumOfTold_0 ?_)
  have key := dn (P := fun k => OkL G miX10_sumOfTold d K 4 [some (.inr (.inr (some 0))), some (.inr (.inl (sumT p k))), none, some (.inl (k : Int))] [] M) (nF g) ?_ (fun k hk ih => ?_) 0 (Nat.zero_le _)
  · exact key
  · exact gX10_sumOfTold_4 ⟨fun _ => h, fun c => absurd c (by omega)⟩
  · refine gX10_sumOfTold_4 ⟨fun c => absurd c (by omega), fun _ => ⟨by omega, ?_⟩⟩
    have a := sumT_bd2 k (fun f hf => hp f (by omega))
    have b := hp k hk
    rw [Int.toNat_natCast, h65 k hk, w64_eq (by omega) (by omega), w32n (by omega)]
    exact ih
variable {K : Int → Mem → Prop}
theorem c10_proves {g : Nat → Int} {v n x : Int} (h25 : P25) (hC : Cs g M) (hS : ShC M) (h : AskI g M (prvR g (M 62) (M 63) (M 64) v n x) K) : CalI G miX10_proves (d + 7) [.inr (.inr (some 0)), .inl v, .inl n, .inl x] M K := by
  have hw := hC.1.2
  have hn := hw.n
  have bad : (v < 0 ∨ 3 < v ∨ n < 1 ∨ 99 < n ∨ x < 0 ∨ 1 < x) → K (-2) M := fun hb => kv (h M Fr.rf hC) (by unfold prvR; rw [if_pos hb])
  refine Cal.of (by decide) (Nat.le_of_ble_eq_true rfl) rfl (gX10_proves_0 ?_)
  refine c7_isSheet (fun a b => b1 ?_) (fun a => b0 (bad (by omega)))
  refine ⟨fun c => bad (by omega), fun c => ⟨fun c2 => bad (by omega), fun c2 => ?_⟩⟩
  refine c10_isHalf (fun a3 b3 => n1 ?_) (fun a3 => n0 (bad (by omega)))
  have hb : ¬ (v < 0 ∨ 3 < v ∨ n < 1 ∨ 99 < n ∨ x < 0 ∨ 1 < x) := by omega
  obtain ⟨s, hs⟩ : ∃ s : Nat, v = (s : Int) := ⟨v.toNat, by omega⟩
  subst hs
  refine c10_takePrices hC.1.1 hw hS rfl (by omega) (fun q hq => ?_)
  have f1 : Fr (rg 65 65) M (mset M 65 q) := Fr.rf.ms (fun _ => rg_yes (by omega))
  have hC1 := cs_rg hC f1 (by omega)
  have fs : Fr SFc M (mset M 65 q) := SFc_rg f1 (by omega)
  have e65 : ∀ f, (mset M 65 q) 65 f = q f := fun f => by rw [mset_at]
  generalize mset M 65 q = M1 at *
  refine ⟨fun c3 => ?_, fun c3 => ?_⟩
  · have hp := twR_0 c3
    have hq' := hq c3
    refine c10_refreshD hC1 (fun M2 f2 hC2 wk => ?_)
    have fs2 : Fr SFc M M2 := fs.tr (SFd_c f2)
    have hCq : Cq 28 g g M2 := ⟨⟨hC2.1.1, wk.2.1⟩, hw, hw, ag_rf⟩
    have h65 : ∀ f, f < nF g → M2 65 f = (fun f => M 64 (40 * s + f)) f := fun f hf => by
      rw [f2 65 f (SFd_no (by omega)), e65, hq' f hf]
    have hpb : ∀ f, f < nF g → -999999 ≤ (fun f => M 64 (40 * s + f)) f ∧ (fun f => M 64 (40 * s + f)) f ≤ 999999 := fun f hf => by
      have := hp f hf
      show -999999 ≤ M 64 (40 * s + f) ∧ M 64 (40 * s + f) ≤ 999999
      omega
    have hU : fdI ((List.range (2 ^ nF g)).find? (unfB2 g (fun f => M 64 (40 * s + f)) n)) = unfR g (M 64) s n := rfl
    refine c1_firstUnfair (.inl rfl) hCq h65 hpb ⟨by omega, by omega⟩ ?_
    rw [hU]
    have no : ∀ M3, Fr SFc M M3 → Cs g M3 → x ≠ 0 → ¬ (unfR g (M 64) s n = -1 ∧ bndB g = true ∧ cmF (M 64) s (allF g) (nF g) * (optP g).2 = (optP g).1 0 * n) → K 0 M3 := fun M3 f3 h3 hx hno => by
      have hK := h M3 f3 h3
      unfold prvR at hK
      rw [if_neg hb, Int.toNat_natCast, if_neg (fun z => z c3), if_neg hx, if_neg hno] at hK
      exact hK
    refine ⟨fun c4 => ⟨fun c5 => gX10_proves_106 ⟨fun _ => no M2 fs2 hC2 c4 (fun z => c5 z.1), fun z => absurd rfl z⟩, fun c5 => ?_⟩, fun c4 => ?_⟩
    · refine c10_isPricedD h25 hC2 (fun M3 f3 hC3 wk3 hO => ?_)
      have fs3 : Fr SFc M M3 := fs2.tr (SFd_c f3)
      cases hbd : bndB g with
      | false => exact b0 (gX10_proves_106 ⟨fun _ => no M3 fs3 hC3 c4 (fun z => by rw [hbd] at z; exact absurd z.2.1 (by decide)), fun z => absurd rfl z⟩)
      | true =>
        refine b1 (c10_sumOfTold (p := fun f => M 64 (40 * s + f)) hC3.1.1 hw (fun f hf => by rw [f3 65 f (SFd_no (by omega))]; exact h65 f hf) hpb ?_)
        have sb := sumT_bd2 (nF g) hpb
        have hn7 := hn.2
        refine c8_boundIs (q := g) (k := nF g + 1) (hO hbd) ⟨by omega, Nat.le_refl _⟩ hn.2 (optP_of hw hbd) (by omega) (by omega) (fun ee => b1 ?_) (fun ee => b0 (no M3 fs3 hC3 c4 (fun z => ee (by rw [← cm_all]; exact z.2.2))))
        have hK := h M3 fs3 hC3
        unfold prvR at hK
        rw [if_neg hb, Int.toNat_natCast, if_neg (fun z => z c3), if_neg c4, if_pos ⟨c5, hbd, by rw [cm_all]; exact ee⟩] at hK
        exact hK
    · have hK := h M2 fs2 hC2
      unfold prvR at hK
      rw [if_neg hb, Int.toNat_natCast, if_neg (fun z => z c3), if_pos c4] at hK
      exact hK
  · have hK := h M1 fs hC1
    unfold prvR at hK
    rw [if_neg hb, Int.toNat_natCast, if_pos c3] at hK
    exact hK
theorem c10_labels {g : Nat → Int} {v x : Int} (hC : Cs g M) (hS : ShC M) (h : AskI g M (labR g (M 62) (M 63) (M 64) v x) K) : CalI G miX10_labels (d + 6) [.inr (.inr (some 0)), .inl v, .inl x] M K := by
  have hw := hC.1.2
  have hn := hw.n
  have bad : (v < 0 ∨ 3 < v ∨ x < 0 ∨ 1 < x) → K (-2) M := fun hb => kv (h M Fr.rf hC) (by unfold labR; rw [if_pos hb])
  refine Cal.of (by decide) (Nat.le_of_ble_eq_true rfl) rfl (gX10_labels_0 ?_)
  refine c7_isSheet (fun a b => b1 ?_) (fun a => b0 (bad (by omega)))
  refine c10_isHalf (fun a3 b3 => n1 ?_) (fun a3 => n0 (bad (by omega)))
  have hb : ¬ (v < 0 ∨ 3 < v ∨ x < 0 ∨ 1 < x) := by omega
  obtain ⟨s, hs⟩ : ∃ s : Nat, v = (s : Int) := ⟨v.toNat, by omega⟩
  subst hs
  refine c10_takePrices hC.1.1 hw hS rfl (by omega) (fun q hq => ?_)
  have f1 : Fr (rg 65 65) M (mset M 65 q) := Fr.rf.ms (fun _ => rg_yes (by omega))
  have hC1 := cs_rg hC f1 (by omega)
  have fs : Fr SFc M (mset M 65 q) := SFc_rg f1 (by omega)
  have e65 : ∀ f, (mset M 65 q) 65 f = q f := fun f => by rw [mset_at]
  generalize mset M 65 q = M1 at *
  refine ⟨fun c3 => ?_, fun c3 => ?_⟩
  · have hp := twR_0 c3
    have hq' := hq c3
    refine c10_refreshD hC1 (fun M2 f2 hC2 wk => ?_)
    have fs2 : Fr SFc M M2 := fs.tr (SFd_c f2)
    have hpr : prOK g (fun f => M 64 (40 * s + f)) := fun f hf => hp f hf
    refine c3_workOut (p := fun f => M 64 (40 * s + f)) hC2.1.1 wk.1 hw hpr (fun f hf => by rw [f2 65 f (SFd_no (by omega)), e65, hq' f hf]) (fun M3 f3 l3 => ?_)
    have hK := h M3 (fs2.tr (SFc_rg f3 (by omega))) (cs_rg hC2 f3 (by omega))
    unfold labR at hK
    rw [if_neg hb, Int.toNat_natCast, if_neg (fun z => z c3)] at hK
    refine ⟨fun c => ?_, fun c => c3_keptCount hw l3 ?_⟩
    · rw [if_neg c] at hK; rw [lbR_drop hw l3]; exact hK
    · rw [if_pos c] at hK; exact hK
  · have hK := h M1 fs hC1
    unfold labR at hK
    rw [if_neg hb, Int.toNat_natCast, if_pos c3] at hK
    exact hK
theorem c10_way {g : Nat → Int} {v : Int} (hC : Cs g M) (hS : ShC M) (h : AskI g M (wayR g (M 62) (M 63) (M 64) v) K) : CalL G miX10_way (d + 6) [.inr (.inr (some 0)), .inl v] M K := by
  have hw := hC.1.2
  have hn := hw.n
  refine Cal.of (by decide) (Nat.le_of_ble_eq_true rfl) rfl (gX10_way_0 ?_)
  refine c7_isSheet (fun a b => b1 ?_) (fun a => b0 (kv (h M Fr.rf hC) (by unfold wayR; rw [if_pos (by omega)]; rfl)))
  have hb : ¬ (v < 0 ∨ 3 < v) := by omega
  obtain ⟨s, hs⟩ : ∃ s : Nat, v = (s : Int) := ⟨v.toNat, by omega⟩
  subst hs
  refine c10_takePrices hC.1.1 hw hS rfl (by omega) (fun q hq => ?_)
  have f1 : Fr (rg 65 65) M (mset M 65 q) := Fr.rf.ms (fun _ => rg_yes (by omega))
  have hC1 := cs_rg hC f1 (by omega)
  have fs : Fr SFc M (mset M 65 q) := SFc_rg f1 (by omega)
  have e65 : ∀ f, (mset M 65 q) 65 f = q f := fun f => by rw [mset_at]
  generalize mset M 65 q = M1 at *
  refine ⟨fun c3 => ?_, fun c3 => ?_⟩
  · have hp := twR_0 c3
    have hq' := hq c3
    refine c10_refreshD hC1 (fun M2 f2 hC2 wk => ?_)
    have fs2 : Fr SFc M M2 := fs.tr (SFd_c f2)
    have hpr : prOK g (fun f => M 64 (40 * s + f)) := fun f hf => hp f hf
    refine c3_workOut (p := fun f => M 64 (40 * s + f)) hC2.1.1 wk.1 hw hpr (fun f hf => by rw [f2 65 f (SFd_no (by omega)), e65, hq' f hf]) (fun M3 f3 l3 => ?_)
    have hC3 := cs_rg hC2 f3 (by omega)
    have hK := h M3 (fs2.tr (SFc_rg f3 (by omega))) hC3
    unfold wayR at hK
    rw [if_neg hb, Int.toNat_natCast, if_neg (fun z => z c3)] at hK
    exact c3_leastHome hC3.1.1 hw hpr l3 hK
  · have hK := h M1 fs hC1
    unfold wayR at hK
    rw [if_neg hb, Int.toNat_natCast, if_pos c3] at hK
    exact hK
theorem c10_late {g : Nat → Int} {v x w : Int} (hC : Cs g M) (h : AskI g M (lateR g v x w) K) : CalI G miX10_late (d + 6) [.inr (.inr (some 0)), .inl v, .inl x, .inl w] M K := by
  have hw := hC.1.2
  have hn := hw.n
  have e8 := hC.n
  have bad : (v < 0 ∨ g 0 ≤ v ∨ x < 0 ∨ 99 < x ∨ w < 0 ∨ 1 < w) → K (-2) M := fun hb => kv (h M Fr.rf hC) (by unfold lateR; rw [if_pos hb])
  refine Cal.of (by decide) (Nat.le_of_ble_eq_true rfl) rfl (gX10_late_0 ?_)
  refine c5_hasFlight (fun a b => b1 ?_) (fun a => b0 (bad (by omega)))
  refine c10_isBelow (fun a2 b2 => b1 ?_) (fun a2 => b0 (bad (by omega)))
  refine c10_isHalf (fun a3 b3 => n1 ?_) (fun a3 => n0 (bad (by omega)))
  have hb : ¬ (v < 0 ∨ g 0 ≤ v ∨ x < 0 ∨ 99 < x ∨ w < 0 ∨ 1 < w) := by omega
  refine c10_refresh hC (fun M1 f1 hC1 wk => ?_)
  have hCq : Cq 28 g g M1 := ⟨⟨hC1.1.1, wk.2.1⟩, hw, hw, ag_rf⟩
  refine c1_hasCover (.inl rfl) hCq (fun hc => n1 ?_) (fun hc => n0 ?_)
  · have hc' : totG g < 1000000 := hc
    refine c2_byOne (f := v.toNat) hC1.1.1 hw wk.1 wk.2.2 hc (by omega) (by omega) ⟨a2, by omega⟩ (fun M2 f2 h57 => ?_)
    have hC2 := cs_rg hC1 f2 (by omega)
    have hK := h M2 (f1.tr (SFc_rg f2 (by omega))) hC2
    unfold lateR at hK
    rw [if_neg hb, if_pos hc'] at hK
    refine ⟨fun c => ?_, fun c => c2_lateFlights hC2.1.1 hw h57 ?_⟩
    · rw [if_neg c] at hK; exact hK
    · rw [if_pos c] at hK; exact hK
  · have hc' : ¬ totG g < 1000000 := hc
    have hK := h M1 f1 hC1
    unfold lateR at hK
    rw [if_neg hb, if_neg hc'] at hK; exact hK
theorem c10_worst {g : Nat → Int} {x : Int} (hC : Cs g M) (h : AskI g M (worstR g x) K) : CalI G miX10_worst (d + 6) [.inr (.inr (some 0)), .inl x] M K := by
  have hw := hC.1.2
  have hn := hw.n
  refine Cal.of (by decide) (Nat.le_of_ble_eq_true rfl) rfl (gX10_worst_0 ?_)
  refine c10_isBelow (fun a2 b2 => n1 ?_) (fun a2 => n0 (kv (h M Fr.rf hC) (by unfold worstR; rw [if_pos (by omega)])))
  have hb : ¬ (x < 0 ∨ 99 < x) := by omega
  refine c10_refresh hC (fun M1 f1 hC1 wk => ?_)
  have hCq : Cq 28 g g M1 := ⟨⟨hC1.1.1, wk.2.1⟩, hw, hw, ag_rf⟩
  refine c1_hasCover (.inl rfl) hCq (fun hc => n1 ?_) (fun hc => n0 ?_)
  · have hc' : totG g < 1000000 := hc
    have key := dn (P := fun k => ∀ M2, Fr (rg 56 57) M1 M2 → OkI G miX10_worst (d + 6) K 36 [some (.inr (.inr (some 0))), some (.inl x), some (.inl (wrT g x k).1), some (.inl (wrT g x k).2), some (.inl (k : Int)), none] [] M2) (nF g) ?_ (fun k hk ih => ?_) 0 (Nat.zero_le _) M1 Fr.rf
    · exact key
    · intro M2 f2
      have hC2 := cs_rg hC1 f2 (by omega)
      have hK := h M2 (f1.tr (SFc_rg f2 (by omega))) hC2
      unfold worstR at hK
      rw [if_neg hb, if_pos hc'] at hK
      exact gX10_worst_36 ⟨fun _ => hK, fun c => absurd c (by rw [hC2.n]; omega)⟩
    · intro M2 f2
      have hC2 := cs_rg hC1 f2 (by omega)
      have wk2 : WkM g M2 := wk.fr f2 (fun c i hc => rg_no (by omega))
      refine gX10_worst_36 ⟨fun c => absurd c (by rw [hC2.n]; omega), fun _ => ?_⟩
      refine c2_byOne (f := k) hC2.1.1 hw wk2.1 wk2.2.2 hc rfl hk ⟨a2, by omega⟩ (fun M3 f3 _ => ?_)
      have ih' := ih M3 (f2.tr f3)
      rw [wrT] at ih'
      rw [w32n (by omega)]
      refine ⟨fun c => ?_, fun c => ?_⟩
      · rw [if_neg (by omega)] at ih'; exact ih'
      · rw [if_pos c] at ih'; exact ih'
  · have hc' : ¬ totG g < 1000000 := hc
    have hK := h M1 f1 hC1
    unfold worstR at hK
    rw [if_neg hb, if_neg hc'] at hK; exact hK
theorem c10_drawn {g : Nat → Int} {s n : Int} (hC : Cs g M) (h : AskI g M (drawnR g s n) K) : CalI G miX10_drawn (d + 6) [.inr (.inr (some 0)), .inl s, .inl n] M K := by
  have hw := hC.1.2
  have bad : (n < 1 ∨ 99 < n) → K (-2) M := fun hb => kv (h M Fr.rf hC) (by unfold drawnR; rw [if_pos hb])
  refine Cal.of (by decide) (Nat.le_of_ble_eq_true rfl) rfl (gX10_drawn_0 ⟨fun c => bad (.inl c), fun c => ⟨fun c2 => ?_, fun c2 => bad (.inr c2)⟩⟩)
  have hb : ¬ (n < 1 ∨ 99 < n) := by omega
  refine c10_refresh hC (fun M1 f1 hC1 wk => ?_)
  have hCq : Cq 28 g g M1 := ⟨⟨hC1.1.1, wk.2.1⟩, hw, hw, ag_rf⟩
  refine c1_hasCover (.inl rfl) hCq (fun hc => b1 ?_) (fun hc => b0 ?_)
  · have hc' : totG g < 1000000 := hc
    refine c2_bySeed hC1.1.1 hw wk.1 wk.2.2 hc ⟨c, c2⟩ (fun M2 f2 => ?_)
    have hC2 := cs_rg hC1 f2 (by omega)
    have hK := h M2 (f1.tr (SFc_rg f2 (by omega))) hC2
    unfold drawnR at hK
    rw [if_neg hb, if_pos hc'] at hK; exact hK
  · have hc' : ¬ totG g < 1000000 := hc
    have hK := h M1 f1 hC1
    unfold drawnR at hK
    rw [if_neg hb, if_neg hc'] at hK; exact hK
theorem c10_chance {g : Nat → Int} {s m n w x : Int} (hC : Cs g M) (h : AskI g M (chanR g s m n w x) K) : CalI G miX10_chance (d + 6) [.inr (.inr (some 0)), .inl s, .inl m, .inl n, .inl w, .inl x] M K := by
  have hw := hC.1.2
  have bad : (m < 1 ∨ 20 < m ∨ n < 1 ∨ 99 < n ∨ w < 0 ∨ 9999 < w ∨ x < 0 ∨ 1 < x) → K (-2) M := fun hb => kv (h M Fr.rf hC) (by unfold chanR; rw [if_pos hb])
  refine Cal.of (by decide) (Nat.le_of_ble_eq_true rfl) rfl (gX10_chance_0 ⟨fun c => bad (by omega), fun c => ⟨fun c2 => bad (by omega), fun c2 => ⟨fun c3 => bad (by omega), fun c3 => ⟨fun c4 => bad (by omega), fun c4 => ?_⟩⟩⟩⟩)
  refine c10_isBelow (fun a2 b2 => b1 ?_) (fun a2 => b0 (bad (by omega)))
  refine c10_isHalf (fun a3 b3 => n1 ?_) (fun a3 => n0 (bad (by omega)))
  have hb : ¬ (m < 1 ∨ 20 < m ∨ n < 1 ∨ 99 < n ∨ w < 0 ∨ 9999 < w ∨ x < 0 ∨ 1 < x) := by omega
  obtain ⟨mm, hm⟩ : ∃ mm : Nat, m = (mm : Int) := ⟨m.toNat, by omega⟩
  subst hm
  refine c10_refresh hC (fun M1 f1 hC1 wk => ?_)
  have hCq : Cq 28 g g M1 := ⟨⟨hC1.1.1, wk.2.1⟩, hw, hw, ag_rf⟩
  refine c1_hasCover (.inl rfl) hCq (fun hc => n1 ?_) (fun hc => n0 ?_)
  · have hc' : totG g < 1000000 := hc
    have key := dn (P := fun k => ∀ M2, Fr (rg 56 57) M1 M2 → OkI G miX10_chance (d + 6) K 67 [some (.inr (.inr (some 0))), some (.inl s), some (.inl (mm : Int)), some (.inl n), some (.inl w), some (.inl x), some (.inl (inT g s n w k : Int)), some (.inl (k : Int))] [] M2) mm ?_ (fun k hk ih => ?_) 0 (Nat.zero_le _) M1 Fr.rf
    · exact key
    · intro M2 f2
      have hC2 := cs_rg hC1 f2 (by omega)
      have hK := h M2 (f1.tr (SFc_rg f2 (by omega))) hC2
      unfold chanR at hK
      rw [if_neg hb, if_pos hc', Int.toNat_natCast] at hK
      have hle := inT_le g s n w mm
      have hlo := lowR_le (a := inT g s n w mm) (b := mm) (B := 20) x (by omega) (by omega)
      refine gX10_chance_67 ⟨fun _ => ?_, fun z => absurd z (by omega)⟩
      refine c10_inLowest (by omega) (by omega) (by omega) ?_
      rw [w32_eq (by omega) (by omega)]; exact hK
    · intro M2 f2
      have hC2 := cs_rg hC1 f2 (by omega)
      have wk2 : WkM g M2 := wk.fr f2 (fun c i hc => rg_no (by omega))
      have hle := inT_le g s n w k
      refine gX10_chance_67 ⟨fun z => absurd z (by omega), fun _ => ?_⟩
      refine c2_bySeed hC2.1.1 hw wk2.1 wk2.2.2 hc ⟨c3, c4⟩ (fun M3 f3 => ?_)
      have ih' := ih M3 (f2.tr f3)
      rw [inT] at ih'
      rw [w32n (k := k) (by omega), w32n (k := inT g s n w k) (by omega)]
      refine ⟨fun z => ?_, fun z => ?_⟩
      · rw [if_neg (by omega)] at ih'; exact ih'
      · rw [if_pos z] at ih'; exact ih'
  · have hc' : ¬ totG g < 1000000 := hc
    have hK := h M1 f1 hC1
    unfold chanR at hK
    rw [if_neg hb, if_neg hc'] at hK; exact hK
end CLTA
