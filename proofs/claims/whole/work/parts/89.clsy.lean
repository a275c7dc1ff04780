/-! the class: calls that ask, first -/
theorem folT_or (g : Nat → Int) (f : Nat) (w : Int) {k : Nat} (hk : k < 7) {x : Int} (hx : x = if fol1 g f w k = true then ior (folT g f w k : Int) (ishl 1 (k : Int)) else (folT g f w k : Int)) : x = (folT g f w (k + 1) : Int) := by
  have hlt := folT_lt g f w k (by omega)
  have hp := pow_le7 (show k ≤ 7 by omega)
  have hp1 := pow_le7 (show k + 1 ≤ 7 by omega)
  have hp2 : (2 : Nat) ^ (k + 1) = 2 * 2 ^ k := by rw [Nat.pow_succ]; omega
  rw [hx]
  conv => rhs; unfold folT
  split
  · rw [ishl1 k (by omega), iorN (by omega) (by omega)]
  · rfl
section CLSY
variable {G : GE} {d : Nat} {M : Mem} {K : Int → Mem → Prop}
theorem c4_followers {g : Nat → Int} {v w w4 : Int} {f : Nat} (hP : Pl g M) (hw : WF g) (hN : NetM g M) (e : v = (f : Int)) (hf : f < nF g) (hW : w = 1 ∧ w4 = 4 ∨ w = 2 ∧ w4 = 5) (h : K (folT g f w4 (nF g) : Int) M) : CalI G miX4_followers d [.inr (.inr (some 19)), .inl v, .inl w] M K := by
  subst e
  have hn := hw.n
  have e8 := hP.n hw
  refine Cal.of (by decide) (Nat.le_of_ble_eq_true rfl) rfl (gX4_followers_0 ?_)
  refine dn (P := fun k => OkI G miX4_followers d K 5 [some (.inr (.inr (some 19))), some (.inl (f : Int)), some (.inl w), some (.inl (folT g f w4 k : Int)), some (.inl (k : Int))] [] M) (nF g) ?_ (fun k hk ih => ?_) 0 (by omega)
  · exact gX4_followers_5 ⟨fun _ => h, fun c => absurd c (by omega)⟩
  · refine gX4_followers_5 ⟨fun c => absurd c (by omega), fun _ => ⟨by omega, ?_⟩⟩
    rw [show (((f : Int) * 7) + (k : Int)).toNat = 7 * f + k by omega, (hN.2.1 f k hf hk).1, w32n (by omega)]
    have hb : fol1 g f w4 k = decide (howF g f k = w) := by
      unfold fol1
      rcases hW with ⟨rfl, rfl⟩ | ⟨rfl, rfl⟩
      · rw [if_neg (by decide), if_pos rfl]
      · rw [if_neg (by decide), if_neg (by decide)]
    refine ⟨fun c => ?_, fun c => ?_⟩
    · have := folT_or g f w4 (k := k) (by omega) (x := (folT g f w4 k : Int)) (by rw [hb, decide_eq_false c, if_neg (by decide)])
      rw [this]; exact ih
    · have := folT_or g f w4 (k := k) (by omega) (x := ior (folT g f w4 k : Int) (ishl 1 (k : Int))) (by rw [hb, decide_eq_true c, if_pos rfl])
      rw [this]; exact ih
theorem c4_tightFollowers {g : Nat → Int} {v : Int} {f : Nat} (hP : Pl g M) (hw : WF g) (hN : NetM g M) (e : v = (f : Int)) (hf : f < nF g) (h : K (folT g f 6 (nF g) : Int) M) : CalI G miX4_tightFollowers (d + 1) [.inr (.inr (some 19)), .inl v] M K := by
  subst e
  have hn := hw.n
  have e8 := hP.n hw
  refine Cal.of (by decide) (Nat.le_of_ble_eq_true rfl) rfl (gX4_tightFollowers_0 ?_)
  refine dn (P := fun k => OkI G miX4_tightFollowers (d + 1) K 4 [some (.inr (.inr (some 19))), some (.inl (f : Int)), some (.inl (folT g f 6 k : Int)), some (.inl (k : Int))] [] M) (nF g) ?_ (fun k hk ih => ?_) 0 (by omega)
  · exact gX4_tightFollowers_4 ⟨fun _ => h, fun c => absurd c (by omega)⟩
  · refine gX4_tightFollowers_4 ⟨fun c => absurd c (by omega), fun _ => c4_isTight hP hw hN.2.1 rfl rfl hf hk ?_⟩
    have hb : fol1 g f 6 k = tgtB g f k := by unfold fol1; rw [if_pos rfl]
    rw [w32n (by omega)]
    cases ht : tgtB g f k with
    | true =>
      have := folT_or g f 6 (k := k) (by omega) (x := ior (folT g f 6 k : Int) (ishl 1 (k : Int))) (by rw [hb, ht, if_pos rfl])
      rw [this]; exact b1 ih
    | false =>
      have := folT_or g f 6 (k := k) (by omega) (x := (folT g f 6 k : Int)) (by rw [hb, ht, if_neg (by decide)])
      rw [← this] at ih; exact b0 ih
theorem c10_of {g : Nat → Int} {v w : Int} (hC : Cs g M) (h : AskI g M (ofR g v w) K) : CalI G miX10_of (d + 6) [.inr (.inr (some 0)), .inl v, .inl w] M K := by
  have hw := hC.1.2
  have hn := hw.n
  have e8 := hC.n
  refine Cal.of (by decide) (Nat.le_of_ble_eq_true rfl) rfl (gX10_of_0 ?_)
  refine c5_hasFlight (fun a b => n1 ?_) (fun a => n0 (kv (h M Fr.rf hC) (by unfold ofR; rw [if_pos (by omega)])))
  refine c10_refresh hC (fun M1 f1 hC1 wk => ?_)
  have hK := h M1 f1 hC1
  unfold ofR at hK
  have fl := hC1.1.1.fl (i := v.toNat) (by omega)
  refine ⟨fun c => ⟨by omega, ?_⟩, fun c => ⟨by omega, ?_⟩, fun c => ⟨by omega, ?_⟩, fun c => ⟨by omega, ?_⟩, fun c => ?_, fun c => ?_, fun c => ?_, fun c => ?_⟩
  · subst c; rw [if_neg (by omega), if_pos (by decide)] at hK; rw [fl.1]; exact hK
  · subst c; rw [if_neg (by omega), if_pos (by decide)] at hK; rw [fl.2.1]; exact hK
  · subst c; rw [if_neg (by omega), if_pos (by decide)] at hK; rw [fl.2.2.1]; exact hK
  · subst c; rw [if_neg (by omega), if_pos (by decide)] at hK; rw [fl.2.2.2]; exact hK
  · subst c; rw [if_neg (by omega), if_neg (by decide)] at hK
    exact c4_followers (f := v.toNat) hC1.1.1 hw wk.1 (by omega) (by omega) (.inl ⟨rfl, rfl⟩) hK
  · subst c; rw [if_neg (by omega), if_neg (by decide)] at hK
    exact c4_followers (f := v.toNat) hC1.1.1 hw wk.1 (by omega) (by omega) (.inr ⟨rfl, rfl⟩) hK
  · subst c; rw [if_neg (by omega), if_neg (by decide)] at hK
    exact c4_tightFollowers (f := v.toNat) hC1.1.1 hw wk.1 (by omega) (by omega) hK
  · rw [if_pos (by omega)] at hK; exact hK
def folR (g : Nat → Int) (v w : Int) : Int := if v < 0 ∨ g 0 ≤ v ∨ w < 0 ∨ g 0 ≤ w ∨ v = w then -2 else howF g v.toNat w.toNat
theorem c10_follows {g : Nat → Int} {v w : Int} (hC : Cs g M) (h : AskI g M (folR g v w) K) : CalI G miX10_follows (d + 6) [.inr (.inr (some 0)), .inl v, .inl w] M K := by
  have hw := hC.1.2
  have hn := hw.n
  have e8 := hC.n
  refine Cal.of (by decide) (Nat.le_of_ble_eq_true rfl) rfl (gX10_follows_0 ?_)
  refine c5_areTwo (fun a b a2 b2 c => n1 ?_) (fun a => n0 (kv (h M Fr.rf hC) (by unfold folR; rw [if_pos (by omega)])))
  refine c10_refresh hC (fun M1 f1 hC1 wk => ⟨by omega, ?_⟩)
  have hK := h M1 f1 hC1
  unfold folR at hK
  rw [if_neg (by omega)] at hK
  rw [show ((v * 7) + w).toNat = 7 * v.toNat + w.toNat by omega, (wk.1.2.1 v.toNat w.toNat (by omega) (by omega)).1]; exact hK
theorem c10_pairing {g : Nat → Int} {v x : Int} (hC : Cs g M) (h : AskI g M (pairR g v x) K) : CalI G miX10_pairing (d + 6) [.inr (.inr (some 0)), .inl v, .inl x] M K := by
  have hw := hC.1.2
  have hn := hw.n
  have hN := pow_le7 hn.2
  refine Cal.of (by decide) (Nat.le_of_ble_eq_true rfl) rfl (gX10_pairing_0 ?_)
  refine c5_isSet hC.1.1 hw (fun s e h0 hs => b1 ?_) (fun a => b0 (kv (h M Fr.rf hC) (by unfold pairR; rw [if_pos (by omega)])))
  subst e
  have bad : (x < 0 ∨ 3 < x) → K (-2) M := fun hb => kv (h M Fr.rf hC) (by unfold pairR; rw [if_pos (by omega)])
  refine ⟨fun c => bad (.inl c), fun c => ⟨fun c2 => ?_, fun c2 => bad (.inr c2)⟩⟩
  refine c10_refresh hC (fun M1 f1 hC1 wk => ⟨by omega, ?_⟩)
  have hK := h M1 f1 hC1
  unfold pairR at hK
  rw [if_neg (by omega), Int.toNat_natCast] at hK
  have o := (wk.2.1.1 s h0 hs).1
  obtain ⟨w1, w2⟩ := wk.1.2.2.2 s h0 hs
  rw [Int.toNat_natCast, o]
  have hcp := cstF_pc g s
  cases hp : prF g s with
  | none =>
    rw [hp] at hK
    have e : cstF g s = -1 := by rw [hcp, pcF_none hp]; split <;> rfl
    rw [e]
    exact ⟨fun z => absurd rfl z, fun _ => hK⟩
  | some w =>
    rw [hp] at hK
    simp only at hK
    rw [pcF_some hp] at hcp w1
    cases hsu : suitB g s with
    | false =>
      rw [hsu, if_neg (by decide)] at hcp hK
      rw [hcp]
      exact ⟨fun z => absurd rfl z, fun _ => hK⟩
    | true =>
      rw [hsu, if_pos rfl] at hcp hK
      have bd := (prCost_bd hw (prF_both hp).1 (wend_la hw h0 hs (prF_both hp).1)).1
      have e : decide (0 ≤ cstF g s) = true := decide_eq_true (by omega)
      rw [e]
      obtain ⟨v1, v2, v3⟩ := w2 w hp
      refine ⟨fun _ => ⟨fun c3 => ⟨by omega, ?_⟩, fun c3 => ⟨by omega, ?_⟩, fun c3 => ⟨by omega, ?_⟩, fun c3 => ⟨by omega, ?_⟩⟩, fun z => absurd z (by decide)⟩
      · rw [w1]; exact kv hK (by unfold prW; rw [if_pos c3])
      · rw [v1]; exact kv hK (by unfold prW; rw [if_neg (by omega), if_pos c3])
      · rw [v2]; exact kv hK (by unfold prW; rw [if_neg (by omega), if_neg (by omega), if_pos c3])
      · rw [v3]; exact kv hK (by unfold prW; rw [if_neg (by omega), if_neg (by omega), if_neg (by omega)])
theorem pfd_neg {c : Nat → Int} {x : Int} (hx : x < 0) : ∀ m, pfd c x m = none := by
  intro m
  induction m with
  | zero => rfl
  | succ m ih => rw [pfd, ih]; simp only; rw [if_neg (by omega)]
theorem fdI_ne {o : Option Nat} : (fdI o = -1 ↔ o = none) := by
  cases o with
  | none => exact ⟨fun _ => rfl, fun _ => rfl⟩
  | some s => exact ⟨fun h => by simp only [fdI] at h; omega, fun h => by cases h⟩
theorem c10_pairings {g : Nat → Int} {x : Int} (hC : Cs g M) (h : AskI g M (pairsR g x) K) : CalI G miX10_pairings (d + 6) [.inr (.inr (some 0)), .inl x] M K := by
  have hw := hC.1.2
  refine Cal.of (by decide) (Nat.le_of_ble_eq_true rfl) rfl (gX10_pairings_0 ?_)
  refine c10_refresh hC (fun M1 f1 hC1 wk => ?_)
  have hCq : Cq 28 g g M1 := ⟨⟨hC1.1.1, wk.2.1⟩, hw, hw, ag_rf⟩
  have hK := h M1 f1 hC1
  unfold pairsR at hK
  refine ⟨fun c => c1_pairingAt (.inl rfl) hCq ?_, fun c => c1_pairingCount (.inl rfl) hCq ?_⟩
  · cases hp : pfd (cstF g) x (2 ^ nF g) with
    | none =>
      rw [hp] at hK; simp only at hK; rw [if_neg c] at hK
      exact ⟨fun z => absurd rfl z, fun _ => hK⟩
    | some s =>
      rw [hp] at hK
      exact ⟨fun _ => hK, fun z => absurd z (by simp only [fdI]; omega)⟩
  · rw [pfd_neg (by omega)] at hK; simp only at hK; rw [if_pos c] at hK; exact hK
theorem c10_had {g : Nat → Int} {v x : Int} (hC : Cs g M) (h : AskI g M (hadR g v x) K) : CalI G miX10_had (d + 6) [.inr (.inr (some 0)), .inl v, .inl x] M K := by
  have hw := hC.1.2
  have hn := hw.n
  have hN := pow_le7 hn.2
  refine Cal.of (by decide) (Nat.le_of_ble_eq_true rfl) rfl (gX10_had_0 ?_)
  refine c5_isSet hC.1.1 hw (fun s e h0 hs => b1 ?_) (fun a => b0 (kv (h M Fr.rf hC) (by unfold hadR; rw [if_pos (by omega)])))
  subst e
  refine c10_isHalf (fun a b => n1 ?_) (fun a => n0 (kv (h M Fr.rf hC) (by unfold hadR; rw [if_pos (by omega)])))
  refine c10_refresh hC (fun M1 f1 hC1 wk => ?_)
  have hK := h M1 f1 hC1
  unfold hadR at hK
  rw [if_neg (by omega), Int.toNat_natCast] at hK
  have o := wk.2.1.1 s h0 hs
  rw [Int.toNat_natCast]
  refine ⟨fun c => ⟨by omega, ?_⟩, fun c => ⟨by omega, ?_⟩⟩
  · rw [if_neg c] at hK; rw [o.2.2]; exact hK
  · rw [if_pos c] at hK; rw [o.2.1]; exact hK
theorem c10_best {g : Nat → Int} {x : Int} (hC : Cs g M) (h : AskI g M (bestR g x) K) : CalI G miX10_best (d + 6) [.inr (.inr (some 0)), .inl x] M K := by
  have hw := hC.1.2
  have bad : (x < 0 ∨ 2 < x) → K (-2) M := fun hb => kv (h M Fr.rf hC) (by unfold bestR; rw [if_pos hb])
  refine Cal.of (by decide) (Nat.le_of_ble_eq_true rfl) rfl (gX10_best_0 ⟨fun c => bad (.inl c), fun c => ⟨fun c2 => ?_, fun c2 => bad (.inr c2)⟩⟩)
  refine c10_refresh hC (fun M1 f1 hC1 wk => ?_)
  have hCq : Cq 28 g g M1 := ⟨⟨hC1.1.1, wk.2.1⟩, hw, hw, ag_rf⟩
  have hK := h M1 f1 hC1
  unfold bestR at hK
  rw [if_neg (by omega)] at hK
  refine c1_hasCover (.inl rfl) hCq (fun hc => n1 ?_) (fun hc => n0 ?_)
  · have hc' : totG g < 1000000 := hc
    rw [if_pos hc'] at hK
    refine ⟨fun c3 => c1_leastTotal (.inl rfl) hCq ?_, fun c3 => c1_bestSets (.inl rfl) hCq hc ?_, fun c3 c4 => c1_bestAlong (.inl rfl) hCq hc ?_⟩
    · rw [if_pos c3] at hK
      have e : enT (totG g) = totG g := if_pos hc'
      rw [e]; exact hK
    · rw [if_neg (by omega), if_pos c3] at hK; exact hK
    · rw [if_neg c3, if_neg c4] at hK; exact hK
  · have hc' : ¬ totG g < 1000000 := hc
    rw [if_neg hc'] at hK; exact hK
theorem c10_bestOf {g : Nat → Int} {v x : Int} (hC : Cs g M) (h : AskI g M (bofR g v x) K) : CalI G miX10_bestOf (d + 6) [.inr (.inr (some 0)), .inl v, .inl x] M K := by
  have hw := hC.1.2
  have hn := hw.n
  have e8 := hC.n
  refine Cal.of (by decide) (Nat.le_of_ble_eq_true rfl) rfl (gX10_bestOf_0 ?_)
  refine c5_hasFlight (fun a b => b1 ?_) (fun a => b0 (kv (h M Fr.rf hC) (by unfold bofR; rw [if_pos (by omega)])))
  refine c10_isHalf (fun a2 b2 => n1 ?_) (fun a => n0 (kv (h M Fr.rf hC) (by unfold bofR; rw [if_pos (by omega)])))
  refine c10_refresh hC (fun M1 f1 hC1 wk => ?_)
  have hCq : Cq 28 g g M1 := ⟨⟨hC1.1.1, wk.2.1⟩, hw, hw, ag_rf⟩
  have hK := h M1 f1 hC1
  unfold bofR at hK
  rw [if_neg (by omega)] at hK
  refine c1_bestSetWith (x := v.toNat) (.inl rfl) hCq (by omega) (by omega) (fun hc => ?_) (fun hc => ?_)
  · have hc' : totG g < 1000000 := hc
    rw [if_pos hc'] at hK
    cases hf : (bestL g).find? (fun s => s.testBit v.toNat) with
    | none =>
      rw [hf] at hK
      exact ⟨fun z => absurd rfl z, fun _ => hK⟩
    | some s =>
      rw [hf] at hK
      simp only at hK
      have hm := List.mem_of_find?_eq_some hf
      obtain ⟨s0, s1, -⟩ := bestL_in hw hc s hm
      have o := wk.2.1.1 s s0 s1
      have hN := pow_le7 hn.2
      simp only [fdI]
      refine ⟨fun _ => ⟨fun c => ⟨by omega, ?_⟩, fun c => ?_⟩, fun z => absurd z (by omega)⟩
      · rw [if_neg c] at hK
        rw [Int.toNat_natCast, o.2.2]; exact hK
      · rw [if_pos c] at hK; exact hK
  · have hc' : ¬ totG g < 1000000 := hc
    rw [if_neg hc'] at hK
    exact ⟨fun z => absurd rfl z, fun _ => hK⟩
end CLSY
