/-! the class: who is late -/
section CLSJ
variable {G : GE} {d : Nat} {M : Mem} {K : Int → Mem → Prop}
theorem c2_spread {g own : Nat → Int} (hP : Pl g M) (hw : WF g) (hN : NetM g M) (hA : AhM g M) (hc : covB g) (ho : ownOK g own) (h56 : ∀ f, f < nF g → M 56 f = own f) (h : ∀ q : Nat → Int, (∀ k, k < nF g → q (oN g k) = latV g own k) → K (latS g own) (mset M 57 q)) : CalI G miX2_spread (d + 1) [.inr (.inr (some 54))] M K := by
  have hn := hw.n
  have hA := hA hc
  have hP' : ∀ q : Nat → Int, Pl g (mset M 57 q) := fun q => pl_mset hP (by decide) q
  have hlb : ∀ k, k < nF g → 0 ≤ latV g own k ∧ latV g own k ≤ 99 := fun k hk => ltT_bd hw hc ho (k + 1) (by omega) (oN g k) (oN_lt g hk)
  refine Cal.of (by decide) (Nat.le_of_ble_eq_true rfl) rfl (gX2_spread_0 ?_)
  have key := dn (P := fun k => ∀ q : Nat → Int, (∀ j, j < k → q (oN g j) = latV g own j) → OkI G miX2_spread (d + 1) K 4 [some (.inr (.inr (some 54))), some (.inl (sumT (latV g own) k)), some (.inl (k : Int)), none, none] [] (mset M 57 q)) (nF g) ?_ (fun k hk ih q hq => ?_) 0 (Nat.zero_le _) (M 57) (fun j hj => absurd hj (Nat.not_lt_zero _))
  · rw [mset_self] at key; exact key
  · intro q hq
    exact gX2_spread_4 ⟨fun _ => h q hq, fun c => absurd c (by rw [(hP' q).n hw]; omega)⟩
  · have hlt := oN_lt g hk
    have ek : (mset M 57 q) 20 (k : Int).toNat = (oN g k : Int) := by rw [mset_ne _ (by decide), Int.toNat_natCast]; exact hN.1 k hk
    have sb := sumT_bd (f := latV g own) (n := k) (B := 99) (fun i hi => hlb i (by omega))
    have ob := ho (oN g k) hlt
    refine gX2_spread_4 ⟨fun c => absurd c (by rw [(hP' q).n hw]; omega), fun _ => ⟨by omega, ?_⟩⟩
    rw [ek, Int.toNat_natCast]
    refine ⟨by omega, by omega, ?_⟩
    have e56 : (mset M 57 q) 56 (oN g k) = own (oN g k) := by rw [mset_ne _ (by decide)]; exact h56 _ hlt
    rw [e56, mup_mset, mset_at, mset_mset]
    -- what is ahead
    have hbit := fun e => ahT_bit (g := g) hn.2 (k := k) (by omega) e (bestL g) 0
    have hA128 := ahT_lt (g := g) hn.2 (k := k) (by omega) (bestL g) 0 (by decide)
    have eown : own (oN g k) = ltT g own k (oN g k) := by
      have : ∀ m, m ≤ k → ltT g own m (oN g k) = own (oN g k) := by
        intro m
        induction m with
        | zero => intro _; rfl
        | succ m ihm => intro hm; rw [ltT, fup_ne _ (fun z => by have := oN_inj g hk (by omega) z; omega)]; exact ihm (by omega)
      exact (this k (Nat.le_refl _)).symm
    have elat : ∀ j, j < k → ltT g own k (oN g j) = latV g own j := fun j hj => ltT_keep g own (by omega) k (by omega) (by omega)
    obtain ⟨m1, m2, m3⟩ := mxF_max (g := g) (lt := ltT g own k) (k := k) (v0 := own (oN g k)) ob.1 (bestL g).length
    have eV : latV g own k = mxF g (ltT g own k) k (own (oN g k)) (bestL g).length := by
      show ltT g own (k + 1) (oN g k) = _
      rw [ltT, fup_at, ← eown]
    -- an index of one that is ahead
    have ahead : ∀ e, (ahT g k (bestL g) 0).testBit e = true → ∃ i j, i < (bestL g).length ∧ j < k ∧ e = oN g j ∧ linF g (byI g i) k = (e : Int) ∧ mxT g (ltT g own k) k i = latV g own j - slkF g e (oN g k) := fun e he => by
      rcases (hbit e).mp he with z | ⟨s, hs, hl⟩
      · rw [Nat.zero_testBit] at z; cases z
      · obtain ⟨i, hi, rfl⟩ := List.getElem_of_mem hs
        have eb : (byF g (bestL g)[i]).toNat = byI g i := by unfold byI bsI; simp [hi]
        rw [eb] at hl
        rcases linF_bd (g := g) (s := byI g i) (k := k) (by omega) with z | ⟨j, hj, z, -⟩
        · omega
        · have ee : e = oN g j := by omega
          refine ⟨i, j, hi, hj, ee, hl, ?_⟩
          unfold mxT
          rw [hl, if_neg (by omega), Int.toNat_natCast, ee, elat j hj]
    have ahead2 : ∀ i, i < (bestL g).length → 0 ≤ linF g (byI g i) k → (ahT g k (bestL g) 0).testBit (linF g (byI g i) k).toNat = true := fun i hi hz => by
      refine (hbit _).mpr (.inr ⟨(bestL g)[i], List.getElem_mem hi, ?_⟩)
      have eb : (byF g (bestL g)[i]).toNat = byI g i := by unfold byI bsI; simp [hi]
      rw [eb]; omega
    have inner := dn (P := fun f => ∀ (q2 : Nat → Int) (r : Int), (∀ j, j < k → q2 (oN g j) = latV g own j) → q2 (oN g k) = r → own (oN g k) ≤ r → r ≤ 99 → (∀ e, e < f → (ahT g k (bestL g) 0).testBit e = true → ∀ j, j < k → e = oN g j → latV g own j - slkF g e (oN g k) ≤ r) → (r = own (oN g k) ∨ ∃ e j, (ahT g k (bestL g) 0).testBit e = true ∧ j < k ∧ e = oN g j ∧ r = latV g own j - slkF g e (oN g k)) → OkI G miX2_spread (d + 1) K 40 [some (.inr (.inr (some 54))), some (.inl (sumT (latV g own) k)), some (.inl (k : Int)), some (.inl (oN g k : Int)), some (.inl (f : Int))] [] (mset M 57 q2)) (nF g) ?_ (fun f hf ih2 q2 r hq2 hr hr1 hr9 hr2 hr3 => ?_) 0 (Nat.zero_le _) (fup q (oN g k) (own (oN g k))) (own (oN g k)) (fun j hj => by rw [fup_ne _ (fun z => by have := oN_inj g (by omega) hk z; omega)]; exact hq j hj) (fup_at _ _ _) (Int.le_refl _) ob.2 (fun e he => absurd he (Nat.not_lt_zero _)) (.inl rfl)
    · exact inner
    · intro q2 r hq2 hr hr1 hr9 hr2 hr3
      have hrV : r = latV g own k := by
        rw [eV]
        refine Int.le_antisymm ?_ ?_
        · rcases hr3 with z | ⟨e, j, h1, h2, h3, h4⟩
          · rw [z]; exact m1
          · obtain ⟨i, j', g1, g2, g3, g4, g5⟩ := ahead e h1
            have : j' = j := oN_inj g (by omega) (by omega) (by omega)
            subst this
            rw [h4, ← g5]; exact m2 i g1
        · rcases m3 with z | ⟨i, h1, h2, h3⟩
          · rw [z]; exact hr1
          · have hb := ahead2 i h1 h2
            obtain ⟨i', j, g1, g2, g3, g4, g5⟩ := ahead _ hb
            have hlt2 := oN_lt g (i := j) (by omega)
            have := hr2 _ (by omega) hb j g2 g3
            rw [h3]
            unfold mxT
            rw [if_neg (by omega), g3, elat j g2]
            rw [g3] at this; exact this
      refine gX2_spread_40 ⟨fun _ => ⟨by omega, ?_⟩, fun c => absurd c (by rw [(hP' q2).n hw]; omega)⟩
      rw [mset_at, Int.toNat_natCast, hr, hrV, w32n (k := k) (by omega)]
      have e1 : sumT (latV g own) k + latV g own k = sumT (latV g own) (k + 1) := rfl
      have lk := hlb k hk
      rw [w32_eq (by omega) (by omega), e1]
      refine ih q2 (fun j hj => ?_)
      by_cases e : j = k
      · subst e; rw [hr, hrV]
      · exact hq2 j (by omega)
    · have hf7 : f < 7 := by omega
      have e55 : (mset M 57 q2) 55 (oN g k) = (ahT g k (bestL g) 0 : Int) := by rw [mset_ne _ (by decide)]; exact hA k hk
      have keep : ∀ r' : Int, own (oN g k) ≤ r' → r' ≤ 99 → (∀ e, e < f + 1 → (ahT g k (bestL g) 0).testBit e = true → ∀ j, j < k → e = oN g j → latV g own j - slkF g e (oN g k) ≤ r') → (r' = own (oN g k) ∨ ∃ e j, (ahT g k (bestL g) 0).testBit e = true ∧ j < k ∧ e = oN g j ∧ r' = latV g own j - slkF g e (oN g k)) → OkI G miX2_spread (d + 1) K 40 [some (.inr (.inr (some 54))), some (.inl (sumT (latV g own) k)), some (.inl (k : Int)), some (.inl (oN g k : Int)), some (.inl ((f + 1 : Nat) : Int))] [] (mset M 57 (fup q2 (oN g k) r')) := fun r' a1 a2 a3 a4 =>
        ih2 _ r' (fun j hj => by rw [fup_ne _ (fun z => by have := oN_inj g (by omega) hk z; omega)]; exact hq2 j hj) (fup_at _ _ _) a1 a2 a3 a4
      refine gX2_spread_40m ⟨fun c => absurd c (by rw [(hP' q2).n hw]; omega), fun _ => ⟨by omega, ?_⟩⟩
      rw [Int.toNat_natCast, Int.toNat_natCast, e55, w32n (k := f) (by omega)]
      refine ⟨fun c => ?_, fun c => ⟨by omega, by omega, by omega, by omega, ?_⟩⟩
      · have hb := (bit0 hA128 (by omega)).mp c
        have := keep r hr1 hr9 (fun e he hbe => by
          by_cases z : e = f
          · subst z; rw [hb] at hbe; cases hbe
          · exact hr2 e (by omega) hbe) hr3
        have eq2 : fup q2 (oN g k) r = q2 := by
          funext i; unfold fup; split
          · subst_vars; rfl
          · rfl
        rw [eq2] at this; exact this
      · have hb : (ahT g k (bestL g) 0).testBit f = true := by
          cases hz : (ahT g k (bestL g) 0).testBit f with
          | true => rfl
          | false => exact absurd ((bit0 hA128 (by omega)).mpr hz) c
        obtain ⟨i, j, g1, g2, g3, g4, g5⟩ := ahead f hb
        have lj := hlb j (by omega)
        have sn := slkF_nn g f (oN g k)
        have sl := slkF_le hw hf7 (show oN g k < 7 by omega)
        have e57 : (mset M 57 q2) 57 f = latV g own j := by rw [mset_at, g3]; exact hq2 j g2
        have e22 : (mset M 57 q2) 22 ((f : Int) * 7 + (oN g k : Int)).toNat = slkF g f (oN g k) := by
          rw [mset_ne _ (by decide), show ((f : Int) * 7 + (oN g k : Int)).toNat = 7 * f + oN g k by omega]; exact (hN.2.1 f (oN g k) hf hlt).2
        have e57k : (mset M 57 q2) 57 (oN g k) = r := by rw [mset_at]; exact hr
        rw [e57, e22, e57k, w32_eq (by omega) (by omega), mup_mset, mset_at, mset_mset]
        refine keep _ ?_ ?_ (fun e he hbe j' hj' hej => ?_) ?_
        · split <;> omega
        · split <;> omega
        · by_cases z : e = f
          · subst z
            have : j' = j := oN_inj g (by omega) (by omega) (by omega)
            subst this
            split <;> omega
          · have := hr2 e (by omega) hbe j' hj' hej
            split <;> omega
        · by_cases z : r < latV g own j - slkF g f (oN g k)
          · rw [if_pos z]; exact .inr ⟨f, j, hb, g2, g3, rfl⟩
          · rw [if_neg z]; exact hr3
theorem c2_byOne {g : Nat → Int} {v x : Int} {f : Nat} (hP : Pl g M) (hw : WF g) (hN : NetM g M) (hA : AhM g M) (hc : covB g) (e : v = (f : Int)) (hf : f < nF g) (hx : 0 ≤ x ∧ x ≤ 99) (h : ∀ M', Fr (rg 56 57) M M' → (∀ k, k < nF g → M' 57 (oN g k) = latV g (ownD f x) k) → K (latS g (ownD f x)) M') : CalI G miX2_byOne (d + 2) [.inr (.inr (some 54)), .inl v, .inl x] M K := by
  subst e
  have hn := hw.n
  refine Cal.of (by decide) (Nat.le_of_ble_eq_true rfl) rfl (gX2_byOne_0 ?_)
  refine cJ_fill ly_56 (by decide) (fun q hq => ⟨by omega, ?_⟩)
  rw [Int.toNat_natCast]
  have f0 : Fr (rg 56 57) M (mup (mset M 56 q) 56 f x) := (Fr.rf.ms (fun _ => rg_yes (by decide))).up (rg_yes (by decide))
  refine c2_spread (pl_rg hP f0 (by decide)) hw (net_rg hN f0 (by decide)) (fun c k hk => by rw [fr_rg f0 (by decide)]; exact hA c k hk) hc (ownD_ok (f := f) hx) (fun i hi => ?_) (fun q2 hq2 => ?_)
  · unfold ownD
    by_cases e : i = f
    · subst e; rw [mup_at, if_pos rfl]
    · rw [mup_at_ne e, mset_at, if_neg e]; exact hq i (by omega)
  · exact h _ (f0.ms (fun _ => rg_yes (by decide))) (fun k hk => by rw [mset_at]; exact hq2 k hk)
theorem c2_bySeed {g : Nat → Int} {s n : Int} (hP : Pl g M) (hw : WF g) (hN : NetM g M) (hA : AhM g M) (hc : covB g) (hn1 : 1 ≤ n ∧ n ≤ 99) (h : ∀ M', Fr (rg 56 57) M M' → K (latS g (ownZ s n)) M') : CalI G miX2_bySeed (d + 2) [.inr (.inr (some 54)), .inl s, .inl n] M K := by
  have hn := hw.n
  refine Cal.of (by decide) (Nat.le_of_ble_eq_true rfl) rfl (gX2_bySeed_0 ?_)
  have hP' : ∀ q : Nat → Int, Pl g (mset M 56 q) := fun q => pl_mset hP (by decide) q
  have key := dn (P := fun k => ∀ q : Nat → Int, (∀ i, i < k → q i = ownZ s n i) → OkI G miX2_bySeed (d + 2) K 5 [some (.inr (.inr (some 54))), none, some (.inl n), some (.inl (zF s k)), some (.inl (k : Int))] [] (mset M 56 q)) (nF g) ?_ (fun k hk ih q hq => ?_) 0 (Nat.zero_le _) (M 56) (fun j hj => absurd hj (Nat.not_lt_zero _))
  · rw [mset_self] at key; exact key
  · intro q hq
    have f0 : Fr (rg 56 57) M (mset M 56 q) := Fr.rf.ms (fun _ => rg_yes (by decide))
    refine gX2_bySeed_5 ⟨fun _ => ?_, fun c => absurd c (by rw [(hP' q).n hw]; omega)⟩
    refine c2_spread (hP' q) hw (net_rg hN f0 (by decide)) (fun c k hk => by rw [fr_rg f0 (by decide)]; exact hA c k hk) hc (ownZ_ok hn1) (fun i hi => by rw [mset_at]; exact hq i hi) (fun q2 hq2 => ?_)
    exact h _ (f0.ms (fun _ => rg_yes (by decide)))
  · refine gX2_bySeed_5 ⟨fun c => absurd c (by rw [(hP' q).n hw]; omega), fun _ => ⟨fun c => absurd c (by omega), fun _ => ⟨by omega, ?_⟩⟩⟩
    have ez : w32 (zF s k * 1103515245 + 12345) = zF s (k + 1) := rfl
    rw [ez]
    refine gX2_bySeed_46 ⟨by omega, ?_⟩
    rw [w32n (k := k) (by omega), Int.toNat_natCast, mup_mset, mset_at, mset_mset]
    refine ih _ (fun i hi => ?_)
    by_cases e : i = k
    · subst e; rw [fup_at]; rfl
    · rw [fup_ne _ e]; exact hq i (by omega)
theorem c2_lateFlights {g own : Nat → Int} (hP : Pl g M) (hw : WF g) (h57 : ∀ k, k < nF g → M 57 (oN g k) = latV g own k) (h : K (latB g own (nF g) : Int) M) : CalI G miX2_lateFlights d [.inr (.inr (some 54))] M K := by
  have hn := hw.n
  have h8 := hP.n hw
  have hB := latB_bit (g := g) (own := own) (nF g) (Nat.le_refl _)
  have hH := latB_hi (g := g) (own := own) (nF g) (Nat.le_refl _)
  have hL := latB_lt (own := own) hw (nF g) (Nat.le_refl _)
  generalize latB g own (nF g) = B at *
  refine Cal.of (by decide) (Nat.le_of_ble_eq_true rfl) rfl (gX2_lateFlights_0 ?_)
  have key := dn (P := fun f => ∀ x : Nat, x < 128 → (∀ i, x.testBit i = true ↔ i < f ∧ B.testBit i = true) → OkI G miX2_lateFlights d K 4 [some (.inr (.inr (some 54))), some (.inl (x : Int)), some (.inl (f : Int))] [] M) (nF g) ?_ (fun f hf ih x hx hxb => ?_) 0 (Nat.zero_le _) 0 (by decide) (fun i => by rw [Nat.zero_testBit]; exact ⟨fun z => absurd z (by decide), fun z => absurd z.1 (Nat.not_lt_zero _)⟩)
  · exact key
  · intro x hx hxb
    have e : x = B := by
      refine Nat.eq_of_testBit_eq (fun i => ?_)
      rcases Nat.lt_or_ge i (nF g) with z | z
      · have := hxb i
        cases h1 : x.testBit i <;> cases h2 : B.testBit i <;> simp_all
      · rw [hH i z]
        cases h1 : x.testBit i with
        | false => rfl
        | true => have := (hxb i).mp h1; omega
    exact gX2_lateFlights_4 ⟨fun _ => by rw [e]; exact h, fun c => absurd c (by omega)⟩
  · obtain ⟨k, hk, rfl⟩ := oN_sur g hf
    refine gX2_lateFlights_4 ⟨fun c => absurd c (by omega), fun _ => ⟨by omega, ?_⟩⟩
    rw [Int.toNat_natCast, h57 k hk, w32n (k := oN g k) (by omega), ior_bw hx (by omega)]
    refine ⟨fun c => ih x hx (fun i => ?_), fun c => ih _ (or_pow_lt hx (by omega)) (fun i => ?_)⟩
    · rw [hxb i]
      constructor
      · rintro ⟨a, b⟩; exact ⟨by omega, b⟩
      · rintro ⟨a, b⟩
        refine ⟨?_, b⟩
        by_cases e : i = oN g k
        · subst e; have := (hB k hk).mp b; omega
        · omega
    · rw [Nat.testBit_or, Nat.testBit_two_pow, Bool.or_eq_true, decide_eq_true_eq, hxb i]
      constructor
      · rintro (⟨a, b⟩ | a)
        · exact ⟨by omega, b⟩
        · subst a; exact ⟨by omega, (hB k hk).mpr ⟨hk, by omega⟩⟩
      · rintro ⟨a, b⟩
        by_cases e : oN g k = i
        · exact .inr e
        · exact .inl ⟨by omega, b⟩
end CLSJ
