/-! the reference: covers -/
theorem lfold_lo (had T : Nat → Int) {F : Nat} (hF : F < 128) : ∀ k, k ≤ lowN F → lfold had T F k = (1000000, 0) := by
  intro k
  induction k with
  | zero => intro _; rfl
  | succ k ih =>
    intro hk
    rw [lfold, ih (by omega), lstep, if_neg]
    rintro ⟨h, -⟩
    exact h (low_below F hF k (by omega))
def hOK (had : Nat → Int) (m : Nat) : Prop := ∀ s, s ≠ 0 → s < m → had s = -1 ∨ (0 ≤ had s ∧ had s ≤ 4893)
theorem cntTo_sdf {F s : Nat} (h : s &&& F = s) : ∀ k, cntTo (sdf F s) k + cntTo s k = cntTo F k := by
  intro k
  induction k with
  | zero => rfl
  | succ k ih =>
    simp only [cntTo]
    rw [sdf_bit]
    have := sub_bit h k
    cases hb : s.testBit k <;> cases hf : F.testBit k <;> simp_all <;> omega
theorem sdf0_sub {s F : Nat} (h : sdf s F = 0) : s &&& F = s := by
  refine Nat.eq_of_testBit_eq (fun k => ?_)
  have := sdf_bit s F k
  rw [h, Nat.zero_testBit] at this
  rw [Nat.testBit_and]
  cases hb : s.testBit k <;> cases hf : F.testBit k <;> simp_all
theorem cnt_sdf {F s : Nat} (h : sdf s F = 0) : cnt (sdf F s) + cnt s = cnt F := cntTo_sdf (sdf0_sub h) 7
theorem cnt_pos : ∀ s : Nat, s < 128 → s ≠ 0 → 1 ≤ cnt s := by decide +kernel
/-- what a total is like: 1000000 and no set, or at most 4893 a flight, and a set that has the least flight -/
def tInv (had : Nat → Int) (T : Nat → Int) (F : Nat) (r : Int × Int) : Prop := r = (1000000, 0) ∨ (0 ≤ r.1 ∧ r.1 ≤ 4893 * (cnt F : Int)) ∧ ∃ s : Nat, r.2 = (s : Int) ∧ s ≠ 0 ∧ s ≤ F ∧ sdf s F = 0 ∧ 0 ≤ had s ∧ r.1 = had s + T (sdf F s) ∧ T (sdf F s) < 1000000
theorem totF_inv {had : Nat → Int} {m : Nat} (hh : hOK had m) (hm : m ≤ 128) : ∀ F, F < m → F ≠ 0 → tInv had (fun x => (totF had x).1) F (totF had F) := by
  intro F
  induction F using Nat.strongRecOn with
  | ind F ihF =>
    intro hF hF0
    rw [totF_eq had hF0]
    have tb : ∀ x, x < F → (0 ≤ (totF had x).1 ∧ (totF had x).1 ≤ 4893 * (cnt x : Int)) ∨ (totF had x).1 = 1000000 := by
      intro x hx
      by_cases hx0 : x = 0
      · subst hx0; exact .inl ⟨by rw [totF_0]; exact Int.le_refl _, by rw [totF_0]; simp only; omega⟩
      · rcases ihF x hx (by omega) hx0 with h | h
        · exact .inr (by rw [h])
        · exact .inl h.1
    have : ∀ k, k ≤ F + 1 → tInv had (fun x => (totF had x).1) F (lfold had (fun x => (totF had x).1) F k) := by
      intro k
      induction k with
      | zero => intro _; exact .inl rfl
      | succ k ih =>
        intro hk
        rw [lfold, lstep]
        split
        · rename_i h
          have hk0 : k ≠ 0 := fun z => h.1 (by subst z; simp)
          have h1 := hh k hk0 (by omega)
          have h2 := cnt_sdf h.2.1
          have h3 := cnt_pos k (by omega) hk0
          have h4 := tb (sdf F k) (sdf_lt h.2.1 hk0)
          have h5 := ih (by omega)
          have h6 : (lfold had (fun x => (totF had x).1) F k).1 ≤ 1000000 := by
            rcases h5 with e | ⟨e, -⟩
            · rw [e]; exact Int.le_refl _
            · have := cnt_le F; omega
          have h7 : had k + (totF had (sdf F k)).1 < (lfold had (fun x => (totF had x).1) F k).1 := h.2.2.2
          refine .inr ⟨by show 0 ≤ had k + (totF had (sdf F k)).1 ∧ had k + (totF had (sdf F k)).1 ≤ 4893 * (cnt F : Int); omega, k, rfl, hk0, by omega, h.2.1, h.2.2.1, rfl, by show (totF had (sdf F k)).1 < 1000000; omega⟩
        · exact ih (by omega)
    exact this (F + 1) (Nat.le_refl _)
theorem hadF_ok {g : Nat → Int} (hw : WF g) : hOK (hadF g) (2 ^ nF g) := fun _ h0 _ => hadF_bd hw h0
def SF : Nat → Nat → Bool := fun c i => c == 74 || (c == 75 || (c == 76 || (c == 66 && i == 14)))
def SV : Nat → Nat → Bool := fun c i => SR c i || SF c i
/-- the sets of a cover, by their least flights -/
def chL (fst : Nat → Nat) : Nat → Nat → List Nat
  | 0, _ => []
  | f + 1, F => if F = 0 then [] else fst F :: chL fst f (sdf F (fst F))
def fsF (had : Nat → Int) (F : Nat) : Nat := (totF had F).2.toNat
def allF (g : Nat → Int) : Nat := 2 ^ nF g - 1
def totG (g : Nat → Int) : Int := (totF (hadF g) (allF g)).1
def bestL (g : Nat → Int) : List Nat := chL (fsF (hadF g)) 7 (allF g)
/-- there is a cover -/
def covB (g : Nat → Int) : Prop := totG g < 1000000
theorem fs_ok {had : Nat → Int} {m : Nat} (hh : hOK had m) (hm : m ≤ 128) {F : Nat} (hF : F < m) (h0 : F ≠ 0) (ht : (totF had F).1 < 1000000) : fsF had F ≠ 0 ∧ fsF had F ≤ F ∧ sdf (fsF had F) F = 0 ∧ 0 ≤ had (fsF had F) ∧ (totF had F).1 = had (fsF had F) + (totF had (sdf F (fsF had F))).1 ∧ (totF had (sdf F (fsF had F))).1 < 1000000 ∧ (totF had F).2 = (fsF had F : Int) := by
  rcases totF_inv hh hm F hF h0 with h | ⟨-, s, h1, h2, h3, h4, h5, h6, h7⟩
  · rw [h] at ht; exact absurd ht (by decide)
  · have e : fsF had F = s := by unfold fsF; rw [h1, Int.toNat_natCast]
    rw [e]; exact ⟨h2, h3, h4, h5, h6, h7, h1⟩
theorem chL_len (fst : Nat → Nat) : ∀ f F, (chL fst f F).length ≤ f := by
  intro f
  induction f with
  | zero => intro F; exact Nat.le_refl _
  | succ f ih => intro F; rw [chL]; split
                 · exact Nat.zero_le _
                 · rw [List.length_cons]; have := ih (sdf F (fst F)); omega
section REFG
variable {G : GE} {d : Nat} {M : Mem}
theorem SV67 {g : Nat → Int} (hg : M 67 = g) : ∀ {M' : Mem}, Fr SV M M' → M' 67 = g := fun hf => by rw [← hg]; funext i; exact hf 67 i rfl
theorem SF67 {g : Nat → Int} (hg : M 67 = g) : ∀ {M' : Mem}, Fr SF M M' → M' 67 = g := fun hf => by rw [← hg]; funext i; exact hf 67 i rfl
theorem SR_SV : ∀ c i, SV c i = false → SR c i = false := fun c i h => by unfold SV at h; simp only [Bool.or_eq_false_iff] at h; exact h.1
theorem SF_SV : ∀ c i, SV c i = false → SF c i = false := fun c i h => by unfold SV at h; simp only [Bool.or_eq_false_iff] at h; exact h.2
/-- one table entry -/
theorem c11_finds {K : Mem → Prop} {had : Nat → Int} {m F : Nat} {v : Int} (hm : m ≤ 128) (hh : hOK had m) (e : v = (F : Int)) (hF : F < m) (h72 : ∀ s, s ≠ 0 → s < m → M 72 s = had s) (h74 : ∀ s, s < F → M 74 s = (totF had s).1) (h : ∀ M', Fr (fun c i => (c == 74 || c == 75) && i == F) M M' → M' 74 F = (totF had F).1 → M' 75 F = (totF had F).2 → K M') : CalV G miX11_finds d [.inr (.inr (some 66)), .inl v] M K := by
  subst e
  refine Cal.of (by decide) (Nat.le_of_ble_eq_true rfl) rfl (gX11_finds_0 ?_)
  rw [low_is F (by omega), Int.toNat_natCast]
  refine ⟨by omega, by omega, ?_⟩
  have hfr0 : ∀ x y : Int, Fr (fun c i => (c == 74 || c == 75) && i == F) M (mup (mup M 74 F x) 75 F y) := fun x y => by
    refine (Fr.up1 ?_).up ?_ <;> simp
  by_cases h0 : F = 0
  · subst h0
    refine gX11_finds_30 ⟨fun c => absurd c (by decide), fun _ => ⟨fun _ => h _ (hfr0 _ _) ?_ ?_, fun c => absurd c (by decide)⟩⟩
    · rw [mup_ne (by decide), mup_at, totF_0]; rfl
    · rw [mup_at, totF_0]
  · have hlow := low_in F (by omega)
    rw [if_neg (by omega)]
    have key := dn (P := fun k => lowN F ≤ k → ∀ M' : Mem, Fr (fun c i => (c == 74 || c == 75) && i == F) M M' → M' 74 F = (lfold had (fun x => (totF had x).1) F k).1 → M' 75 F = (lfold had (fun x => (totF had x).1) F k).2 → OkV G miX11_finds d K 30 [some (.inr (.inr (some 66))), some (.inl (F : Int)), some (.inl (lowN F : Int)), some (.inl (k : Int)), none] [] M') (F + 1) ?_ (fun k hk ih => ?_) (lowN F) (by omega) (Nat.le_refl _)
    · refine key _ (hfr0 _ _) ?_ ?_
      · rw [mup_ne (by decide), mup_at, lfold_lo had _ (by omega) _ (Nat.le_refl _)]
      · rw [mup_at, lfold_lo had _ (by omega) _ (Nat.le_refl _)]
    · intro _ M' hf a1 a2
      refine gX11_finds_30 ⟨fun _ => h M' hf ?_ ?_, fun c => absurd c (by omega)⟩
      · rw [totF_eq had h0]; exact a1
      · rw [totF_eq had h0]; exact a2
    · intro hlk M' hf a1 a2
      have same : lfold had (fun x => (totF had x).1) F (k + 1) = lfold had (fun x => (totF had x).1) F k → OkV G miX11_finds d K 30 [some (.inr (.inr (some 66))), some (.inl (F : Int)), some (.inl (lowN F : Int)), some (.inl (w32 ((k : Int) + 1))), none] [] M' := fun e => by
        rw [w32n (by omega)]
        exact ih (by omega) M' hf (by rw [e]; exact a1) (by rw [e]; exact a2)
      have hst : lfold had (fun x => (totF had x).1) F (k + 1) = lstep had (fun x => (totF had x).1) F k (lfold had (fun x => (totF had x).1) F k) := rfl
      refine gX11_finds_30 ⟨fun c => absurd c (by omega), fun _ => ⟨fun c => absurd c (by omega), fun _ => ?_⟩⟩
      rw [iandN (by omega), iandnN k (by omega) F (by omega), iandnN F (by omega) k (by omega), Int.toNat_natCast, Int.toNat_natCast, Int.toNat_natCast]
      refine ⟨fun c => same ?_, fun c => ⟨fun c2 => same ?_, fun c2 => ⟨by omega, ?_⟩⟩⟩
      · rw [hst, lstep, if_neg]; rintro ⟨q, -⟩; omega
      · rw [hst, lstep, if_neg]; rintro ⟨-, q, -⟩; omega
      · have hk0 : k ≠ 0 := fun z => c (by subst z; simp)
        have e72 : M' 72 k = had k := by rw [hf 72 k (by simp), h72 k hk0 (by omega)]
        have hsub : sdf k F = 0 := by omega
        have hlt := sdf_lt hsub hk0
        have e74 : M' 74 (sdf F k) = (totF had (sdf F k)).1 := by
          rw [hf 74 (sdf F k) (by simp; omega), h74 _ hlt]
        have hb := hh k hk0 (by omega)
        have tb : 0 ≤ (totF had (sdf F k)).1 ∧ (totF had (sdf F k)).1 ≤ 1000000 := by
          by_cases hz : sdf F k = 0
          · rw [hz, totF_0]; exact ⟨Int.le_refl _, by decide⟩
          · rcases totF_inv hh hm (sdf F k) (by omega) hz with e | ⟨e, -⟩
            · rw [e]; exact ⟨by decide, Int.le_refl _⟩
            · have := cnt_le (sdf F k); omega
        rw [e72, e74, a1]
        refine ⟨fun c3 => ⟨by omega, by omega, by omega, ?_⟩, fun c3 => same ?_⟩
        · rw [w32_eq (by omega) (by omega)]
          refine ⟨fun c4 => same ?_, fun c4 => ⟨by omega, by omega, ?_⟩⟩
          · rw [hst, lstep, if_neg]; rintro ⟨-, -, -, q⟩; omega
          · have e : lfold had (fun x => (totF had x).1) F (k + 1) = (had k + (totF had (sdf F k)).1, (k : Int)) := by
              rw [hst, lstep, if_pos]; exact ⟨by omega, hsub, c3, c4⟩
            rw [w32n (by omega)]
            refine ih (by omega) _ ((hf.up (by simp)).up (by simp)) ?_ ?_
            · rw [mup_ne (by decide), mup_at, e]
            · rw [mup_at, e]
        · rw [hst, lstep, if_neg]; rintro ⟨-, -, q, -⟩; omega
/-- the best cover, as it lies -/
def Cv (g : Nat → Int) (M : Mem) : Prop := M 66 14 = ((bestL g).length : Int) ∧ ∀ i, i < (bestL g).length → M 76 i = ((bestL g).getD i 0 : Int)
theorem c11_covers {K : Int → Mem → Prop} {g : Nat → Int} (hg : M 67 = g) (hw : WF g) (h72 : ∀ s, s ≠ 0 → s < 2 ^ nF g → M 72 s = hadF g s) (h1 : ∀ M', Fr SF M M' → Cv g M' → covB g → K (totG g) M') (h0 : ∀ M', Fr SF M M' → M' 66 14 = 0 → ¬ covB g → K (-1) M') : CalI G miX11_covers (d + 1) [.inr (.inr (some 66))] M K := by
  have hn := hw.n
  have hN := pow_le7 hn.2
  have hp1 := pow_pos2 (nF g)
  have hh := hadF_ok hw
  refine Cal.of (by decide) (Nat.le_of_ble_eq_true rfl) rfl (gX11_covers_0 ?_)
  rw [hg, hn.1, ishl1 (nF g) (by omega)]
  have hall : w32 (((2 ^ nF g : Nat) : Int) - 1) = (allF g : Int) := by unfold allF; generalize 2 ^ nF g = N at *; rw [w32_eq (by omega) (by omega)]; omega
  have hallN : allF g + 1 = 2 ^ nF g := by unfold allF; omega
  rw [hall]
  have key := dn (P := fun k => ∀ M' : Mem, Fr SF M M' → (∀ s, s < k → M' 74 s = (totF (hadF g) s).1 ∧ M' 75 s = (totF (hadF g) s).2) → OkI G miX11_covers (d + 1) K 13 [some (.inr (.inr (some 66))), some (.inl (allF g : Int)), some (.inl (k : Int))] [] M') (2 ^ nF g) ?_ (fun k hk ih => ?_) 0 (Nat.zero_le _)
  · exact key M Fr.rf (fun s hs => absurd hs (Nat.not_lt_zero _))
  · intro M' hf ht
    have hf2 : Fr SF M (mup M' 66 14 0) := hf.up rfl
    refine gX11_covers_13 ⟨fun _ => ⟨by omega, ?_⟩, fun c => absurd c (by omega)⟩
    rw [mup_ne (by decide), Int.toNat_natCast, (ht (allF g) (by omega)).1]
    refine ⟨fun c => ?_, fun c => h0 _ hf2 (mup_at _ _ _ _) (by unfold covB totG; omega)⟩
    -- the sets, one by one
    have loop : ∀ f F (done : List Nat), F < 2 ^ nF g → cnt F ≤ f → done.length + f = 7 → (totF (hadF g) F).1 < 1000000 → bestL g = done ++ chL (fsF (hadF g)) f F → ∀ M2 : Mem, Fr SF M M2 → (∀ s, s < 2 ^ nF g → M2 74 s = (totF (hadF g) s).1 ∧ M2 75 s = (totF (hadF g) s).2) → M2 66 14 = (done.length : Int) → (∀ i, i < done.length → M2 76 i = (done.getD i 0 : Int)) → OkI G miX11_covers (d + 1) K 49 [some (.inr (.inr (some 66))), some (.inl (allF g : Int)), some (.inl (F : Int))] [] M2 := by
      intro f
      induction f with
      | zero =>
        intro F done hF hc hd htt hL M2 f2 t2 a1 a2
        have hF0 : F = 0 := Classical.byContradiction (fun hne => by have := cnt_pos F (by omega) hne; omega)
        subst hF0
        refine gX11_covers_49 ⟨fun _ => ⟨by omega, ?_⟩, fun c => absurd c (by decide)⟩
        rw [Int.toNat_natCast, (t2 (allF g) (by omega)).1]
        have e : bestL g = done := by rw [hL, chL, List.append_nil]
        exact h1 M2 f2 (by unfold Cv; rw [e]; exact ⟨a1, a2⟩) c
      | succ f ihf =>
        intro F done hF hc hd htt hL M2 f2 t2 a1 a2
        by_cases hF0 : F = 0
        · subst hF0
          refine gX11_covers_49 ⟨fun _ => ⟨by omega, ?_⟩, fun c => absurd c (by decide)⟩
          rw [Int.toNat_natCast, (t2 (allF g) (by omega)).1]
          have e : bestL g = done := by rw [hL, chL, if_pos rfl, List.append_nil]
          exact h1 M2 f2 (by unfold Cv; rw [e]; exact ⟨a1, a2⟩) c
        · obtain ⟨s0, s1, s2, s3, s4, s5, s6⟩ := fs_ok hh hN hF hF0 htt
          generalize hs : fsF (hadF g) F = s at *
          have hcs := cnt_sdf s2
          have hcp := cnt_pos s (by omega) s0
          have hlt := sdf_lt s2 s0
          refine gX11_covers_49 ⟨fun c => absurd c (by omega), fun _ => ⟨by omega, by omega, by omega, ?_⟩⟩
          have e66 : (mup M2 76 done.length (s : Int)) 66 14 = (done.length : Int) := by rw [mup_ne (by decide), a1]
          rw [a1, Int.toNat_natCast, Int.toNat_natCast, (t2 F hF).2, s6, e66]
          have e75 : (mup (mup M2 76 done.length (s : Int)) 66 14 (w32 ((done.length : Int) + 1))) 75 F = (s : Int) := by
            rw [mup_ne (by decide), mup_ne (by decide), (t2 F hF).2, s6]
          rw [e75, iandnN F (by omega) s (by omega), w32n (by omega)]
          refine ihf (sdf F s) (done ++ [s]) (by omega) (by omega) (by rw [List.length_append, List.length_singleton]; omega) s5 ?_ _ ((f2.up rfl).up rfl) (fun x hx => ?_) ?_ (fun i hi => ?_)
          · rw [hL, chL, if_neg hF0, hs, List.append_assoc]; rfl
          · rw [mup_ne (by decide), mup_ne (by decide), mup_ne (by decide), mup_ne (by decide)]; exact t2 x hx
          · rw [mup_at, List.length_append, List.length_singleton]
          · rw [List.length_append, List.length_singleton] at hi
            rw [mup_ne (by decide)]
            by_cases e : i = done.length
            · subst e; rw [mup_at]; simp
            · rw [mup_at_ne e, a2 i (by omega)]
              rw [List.getD_eq_getElem?_getD, List.getD_eq_getElem?_getD, List.getElem?_append_left (by omega)]
    refine loop 7 (allF g) [] (by omega) (cnt_le _) rfl c rfl _ hf2 (fun s hs => ?_) (mup_at _ _ _ _) (fun i hi => absurd hi (Nat.not_lt_zero _))
    rw [mup_ne (by decide), mup_ne (by decide)]; exact ht s hs
  · intro M' hf ht
    refine gX11_covers_13 ⟨fun c => absurd c (by omega), fun _ => ?_⟩
    refine c11_finds (m := 2 ^ nF g) hN hh rfl hk (fun s q1 q2 => by rw [hf 72 s rfl]; exact h72 s q1 q2) (fun s hs => (ht s hs).1) (fun M2 f2 a1 a2 => ?_)
    rw [w32n (by omega)]
    refine ih M2 (hf.tr (f2.mo (fun c i hc => ?_))) (fun s hs => ?_)
    · unfold SF at hc
      simp only [Bool.or_eq_false_iff] at hc
      simp [hc.1, hc.2.1]
    · by_cases e : s = k
      · subst e; exact ⟨a1, a2⟩
      · rw [f2 74 s (by simp [e]), f2 75 s (by simp [e])]; exact ht s (by omega)
end REFG
