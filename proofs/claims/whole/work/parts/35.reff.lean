/-! the reference: pairing, pairings, had -/
def sN (v : Int) : Nat := v.toNat
def prW (g : Nat → Int) (w : WSt) (x : Int) : Int := if x = 0 then prCost g w else if x = 1 then w.2.2.2.2.1 else if x = 2 then w.2.2.2.2.2 else g (1 + w.1.toNat)
def pairR (g : Nat → Int) (v x : Int) : Int := if v < 1 ∨ ((2 ^ nF g : Nat) : Int) ≤ v ∨ x < 0 ∨ 3 < x then -2 else match prF g v.toNat with
  | none => -1
  | some w => if suitB g v.toNat then prW g w x else -1
def hadR (g : Nat → Int) (v x : Int) : Int := if v < 1 ∨ ((2 ^ nF g : Nat) : Int) ≤ v ∨ x < 0 ∨ 1 < x then -2 else if x = 0 then hadF g v.toNat else byF g v.toNat
/-- how many of 1 .. k-1 have a cost -/
def pcn (c : Nat → Int) : Nat → Nat
  | 0 => 0
  | k + 1 => pcn c k + (if 1 ≤ k ∧ 0 ≤ c k then 1 else 0)
def pfd (c : Nat → Int) (x : Int) : Nat → Option Nat
  | 0 => none
  | k + 1 => match pfd c x k with
    | some s => some s
    | none => if 1 ≤ k ∧ 0 ≤ c k ∧ (pcn c k : Int) = x then some k else none
def pairsR (g : Nat → Int) (x : Int) : Int := match pfd (cstF g) x (2 ^ nF g) with
  | some s => (s : Int)
  | none => if x = -1 then (pcn (cstF g) (2 ^ nF g) : Int) else -12
theorem pcn_le (c : Nat → Int) (k : Nat) : pcn c k ≤ k := by
  induction k with
  | zero => exact Nat.le_refl _
  | succ k ih => unfold pcn; split <;> omega
theorem pfd_some {c : Nat → Int} {x : Int} {k s : Nat} (h : pfd c x k = some s) : ∀ m, k ≤ m → pfd c x m = some s := by
  intro m hm
  induction m with
  | zero => have : k = 0 := by omega
            subst this; exact h
  | succ m ih =>
    by_cases e : k = m + 1
    · subst e; exact h
    · rw [pfd, ih (by omega)]
section REFF
variable {G : GE} {d : Nat} {M : Mem} {K : Int → Mem → Prop}
theorem prF_fold {g : Nat → Int} {s : Nat} {w : WSt} (hp : prF g s = some w) : wfold g s (nF g) = some w := by
  unfold prF at hp
  cases hf : wfold g s (nF g) with
  | none => rw [hf] at hp; cases hp
  | some w' =>
    rw [hf] at hp; simp only at hp; split at hp
    · exact hp
    · cases hp
theorem c11_pairing {g : Nat → Int} {v x : Int} (hg : M 67 = g) (hw : WF g) (h : ∀ M', Fr SR M M' → K (pairR g v x) M') : CalI G miX11_pairing (d + 5) [.inr (.inr (some 66)), .inl v, .inl x] M K := by
  refine Cal.of (by decide) (Nat.le_of_ble_eq_true rfl) rfl (gX11_pairing_0 ?_)
  refine c11_isSet hg hw (fun s e h0 hs => b1 ?_) (fun a => b0 ?_)
  · subst e
    refine c11_in (fun a b => n1 ?_) (fun a => n0 ?_)
    · have hbad : ¬ ((s : Int) < 1 ∨ ((2 ^ nF g : Nat) : Int) ≤ (s : Int) ∨ x < 0 ∨ 3 < x) := by generalize 2 ^ nF g = N at *; omega
      simp only [pairR, if_neg hbad, Int.toNat_natCast] at h
      refine c11_orders hg hw (fun o ho => ?_)
      refine c11_costOf (g := g) (by rw [mset_ne _ (by decide), hg]) hw (fun i hi => by rw [mset_at]; exact ho i hi) rfl h0 hs (fun M' f' hp' => ?_)
      have hf : Fr SR M M' := (Fr.rf.ms (fun _ => rfl)).tr (f'.mo SC_SR)
      have hK := h M' hf
      cases hp : prF g s with
      | none =>
        rw [hp] at hK
        simp only [cstF, hp]
        exact ⟨fun _ => hK, fun c => absurd c (by decide)⟩
      | some w =>
        have hwf := prF_fold hp
        have bd := (prCost_bd hw hwf (wend_la hw h0 hs hwf)).1
        have hm := hp' w hp
        rw [hp] at hK
        simp only [cstF, hp]
        cases hsu : suitB g s with
        | false =>
          simp only [hsu] at hK
          exact ⟨fun _ => hK, fun c => absurd c (by simp)⟩
        | true =>
          simp only [hsu, if_pos] at hK ⊢
          refine ⟨fun c => absurd c (by omega), fun _ => ⟨fun c0 => ⟨fun c1 => ⟨fun c2 => ?_, fun c2 => ?_⟩, fun c1 => ?_⟩, fun c0 => ?_⟩⟩
          · rw [hm.2.2]; exact kv hK (by unfold prW; rw [if_neg c0, if_neg c1, if_neg c2])
          · rw [hm.2.1]; exact kv hK (by unfold prW; rw [if_neg c0, if_neg c1, if_pos c2])
          · rw [hm.1]; exact kv hK (by unfold prW; rw [if_neg c0, if_pos c1])
          · exact kv hK (by unfold prW; rw [if_pos c0])
    · exact kv (h M Fr.rf) (by unfold pairR; rw [if_pos (by omega)])
  · exact kv (h M Fr.rf) (by unfold pairR; rw [if_pos (by omega)])
theorem c11_had {g : Nat → Int} {v x : Int} (hg : M 67 = g) (hw : WF g) (h : ∀ M', Fr SR M M' → K (hadR g v x) M') : CalI G miX11_had (d + 6) [.inr (.inr (some 66)), .inl v, .inl x] M K := by
  have hN := pow_le7 hw.n.2
  refine Cal.of (by decide) (Nat.le_of_ble_eq_true rfl) rfl (gX11_had_0 ?_)
  refine c11_isSet hg hw (fun s e h0 hs => b1 ?_) (fun a => b0 ?_)
  · subst e
    refine c11_in (fun a b => n1 ?_) (fun a => n0 ?_)
    · have hbad : ¬ ((s : Int) < 1 ∨ ((2 ^ nF g : Nat) : Int) ≤ (s : Int) ∨ x < 0 ∨ 1 < x) := by generalize 2 ^ nF g = N at *; omega
      simp only [hadR, if_neg hbad, Int.toNat_natCast] at h
      refine c11_reckons hg hw (fun M' f' rk => ?_)
      have := rk.2 s h0 hs
      have hK := h M' f'
      refine ⟨fun c => ⟨by omega, ?_⟩, fun c => ⟨by omega, ?_⟩⟩
      · rw [Int.toNat_natCast, this.2.2]; rw [if_neg c] at hK; exact hK
      · rw [Int.toNat_natCast, this.2.1]; rw [if_pos c] at hK; exact hK
    · exact kv (h M Fr.rf) (by unfold hadR; rw [if_pos (by omega)])
  · exact kv (h M Fr.rf) (by unfold hadR; rw [if_pos (by omega)])
theorem c11_pairings {g : Nat → Int} {x : Int} (hg : M 67 = g) (hw : WF g) (h : ∀ M', Fr SR M M' → K (pairsR g x) M') : CalI G miX11_pairings (d + 6) [.inr (.inr (some 66)), .inl x] M K := by
  have hn := hw.n
  have hN := pow_le7 hn.2
  have hp1 := pow_pos2 (nF g)
  refine Cal.of (by decide) (Nat.le_of_ble_eq_true rfl) rfl (gX11_pairings_0 ?_)
  refine c11_reckons hg hw (fun M' f' rk => ?_)
  have h67 := SR67 hg f'
  have hK := h M' f'
  unfold pairsR at hK
  have hb := pcn_le (cstF g)
  refine dn (P := fun k => 1 ≤ k → pfd (cstF g) x k = none → OkI G miX11_pairings (d + 6) K 8 [some (.inr (.inr (some 66))), some (.inl x), some (.inl (pcn (cstF g) k : Int)), some (.inl (k : Int))] [] M') (2 ^ nF g) ?_ (fun k hk ih => ?_) 1 hp1 (Nat.le_refl _) rfl
  · intro _ hnone
    rw [hnone] at hK
    refine gX11_pairings_8 ?_
    rw [h67, hn.1, ishl1 (nF g) (by omega)]
    refine ⟨fun _ => ⟨fun c => ?_, fun c => ?_⟩, fun c => absurd c (by omega)⟩
    · simp only [if_neg c] at hK; exact hK
    · simp only [if_pos c] at hK; exact hK
  · intro hk1 hnone
    have e71 := (rk.2 k (by omega) hk).1
    have hbk := hb k
    refine gX11_pairings_8 ?_
    rw [h67, hn.1, ishl1 (nF g) (by omega), Int.toNat_natCast, e71]
    refine ⟨fun c => absurd c (by omega), fun _ => ⟨by omega, fun c => ?_, fun c => ⟨fun c2 => ?_, fun c2 => ?_⟩⟩⟩
    · rw [w32n (by omega)]
      have e : pcn (cstF g) (k + 1) = pcn (cstF g) k := by rw [pcn, if_neg (by omega)]; rfl
      rw [e] at ih
      exact ih (by omega) (by rw [pfd, hnone]; simp only; rw [if_neg (by omega)])
    · rw [w32n (by omega), w32n (by omega)]
      have e : pcn (cstF g) (k + 1) = pcn (cstF g) k + 1 := by rw [pcn, if_pos (by omega)]
      rw [e] at ih
      exact ih (by omega) (by rw [pfd, hnone]; simp only; rw [if_neg (by omega)])
    · have e : pfd (cstF g) x (k + 1) = some k := by rw [pfd, hnone]; simp only; rw [if_pos (by omega)]
      rw [pfd_some e _ (by omega)] at hK
      exact hK
end REFF
/-! covers -/
def lowN (F : Nat) : Nat := F - (F &&& (F - 1))
theorem low_is : ∀ F : Nat, F < 128 → iand (F : Int) (w32 (-(F : Int))) = (lowN F : Int) := by decide +kernel
theorem low_below : ∀ F, F < 128 → ∀ s, s < lowN F → s &&& lowN F = 0 := by decide +kernel
theorem low_in : ∀ F, F < 128 → lowN F ≤ F ∧ (F ≠ 0 → lowN F ≠ 0) ∧ lowN F &&& F = lowN F := by decide +kernel
def lstep (had T : Nat → Int) (F s : Nat) (r : Int × Int) : Int × Int :=
  if s &&& lowN F ≠ 0 ∧ sdf s F = 0 ∧ 0 ≤ had s ∧ had s + T (sdf F s) < r.1 then (had s + T (sdf F s), (s : Int)) else r
def lfold (had T : Nat → Int) (F : Nat) : Nat → Int × Int
  | 0 => (1000000, 0)
  | s + 1 => lstep had T F s (lfold had T F s)
def totT (had : Nat → Int) : Nat → Nat → Int × Int
  | 0 => fun _ => (0, 0)
  | k + 1 => fun F => if F = k then (if k = 0 then (0, 0) else lfold had (fun x => (totT had k x).1) k (k + 1)) else totT had k F
/-- of the flights F: the least total (1000000: none), its set with the least flight -/
def totF (had : Nat → Int) (F : Nat) : Int × Int := totT had (F + 1) F
theorem totT_F (had : Nat → Int) : ∀ k F, F < k → totT had k F = totF had F := by
  intro k
  induction k with
  | zero => intro F h; omega
  | succ k ih =>
    intro F h
    by_cases e : F = k
    · subst e; rfl
    · rw [totT]; simp only; rw [if_neg e]; exact ih F (by omega)
theorem totF_0 (had : Nat → Int) : totF had 0 = (0, 0) := rfl
theorem sdf_lt {F s : Nat} (hs : sdf s F = 0) (h0 : s ≠ 0) : sdf F s < F := by
  have h1 : s &&& F = s := by
    refine Nat.eq_of_testBit_eq (fun k => ?_)
    have := sdf_bit s F k
    rw [hs, Nat.zero_testBit] at this
    rw [Nat.testBit_and]
    cases hb : s.testBit k <;> cases hf : F.testBit k <;> simp_all
  have h2 : F &&& s = s := by rw [Nat.and_comm]; exact h1
  unfold sdf
  rw [h2]
  have h3 : F ^^^ s ≤ F := by
    refine Nat.le_of_testBit (fun k => ?_)
    rw [Nat.testBit_xor]
    intro hk
    have := sub_bit h1 k
    cases hb : s.testBit k <;> cases hf : F.testBit k <;> simp_all
  rcases Nat.lt_or_ge (F ^^^ s) F with h | h
  · exact h
  · exfalso
    have e : F ^^^ s = F := Nat.le_antisymm h3 h
    apply h0
    refine Nat.eq_of_testBit_eq (fun k => ?_)
    have := congrArg (fun x => x.testBit k) e
    simp only [Nat.testBit_xor] at this
    rw [Nat.zero_testBit]
    cases hb : s.testBit k <;> cases hf : F.testBit k <;> simp_all
theorem lfold_congr {had T T' : Nat → Int} {F : Nat} (e : ∀ x, x < F → T x = T' x) : ∀ k, lfold had T F k = lfold had T' F k := by
  intro k
  induction k with
  | zero => rfl
  | succ k ih =>
    rw [lfold, lfold, ih, lstep, lstep]
    by_cases h : k &&& lowN F ≠ 0 ∧ sdf k F = 0
    · have h0 : k ≠ 0 := fun z => h.1 (by subst z; simp)
      rw [e _ (sdf_lt h.2 h0)]
    · rw [if_neg (fun q => h ⟨q.1, q.2.1⟩), if_neg (fun q => h ⟨q.1, q.2.1⟩)]
theorem totF_eq (had : Nat → Int) {F : Nat} (h : F ≠ 0) : totF had F = lfold had (fun x => (totF had x).1) F (F + 1) := by
  unfold totF
  rw [totT]; simp only
  rw [if_pos trivial, if_neg h]
  exact lfold_congr (fun x hx => by rw [totT_F had F x hx]; rfl) _
