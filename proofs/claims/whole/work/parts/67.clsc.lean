/-! the class: who follows whom, what sets would cost -/
def pcF (g : Nat → Int) (s : Nat) : Int := match prF g s with
  | none => -1
  | some w => prCost g w
theorem pcF_none {g : Nat → Int} {s : Nat} (h : prF g s = none) : pcF g s = -1 := by unfold pcF; rw [h]
theorem pcF_some {g : Nat → Int} {s : Nat} {w : WSt} (h : prF g s = some w) : pcF g s = prCost g w := by unfold pcF; rw [h]
theorem prF_both {g : Nat → Int} {s : Nat} {w : WSt} (h : prF g s = some w) : wfold g s (nF g) = some w ∧ prEnd g w = true := by
  unfold prF at h
  cases hw : wfold g s (nF g) with
  | none => rw [hw] at h; cases h
  | some w0 =>
    rw [hw] at h
    simp only at h
    split at h
    · rename_i he; cases h; exact ⟨rfl, he⟩
    · cases h
theorem pcF_bd {g : Nat → Int} (hw : WF g) {s : Nat} : pcF g s = -1 ∨ (0 ≤ pcF g s ∧ pcF g s ≤ 4200) := by
  cases h : prF g s with
  | none => exact .inl (pcF_none h)
  | some w =>
    obtain ⟨h1, h2⟩ := prF_both h
    rw [pcF_some h]
    have hl : 0 ≤ w.2.1 := by unfold prEnd at h2; simp only [Bool.and_eq_true, decide_eq_true_eq] at h2; exact h2.1
    exact .inr (prCost_bd hw h1 hl).1
theorem cstF_pc (g : Nat → Int) (s : Nat) : cstF g s = if suitB g s = true then pcF g s else -1 := by
  unfold cstF pcF
  cases prF g s with
  | none => simp
  | some w => rfl
/-- the flights between two in order, as bits -/
def bwN (g : Nat → Int) (i : Nat) : Nat → Nat
  | 0 => 0
  | k + 1 => bwN g i k ||| 2 ^ oN g (i + 1 + k)
theorem bwN_lt (g : Nat → Int) (hn : nF g ≤ 7) (i : Nat) : ∀ k, i + 1 + k ≤ nF g → bwN g i k < 128 := by
  intro k
  induction k with
  | zero => intro _; show 0 < 128; decide
  | succ k ih =>
    intro hk
    have := oN_lt g (i := i + 1 + k) (by omega)
    refine Nat.or_lt_two_pow (n := 7) (ih (by omega)) ?_
    exact Nat.pow_lt_pow_right (by decide) (by omega)
theorem bwN_bit (g : Nat → Int) (i : Nat) : ∀ k, i + 1 + k ≤ nF g → ∀ j, j < nF g → ((bwN g i k).testBit (oN g j) = true ↔ i < j ∧ j < i + 1 + k) := by
  intro k
  induction k with
  | zero => intro _ j _; rw [bwN, Nat.zero_testBit]; constructor
            · intro h; cases h
            · intro h; omega
  | succ k ih =>
    intro hk j hj
    rw [bwN, Nat.testBit_or, Nat.testBit_two_pow, Bool.or_eq_true, ih (by omega) j hj, decide_eq_true_eq]
    constructor
    · rintro (h | h)
      · omega
      · have := oN_inj g (by omega) hj h; omega
    · intro h
      by_cases e : j = i + 1 + k
      · subst e; exact .inr rfl
      · exact .inl (by omega)
theorem lastP_iff (g : Nat → Int) (s : Nat) {i : Nat} (hi : i < nF g) : ∀ j, j ≤ nF g → (lastP g s j = (oN g i : Int) ↔ i < j ∧ s.testBit (oN g i) = true ∧ ∀ k, i < k → k < j → s.testBit (oN g k) = false) := by
  intro j
  induction j with
  | zero => intro _; rw [lastP]; constructor
            · intro h; omega
            · intro h; omega
  | succ j ih =>
    intro hj
    rw [lastP]
    cases hb : s.testBit (oN g j) with
    | true =>
      rw [if_pos rfl]
      constructor
      · intro h
        have e : oN g j = oN g i := by omega
        have := oN_inj g (by omega) hi e
        subst this
        exact ⟨by omega, hb, fun k h1 h2 => by omega⟩
      · rintro ⟨h1, h2, h3⟩
        by_cases e : i = j
        · subst e; rfl
        · have := h3 j (by omega) (by omega); rw [hb] at this; cases this
    | false =>
      rw [if_neg (by decide), ih (by omega)]
      constructor
      · rintro ⟨h1, h2, h3⟩
        refine ⟨by omega, h2, fun k k1 k2 => ?_⟩
        by_cases e : k = j
        · subst e; exact hb
        · exact h3 k k1 (by omega)
      · rintro ⟨h1, h2, h3⟩
        have : i ≠ j := by intro e; subst e; rw [hb] at h2; cases h2
        exact ⟨by omega, h2, fun k k1 k2 => h3 k k1 (by omega)⟩
def OrM (g : Nat → Int) (M : Mem) : Prop := ∀ i, i < nF g → M 20 i = (oN g i : Int)
def HwM (g : Nat → Int) (M : Mem) : Prop := ∀ f k, f < nF g → k < nF g → M 21 (7 * f + k) = howF g f k ∧ M 22 (7 * f + k) = slkF g f k
def BwM (g : Nat → Int) (M : Mem) : Prop := ∀ i j, i < nF g → j < nF g → M 23 (7 * oN g i + oN g j) = if i < j then (bwN g i (j - (i + 1)) : Int) else -1
def WgM (g : Nat → Int) (s : Nat) (M : Mem) : Prop := M 24 s = pcF g s ∧ ∀ w, prF g s = some w → M 25 s = w.2.2.2.2.1 ∧ M 26 s = w.2.2.2.2.2 ∧ M 27 s = g (1 + w.1.toNat)
def NetM (g : Nat → Int) (M : Mem) : Prop := OrM g M ∧ HwM g M ∧ BwM g M ∧ ∀ s, s ≠ 0 → s < 2 ^ nF g → WgM g s M
theorem NetM.fr {g : Nat → Int} {M M' : Mem} {S : Nat → Nat → Bool} (h : NetM g M) (hf : Fr S M M') (hS : ∀ c i, 20 ≤ c → c ≤ 27 → S c i = false) : NetM g M' := by
  have e : ∀ c i, 20 ≤ c → c ≤ 27 → M' c i = M c i := fun c i h1 h2 => hf c i (hS c i h1 h2)
  obtain ⟨h1, h2, h3, h4⟩ := h
  refine ⟨fun i hi => by rw [e 20 _ (by decide) (by decide)]; exact h1 i hi, fun f k hf hk => by rw [e 21 _ (by decide) (by decide), e 22 _ (by decide) (by decide)]; exact h2 f k hf hk, fun i j hi hj => by rw [e 23 _ (by decide) (by decide)]; exact h3 i j hi hj, fun s h0 hs => ?_⟩
  obtain ⟨a, b⟩ := h4 s h0 hs
  exact ⟨by rw [e 24 _ (by decide) (by decide)]; exact a, fun w hw => by rw [e 25 _ (by decide) (by decide), e 26 _ (by decide) (by decide), e 27 _ (by decide) (by decide)]; exact b w hw⟩
theorem net_rg {g : Nat → Int} {M M' : Mem} {a b : Nat} (h : NetM g M) (hf : Fr (rg a b) M M') (ha : b < 20 ∨ 27 < a) : NetM g M' := h.fr hf fun c i h1 h2 => rg_no (by omega)
section CLSC
variable {G : GE} {d : Nat} {K : Int → Mem → Prop} {M : Mem}
theorem l4_shift {K : Mem → Prop} {g : Nat → Int} (hP : ∀ o : Nat → Int, Pl g (mset M 20 o)) (hw : WF g) {k : Nat} (hk : k < nF g) (hX : ∀ (o' : Nat → Int) (p' : Nat) (cur' : Nat → Int), (cur', p') = shft (fun i => g (15 + i)) (g (15 + k)) k (ordT (fun i => g (15 + i)) k) → p' ≤ k → (∀ i, i ≤ k → i ≠ p' → o' i = cur' i) → OkV G miX4_sortByDep d K 67 [some (.inr (.inr (some 19))), some (.inl (k : Int)), some (.inl (p' : Int))] [] (mset M 20 o')) : ∀ (p : Nat) (o cur : Nat → Int), p ≤ k → (∀ i, i ≤ k → i ≠ p → o i = cur i) → (∀ i, i < p → 0 ≤ cur i ∧ cur i < k) → shft (fun i => g (15 + i)) (g (15 + k)) k (ordT (fun i => g (15 + i)) k) = shft (fun i => g (15 + i)) (g (15 + k)) p cur → OkV G miX4_sortByDep d K 15 [some (.inr (.inr (some 19))), some (.inl (k : Int)), some (.inl (p : Int))] [] (mset M 20 o) := by
  intro p
  have hn := hw.n
  induction p with
  | zero =>
    intro o cur hp ho hv hs
    exact gX4_sortByDep_15 ⟨fun _ => hX o 0 cur hs.symm (by omega) ho, fun c => absurd c (by omega)⟩
  | succ p ih =>
    intro o cur hp ho hv hs
    have e1 : (((p + 1 : Nat) : Int) - 1).toNat = p := by omega
    have e2 := ho p (by omega) (by omega)
    have e3 := hv p (by omega)
    have e4 : (o p).toNat = (cur p).toNat := by omega
    have e6 : ((p + 1 : Nat) : Int).toNat = p + 1 := by omega
    have d1 := ((hP o).fl (i := (cur p).toNat) (by omega)).2.2.1
    have d2 := ((hP o).fl (i := k) (by omega)).2.2.1
    refine gX4_sortByDep_15 ?_
    rw [mset_at, e1, e4, e6, Int.toNat_natCast, d1, d2]
    refine ⟨fun c => absurd c (by omega), fun _ => ⟨by omega, by omega, by omega, fun c => ?_, fun c => ⟨by omega, by omega, ?_⟩⟩⟩
    · have hge : ¬ g (15 + k) < (fun i => g (15 + i)) (cur p).toNat := by show ¬ g (15 + k) < g (15 + (cur p).toNat); omega
      rw [shft_ge hge] at hs
      exact hX o (p + 1) cur hs.symm hp ho
    · have hlt : g (15 + k) < (fun i => g (15 + i)) (cur p).toNat := c
      rw [shft_lt hlt] at hs
      rw [mup_mset, mset_at, mset_mset, show w32 (((p + 1 : Nat) : Int) + (-1)) = (p : Int) by rw [w32_eq (by omega) (by omega)]; omega]
      refine ih (fup o (p + 1) (o p)) (fup cur (p + 1) (cur p)) (by omega) (fun i hi hne => ?_) (fun i hi => ?_) hs
      · by_cases h : i = p + 1
        · subst h; rw [fup_at, fup_at, e2]
        · rw [fup_ne _ h, fup_ne _ h]; exact ho i hi h
      · rw [fup_ne _ (by omega)]; exact hv i (by omega)
theorem pl_mset {g : Nat → Int} {M : Mem} (h : Pl g M) {c : Nat} (hc : 9 < c) (o : Nat → Int) : Pl g (mset M c o) := h.fr (S := fun a _ => a == c) (Fr.rf.ms (fun _ => by simp)) (fun a i h1 h2 => by simp; omega)
theorem pl_mup {g : Nat → Int} {M : Mem} (h : Pl g M) {c i : Nat} (hc : 9 < c ∨ c = 0) (x : Int) : Pl g (mup M c i x) := h.fr (S := fun a _ => a == c) (Fr.up1 (by simp)) (fun a i h1 h2 => by simp; omega)
theorem c4_sortByDep {K : Mem → Prop} {g : Nat → Int} (hP : Pl g M) (hw : WF g) (h : ∀ o : Nat → Int, (∀ i, i < nF g → o i = (oN g i : Int)) → K (mset M 20 o)) : CalV G miX4_sortByDep d [.inr (.inr (some 19))] M K := by
  have hn := hw.n
  have hP' : ∀ o : Nat → Int, Pl g (mset M 20 o) := fun o => pl_mset hP (by decide) o
  refine Cal.of (by decide) (Nat.le_of_ble_eq_true rfl) rfl (gX4_sortByDep_0 ?_)
  have key := dn (P := fun k => ∀ o : Nat → Int, (∀ i, i < k → o i = ordT (fun i => g (15 + i)) k i) → OkV G miX4_sortByDep d K 2 [some (.inr (.inr (some 19))), some (.inl (k : Int)), none] [] (mset M 20 o)) (nF g) ?_ (fun k hk ih o ho => ?_) 0 (by omega)
  · have := key (M 20) (fun i hi => absurd hi (Nat.not_lt_zero _))
    rw [mset_self] at this; exact this
  · intro o ho
    refine gX4_sortByDep_2 ⟨fun _ => h o (fun i hi => by rw [ho i hi]; exact ordF_N g hi), fun c => ?_⟩
    rw [(hP' o).n hw] at c; omega
  · refine gX4_sortByDep_2 ⟨fun c => ?_, fun _ => ?_⟩
    · rw [(hP' o).n hw] at c; omega
    · refine l4_shift hP' hw hk (fun o' p' cur' hs hp' ho' => ?_) k o (ordT (fun i => g (15 + i)) k) (Nat.le_refl _) (fun i hi hne => ho i (by omega)) (fun i hi => (ordT_ord _ k).1 i hi) rfl
      refine gX4_sortByDep_67 ⟨by omega, ?_⟩
      rw [w32n (by omega), Int.toNat_natCast, mup_mset, mset_at, mset_mset]
      refine ih _ (fun i hi => ?_)
      show _ = insO (fun i => g (15 + i)) k (ordT (fun i => g (15 + i)) k) i
      unfold insO
      rw [← hs]
      by_cases e : i = p'
      · subst e; rw [fup_at, fup_at]
      · rw [fup_ne _ e, fup_ne _ e]; exact ho' i (by omega) e
def SJ (f k : Nat) : Nat → Nat → Bool := fun c i => (c == 21 || c == 22) && i == 7 * f + k
theorem c4_join {K : Mem → Prop} {g : Nat → Int} {v w : Int} {f k : Nat} (hP : Pl g M) (hw : WF g) (e : v = (f : Int)) (e' : w = (k : Int)) (hf : f < nF g) (hk : k < nF g) (h : ∀ M', Fr (SJ f k) M M' → M' 21 (7 * f + k) = howF g f k → M' 22 (7 * f + k) = slkF g f k → K M') : CalV G miX4_join (d + 2) [.inr (.inr (some 19)), .inl v, .inl w] M K := by
  subst e; subst e'
  have hn := hw.n
  have h1 := hw.fl (show f < 7 by omega)
  have h2 := hw.fl (show k < 7 by omega)
  have ei : ((f : Int) * 7 + (k : Int)).toNat = 7 * f + k := by omega
  have ha : (g (8 + f)).toNat < 4 := by omega
  have ea : g (8 + f) = ((g (8 + f)).toNat : Int) := by omega
  have hsb := sitF_bd hw ha
  have hrb := restF_bd hw ha
  refine Cal.of (by decide) (Nat.le_of_ble_eq_true rfl) rfl (gX4_join_0 ?_)
  rw [ei]
  have hP1 : Pl g (mup (mup M 21 (7 * f + k) 0) 22 (7 * f + k) 0) := pl_mup (pl_mup hP (by decide) _) (by decide) _
  have f1 : Fr (SJ f k) M (mup (mup M 21 (7 * f + k) 0) 22 (7 * f + k) 0) := (Fr.up1 (by unfold SJ; simp)).up (by unfold SJ; simp)
  have r21 : ∀ x y : Int, (mup (mup M 21 (7 * f + k) x) 22 (7 * f + k) y) 21 (7 * f + k) = x := fun x y => by rw [mup_ne (by decide), mup_at]
  have z21 := r21 0 0
  have z22 : (mup (mup M 21 (7 * f + k) 0) 22 (7 * f + k) 0) 22 (7 * f + k) = 0 := mup_at _ _ _ _
  generalize (mup (mup M 21 (7 * f + k) 0) 22 (7 * f + k) 0) = M1 at *
  rw [Int.toNat_natCast, Int.toNat_natCast, (hP1.fl (show k < 7 by omega)).1, (hP1.fl (show f < 7 by omega)).2.1, (hP1.fl (show k < 7 by omega)).2.2.1, (hP1.fl (show f < 7 by omega)).2.2.2, w32_eq (x := g (15 + k) - g (22 + f)) (by omega) (by omega)]
  have f2 : ∀ x y : Int, Fr (SJ f k) M (mup (mup M1 21 (7 * f + k) x) 22 (7 * f + k) y) := fun x y => (f1.up (by unfold SJ; simp)).up (by unfold SJ; simp)
  refine ⟨by omega, by omega, by omega, by omega, fun c => ⟨by omega, by omega, ?_⟩, fun c => ?_⟩
  · refine c5_sitAt hP1 hw ea ha ?_
    refine c5_restAt hP1 hw ea ha ?_
    refine ⟨fun c1 => ⟨fun c2 => ?_, fun c2 => ⟨by omega, by omega, ?_⟩⟩, fun c1 => ⟨by omega, by omega, ?_⟩⟩
    · have hh : howF g f k = 0 := by unfold howF; rw [if_neg (by omega), if_neg (by omega), if_neg (by omega)]
      exact h _ f1 (by rw [hh]; exact z21) (by unfold slkF; rw [hh]; exact z22)
    · have hh : howF g f k = 1 := by unfold howF; rw [if_neg (by omega), if_neg (by omega), if_pos (by omega)]
      refine h _ (f2 _ _) (by rw [hh, mup_ne (by decide), mup_at]) ?_
      rw [mup_at, w32_eq (by omega) (by omega)]; unfold slkF; rw [hh]; rfl
    · have hh : howF g f k = 2 := by unfold howF; rw [if_neg (by omega), if_pos (by omega)]
      refine h _ (f2 _ _) (by rw [hh, mup_ne (by decide), mup_at]) ?_
      rw [mup_at, w32_eq (by omega) (by omega)]; unfold slkF; rw [hh]; rfl
  · have hh : howF g f k = 0 := by unfold howF; rw [if_pos (by omega)]
    exact h _ f1 (by rw [hh]; exact z21) (by unfold slkF; rw [hh]; exact z22)
theorem ior_bw {a b : Nat} (ha : a < 128) (hb : b < 8) : ior (a : Int) (ishl 1 (b : Int)) = ((a ||| 2 ^ b : Nat) : Int) := by
  rw [ishl1 b hb, iorN (by omega)]
  exact Nat.lt_of_le_of_lt (Nat.pow_le_pow_right (by decide) (show b ≤ 7 by omega)) (by decide)
theorem c4_findBetween {K : Mem → Prop} {g : Nat → Int} (hP : Pl g M) (hw : WF g) (ho : OrM g M) (h : ∀ q : Nat → Int, BwM g (mset M 23 q) → K (mset M 23 q)) : CalV G miX4_findBetween (d + 1) [.inr (.inr (some 19))] M K := by
  have hn := hw.n
  refine Cal.of (by decide) (Nat.le_of_ble_eq_true rfl) rfl (gX4_findBetween_0 ?_)
  refine cJ_fill ly_23 (by decide) (fun q0 hq0 => ?_)
  have hP' : ∀ q : Nat → Int, Pl g (mset M 23 q) := fun q => pl_mset hP (by decide) q
  have ho' : ∀ (q : Nat → Int), OrM g (mset M 23 q) := fun q i hi => by rw [mset_ne _ (by decide)]; exact ho i hi
  -- rows below i are laid
  have outer := dn (P := fun i => ∀ q : Nat → Int, (∀ a b, a < nF g → b < nF g → q (7 * oN g a + oN g b) = if a < b ∧ a < i then (bwN g a (b - (a + 1)) : Int) else -1) → OkV G miX4_findBetween (d + 1) K 10 [some (.inr (.inr (some 19))), some (.inl (i : Int)), none, none] [] (mset M 23 q)) (nF g) ?_ (fun i hi ih => ?_) 0 (Nat.zero_le _) q0 (fun a b ha hb => by
    have := oN_lt g ha
    have := oN_lt g hb
    rw [hq0 _ (by omega), if_neg (by omega)])
  · exact outer
  · intro q hq
    refine gX4_findBetween_10 ⟨fun _ => h q (fun a b ha hb => ?_), fun c => ?_⟩
    · rw [mset_at, hq a b ha hb]
      by_cases e : a < b
      · rw [if_pos ⟨e, ha⟩, if_pos e]
      · rw [if_neg (fun c => e c.1), if_neg e]
    · rw [(hP' q).n hw] at c; omega
  · intro q hq
    refine gX4_findBetween_10 ⟨fun c => ?_, fun _ => ?_⟩
    · rw [(hP' q).n hw] at c; omega
    rw [w32n (by omega)]
    have inner := dn (P := fun k => ∀ q : Nat → Int, (∀ a b, a < nF g → b < nF g → q (7 * oN g a + oN g b) = if a < b ∧ (a < i ∨ (a = i ∧ b < i + 1 + k)) then (bwN g a (b - (a + 1)) : Int) else -1) → OkV G miX4_findBetween (d + 1) K 27 [some (.inr (.inr (some 19))), some (.inl (i : Int)), some (.inl (bwN g i k : Int)), some (.inl ((i + 1 + k : Nat) : Int))] [] (mset M 23 q)) (nF g - (i + 1)) ?_ (fun k hk ih2 => ?_) 0 (Nat.zero_le _) q (fun a b ha hb => by
      rw [hq a b ha hb]
      by_cases e : a < b ∧ a < i
      · rw [if_pos e, if_pos (by omega)]
      · rw [if_neg e, if_neg (by omega)])
    · exact inner
    · intro q hq
      refine gX4_findBetween_27 ⟨fun _ => ?_, fun c => ?_⟩
      · rw [w32n (by omega)]
        refine ih q (fun a b ha hb => ?_)
        rw [hq a b ha hb]
        by_cases e : a < b ∧ a < i + 1
        · rw [if_pos e, if_pos (by omega)]
        · rw [if_neg e, if_neg (by omega)]
      · rw [(hP' q).n hw] at c; omega
    · intro q hq
      have li := oN_lt g hi
      have lj := oN_lt g (i := i + 1 + k) (by omega)
      have bl := bwN_lt g hn.2 i k (by omega)
      refine gX4_findBetween_27 ⟨fun c => ?_, fun _ => ?_⟩
      · rw [(hP' q).n hw] at c; omega
      rw [Int.toNat_natCast, Int.toNat_natCast, ho' q i hi, ho' q (i + 1 + k) (by omega), show ((oN g i : Int) * 7 + (oN g (i + 1 + k) : Int)).toNat = 7 * oN g i + oN g (i + 1 + k) by omega, mup_ne (show (20 : Nat) ≠ 23 by decide), ho' q (i + 1 + k) (by omega), ior_bw bl (by omega), w32n (by omega)]
      refine ⟨by omega, by omega, by omega, by omega, ?_⟩
      rw [mup_mset, mset_at, mset_mset]
      refine ih2 _ (fun a b ha hb => ?_)
      have la := oN_lt g ha
      have lb := oN_lt g hb
      by_cases e : a = i ∧ b = i + 1 + k
      · obtain ⟨rfl, rfl⟩ := e
        rw [fup_at, if_pos (by omega), show a + 1 + k - (a + 1) = k by omega]
      · rw [fup_ne _ (fun c => e ⟨oN_inj g ha hi (by omega), oN_inj g hb (by omega) (by omega)⟩), hq a b ha hb]
        by_cases e2 : a < b ∧ (a < i ∨ (a = i ∧ b < i + 1 + k))
        · rw [if_pos e2, if_pos (by omega)]
        · rw [if_neg e2, if_neg (by omega)]
theorem c4_isTight {g : Nat → Int} {v w : Int} {f k : Nat} (hP : Pl g M) (hw : WF g) (hH : HwM g M) (e : v = (f : Int)) (e' : w = (k : Int)) (hf : f < nF g) (hk : k < nF g) (h : K (bI (tgtB g f k)) M) : CalI G miX4_isTight d [.inr (.inr (some 19)), .inl v, .inl w] M K := by
  subst e; subst e'
  have hn := hw.n
  have ei : ((f : Int) * 7 + (k : Int)).toNat = 7 * f + k := by omega
  refine Cal.of (by decide) (Nat.le_of_ble_eq_true rfl) rfl (gX4_isTight_0 ?_)
  rw [ei, (hH f k hf hk).1, (hH f k hf hk).2, hP.fe (i := 4) (by decide)]
  unfold tgtB at h
  refine ⟨by omega, fun c => ?_, fun c => ⟨by omega, fun c2 => ?_, fun c2 => ?_⟩⟩
  · rw [decide_eq_false c] at h; exact h
  · rw [decide_eq_false (p := slkF g f k < g 91) (by show ¬ slkF g f k < g (87 + 4); omega), Bool.and_false] at h; exact h
  · rw [decide_eq_true c, decide_eq_true (p := slkF g f k < g 91) c2] at h; exact h
theorem c4_isRightBehind {g : Nat → Int} {v w x : Int} {s f k : Nat} (hw : WF g) (hB : BwM g M) (ex : x = (s : Int)) (e : v = (f : Int)) (e' : w = (k : Int)) (hs : s < 128) (hf : f < nF g) (hk : k < nF g) (h : K (bI (rbB g s f k)) M) : CalI G miX4_isRightBehind d [.inr (.inr (some 19)), .inl x, .inl v, .inl w] M K := by
  subst ex; subst e; subst e'
  have hn := hw.n
  obtain ⟨i, hi, rfl⟩ := oN_sur g hf
  obtain ⟨j, hj, rfl⟩ := oN_sur g hk
  have li := oN_lt g hi
  have lj := oN_lt g hj
  have ei : ((oN g i : Int) * 7 + (oN g j : Int)).toNat = 7 * oN g i + oN g j := by omega
  rw [rb_at g s _ hj] at h
  have hl := lastP_iff g s hi j (by omega)
  have p1 : (2 : Nat) ^ oN g i < 256 := Nat.lt_of_le_of_lt (Nat.pow_le_pow_right (by decide) (show oN g i ≤ 7 by omega)) (by decide)
  have p2 : (2 : Nat) ^ oN g j < 256 := Nat.lt_of_le_of_lt (Nat.pow_le_pow_right (by decide) (show oN g j ≤ 7 by omega)) (by decide)
  have eo : ior (ishl 1 (oN g i : Int)) (ishl 1 (oN g j : Int)) = ((2 ^ oN g i ||| 2 ^ oN g j : Nat) : Int) := by rw [ishl1 _ (by omega), ishl1 _ (by omega), iorN p1 p2]
  have ba : (s &&& (2 ^ oN g i ||| 2 ^ oN g j) = 2 ^ oN g i ||| 2 ^ oN g j) ↔ s.testBit (oN g i) = true ∧ s.testBit (oN g j) = true := by
    constructor
    · intro q
      constructor
      · have := congrArg (fun n => n.testBit (oN g i)) q
        simp only [Nat.testBit_and, Nat.testBit_or, Nat.testBit_two_pow] at this
        simpa using this
      · have := congrArg (fun n => n.testBit (oN g j)) q
        simp only [Nat.testBit_and, Nat.testBit_or, Nat.testBit_two_pow] at this
        simpa using this
    · rintro ⟨q1, q2⟩
      refine Nat.eq_of_testBit_eq (fun m => ?_)
      simp only [Nat.testBit_and, Nat.testBit_or, Nat.testBit_two_pow]
      by_cases m1 : oN g i = m
      · subst m1; simp [q1]
      · by_cases m2 : oN g j = m
        · subst m2; simp [q2]
        · simp [m1, m2]
  refine Cal.of (by decide) (Nat.le_of_ble_eq_true rfl) rfl (gX4_isRightBehind_0 ?_)
  rw [ei, hB i j hi hj, eo, iandN (by omega)]
  refine ⟨by omega, fun c => ?_, fun c => ⟨fun c2 => ?_, fun c2 => ?_⟩⟩
  · have hij : ¬ i < j := fun q => by rw [if_pos q] at c; omega
    have : decide (lastP g s j = (oN g i : Int)) = false := decide_eq_false (fun q => hij (hl.mp q).1)
    rw [this, Bool.and_false] at h; exact h
  · have hz : ¬ (s.testBit (oN g i) = true ∧ s.testBit (oN g j) = true) := fun q => c2 (by rw [ba.mpr q])
    have : (s.testBit (oN g j) && decide (lastP g s j = (oN g i : Int))) = false := by
      cases hb : s.testBit (oN g j) with
      | false => rfl
      | true => rw [Bool.true_and, decide_eq_false_iff_not]; intro q; exact hz ⟨(hl.mp q).2.1, hb⟩
    rw [this] at h; exact h
  · have hz := ba.mp (by omega)
    have hij : i < j := by
      rcases Nat.lt_or_ge i j with q | q
      · exact q
      · exact absurd (if_neg (by omega)) c
    rw [if_pos hij, iandN (by omega)]
    have bb := bwN_bit g i (j - (i + 1)) (by omega)
    have am : (s &&& bwN g i (j - (i + 1)) = 0) ↔ ∀ k, i < k → k < j → s.testBit (oN g k) = false := by
      constructor
      · intro q k k1 k2
        have := congrArg (fun n => n.testBit (oN g k)) q
        simp only [Nat.testBit_and, Nat.zero_testBit] at this
        rw [(bb k (by omega)).mpr (by omega), Bool.and_true] at this; exact this
      · intro q
        refine Nat.eq_of_testBit_eq (fun m => ?_)
        rw [Nat.testBit_and, Nat.zero_testBit]
        cases hm : (bwN g i (j - (i + 1))).testBit m with
        | false => simp
        | true =>
          have hm7 : m < nF g := by
            rcases Nat.lt_or_ge m (nF g) with z | z
            · exact z
            · exfalso
              have up : ∀ k, i + 1 + k ≤ nF g → (bwN g i k).testBit m = false := by
                intro k
                induction k with
                | zero => intro _; rw [bwN, Nat.zero_testBit]
                | succ k ih =>
                  intro hk
                  have := oN_lt g (i := i + 1 + k) (by omega)
                  rw [bwN, Nat.testBit_or, ih (by omega), Nat.testBit_two_pow]
                  simp; omega
              rw [up _ (by omega)] at hm; cases hm
          obtain ⟨k, hk, rfl⟩ := oN_sur g hm7
          have := (bb k hk).mp hm
          rw [q k (by omega) (by omega)]; rfl
    refine ⟨fun c3 => ?_, fun c3 => ?_⟩
    · have : decide (lastP g s j = (oN g i : Int)) = false := decide_eq_false (fun q => c3 (by rw [am.mpr (hl.mp q).2.2]; rfl))
      rw [this, Bool.and_false] at h; exact h
    · have c3' : s &&& bwN g i (j - (i + 1)) = 0 := by omega
      have : decide (lastP g s j = (oN g i : Int)) = true := decide_eq_true (hl.mpr ⟨hij, hz.1, am.mp c3'⟩)
      rw [this, hz.2] at h; exact h
end CLSC
