/-! at most 24 pairings -/
def cdN (g : Nat → Int) (s : Nat) : Nat → Nat
  | 0 => 0
  | k + 1 => if s.testBit (oN g k) = true then cdN g s k ||| 2 ^ k else cdN g s k
theorem cdN_bit (g : Nat → Int) (s j : Nat) : ∀ k, (cdN g s k).testBit j = (decide (j < k) && s.testBit (oN g j)) := by
  intro k
  induction k with
  | zero => simp [cdN]
  | succ k ih =>
    rw [cdN]
    by_cases ej : j = k
    · subst ej
      cases hf : s.testBit (oN g j) with
      | true => rw [if_pos rfl, Nat.testBit_or, ih, Nat.testBit_two_pow]; simp
      | false => rw [if_neg (by decide), ih]; simp
    · have : decide (j < k + 1) = decide (j < k) := by simp; omega
      rw [this]
      split
      · rw [Nat.testBit_or, ih, Nat.testBit_two_pow]; simp; intro z; omega
      · exact ih
theorem cdN_inj {g : Nat → Int} {s s' : Nat} (hs : s < 2 ^ nF g) (hs' : s' < 2 ^ nF g) (h : cdN g s (nF g) = cdN g s' (nF g)) : s = s' := by
  refine Nat.eq_of_testBit_eq (fun f => ?_)
  rcases Nat.lt_or_ge f (nF g) with hf | hf
  · obtain ⟨j, hj, ej⟩ := oN_sur g hf
    have e : (cdN g s (nF g)).testBit j = (cdN g s' (nF g)).testBit j := by rw [h]
    rw [cdN_bit, cdN_bit, ej] at e
    simpa [hj] using e
  · have h1 : 2 ^ nF g ≤ 2 ^ f := Nat.pow_le_pow_right (by decide) hf
    rw [Nat.testBit_lt_two_pow (Nat.lt_of_lt_of_le hs h1), Nat.testBit_lt_two_pow (Nat.lt_of_lt_of_le hs' h1)]
def frK (g : Nat → Int) (k : Nat) : Nat := (g (1 + oN g k)).toNat
def toK (g : Nat → Int) (k : Nat) : Nat := (g (8 + oN g k)).toNat
/-- chains among the first k flights, from a to b -/
def chS (g : Nat → Int) : Nat → Nat → Nat → List Nat
  | 0 => fun a b => if a = b then [0] else []
  | k + 1 => fun a b => if b = toK g k then chS g k a b ++ (chS g k a (frK g k)).map (fun x => x ||| 2 ^ k) else chS g k a b
def edG (g : Nat → Int) (k : Nat) : List (Nat × Nat) := (List.range k).map (fun i => (frK g i, toK g i))
theorem chS_len (g : Nat → Int) : ∀ k a b, (chS g k a b).length = stps idM (edG g k) a b := by
  intro k
  induction k with
  | zero => intro a b; show (if a = b then [0] else []).length = idM a b; unfold idM; split <;> rfl
  | succ k ih =>
    intro a b
    have e : edG g (k + 1) = edG g k ++ [(frK g k, toK g k)] := by unfold edG; rw [List.range_succ, List.map_append]; rfl
    have e2 : stps idM (edG g (k + 1)) = stp (stps idM (edG g k)) (frK g k) (toK g k) := by rw [e]; unfold stps; rw [List.foldl_append]; rfl
    rw [e2]
    show (if b = toK g k then chS g k a b ++ (chS g k a (frK g k)).map (fun x => x ||| 2 ^ k) else chS g k a b).length = _
    unfold stp
    split
    · rw [List.length_append, List.length_map, ih, ih]
    · exact ih a b
theorem chS_mono {g : Nat → Int} {k a b x : Nat} (h : x ∈ chS g k a b) : x ∈ chS g (k + 1) a b := by
  rw [chS]; simp only
  split
  · exact List.mem_append_left _ h
  · exact h
theorem chS_zero (g : Nat → Int) (a : Nat) : ∀ k, 0 ∈ chS g k a a := by
  intro k
  induction k with
  | zero => rw [chS]; simp
  | succ k ih => exact chS_mono ih
theorem chS_ext {g : Nat → Int} {k a x : Nat} (h : x ∈ chS g k a (frK g k)) : x ||| 2 ^ k ∈ chS g (k + 1) a (toK g k) := by
  rw [chS]; simp only
  rw [if_pos trivial]
  exact List.mem_append_right _ (List.mem_map.mpr ⟨x, h, rfl⟩)
theorem ch_fold {g : Nat → Int} {s : Nat} : ∀ k, k ≤ nF g → ∀ w, wfold g s k = some w → (w.2.1 < 0 → cdN g s k = 0) ∧ (0 ≤ w.2.1 → cdN g s k ∈ chS g k (g (1 + w.1.toNat)).toNat (g (8 + w.2.1.toNat)).toNat) := by
  intro k
  induction k with
  | zero =>
    intro _ w h
    simp only [wfold, Option.some.injEq] at h
    subst h
    exact ⟨fun _ => rfl, fun z => absurd z (by decide)⟩
  | succ k ih =>
    intro hk w h
    cases h0 : wfold g s k with
    | none => rw [wfold_none h0 (Nat.le_succ k)] at h; cases h
    | some w0 =>
      rw [wfold_succ h0] at h
      obtain ⟨i1, i2⟩ := ih (by omega) w0 h0
      cases hb : s.testBit (oN g k) with
      | false =>
        rw [wstep_no hb] at h; cases h
        have e : cdN g s (k + 1) = cdN g s k := by rw [cdN, if_neg (by rw [hb]; decide)]
        rw [e]
        exact ⟨i1, fun z => chS_mono (i2 z)⟩
      | true =>
        have e : cdN g s (k + 1) = cdN g s k ||| 2 ^ k := by rw [cdN, if_pos hb]
        rw [e]
        by_cases hc : wBad g (oN g k) (wY g (oN g k) w0) (wFi (oN g k) w0) (wSt g (oN g k) w0) (wLe g (oN g k) w0) (wDu g (oN g k) w0)
        · rw [wstep_bad hb hc] at h; cases h
        · rw [wstep_ok hb hc] at h; cases h
          refine ⟨fun z => absurd z (by simp only; omega), fun _ => ?_⟩
          simp only [Int.toNat_natCast]
          show cdN g s k ||| 2 ^ k ∈ chS g (k + 1) _ (toK g k)
          refine chS_ext ?_
          unfold wFi
          by_cases hl : w0.2.1 < 0
          · rw [if_pos hl, i1 hl, Int.toNat_natCast]; exact chS_zero g _ k
          · rw [if_neg hl]
            have hy : wY g (oN g k) w0 ≠ 0 := fun z => hc (.inl z)
            unfold wY at hy
            rw [if_neg hl] at hy
            have e8 : g (1 + oN g k) = g (8 + w0.2.1.toNat) := by
              by_cases q : g (1 + oN g k) = g (8 + w0.2.1.toNat)
              · exact q
              · unfold howF at hy; rw [if_pos q] at hy; exact absurd rfl hy
            have := i2 (by omega)
            rw [← e8] at this; exact this
theorem nodup_sub : ∀ {A B : List Nat}, A.Nodup → (∀ x ∈ A, x ∈ B) → A.length ≤ B.length := by
  intro A
  induction A with
  | nil => intro B _ _; exact Nat.zero_le _
  | cons a A ih =>
    intro B hA h
    have hn := List.nodup_cons.mp hA
    have ha := h a List.mem_cons_self
    have h1 := ih (B := B.erase a) hn.2 (fun x hx => (List.mem_erase_of_ne (fun e => hn.1 (by rw [← e]; exact hx))).mpr (h x (List.mem_cons_of_mem _ hx)))
    rw [List.length_erase_of_mem ha] at h1
    have := List.length_pos_of_mem ha
    rw [List.length_cons]; omega
theorem filt_zero : ∀ {A : List Nat}, 0 ∈ A → (A.filter (fun x => decide (x ≠ 0))).length + 1 ≤ A.length := by
  intro A
  induction A with
  | nil => intro h; exact absurd h List.not_mem_nil
  | cons a A ih =>
    intro h
    by_cases e : a = 0
    · subst e
      rw [List.filter_cons_of_neg (by decide), List.length_cons]
      have := List.length_filter_le (fun x => decide (x ≠ 0)) A
      omega
    · have h2 : 0 ∈ A := (List.mem_cons.mp h).resolve_left (fun z => e z.symm)
      rw [List.filter_cons_of_pos (by simpa using e), List.length_cons, List.length_cons]
      have := ih h2; omega
theorem pcn_len (c : Nat → Int) : ∀ k, pcn c k = ((List.range k).filter (fun s => decide (1 ≤ s ∧ 0 ≤ c s))).length := by
  intro k
  induction k with
  | zero => rfl
  | succ k ih =>
    rw [List.range_succ, List.filter_append, List.length_append, ← ih, pcn]
    by_cases h : 1 ≤ k ∧ 0 ≤ c k
    · rw [if_pos h, List.filter_cons_of_pos (by simpa using h)]; rfl
    · rw [if_neg h, List.filter_cons_of_neg (by simpa using h)]; rfl
theorem pr_chain {g : Nat → Int} (hw : WF g) {s : Nat} (h0 : s ≠ 0) (hs : s < 2 ^ nF g) (hc : 0 ≤ cstF g s) : ∃ a, a < 4 ∧ cdN g s (nF g) ∈ chS g (nF g) a a := by
  have hn := hw.n
  cases hp : prF g s with
  | none => unfold cstF at hc; rw [hp] at hc; exact absurd (show (0 : Int) ≤ -1 from hc) (by decide)
  | some w =>
    obtain ⟨hwf, he⟩ := prF_both hp
    have hla := wend_la hw h0 hs hwf
    obtain ⟨b1, b2⟩ := wfold_st hw hwf
    have h1 := (ch_fold (nF g) (Nat.le_refl _) w hwf).2 hla
    have e : g (8 + w.2.1.toNat) = g (1 + w.1.toNat) := by
      unfold prEnd at he
      rw [Bool.and_eq_true, Bool.and_eq_true, decide_eq_true_eq, decide_eq_true_eq] at he
      exact he.2.2
    rw [e] at h1
    have := (hw.fl b1).1
    exact ⟨_, by omega, h1⟩
theorem nC_24 {q : Nat → Int} (hw : WF q) : nC q ≤ 24 := by
  have hn := hw.n
  unfold nC
  rw [pcn_len]
  have hA : (((List.range (2 ^ nF q)).filter (fun s => decide (1 ≤ s ∧ 0 ≤ cstF q s))).map (fun s => cdN q s (nF q))).Nodup := by
    unfold List.Nodup
    rw [List.pairwise_map]
    have hnd : ((List.range (2 ^ nF q)).filter (fun s => decide (1 ≤ s ∧ 0 ≤ cstF q s))).Nodup := List.Pairwise.filter _ List.nodup_range
    refine List.Pairwise.imp_of_mem (fun {a b} ha hb hne e => hne (cdN_inj ?_ ?_ e)) hnd
    · exact List.mem_range.mp (List.mem_filter.mp ha).1
    · exact List.mem_range.mp (List.mem_filter.mp hb).1
  have hsub := nodup_sub (B := (chS q (nF q) 0 0).filter (fun x => decide (x ≠ 0)) ++ ((chS q (nF q) 1 1).filter (fun x => decide (x ≠ 0)) ++ ((chS q (nF q) 2 2).filter (fun x => decide (x ≠ 0)) ++ (chS q (nF q) 3 3).filter (fun x => decide (x ≠ 0))))) hA (fun x hx => by
    obtain ⟨s, hs, rfl⟩ := List.mem_map.mp hx
    have h1 := List.mem_filter.mp hs
    have h2 := of_decide_eq_true h1.2
    have hsr := List.mem_range.mp h1.1
    obtain ⟨a, ha, hm⟩ := pr_chain hw (by omega) hsr h2.2
    have hne : cdN q s (nF q) ≠ 0 := fun z => by
      have e0 : cdN q 0 (nF q) = 0 := by
        refine Nat.eq_of_testBit_eq (fun j => ?_)
        rw [cdN_bit, Nat.zero_testBit]; simp
      have := cdN_inj hsr (pow_pos2 _) (z.trans e0.symm)
      omega
    have hf : cdN q s (nF q) ∈ (chS q (nF q) a a).filter (fun x => decide (x ≠ 0)) := List.mem_filter.mpr ⟨hm, by simpa using hne⟩
    have ha' : a = 0 ∨ a = 1 ∨ a = 2 ∨ a = 3 := by omega
    rcases ha' with rfl | rfl | rfl | rfl
    · exact List.mem_append_left _ hf
    · exact List.mem_append_right _ (List.mem_append_left _ hf)
    · exact List.mem_append_right _ (List.mem_append_right _ (List.mem_append_left _ hf))
    · exact List.mem_append_right _ (List.mem_append_right _ (List.mem_append_right _ hf)))
  rw [List.length_map, List.length_append, List.length_append, List.length_append] at hsub
  have z0 := filt_zero (chS_zero q 0 (nF q))
  have z1 := filt_zero (chS_zero q 1 (nF q))
  have z2 := filt_zero (chS_zero q 2 (nF q))
  have z3 := filt_zero (chS_zero q 3 (nF q))
  rw [chS_len] at z0 z1 z2 z3
  have hb := bd_le (es := edG q (nF q)) (by unfold edG; rw [List.length_map, List.length_range]; exact hn.2) (fun e he => by
    unfold edG at he
    obtain ⟨i, hi, rfl⟩ := List.mem_map.mp he
    have hl := oN_lt q (List.mem_range.mp hi)
    have a := hw.fl (show oN q i < 7 by omega)
    have b := hw.ft hl
    simp only [frK, toK]; omega)
  unfold trc at hb
  omega
theorem p25 : P25 := fun q hw => by have := nC_24 hw; omega
