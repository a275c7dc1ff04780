/-! the plan stays one -/
theorem fup_eq (o : Nat → Int) (p : Nat) (v : Int) (i : Nat) : fup o p v i = if i = p then v else o i := rfl
theorem flyN_WF {g : Nat → Int} (hw : WF g) (a b c e : Int) : WF (flyN g a b c e) := by
  unfold flyN
  split
  · exact hw
  · rename_i hb
    split
    · exact hw
    · rename_i h7
      have hn := hw.n
      rw [show (1 + g 0).toNat = 1 + nF g by omega, show (8 + g 0).toNat = 8 + nF g by omega, show (15 + g 0).toNat = 15 + nF g by omega, show (22 + g 0).toNat = 22 + nF g by omega]
      obtain ⟨h1, h2, h3, h4, h5, h6, h7', h8⟩ := hw
      have hn6 : nF g ≤ 6 := by omega
      generalize nF g = n at *
      have w : ∀ i, fup (fup (fup (fup (fup g (1 + n) a) (8 + n) b) (15 + n) c) (22 + n) e) 0 (g 0 + 1) i = if i = 0 then g 0 + 1 else if i = 22 + n then e else if i = 15 + n then c else if i = 8 + n then b else if i = 1 + n then a else g i := fun i => rfl
      generalize fup (fup (fup (fup (fup g (1 + n) a) (8 + n) b) (15 + n) c) (22 + n) e) 0 (g 0 + 1) = q at *
      have k : ∀ i, i ≠ 0 → i ≠ 22 + n → i ≠ 15 + n → i ≠ 8 + n → i ≠ 1 + n → q i = g i := fun i x0 x1 x2 x3 x4 => by rw [w, if_neg x0, if_neg x1, if_neg x2, if_neg x3, if_neg x4]
      have q0 : q 0 = g 0 + 1 := by rw [w, if_pos rfl]
      have q1 : q (1 + n) = a := by rw [w, if_neg (by omega), if_neg (by omega), if_neg (by omega), if_neg (by omega), if_pos rfl]
      have q2 : q (8 + n) = b := by rw [w, if_neg (by omega), if_neg (by omega), if_neg (by omega), if_pos rfl]
      have q3 : q (15 + n) = c := by rw [w, if_neg (by omega), if_neg (by omega), if_pos rfl]
      have q4 : q (22 + n) = e := by rw [w, if_neg (by omega), if_pos rfl]
      have hnq : nF q = n + 1 := by unfold nF; rw [q0]; omega
      refine ⟨by rw [q0]; omega, fun i hi => ?_, fun i hi => ?_, fun a ha => ?_, ?_, ?_, fun i hi => ?_, fun f h hf hh hc => ?_⟩
      · by_cases hin : i = n
        · subst hin; rw [q1, q2, q3, q4]; omega
        · have := h2 i hi
          rw [k (1 + i) (by omega) (by omega) (by omega) (by omega) (by omega), k (8 + i) (by omega) (by omega) (by omega) (by omega) (by omega), k (15 + i) (by omega) (by omega) (by omega) (by omega) (by omega), k (22 + i) (by omega) (by omega) (by omega) (by omega) (by omega)]; exact this
      · rw [hnq] at hi
        by_cases hin : i = n
        · subst hin; rw [q1, q2, q3, q4]; omega
        · have := h3 i (by omega)
          rw [k (1 + i) (by omega) (by omega) (by omega) (by omega) (by omega), k (8 + i) (by omega) (by omega) (by omega) (by omega) (by omega), k (15 + i) (by omega) (by omega) (by omega) (by omega) (by omega), k (22 + i) (by omega) (by omega) (by omega) (by omega) (by omega)]; exact this
      · rw [k (78 + a) (by omega) (by omega) (by omega) (by omega) (by omega), k (82 + a) (by omega) (by omega) (by omega) (by omega) (by omega)]; exact h4 a ha
      · rw [k 86 (by omega) (by omega) (by omega) (by omega) (by omega)]; exact h5
      · rw [k 87 (by omega) (by omega) (by omega) (by omega) (by omega), k 88 (by omega) (by omega) (by omega) (by omega) (by omega), k 89 (by omega) (by omega) (by omega) (by omega) (by omega), k 90 (by omega) (by omega) (by omega) (by omega) (by omega), k 91 (by omega) (by omega) (by omega) (by omega) (by omega)]; exact h6
      · rw [k (29 + i) (by omega) (by omega) (by omega) (by omega) (by omega)]; exact h7' i hi
      · rw [hnq] at hc
        rw [k (29 + (7 * f + h)) (by omega) (by omega) (by omega) (by omega) (by omega)]; exact h8 f h hf hh (by omega)
theorem shiN_WF {g : Nat → Int} (hw : WF g) (v a b : Int) : WF (shiN g v a b) := by
  unfold shiN
  split
  · exact hw
  · rename_i hb
    have hn := hw.n
    obtain ⟨n, rfl⟩ : ∃ n : Nat, v = (n : Int) := ⟨v.toNat, by omega⟩
    rw [Int.toNat_natCast]
    have e : ∀ i, i < 15 ∨ 29 ≤ i → fup (fup g (22 + n) b) (15 + n) a i = g i := fun i h => by rw [fup_ne _ (by omega), fup_ne _ (by omega)]
    have w : ∀ i, fup (fup g (22 + n) b) (15 + n) a i = if i = 15 + n then a else if i = 22 + n then b else g i := fun i => rfl
    generalize fup (fup g (22 + n) b) (15 + n) a = q at *
    have en : nF q = nF g := by unfold nF; rw [e 0 (by omega)]
    obtain ⟨h1, h2, h3, h4, h5, h6, h7, h8⟩ := hw
    have q3 : q (15 + n) = a := by rw [w, if_pos rfl]
    have q4 : q (22 + n) = b := by rw [w, if_neg (by omega), if_pos rfl]
    refine ⟨by rw [e 0 (by omega)]; exact h1, fun i hi => ?_, fun i hi => ?_, fun a ha => by rw [e _ (by omega), e _ (by omega)]; exact h4 a ha, by rw [e _ (by omega)]; exact h5, by rw [e _ (by omega), e _ (by omega), e _ (by omega), e _ (by omega), e _ (by omega)]; exact h6, fun i hi => by rw [e _ (by omega)]; exact h7 i hi, fun f h hf hh hc => by rw [en] at hc; rw [e _ (by omega)]; exact h8 f h hf hh hc⟩
    · have := h2 i hi
      rw [e _ (by omega), e _ (by omega)]
      by_cases hin : i = n
      · subst hin; rw [q3, q4]; omega
      · have r3 : q (15 + i) = g (15 + i) := by rw [w, if_neg (by omega), if_neg (by omega)]
        have r4 : q (22 + i) = g (22 + i) := by rw [w, if_neg (by omega), if_neg (by omega)]
        rw [r3, r4]; exact this
    · rw [en] at hi
      have := h3 i hi
      rw [e _ (by omega), e _ (by omega)]
      by_cases hin : i = n
      · subst hin; rw [q3, q4]; omega
      · have r3 : q (15 + i) = g (15 + i) := by rw [w, if_neg (by omega), if_neg (by omega)]
        have r4 : q (22 + i) = g (22 + i) := by rw [w, if_neg (by omega), if_neg (by omega)]
        rw [r3, r4]; exact this
theorem kindN_WF {g : Nat → Int} (hw : WF g) (a k f : Int) : WF (kindN g a k f) := by
  unfold kindN
  split
  · exact hw
  · rename_i hb
    obtain ⟨n, rfl⟩ : ∃ n : Nat, a = (n : Int) := ⟨a.toNat, by omega⟩
    rw [Int.toNat_natCast]
    have e : ∀ i, i < 78 ∨ 86 ≤ i → fup (fup g (78 + n) k) (82 + n) f i = g i := fun i h => by rw [fup_ne _ (by omega), fup_ne _ (by omega)]
    have w : ∀ i, fup (fup g (78 + n) k) (82 + n) f i = if i = 82 + n then f else if i = 78 + n then k else g i := fun i => rfl
    generalize fup (fup g (78 + n) k) (82 + n) f = q at *
    have en : nF q = nF g := by unfold nF; rw [e 0 (by omega)]
    have hn := hw.n
    obtain ⟨h1, h2, h3, h4, h5, h6, h7, h8⟩ := hw
    refine ⟨by rw [e 0 (by omega)]; exact h1, fun i hi => by rw [e _ (by omega), e _ (by omega), e _ (by omega), e _ (by omega)]; exact h2 i hi, fun i hi => by rw [en] at hi; rw [e _ (by omega), e _ (by omega), e _ (by omega), e _ (by omega)]; exact h3 i hi, fun a ha => ?_, by rw [e _ (by omega)]; exact h5, by rw [e _ (by omega), e _ (by omega), e _ (by omega), e _ (by omega), e _ (by omega)]; exact h6, fun i hi => by rw [e _ (by omega)]; exact h7 i hi, fun f h hf hh hc => by rw [en] at hc; rw [e _ (by omega)]; exact h8 f h hf hh hc⟩
    have := h4 a ha
    by_cases han : a = n
    · subst han
      have r3 : q (78 + a) = k := by rw [w, if_neg (by omega), if_pos rfl]
      have r4 : q (82 + a) = f := by rw [w, if_pos rfl]
      rw [r3, r4]; omega
    · have r3 : q (78 + a) = g (78 + a) := by rw [w, if_neg (by omega), if_neg (by omega)]
      have r4 : q (82 + a) = g (82 + a) := by rw [w, if_neg (by omega), if_neg (by omega)]
      rw [r3, r4]; exact this
theorem baseN_WF {g : Nat → Int} (hw : WF g) (b : Int) : WF (baseN g b) := by
  unfold baseN
  split
  · exact hw
  · rename_i hb
    have e : ∀ i, i ≠ 86 → fup g 86 b i = g i := fun i h => fup_ne _ h
    have q0 : fup g 86 b 86 = b := fup_at _ _ _
    generalize fup g 86 b = q at *
    have en : nF q = nF g := by unfold nF; rw [e 0 (by omega)]
    have hn := hw.n
    obtain ⟨h1, h2, h3, h4, h5, h6, h7, h8⟩ := hw
    exact ⟨by rw [e 0 (by omega)]; exact h1, fun i hi => by rw [e _ (by omega), e _ (by omega), e _ (by omega), e _ (by omega)]; exact h2 i hi, fun i hi => by rw [en] at hi; rw [e _ (by omega), e _ (by omega), e _ (by omega), e _ (by omega)]; exact h3 i hi, fun a ha => by rw [e _ (by omega), e _ (by omega)]; exact h4 a ha, by rw [q0]; omega, by rw [e _ (by omega), e _ (by omega), e _ (by omega), e _ (by omega), e _ (by omega)]; exact h6, fun i hi => by rw [e _ (by omega)]; exact h7 i hi, fun f h hf hh hc => by rw [en] at hc; rw [e _ (by omega)]; exact h8 f h hf hh hc⟩
theorem feeN_WF {g : Nat → Int} (hw : WF g) (v x : Int) : WF (feeN g v x) := by
  unfold feeN
  split
  · exact hw
  · rename_i hb
    obtain ⟨n, rfl⟩ : ∃ n : Nat, v = (n : Int) := ⟨v.toNat, by omega⟩
    rw [Int.toNat_natCast]
    have e : ∀ i, i ≠ 87 + n → fup g (87 + n) x i = g i := fun i h => fup_ne _ h
    have w : ∀ i, fup g (87 + n) x i = if i = 87 + n then x else g i := fun i => rfl
    generalize fup g (87 + n) x = q at *
    have en : nF q = nF g := by unfold nF; rw [e 0 (by omega)]
    have hn := hw.n
    obtain ⟨h1, h2, h3, h4, h5, h6, h7, h8⟩ := hw
    refine ⟨by rw [e 0 (by omega)]; exact h1, fun i hi => by rw [e _ (by omega), e _ (by omega), e _ (by omega), e _ (by omega)]; exact h2 i hi, fun i hi => by rw [en] at hi; rw [e _ (by omega), e _ (by omega), e _ (by omega), e _ (by omega)]; exact h3 i hi, fun a ha => by rw [e _ (by omega), e _ (by omega)]; exact h4 a ha, by rw [e _ (by omega)]; exact h5, ?_, fun i hi => by rw [e _ (by omega)]; exact h7 i hi, fun f h hf hh hc => by rw [en] at hc; rw [e _ (by omega)]; exact h8 f h hf hh hc⟩
    rw [w 87, w 88, w 89, w 90, w 91]
    unfold feeTop at hb
    have hn5 : n = 0 ∨ n = 1 ∨ n = 2 ∨ n = 3 ∨ n = 4 := by omega
    rcases hn5 with rfl | rfl | rfl | rfl | rfl
    all_goals simp at hb ⊢; omega
theorem markN_WF {g : Nat → Int} (hw : WF g) (v w m : Int) : WF (markN g v w m) := by
  unfold markN
  split
  · exact hw
  · have hn := hw.n
    exact mkG_WF hw (f := v.toNat) (k := w.toNat) (m := m) (by omega) (by omega) (by omega) (by omega)
theorem drT_lo (g : Nat → Int) {n : Nat} (hn : n < 7) : ∀ k, k ≤ 7 → ∀ i, i ≠ 0 → i < 29 ∨ 78 ≤ i → drT g n k i = g i := by
  intro k
  induction k with
  | zero => intro _ i h0 _; exact fup_ne _ h0
  | succ k ih => intro hk i h0 h1; rw [drT, fup_ne _ (by omega), fup_ne _ (by omega)]; exact ih (by omega) i h0 h1
theorem drT_mk (g : Nat → Int) {n : Nat} (hn : n < 7) : ∀ k, k ≤ 7 → ∀ f h, f < 7 → h < 7 → drT g n k (29 + (7 * f + h)) = if (f = n ∧ h < k) ∨ (h = n ∧ f < k) then 0 else g (29 + (7 * f + h)) := by
  intro k
  induction k with
  | zero => intro _ f h _ _; rw [if_neg (by omega)]; exact fup_ne _ (by omega)
  | succ k ih =>
    intro hk f h hf hh
    rw [drT]
    by_cases c1 : f = n ∧ h = k
    · obtain ⟨rfl, rfl⟩ := c1
      rw [fup_at, if_pos (by omega)]
    · rw [fup_ne _ (by omega)]
      by_cases c2 : f = k ∧ h = n
      · obtain ⟨rfl, rfl⟩ := c2
        rw [fup_at, if_pos (by omega)]
      · rw [fup_ne _ (by omega), ih (by omega) f h hf hh]
        by_cases c3 : (f = n ∧ h < k) ∨ (h = n ∧ f < k)
        · rw [if_pos c3, if_pos (by omega)]
        · rw [if_neg c3, if_neg (by omega)]
theorem dropN_WF {g : Nat → Int} (hw : WF g) : WF (dropN g) := by
  unfold dropN
  split
  · exact hw
  · rename_i hz
    have hn := hw.n
    have hN : nF g - 1 < 7 := by omega
    have q0 := drT_0 g (nF g - 1) 7
    have e := drT_lo g hN 7 (Nat.le_refl _)
    have w := drT_mk g hN 7 (Nat.le_refl _)
    have en : nF (drT g (nF g - 1) 7) = nF g - 1 := by unfold nF at *; rw [q0]; omega
    generalize drT g (nF g - 1) 7 = q at *
    obtain ⟨h1, h2, h3, h4, h5, h6, h7, h8⟩ := hw
    refine ⟨by rw [q0]; omega, fun i hi => by rw [e _ (by omega) (by omega), e _ (by omega) (by omega), e _ (by omega) (by omega), e _ (by omega) (by omega)]; exact h2 i hi, fun i hi => by rw [en] at hi; rw [e _ (by omega) (by omega), e _ (by omega) (by omega), e _ (by omega) (by omega), e _ (by omega) (by omega)]; exact h3 i (by omega), fun a ha => by rw [e _ (by omega) (by omega), e _ (by omega) (by omega)]; exact h4 a ha, by rw [e _ (by omega) (by omega)]; exact h5, by rw [e _ (by omega) (by omega), e _ (by omega) (by omega), e _ (by omega) (by omega), e _ (by omega) (by omega), e _ (by omega) (by omega)]; exact h6, fun i hi => ?_, fun f h hf hh hc => ?_⟩
    · have e1 : i = 7 * (i / 7) + i % 7 := by omega
      rw [e1, w (i / 7) (i % 7) (by omega) (by omega)]
      split
      · omega
      · exact h7 _ (by omega)
    · rw [en] at hc
      rw [w f h hf hh]
      split
      · rfl
      · exact h8 f h hf hh (by omega)
theorem ldT_WF {sz it g : Nat → Int} {v : Nat} {p : Int} (hw : WF g) (k : Nat) : WF (ldT sz it v p g k).1 := by
  induction k with
  | zero => exact hw
  | succ k ih =>
    rw [ldT]; split
    · exact ih
    · split
      · exact ih
      · exact flyN_WF ih _ _ _ _
theorem lodN_WF {so sz it g : Nat → Int} (hw : WF g) (v s p n : Int) : WF (lodN so sz it g v s p n) := by
  unfold lodN
  split
  · exact hw
  · split
    · exact hw
    · split
      · exact hw
      · exact ldT_WF hw _
