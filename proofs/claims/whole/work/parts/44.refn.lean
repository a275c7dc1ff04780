/-! the reference: the bound -/
def OptM (g : Nat → Int) (M : Mem) : Prop := ∃ R : Nat, R < 128 ∧ M 66 18 = (R : Int) ∧ (0 < M 66 20 ∧ M 66 20 ≤ BND) ∧ Opt (nF g) (feasP g) (nF g + 1) (fun k => M 77 (8 * (R + k) + nF g)) (M 66 20) ∧ ∀ k, k < nF g + 1 → 0 ≤ M 77 (8 * (R + k) + nF g) ∧ M 77 (8 * (R + k) + nF g) ≤ BND
section REFN
variable {G : GE} {d : Nat} {M : Mem} {K : Int → Mem → Prop}
theorem c11_isInSome {g : Nat → Int} {v : Int} {f : Nat} (hg : M 67 = g) (hw : WF g) (h72 : ∀ s, s ≠ 0 → s < 2 ^ nF g → M 72 s = hadF g s) (e : v = (f : Int)) (hf : f < 7) (h1 : (∃ s, s ≠ 0 ∧ s < 2 ^ nF g ∧ s.testBit f = true ∧ 0 ≤ hadF g s) → K 1 M) (h0 : (¬ ∃ s, s ≠ 0 ∧ s < 2 ^ nF g ∧ s.testBit f = true ∧ 0 ≤ hadF g s) → K 0 M) : CalI G miX11_isInSome (d + 1) [.inr (.inr (some 66)), .inl v] M K := by
  have hn := hw.n
  have hN := pow_le7 hn.2
  subst e
  have eN : ishl 1 (M 67 0) = ((2 ^ nF g : Nat) : Int) := by rw [hg, hn.1, ishl1 _ (by omega)]
  refine Cal.of (by decide) (Nat.le_of_ble_eq_true rfl) rfl (gX11_isInSome_0 ?_)
  refine dn (P := fun k => 1 ≤ k → ∀ v : Int, ((v = 1 ∧ ∃ s, s ≠ 0 ∧ s < k ∧ s.testBit f = true ∧ 0 ≤ hadF g s) ∨ (v = 0 ∧ ¬ ∃ s, s ≠ 0 ∧ s < k ∧ s.testBit f = true ∧ 0 ≤ hadF g s)) → OkI G miX11_isInSome (d + 1) K 4 [some (.inr (.inr (some 66))), some (.inl (f : Int)), some (.inl v), some (.inl (k : Int))] [] M) (2 ^ nF g) ?_ (fun k hk ih => ?_) 1 (pow_pos2 _) (Nat.le_refl _) 0 (.inr ⟨rfl, fun ⟨s, q1, q2, _⟩ => by omega⟩)
  · intro _ v hv
    refine gX11_isInSome_4 ⟨fun _ => ?_, fun c => absurd c (by rw [eN]; omega)⟩
    rcases hv with ⟨e, h⟩ | ⟨e, h⟩
    · subst e; exact ⟨.inr rfl, h1 h⟩
    · subst e; exact ⟨.inl rfl, h0 h⟩
  · intro hk1 v hv
    refine gX11_isInSome_4 ⟨fun c => absurd c (by rw [eN]; omega), fun _ => ?_⟩
    rw [w32n (by omega)]
    rcases hv with ⟨e, s, q1, q2, q3⟩ | ⟨e, h⟩
    · subst e; exact n1 (ih (by omega) 1 (.inl ⟨rfl, s, q1, by omega, q3⟩))
    · subst e
      have nope : ¬ (k.testBit f = true ∧ 0 ≤ hadF g k) → (0 : Int) = 1 ∧ (∃ s, s ≠ 0 ∧ s < k + 1 ∧ s.testBit f = true ∧ 0 ≤ hadF g s) ∨ (0 : Int) = 0 ∧ ¬ ∃ s, s ≠ 0 ∧ s < k + 1 ∧ s.testBit f = true ∧ 0 ≤ hadF g s := fun hno => .inr ⟨rfl, fun ⟨s, q1, q2, q3⟩ => by
        by_cases e : s = k
        · subst e; exact hno q3
        · exact h ⟨s, q1, by omega, q3⟩⟩
      refine n0 (c11_has rfl rfl (by omega) (by omega) (fun b => b1 ⟨by omega, ?_⟩) (fun b => b0 (ih (by omega) 0 (nope (fun q => by rw [b] at q; exact absurd q.1 (by decide))))))
      rw [Int.toNat_natCast, h72 k (by omega) hk]
      by_cases hh : hadF g k < 0
      · rw [if_neg (by omega)]; exact ih (by omega) 0 (nope (fun q => by omega))
      · rw [if_pos hh]; exact ih (by omega) 1 (.inl ⟨rfl, k, by omega, by omega, b, by omega⟩)
theorem c11_areInSome {g : Nat → Int} (hg : M 67 = g) (hw : WF g) (h72 : ∀ s, s ≠ 0 → s < 2 ^ nF g → M 72 s = hadF g s) (h1 : bndB g = true → K 1 M) (h0 : bndB g = false → K 0 M) : CalI G miX11_areInSome (d + 2) [.inr (.inr (some 66))] M K := by
  have hn := hw.n
  refine Cal.of (by decide) (Nat.le_of_ble_eq_true rfl) rfl (gX11_areInSome_0 ?_)
  refine dn (P := fun k => ∀ v : Int, ((v = 1 ∧ ∀ f, f < k → ∃ s, s ≠ 0 ∧ s < 2 ^ nF g ∧ s.testBit f = true ∧ 0 ≤ hadF g s) ∨ (v = 0 ∧ ¬ ∀ f, f < k → ∃ s, s ≠ 0 ∧ s < 2 ^ nF g ∧ s.testBit f = true ∧ 0 ≤ hadF g s)) → OkI G miX11_areInSome (d + 2) K 4 [some (.inr (.inr (some 66))), some (.inl v), some (.inl (k : Int))] [] M) (nF g) ?_ (fun k hk ih => ?_) 0 (Nat.zero_le _) 1 (.inl ⟨rfl, fun f hf => absurd hf (Nat.not_lt_zero _)⟩)
  · intro v hv
    refine gX11_areInSome_4 ⟨fun _ => ?_, fun c => absurd c (by rw [hg]; omega)⟩
    rcases hv with ⟨e, h⟩ | ⟨e, h⟩
    · subst e; exact ⟨.inr rfl, h1 ((bndB_iff hw).mpr h)⟩
    · subst e
      refine ⟨.inl rfl, h0 ?_⟩
      cases hb : bndB g with
      | false => rfl
      | true => exact absurd ((bndB_iff hw).mp hb) h
  · intro v hv
    refine gX11_areInSome_4 ⟨fun c => absurd c (by rw [hg]; omega), fun _ => ?_⟩
    rw [w32n (by omega)]
    rcases hv with ⟨e, h⟩ | ⟨e, h⟩
    · subst e
      refine b1 (c11_isInSome hg hw h72 rfl (by omega) (fun hs => ih _ (.inl ⟨rfl, fun f hf => ?_⟩)) (fun hs => ih _ (.inr ⟨rfl, fun hall => hs (hall k (by omega))⟩)))
      by_cases e : f = k
      · subst e; exact hs
      · exact h f (by omega)
    · subst e; exact b0 (ih 0 (.inr ⟨rfl, fun hall => h (fun f hf => hall f (by omega))⟩))
/-- laying the table -/
theorem c11_laysTable {K : Mem → Prop} {g : Nat → Int} (hg : M 67 = g) (hw : WF g) (h72 : ∀ s, s ≠ 0 → s < 2 ^ nF g → M 72 s = hadF g s) (h : ∀ M', Fr SB M M' → TbM (nF g) (nR g) M' 1 (T0 (nF g) (nR g) (sR g) (hadF g)) (fun c => c) (fun r => 7 + r) → K M') : CalV G miX11_laysTable (d + 1) [.inr (.inr (some 66))] M K := by
  have hn := hw.n
  have hN := pow_le7 hn.2
  have hR := nR_lt hw
  have e67 : ∀ {M' : Mem}, Fr SB M M' → M' 67 0 = (nF g : Int) := fun hf => by rw [hf 67 0 rfl, hg]; exact hn.1
  have e72 : ∀ {M' : Mem}, Fr SB M M' → ∀ s, s ≠ 0 → s < 2 ^ nF g → M' 72 s = hadF g s := fun hf s a b => by rw [hf 72 s rfl]; exact h72 s a b
  have ix : ∀ q c : Nat, ((8 * (q : Int)) + (c : Int)).toNat = 8 * q + c := fun q c => by omega
  refine Cal.of (by decide) (Nat.le_of_ble_eq_true rfl) rfl (gX11_laysTable_0 ?_)
  refine dn (P := fun k => 1 ≤ k → ∀ M' : Mem, Fr SB M M' → M' 66 18 = (pcn (hadF g) k : Int) → (∀ j, j < pcn (hadF g) k → (∀ c, c ≤ nF g → M' 77 (8 * j + c) = T0 (nF g) (nR g) (sR g) (hadF g) j c) ∧ M' 79 j = ((7 + j : Nat) : Int)) → OkV G miX11_laysTable (d + 1) K 7 [some (.inr (.inr (some 66))), some (.inl (k : Int)), none] [] M') (2 ^ nF g) ?_ (fun k hk ih => ?_) 1 (pow_pos2 _) (Nat.le_refl _) _ (Fr.up1 rfl) (mup_at _ _ _ _) (fun j hj => absurd hj (by simp [pcn]))
  · -- rows are laid
    intro _ M' hf h18 hrows
    have hf2 : ∀ x : Int, Fr SB M (mup M' 66 19 x) := fun x => hf.up rfl
    refine gX11_laysTable_7 ⟨fun _ => ?_, fun c => absurd c (by rw [e67 hf, ishl1 _ (by omega)]; omega)⟩
    rw [h18, e67 hf, show (mup M' 66 19 (w32 (((pcn (hadF g) (2 ^ nF g) : Int) + 1) + (nF g : Int)))) 66 18 = (pcn (hadF g) (2 ^ nF g) : Int) by rw [mup_at_ne (by decide), h18]]
    change OkV G miX11_laysTable (d + 1) K 153 [some (.inr (.inr (some 66))), some (.inl (nR g : Int)), none] [] (mup M' 66 19 (w32 (((nR g : Int) + 1) + (nF g : Int))))
    rw [show w32 (((nR g : Int) + 1) + (nF g : Int)) = ((nR g + 1 + nF g : Nat) : Int) by rw [w32_eq (by omega) (by omega)]; omega]
    have b18 : (mup M' 66 19 ((nR g + 1 + nF g : Nat) : Int)) 66 18 = (nR g : Int) := by rw [mup_at_ne (by decide)]; exact h18
    refine dn (P := fun k => nR g ≤ k → ∀ M' : Mem, Fr SB M M' → M' 66 18 = (nR g : Int) → M' 66 19 = ((nR g + 1 + nF g : Nat) : Int) → (∀ q c, q < k → c ≤ nF g → M' 77 (8 * q + c) = T0 (nF g) (nR g) (sR g) (hadF g) q c) → (∀ r, r < nR g → M' 79 r = ((7 + r : Nat) : Int)) → OkV G miX11_laysTable (d + 1) K 153 [some (.inr (.inr (some 66))), some (.inl (k : Int)), none] [] M') (nR g + 1 + nF g) ?_ (fun k hk ih => ?_) (nR g) (by omega) (Nat.le_refl _) _ (hf2 _) b18 (mup_at _ _ _ _) (fun q c hq hc => by rw [mup_ne (by decide)]; exact (hrows q hq).1 c hc) (fun r hr => by rw [mup_ne (by decide)]; exact (hrows r hr).2)
    · intro _ M' hf h18 h19 h77 h79
      refine gX11_laysTable_153 ⟨fun _ => ?_, fun c => absurd c (by rw [h19]; omega)⟩
      refine dn (P := fun k => ∀ M' : Mem, Fr SB M M' → M' 66 18 = (nR g : Int) → M' 66 19 = ((nR g + 1 + nF g : Nat) : Int) → (∀ q c, q < nR g + 1 + nF g → c ≤ nF g → M' 77 (8 * q + c) = T0 (nF g) (nR g) (sR g) (hadF g) q c) → (∀ r, r < nR g → M' 79 r = ((7 + r : Nat) : Int)) → (∀ c, c < k → M' 78 c = (c : Int)) → OkV G miX11_laysTable (d + 1) K 235 [some (.inr (.inr (some 66))), some (.inl (k : Int)), none] [] M') (nF g) ?_ (fun k hk ih => ?_) 0 (Nat.zero_le _) M' hf h18 h19 h77 h79 (fun c hc => absurd hc (Nat.not_lt_zero _))
      · intro M' hf h18 h19 h77 h79 h78
        refine gX11_laysTable_235 ⟨fun _ => ?_, fun c => absurd c (by rw [e67 hf]; omega)⟩
        refine h _ (hf.up rfl) ⟨?_, ?_, mup_at _ _ _ _, fun q c hq hc => ?_, fun c hc => ?_, fun r hr => ?_⟩
        · rw [mup_at_ne (by decide), h18]
        · rw [mup_at_ne (by decide), h19]
        · rw [mup_ne (by decide)]; exact h77 q c hq hc
        · rw [mup_ne (by decide)]; exact h78 c hc
        · rw [mup_ne (by decide)]; exact h79 r hr
      · intro M' hf h18 h19 h77 h79 h78
        refine gX11_laysTable_235 ⟨fun c => absurd c (by rw [e67 hf]; omega), fun _ => ⟨by omega, ?_⟩⟩
        rw [w32n (by omega), Int.toNat_natCast]
        refine ih _ (hf.up rfl) (by rw [mup_ne (by decide), h18]) (by rw [mup_ne (by decide), h19]) (fun q c hq hc => by rw [mup_ne (by decide)]; exact h77 q c hq hc) (fun r hr => by rw [mup_ne (by decide)]; exact h79 r hr) (fun c hc => ?_)
        by_cases e : c = k
        · subst e; rw [mup_at]
        · rw [mup_at_ne e]; exact h78 c (by omega)
    · intro hRk M' hf h18 h19 h77 h79
      refine gX11_laysTable_153 ⟨fun c => absurd c (by rw [h19]; omega), fun _ => ?_⟩
      refine dn (P := fun f => ∀ M' : Mem, Fr SB M M' → M' 66 18 = (nR g : Int) → M' 66 19 = ((nR g + 1 + nF g : Nat) : Int) → (∀ q c, (q < k ∨ (q = k ∧ c < f)) → c ≤ nF g → M' 77 (8 * q + c) = T0 (nF g) (nR g) (sR g) (hadF g) q c) → (∀ r, r < nR g → M' 79 r = ((7 + r : Nat) : Int)) → OkV G miX11_laysTable (d + 1) K 163 [some (.inr (.inr (some 66))), some (.inl (k : Int)), some (.inl (f : Int))] [] M') (nF g + 1) ?_ (fun f hf' ihf => ?_) 0 (Nat.zero_le _) M' hf h18 h19 (fun q c hq hc => h77 q c (by omega) hc) h79
      · intro M' hf h18 h19 h77 h79
        refine gX11_laysTable_163 ⟨fun _ => ?_, fun c => absurd c (by rw [e67 hf]; omega)⟩
        rw [w32n (by omega)]
        exact ih (by omega) M' hf h18 h19 (fun q c hq hc => h77 q c (by omega) hc) h79
      · intro M' hf h18 h19 h77 h79
        refine gX11_laysTable_163 ⟨fun c => absurd c (by rw [e67 hf]; omega), fun _ => ⟨by omega, ?_⟩⟩
        rw [ix, e67 hf, h18, w32n (by omega), w32_eq (by omega) (by omega)]
        refine ihf _ (hf.up rfl) (by rw [mup_ne (by decide), h18]) (by rw [mup_ne (by decide), h19]) (fun q c hq hc => ?_) (fun r hr => by rw [mup_ne (by decide)]; exact h79 r hr)
        by_cases e : q = k ∧ c = f
        · rw [e.1, e.2, mup_at]
          unfold T0
          rw [if_neg (show ¬ k < nR g by omega)]
          by_cases c1 : f < nF g
          · rw [if_pos (show (f : Int) < (nF g : Int) by omega)]
            by_cases c2 : k = nR g
            · rw [if_pos (show (k : Int) = (nR g : Int) by omega), if_pos ⟨c1, .inl c2⟩]
            · rw [if_neg (show ¬ (k : Int) = (nR g : Int) by omega)]
              by_cases c3 : k = nR g + 1 + f
              · rw [if_pos (show (k : Int) = (nR g : Int) + 1 + (f : Int) by omega), if_pos ⟨c1, .inr c3⟩]
              · rw [if_neg (show ¬ (k : Int) = (nR g : Int) + 1 + (f : Int) by omega), if_neg (show ¬ (f < nF g ∧ (k = nR g ∨ k = nR g + 1 + f)) by omega)]
          · rw [if_neg (show ¬ (f : Int) < (nF g : Int) by omega), if_neg (show ¬ (f < nF g ∧ (k = nR g ∨ k = nR g + 1 + f)) by omega)]
        · rw [mup_at_ne (by omega)]; exact h77 q c (by omega) hc
  · -- a set
    intro hk1 M' hf h18 hrows
    have hle : pcn (hadF g) k < 128 := by have := pcn_le (hadF g) k; omega
    refine gX11_laysTable_7 ⟨fun c => absurd c (by rw [e67 hf, ishl1 _ (by omega)]; omega), fun _ => ⟨by omega, ?_⟩⟩
    rw [Int.toNat_natCast, e72 hf k (by omega) hk]
    refine ⟨fun c => ?_, fun c => ?_⟩
    · rw [w32n (by omega)]
      have e : pcn (hadF g) (k + 1) = pcn (hadF g) k := by rw [pcn, if_neg (by omega)]; rfl
      rw [e] at ih
      exact ih (by omega) M' hf h18 hrows
    · have hsel : sR g (pcn (hadF g) k) = k := sel_pcn hk1 hk c
      have hjR : pcn (hadF g) k < nR g := pcn_lt hk1 hk c
      have e : pcn (hadF g) (k + 1) = pcn (hadF g) k + 1 := by rw [pcn, if_pos ⟨hk1, c⟩]
      rw [e] at ih
      generalize hj : pcn (hadF g) k = j at *
      refine dn (P := fun f => ∀ M' : Mem, Fr SB M M' → M' 66 18 = (j : Int) → (∀ q, q < j → (∀ c, c ≤ nF g → M' 77 (8 * q + c) = T0 (nF g) (nR g) (sR g) (hadF g) q c) ∧ M' 79 q = ((7 + q : Nat) : Int)) → (∀ c, c < f → M' 77 (8 * j + c) = T0 (nF g) (nR g) (sR g) (hadF g) j c) → OkV G miX11_laysTable (d + 1) K 30 [some (.inr (.inr (some 66))), some (.inl (k : Int)), some (.inl (f : Int))] [] M') (nF g) ?_ (fun f hf' ihf => ?_) 0 (Nat.zero_le _) M' hf h18 hrows (fun c hc => absurd hc (Nat.not_lt_zero _))
      · intro M' hf h18 hrows hnew
        refine gX11_laysTable_30 ⟨fun _ => ?_, fun c => absurd c (by rw [e67 hf]; omega)⟩
        rw [h18, e67 hf, ix, Int.toNat_natCast, e72 hf k (by omega) hk]
        have r18 : (mup M' 77 (8 * j + nF g) (hadF g k)) 66 18 = (j : Int) := by rw [mup_ne (by decide), h18]
        rw [r18]
        refine ⟨by omega, by omega, by omega, ?_⟩
        rw [Int.toNat_natCast, w32n (by omega)]
        have r18' : ∀ x : Int, (mup (mup M' 77 (8 * j + nF g) (hadF g k)) 79 j x) 66 18 = (j : Int) := fun x => by rw [mup_ne (by decide), r18]
        rw [r18', w32n (by omega), show w32 (7 + (j : Int)) = ((7 + j : Nat) : Int) by rw [w32_eq (by omega) (by omega)]; omega]
        refine ih (by omega) _ (((hf.up rfl).up rfl).up rfl) (mup_at _ _ _ _) (fun q hq => ⟨fun c hc => ?_, ?_⟩)
        · rw [mup_ne (by decide), mup_ne (by decide)]
          by_cases eq : q = j
          · subst eq
            by_cases ec : c = nF g
            · subst ec; rw [mup_at]; unfold T0; rw [if_pos hjR, if_neg (by omega), hsel]
            · rw [mup_at_ne (by omega)]; exact hnew c (by omega)
          · rw [mup_at_ne (by omega)]; exact (hrows q (by omega)).1 c hc
        · rw [mup_ne (by decide)]
          by_cases eq : q = j
          · subst eq; rw [mup_at]
          · rw [mup_at_ne eq, mup_ne (by decide)]; exact (hrows q (by omega)).2
      · intro M' hf h18 hrows hnew
        refine gX11_laysTable_30 ⟨fun c => absurd c (by rw [e67 hf]; omega), fun _ => ?_⟩
        rw [h18, ix, w32n (by omega)]
        have stp : ∀ x : Int, x = bitI k f → OkV G miX11_laysTable (d + 1) K 30 [some (.inr (.inr (some 66))), some (.inl (k : Int)), some (.inl ((f + 1 : Nat) : Int))] [] (mup M' 77 (8 * j + f) x) := by
          intro x hx
          refine ihf _ (hf.up rfl) (by rw [mup_ne (by decide), h18]) (fun q hq => ⟨fun c hc => ?_, by rw [mup_ne (by decide)]; exact (hrows q hq).2⟩) (fun c hc => ?_)
          · rw [mup_at_ne (by omega)]; exact (hrows q hq).1 c hc
          · by_cases ec : c = f
            · subst ec; rw [mup_at, hx]; unfold T0; rw [if_pos hjR, if_pos (by omega), hsel]
            · rw [mup_at_ne (by omega)]; exact hnew c (by omega)
        refine c11_has rfl rfl (by omega) (by omega) (fun b => ⟨by omega, stp _ ?_⟩) (fun b => ⟨by omega, stp _ ?_⟩)
        · unfold bitI; rw [b]; rfl
        · unfold bitI; rw [b]; rfl
end REFN
