/-! the reference: all sets, which are had -/
def SR : Nat → Nat → Bool := fun c i => c == 69 || (c == 70 || (c == 71 || (c == 72 || (c == 73 || (c == 66 && (i == 5 || (i == 6 || i == 7)))))))
theorem SC_SR : ∀ c i, SR c i = false → SC c i = false := by
  intro c i h
  unfold SR at h; unfold SC
  simp only [Bool.or_eq_false_iff] at h ⊢
  exact ⟨h.2.1, h.2.2.2.2.2⟩
theorem cstF_bd {g : Nat → Int} (hw : WF g) {s : Nat} (h0 : s ≠ 0) (hs : s < 2 ^ nF g) : cstF g s = -1 ∨ (0 ≤ cstF g s ∧ cstF g s ≤ 4200) := by
  unfold cstF
  cases hp : prF g s with
  | none => exact .inl rfl
  | some w =>
    simp only
    split
    · have hwf : wfold g s (nF g) = some w := by
        unfold prF at hp
        cases hf : wfold g s (nF g) with
        | none => rw [hf] at hp; cases hp
        | some w' => rw [hf] at hp; simp only at hp; split at hp
                     · exact hp
                     · cases hp
      exact .inr (prCost_bd hw hwf (wend_la hw h0 hs hwf)).1
    · exact .inl rfl
theorem sub_bit {s p : Nat} (h : s &&& p = s) (k : Nat) (hb : s.testBit k = true) : p.testBit k = true := by
  rw [← h, Nat.testBit_and] at hb
  exact (Bool.and_eq_true _ _ ▸ hb).2
theorem cnt_sub {s p : Nat} (h : s &&& p = s) : cnt s ≤ cnt p := by
  have : ∀ k, cntTo s k ≤ cntTo p k := by
    intro k
    induction k with
    | zero => exact Nat.le_refl _
    | succ k ih =>
      simp only [cntTo]
      cases hb : s.testBit k with
      | false => simp; omega
      | true => rw [sub_bit h k hb]; simp; omega
  exact this 7
theorem sub_le {s p : Nat} (h : s &&& p = s) : s ≤ p := by rw [← h]; exact Nat.and_le_right
theorem hfold_lo (c : Nat → Int) (hd : Int) (s : Nat) : ∀ p, p ≤ s → hfold c hd s p = (-1, -1) := by
  intro p
  induction p with
  | zero => intro _; rfl
  | succ p ih =>
    intro hp
    rw [hfold, ih (by omega), hstep, if_neg]
    rintro ⟨h, -⟩
    have := sub_le h; omega
/-- costs as they come, none or 0 up to 4200 -/
def cOK (c : Nat → Int) (m : Nat) : Prop := ∀ p, p ≠ 0 → p < m → c p = -1 ∨ (0 ≤ c p ∧ c p ≤ 4200)
theorem hfold_bd {c : Nat → Int} {hd : Int} {m : Nat} (hc : cOK c m) (hh : 0 ≤ hd ∧ hd ≤ 99) {s : Nat} (hs : s ≠ 0) : ∀ p, p ≤ m → (hfold c hd s p = (-1, -1)) ∨ ((0 ≤ (hfold c hd s p).1 ∧ (hfold c hd s p).1 ≤ 4893) ∧ ∃ q : Nat, (hfold c hd s p).2 = (q : Int) ∧ s &&& q = s ∧ q < p ∧ 0 ≤ c q) := by
  intro p
  induction p with
  | zero => intro _; exact .inl rfl
  | succ p ih =>
    intro hp
    rw [hfold, hstep]
    split
    · rename_i h
      have hle := sub_le h.1
      have h1 := hc p (by omega) (by omega)
      have h2 := cnt_sub h.1
      have h3 := cnt_le p
      have := mul_bd hh (show 0 ≤ (cnt p : Int) - cnt s ∧ (cnt p : Int) - cnt s ≤ 7 by omega)
      exact .inr ⟨by simp only; omega, p, rfl, h.1, by omega, h.2.1⟩
    · rcases ih (by omega) with h | ⟨h, q, h1, h2, h3, h4⟩
      · exact .inl h
      · exact .inr ⟨h, q, h1, h2, by omega, h4⟩
theorem cstF_ok {g : Nat → Int} (hw : WF g) : cOK (cstF g) (2 ^ nF g) := fun _ h0 hs => cstF_bd hw h0 hs
theorem hadF_bd {g : Nat → Int} (hw : WF g) {s : Nat} (hs : s ≠ 0) : hadF g s = -1 ∨ (0 ≤ hadF g s ∧ hadF g s ≤ 4893) := by
  have := hfold_bd (cstF_ok hw) hw.fe.2.2.2.1 hs (2 ^ nF g) (Nat.le_refl _)
  unfold hadF
  rcases this with h | h
  · exact .inl (by rw [h])
  · exact .inr h.1
/-- what was reckoned -/
def Rk (g : Nat → Int) (M : Mem) : Prop := (∀ i, i < nF g → M 69 i = (oN g i : Int)) ∧ ∀ s, s ≠ 0 → s < 2 ^ nF g → M 71 s = cstF g s ∧ M 72 s = hadF g s ∧ M 73 s = byF g s
section REFE
variable {G : GE} {d : Nat} {M : Mem}
theorem SR67 {g : Nat → Int} (hg : M 67 = g) : ∀ {M' : Mem}, Fr SR M M' → M' 67 = g := fun hf => by rw [← hg]; funext i; exact hf 67 i rfl
theorem pow_pos2 (n : Nat) : 1 ≤ 2 ^ n := Nat.one_le_two_pow
theorem l11_reckons3 {K : Mem → Prop} {g : Nat → Int} (hg : M 67 = g) (hw : WF g) {s : Nat} (h0 : s ≠ 0) (hs : s < 2 ^ nF g) (h : ∀ M', Fr SR M M' → (∀ c, c ≠ 72 → c ≠ 73 → M' c = M c) → (∀ p, p ≠ s → M' 72 p = M 72 p ∧ M' 73 p = M 73 p) → M' 72 s = hadF g s → M' 73 s = byF g s → OkV G miX11_reckons (d + 1) K 39 [some (.inr (.inr (some 66))), some (.inl ((2 ^ nF g : Nat) : Int)), some (.inl (w32 ((s : Int) + 1))), none, none] [] M') (h71 : ∀ p, p ≠ 0 → p < 2 ^ nF g → M 71 p = cstF g p) : ∀ (p : Nat), p ≤ 2 ^ nF g → ∀ M', Fr SR M M' → (∀ c, c ≠ 72 → c ≠ 73 → M' c = M c) → (∀ p, p ≠ s → M' 72 p = M 72 p ∧ M' 73 p = M 73 p) → s ≤ p → M' 72 s = (hfold (cstF g) (g 90) s p).1 → M' 73 s = (hfold (cstF g) (g 90) s p).2 → OkV G miX11_reckons (d + 1) K 60 [some (.inr (.inr (some 66))), some (.inl ((2 ^ nF g : Nat) : Int)), some (.inl (s : Int)), some (.inl (p : Int)), none] [] M' := by
  have hn := hw.n
  have hN := pow_le7 hn.2
  refine dn _ ?_ (fun p hp ih => ?_)
  · intro M' hf hc hp hsp a1 a2
    exact gX11_reckons_60 ⟨fun _ => h M' hf hc hp a1 a2, fun c => absurd c (by omega)⟩
  · intro M' hf hc hpp hsp a1 a2
    have h67 := SR67 hg hf
    have h1 := h71 p (by omega) hp
    have hb := cstF_bd hw (s := p) (by omega) hp
    have hbd := hfold_bd (cstF_ok hw) hw.fe.2.2.2.1 h0 p (by omega)
    have hst : hfold (cstF g) (g 90) s (p + 1) = hstep (cstF g) (g 90) s p (hfold (cstF g) (g 90) s p) := rfl
    have same : (hfold (cstF g) (g 90) s (p + 1)) = hfold (cstF g) (g 90) s p → OkV G miX11_reckons (d + 1) K 60 [some (.inr (.inr (some 66))), some (.inl ((2 ^ nF g : Nat) : Int)), some (.inl (s : Int)), some (.inl (w32 ((p : Int) + 1))), none] [] M' := fun e => by
      rw [w32n (by omega)]
      exact ih M' hf hc hpp (by omega) (by rw [e]; exact a1) (by rw [e]; exact a2)
    have e71 : M' 71 (p : Int).toNat = cstF g p := by rw [Int.toNat_natCast, hc 71 (by decide) (by decide), h1]
    refine gX11_reckons_60 ⟨fun c => absurd c (by omega), fun _ => ?_⟩
    rw [iandN (by omega), e71]
    have neg : OkV G miX11_reckons (d + 1) K 60 [some (.inr (.inr (some 66))), some (.inl ((2 ^ nF g : Nat) : Int)), some (.inl (s : Int)), some (.inl (w32 ((p : Int) + 1))), none] [] M' → OkV G miX11_reckons (d + 1) K 108 [some (.inr (.inr (some 66))), some (.inl ((2 ^ nF g : Nat) : Int)), some (.inl (s : Int)), some (.inl (p : Int)), none] [] M' := fun h => gX11_reckons_108 (gX11_reckons_109 ⟨fun _ => h, fun c => absurd c (by decide)⟩)
    refine ⟨fun c => neg (same ?_), fun c => ⟨by omega, fun c2 => neg (same ?_), fun c2 => ⟨by omega, ?_⟩⟩⟩
    · rw [hst, hstep, if_neg]; rintro ⟨q, -⟩; rw [Nat.and_comm] at q; omega
    · rw [hst, hstep, if_neg]; rintro ⟨-, q, -⟩; omega
    · have hsub : s &&& p = s := by rw [Nat.and_comm]; omega
      have k2 := cnt_sub hsub
      have k3 := cnt_le p
      have km := mul_bd hw.fe.2.2.2.1 (show 0 ≤ (cnt p : Int) - cnt s ∧ (cnt p : Int) - cnt s ≤ 7 by omega)
      refine c11_ones rfl (by omega) (c11_ones rfl (by omega) ?_)
      rw [h67, w32_eq (by omega) (by omega)]
      have es : (s : Int).toNat = s := Int.toNat_natCast s
      have upd : (hfold (cstF g) (g 90) s p).1 < 0 ∨ cstF g p + g 90 * ((cnt p : Int) - cnt s) < (hfold (cstF g) (g 90) s p).1 → OkV G miX11_reckons (d + 1) K 136 [some (.inr (.inr (some 66))), some (.inl ((2 ^ nF g : Nat) : Int)), some (.inl (s : Int)), some (.inl (p : Int)), some (.inl (cstF g p + g 90 * ((cnt p : Int) - cnt s)))] [] M' := fun hu => by
        have e : hfold (cstF g) (g 90) s (p + 1) = (cstF g p + g 90 * ((cnt p : Int) - cnt s), (p : Int)) := by rw [hst, hstep, if_pos ⟨hsub, c2, hu⟩]
        refine gX11_reckons_136 ⟨by omega, by omega, ?_⟩
        rw [w32n (by omega), es]
        refine ih _ ((hf.up rfl).up rfl) (fun c q1 q2 => by rw [mup_ne q2, mup_ne q1, hc c q1 q2]) (fun q hq => ⟨?_, ?_⟩) (by omega) ?_ ?_
        · rw [mup_ne (by decide), mup_at_ne hq, (hpp q hq).1]
        · rw [mup_at_ne hq, mup_ne (by decide), (hpp q hq).2]
        · rw [mup_ne (by decide), mup_at, e]
        · rw [mup_at, e]
      refine gX11_reckons_109 ⟨fun c3 => absurd c3 (by omega), fun _ => ⟨by omega, ?_⟩⟩
      rw [es, a1]
      refine ⟨fun c3 => upd (.inl c3), fun c3 => ⟨by omega, fun c4 => same ?_, fun c4 => upd (.inr c4)⟩⟩
      rw [hst, hstep, if_neg]; rintro ⟨-, -, q⟩; omega
theorem c11_reckons {K : Mem → Prop} {g : Nat → Int} (hg : M 67 = g) (hw : WF g) (h : ∀ M', Fr SR M M' → Rk g M' → K M') : CalV G miX11_reckons (d + 5) [.inr (.inr (some 66))] M K := by
  have hn := hw.n
  have hN := pow_le7 hn.2
  have hp1 := pow_pos2 (nF g)
  refine Cal.of (by decide) (Nat.le_of_ble_eq_true rfl) rfl (gX11_reckons_0 ?_)
  refine c11_orders hg hw (fun o ho => ?_)
  have h67 : (mset M 69 o) 67 = g := by rw [mset_ne _ (by decide), hg]
  rw [h67, hn.1, ishl1 (nF g) (by omega)]
  have key := dn (P := fun k => ∀ M' : Mem, Fr SR M M' → (∀ i, i < nF g → M' 69 i = (oN g i : Int)) → (∀ s, s ≠ 0 → s < k → M' 71 s = cstF g s) → 1 ≤ k → OkV G miX11_reckons (d + 5) K 15 [some (.inr (.inr (some 66))), some (.inl ((2 ^ nF g : Nat) : Int)), some (.inl (k : Int)), none, none] [] M') (2 ^ nF g) ?_ (fun k hk ih => ?_) 1 hp1
  · exact key _ (Fr.rf.ms (fun _ => rfl)) (fun i hi => by rw [mset_at]; exact ho i hi) (fun s h0 h1 => by omega) (Nat.le_refl _)
  · intro M' hf h69 h71 _
    refine gX11_reckons_15 ⟨fun _ => ?_, fun c => absurd c (by omega)⟩
    have k2 := dn (P := fun k => ∀ M' : Mem, Fr SR M M' → (∀ i, i < nF g → M' 69 i = (oN g i : Int)) → (∀ s, s ≠ 0 → s < 2 ^ nF g → M' 71 s = cstF g s) → (∀ s, s ≠ 0 → s < k → M' 72 s = hadF g s ∧ M' 73 s = byF g s) → 1 ≤ k → OkV G miX11_reckons (d + 5) K 39 [some (.inr (.inr (some 66))), some (.inl ((2 ^ nF g : Nat) : Int)), some (.inl (k : Int)), none, none] [] M') (2 ^ nF g) ?_ (fun k hk ih => ?_) 1 hp1
    · exact k2 M' hf h69 h71 (fun s h0 h1 => by omega) (Nat.le_refl _)
    · intro M' hf h69 h71 h72 _
      exact gX11_reckons_39 ⟨fun _ => h M' hf ⟨h69, fun s h0 h1 => ⟨h71 s h0 h1, h72 s h0 h1⟩⟩, fun c => absurd c (by omega)⟩
    · intro M' hf h69 h71 h72 hk1
      refine gX11_reckons_39 ⟨fun c => absurd c (by omega), fun _ => ⟨by omega, by omega, ?_⟩⟩
      rw [Int.toNat_natCast]
      have hu : Fr SR M (mup (mup M' 72 k (-1)) 73 k (-1)) := (hf.up rfl).up rfl
      have hu' : ∀ c, c ≠ 72 → c ≠ 73 → (mup (mup M' 72 k (-1)) 73 k (-1)) c = M' c := fun c q1 q2 => by rw [mup_ne q2, mup_ne q1]
      have lo := hfold_lo (cstF g) (g 90) k k (Nat.le_refl _)
      refine l11_reckons3 (M := mup (mup M' 72 k (-1)) 73 k (-1)) (SR67 hg hu) hw (by omega) hk (fun M2 f2 c2 p2 a1 a2 => ?_) (fun p q1 q2 => by rw [hu' 71 (by decide) (by decide)]; exact h71 p q1 q2) k (by omega) _ Fr.rf (fun _ _ _ => rfl) (fun _ _ => ⟨rfl, rfl⟩) (Nat.le_refl _) (by rw [lo, mup_ne (by decide), mup_at]) (by rw [lo, mup_at])
      rw [w32n (by omega)]
      refine ih M2 (hu.tr f2) (fun i hi => by rw [c2 69 (by decide) (by decide), hu' 69 (by decide) (by decide)]; exact h69 i hi) (fun s q1 q2 => by rw [c2 71 (by decide) (by decide), hu' 71 (by decide) (by decide)]; exact h71 s q1 q2) (fun s q1 q2 => ?_) (by omega)
      by_cases e : s = k
      · subst e; exact ⟨a1, a2⟩
      · have a := p2 s e
        rw [mup_ne (by decide), mup_at_ne e, mup_at_ne e, mup_ne (by decide)] at a
        have := h72 s q1 (by omega)
        exact ⟨a.1.trans this.1, a.2.trans this.2⟩
  · intro M' hf h69 h71 hk1
    refine gX11_reckons_15 ⟨fun c => absurd c (by omega), fun _ => ?_⟩
    refine c11_costOf (SR67 hg hf) hw h69 rfl (by omega) hk (fun M2 f2 _ => ⟨by omega, ?_⟩)
    rw [w32n (by omega), Int.toNat_natCast]
    refine ih _ ((hf.tr (f2.mo SC_SR)).up rfl) (fun i hi => by rw [mup_ne (by decide), f2 69 i rfl]; exact h69 i hi) (fun s q1 q2 => ?_) (by omega)
    by_cases e : s = k
    · subst e; rw [mup_at]
    · rw [mup_at_ne e, f2 71 s rfl]; exact h71 s q1 (by omega)
theorem c11_isSet {K : Int → Mem → Prop} {g : Nat → Int} {v : Int} (hg : M 67 = g) (hw : WF g) (h1 : ∀ s : Nat, v = (s : Int) → s ≠ 0 → s < 2 ^ nF g → K 1 M) (h0 : v < 1 ∨ ((2 ^ nF g : Nat) : Int) ≤ v → K 0 M) : CalI G miX11_isSet (d + 1) [.inr (.inr (some 66)), .inr (.inl v)] M K := by
  have hn := hw.n
  have hN := pow_le7 hn.2
  have hl : ∀ k : Nat, k < 8 → lshl 1 (k : Int) = ((2 ^ k : Nat) : Int) := by decide +kernel
  refine Cal.of (by decide) (Nat.le_of_ble_eq_true rfl) rfl (gX11_isSet_0 ?_)
  rw [hg, hn.1, hl _ (by omega)]
  generalize 2 ^ nF g = N at *
  rw [w64_eq (by omega) (by omega)]
  refine c11_in (fun a b => ⟨.inr rfl, h1 v.toNat (by omega) (by omega) (by omega)⟩) (fun a => ⟨.inl rfl, h0 (by omega)⟩)
end REFE
