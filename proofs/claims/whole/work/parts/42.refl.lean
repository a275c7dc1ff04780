/-! the reference: a pivot -/
section REFL
variable {G : GE} {d : Nat} {M : Mem}
theorem SB67 {g : Nat → Int} (hg : M 67 = g) : ∀ {M' : Mem}, Fr SB M M' → M' 67 = g := fun hf => by rw [← hg]; funext i; exact hf 67 i rfl
def SB1 : Nat → Nat → Bool := fun c _ => c == 77
theorem c11_turns {K : Mem → Prop} {g : Nat → Int} {R : Nat} {dv : Int} {T : Nat → Nat → Int} {C Rn : Nat → Nat} {v w : Int} {r0 p : Nat} (hg : M 67 = g) (hw : WF g) (hR : R < 128) (hT : TbM (nF g) R M dv T C Rn) (hb : bdT (nF g) R dv T) (e : v = (r0 : Int)) (e' : w = (p : Int)) (hr0 : r0 < R) (hp : p < nF g) (hpv : ∀ q c, q < R + 1 + nF g → c ≤ nF g → -BND ≤ piv T dv r0 p q c ∧ piv T dv r0 p q c ≤ BND) (hex : ∀ q c, q < R + 1 + nF g → q ≠ r0 → c ≤ nF g → c ≠ p → dv * piv T dv r0 p q c = T q c * T r0 p - T q p * T r0 c) (h : ∀ M', Fr SB M M' → TbM (nF g) R M' (T r0 p) (piv T dv r0 p) (nup C p (Rn r0)) (nup Rn r0 (C p)) → K M') : CalV G miX11_turns d [.inr (.inr (some 66)), .inl v, .inl w] M K := by
  have hn := hw.n
  subst e; subst e'
  obtain ⟨a18, a19, a20, a77, a78, a79⟩ := hT
  have ix : ∀ q c : Nat, ((8 * (q : Int)) + (c : Int)).toNat = 8 * q + c := fun q c => by omega
  have fr66 : ∀ {M' : Mem}, Fr SB1 M M' → M' 66 18 = (R : Int) ∧ M' 66 19 = ((R + 1 + nF g : Nat) : Int) ∧ M' 66 20 = dv ∧ M' 67 0 = (nF g : Int) := fun hf => ⟨by rw [hf 66 18 rfl, a18], by rw [hf 66 19 rfl, a19], by rw [hf 66 20 rfl, a20], by rw [hf 67 0 rfl, hg]; exact hn.1⟩
  refine Cal.of (by decide) (Nat.le_of_ble_eq_true rfl) rfl (gX11_turns_0 ⟨by omega, ?_⟩)
  rw [ix, a77 r0 p (by omega) (by omega)]
  have pvr : ∀ c, c ≠ p → piv T dv r0 p r0 c = T r0 c := fun c hc => by unfold piv; rw [if_pos rfl, if_neg hc]
  have pvp : ∀ q, q ≠ r0 → piv T dv r0 p q p = -T q p := fun q hq => by unfold piv; rw [if_neg hq, if_pos rfl]
  have pvrp : piv T dv r0 p r0 p = dv := by unfold piv; rw [if_pos rfl, if_pos rfl]
  refine dn (P := fun k => ∀ M' : Mem, Fr SB1 M M' → (∀ q c, q < R + 1 + nF g → c ≤ nF g → M' 77 (8 * q + c) = if q < k then piv T dv r0 p q c else T q c) → OkV G miX11_turns d K 15 [some (.inr (.inr (some 66))), some (.inl (r0 : Int)), some (.inl (p : Int)), some (.inr (.inl (T r0 p))), none, some (.inl (k : Int)), none, none, none] [] M') (R + 1 + nF g) ?_ (fun k hk ih => ?_) 0 (Nat.zero_le _) M Fr.rf (fun q c hq hc => by rw [if_neg (by omega)]; exact a77 q c hq hc)
  · intro M' hf h77
    obtain ⟨b18, b19, b20, bn⟩ := fr66 hf
    refine gX11_turns_15 ⟨fun _ => ⟨by omega, by omega, by omega, by omega, ?_⟩, fun c => absurd c (by rw [b19]; omega)⟩
    rw [Int.toNat_natCast, Int.toNat_natCast]
    have hf' : Fr SB M M' := hf.mo (fun c i hc => by unfold SB at hc; unfold SB1; simp only [Bool.or_eq_false_iff] at hc; exact hc.1)
    refine h _ (((hf'.up rfl).up rfl).up rfl) ⟨?_, ?_, ?_, fun q c hq hc => ?_, fun c hc => ?_, fun r hr => ?_⟩
    · rw [mup_ne (by decide), mup_ne (by decide), mup_at_ne (by decide), b18]
    · rw [mup_ne (by decide), mup_ne (by decide), mup_at_ne (by decide), b19]
    · rw [mup_ne (by decide), mup_ne (by decide), mup_at]
    · rw [mup_ne (by decide), mup_ne (by decide), mup_ne (by decide), h77 q c hq hc, if_pos hq]
    · rw [mup_ne (by decide)]
      by_cases e : c = p
      · subst e; rw [mup_at, mup_ne (by decide), hf 79 r0 rfl, a79 r0 hr0, nup_at]
      · rw [mup_at_ne e, mup_ne (by decide), hf 78 c rfl, a78 c hc, nup_ne _ e]
    · by_cases e : r = r0
      · subst e; rw [mup_at, mup_ne (by decide), hf 78 p rfl, a78 p hp, nup_at]
      · rw [mup_at_ne e, mup_ne (by decide), mup_ne (by decide), hf 79 r rfl, a79 r hr, nup_ne _ e]
  · intro M' hf h77
    obtain ⟨b18, b19, b20, bn⟩ := fr66 hf
    refine gX11_turns_15 ⟨fun c => absurd c (by rw [b19]; omega), fun _ => ⟨by omega, ?_⟩⟩
    rw [ix, h77 k p hk (by omega), if_neg (by omega)]
    -- the end of a row
    have t119 : ∀ M2 : Mem, Fr SB1 M M2 → (∀ q c, q < R + 1 + nF g → c ≤ nF g → (q ≠ k ∨ c ≠ p) → M2 77 (8 * q + c) = if q < k + 1 then piv T dv r0 p q c else T q c) → OkV G miX11_turns d K 119 [some (.inr (.inr (some 66))), some (.inl (r0 : Int)), some (.inl (p : Int)), some (.inr (.inl (T r0 p))), none, some (.inl (k : Int)), some (.inr (.inl (T k p))), none, none] [] M2 := by
      intro M2 f2 h2
      obtain ⟨c18, c19, c20, cn⟩ := fr66 f2
      have bk := hb.2 k p hk (by omega)
      have hBN : BND = 197285760 := rfl
      refine gX11_turns_119 ⟨by omega, ?_⟩
      rw [ix, c20, w32n (by omega), w64_eq (by omega) (by omega)]
      refine ih _ (f2.up rfl) (fun q c hq hc => ?_)
      by_cases e : q = k ∧ c = p
      · rw [e.1, e.2, mup_at, if_pos (show k < k + 1 by omega)]
        by_cases ek : k = r0
        · subst ek; rw [if_pos rfl, pvrp]
        · rw [if_neg (show ¬ (k : Int) = (r0 : Int) by omega), pvp k ek]
      · rw [mup_at_ne (by omega)]; exact h2 q c hq hc (by omega)
    by_cases ek : k = r0
    · -- the row itself
      subst ek
      refine gX11_turns_41 ⟨fun c => absurd c (by rw [bn]; omega), fun _ => ⟨fun _ => t119 M' hf (fun q c hq hc hne => ?_), fun c => absurd rfl c⟩⟩
      rw [h77 q c hq hc]
      by_cases e : q = k
      · subst e; rw [if_neg (by omega), if_pos (by omega), pvr c (by omega)]
      · by_cases e2 : q < k
        · rw [if_pos e2, if_pos (by omega)]
        · rw [if_neg e2, if_neg (by omega)]
    · refine dn (P := fun c => ∀ M2 : Mem, Fr SB1 M M2 → (∀ q c', q < R + 1 + nF g → c' ≤ nF g → M2 77 (8 * q + c') = if q < k ∨ (q = k ∧ c' < c ∧ c' ≠ p) then piv T dv r0 p q c' else T q c') → OkV G miX11_turns d K 41 [some (.inr (.inr (some 66))), some (.inl (r0 : Int)), some (.inl (p : Int)), some (.inr (.inl (T r0 p))), none, some (.inl (k : Int)), some (.inr (.inl (T k p))), none, some (.inl (c : Int))] [] M2) (nF g + 1) ?_ (fun c hc ihc => ?_) 0 (Nat.zero_le _) M' hf (fun q c' hq hc' => by
          rw [h77 q c' hq hc']
          by_cases e : q < k
          · rw [if_pos e, if_pos (.inl e)]
          · rw [if_neg e, if_neg (by omega)])
      · intro M2 f2 h2
        obtain ⟨c18, c19, c20, cn⟩ := fr66 f2
        refine gX11_turns_41 ⟨fun _ => t119 M2 f2 (fun q c hq hc hne => ?_), fun c => absurd c (by rw [cn]; omega)⟩
        rw [h2 q c hq hc]
        by_cases e : q < k + 1
        · rw [if_pos e, if_pos (by omega)]
        · rw [if_neg e, if_neg (by omega)]
      · intro M2 f2 h2
        obtain ⟨c18, c19, c20, cn⟩ := fr66 f2
        refine gX11_turns_41 ⟨fun c => absurd c (by rw [cn]; omega), fun _ => ⟨fun c => absurd c (by omega), fun _ => ⟨fun ec => ?_, fun ec => ⟨by omega, by omega, by rw [c20]; have := hb.1; omega, by omega, ?_⟩⟩⟩⟩
        · rw [w32n (by omega)]
          refine ihc M2 f2 (fun q c' hq hc' => ?_)
          rw [h2 q c' hq hc']
          by_cases e : q < k ∨ (q = k ∧ c' < c ∧ c' ≠ p)
          · rw [if_pos e, if_pos (by omega)]
          · rw [if_neg e, if_neg (by omega)]
        · have hcp : c ≠ p := by omega
          have v1 : M2 77 (8 * k + c) = T k c := by rw [h2 k c hk (by omega), if_neg (by omega)]
          have v2 : M2 77 (8 * r0 + c) = T r0 c := by
            rw [h2 r0 c (by omega) (by omega)]
            split
            · exact pvr c hcp
            · rfl
          have q1 := pr_bd (hb.2 k c hk (by omega)) (hb.2 r0 p (by omega) (by omega))
          have q2 := pr_bd (hb.2 k p hk (by omega)) (hb.2 r0 c (by omega) (by omega))
          have hx := hex k c hk ek (by omega) hcp
          have hpb := hpv k c hk (by omega)
          have hBN : BND = 197285760 := rfl
          have hd0 := hb.1
          rw [ix, ix, v1, v2, c20, w32n (by omega), w64_eq (by omega) (by omega)]
          have e : ldiv (T k c * T r0 p - T k p * T r0 c) dv = piv T dv r0 p k c := by
            unfold ldiv
            rw [← hx, Int.mul_tdiv_cancel_left _ (by omega), w64_eq (by omega) (by omega)]
          rw [e]
          refine ihc _ (f2.up rfl) (fun q c' hq hc' => ?_)
          by_cases e2 : q = k ∧ c' = c
          · rw [e2.1, e2.2, mup_at, if_pos (by omega)]
          · rw [mup_at_ne (by omega), h2 q c' hq hc']
            by_cases e3 : q < k ∨ (q = k ∧ c' < c ∧ c' ≠ p)
            · rw [if_pos e3, if_pos (by omega)]
            · rw [if_neg e3, if_neg (by omega)]
end REFL
