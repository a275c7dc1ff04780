/-! the reference: tells -/
section REFT
variable {G : GE} {d : Nat} {M : Mem} {K : Int → Mem → Prop}
/-- after k of the sets told: where it is wrong, what was seen, totals -/
def tlT (g it : Nat → Int) (v : Nat) : Nat → Option Nat × Nat × Int × Int
  | 0 => (none, 0, 0, 0)
  | k + 1 => match (tlT g it v k).1 with
    | some _ => tlT g it v k
    | none => if 1 ≤ it (40 * v + k) ∧ it (40 * v + k) < ((2 ^ nF g : Nat) : Int) ∧ 0 ≤ hadF g (it (40 * v + k)).toNat ∧ (it (40 * v + k)).toNat &&& (tlT g it v k).2.1 = 0 then (none, (tlT g it v k).2.1 ||| (it (40 * v + k)).toNat, (tlT g it v k).2.2.1 + hadF g (it (40 * v + k)).toNat, (tlT g it v k).2.2.2 + alF g (it (40 * v + k)).toNat) else (some k, (tlT g it v k).2)
def telE (all : Nat) (x : Int) (r : Option Nat × Nat × Int × Int) : Int := match r.1 with
  | some k => if x = 0 then (k : Int) else -1
  | none => if x = 0 ∨ r.2.1 ≠ all then -1 else if x = 1 then r.2.2.1 else r.2.2.2
theorem telE_s {all : Nat} {x : Int} {r : Option Nat × Nat × Int × Int} {k : Nat} (h : r.1 = some k) : telE all x r = if x = 0 then (k : Int) else -1 := by unfold telE; rw [h]
theorem telE_n {all : Nat} {x : Int} {r : Option Nat × Nat × Int × Int} (h : r.1 = none) : telE all x r = if x = 0 ∨ r.2.1 ≠ all then -1 else if x = 1 then r.2.2.1 else r.2.2.2 := by unfold telE; rw [h]
def telR (g so sz it : Nat → Int) (v x : Int) : Int := if v < 0 ∨ 3 < v ∨ x < 0 ∨ 2 < x then -2 else if so v.toNat < 0 then -11 else if 7 < sz v.toNat then -2 else telE (allF g) x (tlT g it v.toNat (sz v.toNat).toNat)
theorem tlT_stop {g it : Nat → Int} {v k j : Nat} (h : (tlT g it v k).1 = some j) : ∀ m, k ≤ m → tlT g it v m = tlT g it v k := by
  intro m hm
  induction m with
  | zero => have : k = 0 := by omega
            subst this; rfl
  | succ m ih =>
    by_cases e : k = m + 1
    · subst e; rfl
    · rw [tlT, ih (by omega), h]
theorem tlT_ok {g it : Nat → Int} {v k s : Nat} (hno : (tlT g it v k).1 = none) (hit : it (40 * v + k) = (s : Int)) (h1 : 1 ≤ (s : Int)) (h2 : (s : Int) < ((2 ^ nF g : Nat) : Int)) (h3 : 0 ≤ hadF g s) (h4 : s &&& (tlT g it v k).2.1 = 0) : tlT g it v (k + 1) = (none, (tlT g it v k).2.1 ||| s, (tlT g it v k).2.2.1 + hadF g s, (tlT g it v k).2.2.2 + alF g s) := by
  rw [tlT, hno]
  simp only
  rw [hit, Int.toNat_natCast]
  exact if_pos ⟨h1, h2, h3, h4⟩
theorem tlT_no {g it : Nat → Int} {v k : Nat} (hno : (tlT g it v k).1 = none) (h : ¬ (1 ≤ it (40 * v + k) ∧ it (40 * v + k) < ((2 ^ nF g : Nat) : Int) ∧ 0 ≤ hadF g (it (40 * v + k)).toNat ∧ (it (40 * v + k)).toNat &&& (tlT g it v k).2.1 = 0)) : tlT g it v (k + 1) = (some k, (tlT g it v k).2) := by
  rw [tlT, hno]; exact if_neg h
theorem tlT_bd {g it : Nat → Int} (hw : WF g) {v : Nat} : ∀ k, (tlT g it v k).2.1 < 2 ^ nF g ∧ (0 ≤ (tlT g it v k).2.2.1 ∧ (tlT g it v k).2.2.1 ≤ 4893 * k) ∧ (0 ≤ (tlT g it v k).2.2.2 ∧ (tlT g it v k).2.2.2 ≤ 7 * k) := by
  intro k
  induction k with
  | zero => exact ⟨pow_pos2 _, ⟨Int.le_refl _, Int.le_refl _⟩, Int.le_refl _, Int.le_refl _⟩
  | succ k ih =>
    cases hno : (tlT g it v k).1 with
    | some j =>
      rw [tlT_stop hno (k + 1) (by omega)]
      generalize tlT g it v k = tk at *
      omega
    | none =>
      by_cases hc : 1 ≤ it (40 * v + k) ∧ it (40 * v + k) < ((2 ^ nF g : Nat) : Int) ∧ 0 ≤ hadF g (it (40 * v + k)).toNat ∧ (it (40 * v + k)).toNat &&& (tlT g it v k).2.1 = 0
      · obtain ⟨s, hs⟩ : ∃ s : Nat, it (40 * v + k) = (s : Int) := ⟨(it (40 * v + k)).toNat, by omega⟩
        rw [hs, Int.toNat_natCast] at hc
        rw [tlT_ok hno hs hc.1 hc.2.1 hc.2.2.1 hc.2.2.2]
        have h0 : s ≠ 0 := by omega
        have a := hadF_bd hw h0
        have b := alF_bd hw h0 hc.2.2.1
        have c := Nat.or_lt_two_pow ih.1 (show s < 2 ^ nF g by have := hc.2.1; omega)
        refine ⟨c, ?_⟩
        generalize hadF g s = y1 at *
        generalize alF g s = y2 at *
        generalize tlT g it v k = tk at *
        simp only; omega
      · rw [tlT_no hno hc]
        generalize tlT g it v k = tk at *
        simp only; omega
/-- one set told -/
theorem l11_tell {N2 N sh k seen : Nat} {x total more : Int} {hd ad : Nat → Int} (hN2 : N2 ≤ 128) (hN7 : N ≤ 7) (hsh : sh < 4) (hk : k < N) (e81 : M 81 sh = (N : Int)) (hse : seen < 128) (ht : 0 ≤ total ∧ total ≤ 40000) (hm : 0 ≤ more ∧ more ≤ 100) (his : ∀ {v : Int} {K2 : Int → Mem → Prop}, (∀ s : Nat, v = (s : Int) → s ≠ 0 → s < N2 → K2 1 M) → (v < 1 ∨ (N2 : Int) ≤ v → K2 0 M) → CalI G miX11_isSet (d + 5) [.inr (.inr (some 66)), .inr (.inl v)] M K2) (h72 : ∀ s, s ≠ 0 → s < N2 → M 72 s = hd s) (hhd : ∀ s, s ≠ 0 → s < N2 → hd s ≤ 4893) (had' : ∀ s, s ≠ 0 → s < N2 → 0 ≤ hd s → 0 ≤ ad s ∧ ad s ≤ 7) (hal : ∀ (s : Nat) {K2 : Int → Mem → Prop}, s ≠ 0 → s < N2 → 0 ≤ hd s → K2 (ad s) M → CalI G miX11_along (d + 5) [.inr (.inr (some 66)), .inl (s : Int)] M K2) (hbadN : (M 82 (40 * sh + k) < 1 ∨ (N2 : Int) ≤ M 82 (40 * sh + k)) → OkI G miX11_tells (d + 6) K 123 [none, none, some (.inl x), none, none, none, some (.inl (k : Int)), none, none, none] [] M) (hbad : ∀ s : Nat, M 82 (40 * sh + k) = (s : Int) → s ≠ 0 → s < N2 → (hd s < 0 ∨ s &&& seen ≠ 0) → OkI G miX11_tells (d + 6) K 123 [none, none, some (.inl x), none, none, none, some (.inl (k : Int)), none, none, none] [] M) (hok : ∀ s : Nat, M 82 (40 * sh + k) = (s : Int) → s ≠ 0 → s < N2 → 0 ≤ hd s → s &&& seen = 0 → OkI G miX11_tells (d + 6) K 63 [some (.inr (.inr (some 66))), some (.inl (sh : Int)), some (.inl x), some (.inl ((seen ||| s : Nat) : Int)), some (.inl (total + hd s)), some (.inl (more + ad s)), some (.inl ((k + 1 : Nat) : Int)), none, none, none] [] M) : OkI G miX11_tells (d + 6) K 63 [some (.inr (.inr (some 66))), some (.inl (sh : Int)), some (.inl x), some (.inl (seen : Int)), some (.inl total), some (.inl more), some (.inl (k : Int)), none, none, none] [] M := by
  refine gX11_tells_63 ⟨by omega, ?_⟩
  rw [Int.toNat_natCast, e81]
  refine ⟨fun c => absurd c (by omega), fun _ => ?_⟩
  refine c11_itemOf rfl rfl (by omega) (by omega) ?_
  generalize hit : M 82 (40 * sh + k) = y at *
  refine his (fun s es s0 ss => ?_) (fun a => ?_)
  · subst es
    have ey : (if (1 : Int) = 0 then (0 : Int) else w32 (s : Int)) = (s : Int) := by rw [if_neg (by decide), w32_eq (by omega) (by omega)]
    rw [ey, Int.toNat_natCast, h72 s s0 ss]
    clear ey
    refine ⟨fun c => absurd c (by omega), fun _ => ⟨by omega, fun c => hbad s rfl s0 ss (.inl c), fun c => ?_⟩⟩
    rw [iandN (by omega)]
    refine ⟨fun c3 => ⟨by omega, ?_⟩, fun c3 => hbad s rfl s0 ss (.inr (by omega))⟩
    refine hal s s0 ss c ?_
    have a := hhd s s0 ss
    have b := had' s s0 ss c
    have ho := hok s rfl s0 ss c (by omega)
    rw [w32n (by omega), iorN (by omega) (by omega), w32_eq (by omega) (by omega), w32_eq (by omega) (by omega)]
    exact ho
  · rw [if_pos rfl]
    exact ⟨fun _ => hbadN a, fun c => absurd rfl c⟩
theorem c11_tells {g : Nat → Int} {v x : Int} (hg : M 67 = g) (hw : WF g) (hs : shW (M 80) (M 81)) (h : ∀ M', Fr SR M M' → K (telR g (M 80) (M 81) (M 82) v x) M') : CalI G miX11_tells (d + 6) [.inr (.inr (some 66)), .inl v, .inl x] M K := by
  have hn := hw.n
  have hN := pow_le7 hn.2
  have hp1 := pow_pos2 (nF g)
  have bad : (v < 0 ∨ 3 < v ∨ x < 0 ∨ 2 < x) → K (-2) M := fun hb => kv (h M Fr.rf) (by unfold telR; rw [if_pos hb])
  refine Cal.of (by decide) (Nat.le_of_ble_eq_true rfl) rfl (gX11_tells_0 ?_)
  refine c11_isSheet (fun p q => b1 ?_) (fun p => b0 (bad (by omega)))
  refine c11_in (fun p2 q2 => n1 ?_) (fun p2 => n0 (bad (by omega)))
  have hb : ¬ (v < 0 ∨ 3 < v ∨ x < 0 ∨ 2 < x) := by omega
  obtain ⟨sh, hsh⟩ : ∃ sh : Nat, v = (sh : Int) := ⟨v.toNat, by omega⟩
  subst hsh
  rw [Int.toNat_natCast]
  have hv := hs sh (by omega)
  refine ⟨by omega, fun c => ⟨by omega, fun c2 => ?_, fun c2 => ?_⟩, fun c => ?_⟩
  · refine c11_reckons hg hw (fun M1 f1 rk => ?_)
    have e67 := SR67 hg f1
    have e81 : M1 81 sh = M 81 sh := f1 81 sh rfl
    have hK := h M1 f1
    obtain ⟨N, hNs⟩ : ∃ N : Nat, M 81 sh = (N : Int) := ⟨(M 81 sh).toNat, by omega⟩
    have eR : telR g (M 80) (M 81) (M 82) (sh : Int) x = telE (allF g) x (tlT g (M 82) sh N) := by
      unfold telR
      rw [if_neg hb, Int.toNat_natCast, if_neg (by omega), if_neg (by omega), hNs, Int.toNat_natCast]
    rw [eR] at hK
    have hall : w32 ((ishl 1 (M1 67 0)) - 1) = (allF g : Int) := by
      rw [e67, hn.1, ishl1 _ (by omega)]; unfold allF
      generalize 2 ^ nF g = N at *
      rw [w32_eq (by omega) (by omega)]; omega
    have hbd := fun k => tlT_bd (it := M 82) hw (v := sh) k
    have key := dn (P := fun k => (tlT g (M 82) sh k).1 = none → OkI G miX11_tells (d + 6) K 63 [some (.inr (.inr (some 66))), some (.inl (sh : Int)), some (.inl x), some (.inl ((tlT g (M 82) sh k).2.1 : Int)), some (.inl (tlT g (M 82) sh k).2.2.1), some (.inl (tlT g (M 82) sh k).2.2.2), some (.inl (k : Int)), none, none, none] [] M1) N ?_ (fun k hk ih => ?_) 0 (Nat.zero_le _)
    · exact key rfl
    · intro hno
      rw [telE_n hno] at hK
      clear hbd
      generalize tlT g (M 82) sh N = tk at *
      generalize allF g = al at *
      refine gX11_tells_63 ⟨by omega, ?_⟩
      rw [Int.toNat_natCast, e81, hNs, hall]
      refine ⟨fun _ => ⟨fun c0 => ?_, fun c0 => ⟨fun c1 => ⟨fun c2 => ?_, fun c2 => ?_⟩, fun c1 => ?_⟩⟩, fun c => absurd c (by omega)⟩
      · rw [if_pos (.inl c0)] at hK; exact hK
      · rw [if_neg (by omega), if_neg c2] at hK; exact hK
      · rw [if_neg (by omega), if_pos c2] at hK; exact hK
      · rw [if_pos (.inr (by omega))] at hK; exact hK
    · intro hno
      have hb1 := hbd k
      have wrong : ¬ (1 ≤ (M 82) (40 * sh + k) ∧ (M 82) (40 * sh + k) < ((2 ^ nF g : Nat) : Int) ∧ 0 ≤ hadF g ((M 82) (40 * sh + k)).toNat ∧ ((M 82) (40 * sh + k)).toNat &&& (tlT g (M 82) sh k).2.1 = 0) → OkI G miX11_tells (d + 6) K 123 [none, none, some (.inl x), none, none, none, some (.inl (k : Int)), none, none, none] [] M1 := fun hc => by
        have e1 := tlT_no hno hc
        have e2 := tlT_stop (k := k + 1) (j := k) (by rw [e1]) N (by omega)
        rw [e2, telE_s (k := k) (by rw [e1])] at hK
        refine gX11_tells_123 ⟨fun c => ?_, fun c => ?_⟩
        · rw [if_neg c] at hK; exact hK
        · rw [if_pos c] at hK; exact hK
      have e82 : M1 82 (40 * sh + k) = M 82 (40 * sh + k) := f1 82 _ rfl
      have hN7 : N ≤ 7 := by clear hbd wrong ih hb1; omega
      have t1 : (0 ≤ (tlT g (M 82) sh k).2.2.1 ∧ (tlT g (M 82) sh k).2.2.1 ≤ 40000) ∧ 0 ≤ (tlT g (M 82) sh k).2.2.2 ∧ (tlT g (M 82) sh k).2.2.2 ≤ 100 := by
        clear wrong ih hbd hK eR
        generalize tlT g (M 82) sh k = tk at *
        omega
      refine l11_tell (N2 := 2 ^ nF g) (hd := hadF g) (ad := alF g) hN hN7 (by clear hbd wrong ih hb1 t1; omega) hk (by rw [e81, hNs]) (Nat.lt_of_lt_of_le hb1.1 hN) t1.1 t1.2 (fun h1 h0 => c11_isSet e67 hw h1 h0) (fun s a b => (rk.2 s a b).2.1) (fun s a b => ?_) (fun s a b c => alF_bd hw a c) (fun s K2 a b c hK2 => c11_along hw rfl a b c (rk.2 s a b).2.2 hK2) (fun q => wrong ?_) (fun s es s0 ss q => wrong ?_) (fun s es s0 ss q1 q2 => ?_)
      · have := hadF_bd hw a
        generalize hadF g s = y at *
        clear hbd wrong ih hb1 t1
        omega
      · rw [e82] at q
        rintro ⟨r1, r2, -⟩
        clear hbd wrong ih hb1 t1
        generalize 2 ^ nF g = NN at *
        omega
      · rw [e82] at es
        rw [es, Int.toNat_natCast]
        rintro ⟨-, -, r1, r2⟩
        rcases q with q | q
        · clear hbd wrong ih hb1 t1
          generalize hadF g s = y at *
          omega
        · exact q r2
      · rw [e82] at es
        have e1 := tlT_ok (g := g) (it := M 82) (v := sh) (k := k) (s := s) hno es (by clear hbd wrong ih hb1 t1 q1 q2; omega) (by clear hbd wrong ih hb1 t1 q1 q2; exact Int.ofNat_lt.mpr ss) q1 q2
        have ih' := ih (by rw [e1])
        rw [e1] at ih'
        exact ih'
  · exact kv (h M Fr.rf) (by unfold telR; rw [if_neg hb, Int.toNat_natCast, if_neg (by omega), if_pos c2])
  · exact kv (h M Fr.rf) (by unfold telR; rw [if_neg hb, Int.toNat_natCast, if_pos c])
end REFT
