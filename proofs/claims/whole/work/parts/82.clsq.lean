/-! the class: the table laid, solved -/
def OpC (q : Nat → Int) (k : Nat) (M : Mem) : Prop := (0 < M 34 4 ∧ M 34 4 ≤ BND) ∧ Opt (nF q) (feasP q) k (fun j => M 35 (8 * j + 7)) (M 34 4) ∧ ∀ j, j < k → 0 ≤ M 35 (8 * j + 7) ∧ M 35 (8 * j + 7) ≤ BND
theorem OpC.fr {q : Nat → Int} {k : Nat} {M M' : Mem} {S : Nat → Nat → Bool} (h : OpC q k M) (hf : Fr S M M') (hS : ∀ c i, 34 ≤ c → c ≤ 37 → S c i = false) : OpC q k M' := by
  have e4 : M' 34 4 = M 34 4 := hf 34 4 (hS _ _ (by decide) (by decide))
  have e35 : M' 35 = M 35 := funext fun i => hf 35 i (hS _ _ (by decide) (by decide))
  unfold OpC; rw [e4, e35]; exact h
theorem OpC.mo {q : Nat → Int} {k k' : Nat} {M : Mem} (h : OpC q k M) (e : k' = k) : OpC q k' M := e ▸ h
section CLSQ
variable {G : GE} {d : Nat} {M : Mem}
theorem c10_inLowest {K : Int → Mem → Prop} {a b : Nat} {x : Int} (ha : a < 4611686018427387904) (hb : b < 4611686018427387904) (hb0 : 0 < b) (h : K (lowR a b x) M) : CalL G miX10_inLowest d [.inr (.inl (a : Int)), .inr (.inl (b : Int)), .inl x] M K := by
  refine Cal.of (by decide) (Nat.le_of_ble_eq_true rfl) rfl (gX10_inLowest_0 ?_)
  have fin : ∀ u : Nat, u = Nat.gcd a b → OkL G miX10_inLowest d K 45 [some (.inr (.inl (a : Int))), none, some (.inr (.inl (b : Int))), none, some (.inl x), some (.inr (.inl (u : Int))), none, none, none, none, none, none] [] M := by
    intro u hu
    subst hu
    have hpos : 0 < Nat.gcd a b := Nat.gcd_pos_of_pos_right _ hb0
    have h1 : a / Nat.gcd a b ≤ a := Nat.div_le_self _ _
    have h2 : b / Nat.gcd a b ≤ b := Nat.div_le_self _ _
    unfold lowR at h
    refine gX10_inLowest_45 ⟨fun _ => ⟨fun c => ⟨by omega, ?_⟩, fun c => ⟨by omega, ?_⟩⟩, fun c => absurd c (by omega)⟩
    · rw [if_neg c] at h
      have e : ldiv (b : Int) ((Nat.gcd a b : Nat) : Int) = ((b / Nat.gcd a b : Nat) : Int) := by unfold ldiv; rw [← Int.ofNat_tdiv]; exact w64N (Nat.lt_of_le_of_lt h2 hb)
      rw [e]; exact h
    · rw [if_pos c] at h
      have e : ldiv (a : Int) ((Nat.gcd a b : Nat) : Int) = ((a / Nat.gcd a b : Nat) : Int) := by unfold ldiv; rw [← Int.ofNat_tdiv]; exact w64N (Nat.lt_of_le_of_lt h1 ha)
      rw [e]; exact h
  have loop : ∀ (m v u i : Nat), v < 2 ^ m → i + 2 * m ≤ 198 → Nat.gcd u v = Nat.gcd a b → OkL G miX10_inLowest d K 9 [some (.inr (.inl (a : Int))), none, some (.inr (.inl (b : Int))), none, some (.inl x), some (.inr (.inl (u : Int))), none, some (.inr (.inl (v : Int))), none, some (.inl (i : Int)), none, none] [] M := by
    intro m
    induction m with
    | zero =>
      intro v u i hv hi hg
      have hv0 : v = 0 := by simpa using hv
      subst hv0
      rw [Nat.gcd_zero_right] at hg
      exact gX10_inLowest_9 ⟨fun c => absurd c (by omega), fun _ => ⟨fun _ => fin u hg, fun c => absurd rfl c⟩⟩
    | succ m ih =>
      intro v u i hv hi hg
      refine gX10_inLowest_9 ⟨fun c => absurd c (by omega), fun _ => ⟨fun c => fin u ?_, fun c => ⟨c, ?_⟩⟩⟩
      · have hv0 : v = 0 := by omega
        subst hv0; rw [Nat.gcd_zero_right] at hg; exact hg
      · have e : lrem (u : Int) (v : Int) = ((u % v : Nat) : Int) := by unfold lrem; rw [Int.ofNat_tmod]
        have hw : u % v < v := Nat.mod_lt _ (by omega)
        have hg2 : Nat.gcd v (u % v) = Nat.gcd a b := by rw [← hg, Nat.gcd_comm u v, Nat.gcd_rec v u, Nat.gcd_comm]
        rw [e, w32n (by omega)]
        refine gX10_inLowest_9 ⟨fun c => absurd c (by omega), fun _ => ⟨fun c2 => fin v ?_, fun c2 => ⟨c2, ?_⟩⟩⟩
        · rw [show u % v = 0 by omega, Nat.gcd_zero_right] at hg2; exact hg2
        · have e2 : lrem (v : Int) ((u % v : Nat) : Int) = ((v % (u % v) : Nat) : Int) := by unfold lrem; exact (Int.ofNat_tmod _ _).symm
          have hw2 : v % (u % v) < u % v := Nat.mod_lt _ (by omega)
          have hw3 : v % (u % v) + u % v ≤ v := by
            have h1 := Nat.div_add_mod v (u % v)
            have h2 : 1 ≤ v / (u % v) := (Nat.one_le_div_iff (by omega)).mpr (by omega)
            have h3 : u % v * 1 ≤ u % v * (v / (u % v)) := Nat.mul_le_mul_left _ h2
            omega
          rw [e2, w32n (by omega)]
          refine ih _ _ _ ?_ (by omega) ?_
          · rw [Nat.pow_succ] at hv; omega
          · rw [← hg2, Nat.gcd_comm v (u % v), Nat.gcd_rec (u % v) v, Nat.gcd_comm]
  exact loop 62 b a 0 hb (by decide) rfl
theorem c10_inLowestI {K : Int → Mem → Prop} {a b x : Int} (ha : 0 ≤ a ∧ a ≤ BND) (hb : 0 < b ∧ b ≤ BND) (h : K (lowR a.toNat b.toNat x) M) : CalL G miX10_inLowest d [.inr (.inl a), .inr (.inl b), .inl x] M K := by
  have hB : BND = 197285760 := rfl
  have e1 : a = (a.toNat : Int) := by omega
  have e2 : b = (b.toNat : Int) := by omega
  rw [e1, e2]
  exact c10_inLowest (by omega) (by omega) (by omega) h
theorem c8_layGoals {K : Mem → Prop} {g : Nat → Int} {k : Nat} {v : Int} {sel : Nat → Nat} {cost : Nat → Int} (hP : Pl g M) (hw : WF g) (e : v = (k : Int)) (hk : 1 ≤ k ∧ k ≤ nF g + 1) (h : ∀ M', Fr (rg 34 37) M M' → TbC (nF g) k 0 M' 1 (T0C (nF g) k sel cost) (fun c => c) (fun _ => 0) → K M') : CalV G miX8_layGoals d [.inr (.inr (some 34)), .inl v] M K := by
  have hn := hw.n
  subst e
  refine Cal.of (by decide) (Nat.le_of_ble_eq_true rfl) rfl (gX8_layGoals_0 ?_)
  have f0 : Fr (rg 34 37) M (mup (mup (mup M 34 4 1) 34 5 (k : Int)) 34 6 (k : Int)) := ((Fr.rf.up (rg_yes (by omega))).up (rg_yes (by omega))).up (rg_yes (by omega))
  have s0 : ∀ {M' : Mem}, Fr (rg 35 37) (mup (mup (mup M 34 4 1) 34 5 (k : Int)) 34 6 (k : Int)) M' → M' 34 4 = 1 ∧ M' 34 5 = (k : Int) ∧ M' 34 6 = (k : Int) := fun hf => ⟨by rw [hf 34 4 (rg_no (by omega)), mup_at_ne (by decide), mup_at_ne (by decide), mup_at], by rw [hf 34 5 (rg_no (by omega)), mup_at_ne (by decide), mup_at], by rw [hf 34 6 (rg_no (by omega)), mup_at]⟩
  generalize (mup (mup (mup M 34 4 1) 34 5 (k : Int)) 34 6 (k : Int)) = M0 at *
  have e8 : ∀ {M' : Mem}, Fr (rg 35 37) M0 M' → M' 1 8 = (nF g : Int) := fun hf => by rw [hf 1 8 (rg_no (by omega)), fr_rg f0 (by omega)]; exact hP.n hw
  have tv : ∀ q c, q < k → c < nF g → T0C (nF g) k sel cost q c = if q = 0 ∨ q = 1 + c then -1 else 0 := fun q c hq hc => by
    unfold T0C; rw [if_pos hq]
    by_cases e : q = 0 ∨ q = 1 + c
    · rw [if_pos ⟨hc, e⟩, if_pos e]
    · rw [if_neg (fun z => e z.2), if_neg e]
  have tn : ∀ q, q < k → T0C (nF g) k sel cost q (nF g) = 0 := fun q hq => by unfold T0C; rw [if_pos hq, if_neg (by omega)]
  -- the ends of the rows
  have ends : ∀ M1 : Mem, Fr (rg 35 37) M0 M1 → (∀ c, c < nF g → M1 37 c = (c : Int)) → (∀ q c, q < k → c < nF g → M1 35 (8 * q + c) = T0C (nF g) k sel cost q c) → OkV G miX8_layGoals d K 93 [some (.inr (.inr (some 34))), none, some (.inl 0), none] [] M1 := by
    intro M1 f1 h37 h35
    have key := dn (P := fun j => ∀ M' : Mem, Fr (rg 35 37) M0 M' → (∀ c, c < nF g → M' 37 c = (c : Int)) → (∀ q c, q < k → c < nF g → M' 35 (8 * q + c) = T0C (nF g) k sel cost q c) → (∀ q, q < j → M' 35 (8 * q + 7) = 0) → OkV G miX8_layGoals d K 93 [some (.inr (.inr (some 34))), none, some (.inl (j : Int)), none] [] M') k ?_ (fun j hj ih => ?_) 0 (Nat.zero_le _) M1 f1 h37 h35 (fun q hq => absurd hq (Nat.not_lt_zero _))
    · exact key
    · intro M2 f2 a37 a35 a7
      obtain ⟨b4, b5, b6⟩ := s0 f2
      refine gX8_layGoals_93 ⟨fun _ => h M2 (f0.tr (fr_wide f2 (by omega))) ⟨⟨b4, b5, by rw [b6]; rfl⟩, fun q c hq hc => ?_, a37, fun r h1 h2 => by omega⟩, fun c => absurd c (by rw [b5]; omega)⟩
      by_cases e : c < nF g
      · rw [cix_lt e]; exact a35 q c (by omega) e
      · have ec : c = nF g := by omega
        subst ec; rw [cix_n, a7 q (by omega), tn q (by omega)]
    · intro M2 f2 a37 a35 a7
      obtain ⟨b4, b5, b6⟩ := s0 f2
      refine gX8_layGoals_93 ⟨fun c => absurd c (by rw [b5]; omega), fun _ => ⟨by omega, ?_⟩⟩
      rw [w32n (by omega), show (((j : Int) * 8) + 7).toNat = 8 * j + 7 by omega]
      refine ih _ (f2.up (rg_yes (by omega))) (fun c hc => by rw [mup_ne (by decide)]; exact a37 c hc) (fun q c hq hc => by rw [mup_at_ne (by omega)]; exact a35 q c hq hc) (fun q hq => ?_)
      by_cases e : q = j
      · subst e; rw [mup_at]
      · rw [mup_at_ne (by omega)]; exact a7 q (by omega)
  have key := dn (P := fun c => ∀ M' : Mem, Fr (rg 35 37) M0 M' → (∀ c', c' < c → M' 37 c' = (c' : Int)) → (∀ q c', q < k → c' < c → M' 35 (8 * q + c') = T0C (nF g) k sel cost q c') → OkV G miX8_layGoals d K 17 [some (.inr (.inr (some 34))), none, some (.inl (c : Int)), none] [] M') (nF g) ?_ (fun c hc ih => ?_) 0 (Nat.zero_le _) M0 Fr.rf (fun c hc => absurd hc (Nat.not_lt_zero _)) (fun q c _ hc => absurd hc (Nat.not_lt_zero _))
  · exact key
  · intro M1 f1 h37 h35
    exact gX8_layGoals_17 ⟨fun _ => ends M1 f1 h37 h35, fun c => absurd c (by rw [e8 f1]; omega)⟩
  · intro M1 f1 h37 h35
    refine gX8_layGoals_17 ⟨fun c => absurd c (by rw [e8 f1]; omega), fun _ => ⟨by omega, by omega, ?_⟩⟩
    rw [Int.toNat_natCast]
    have f2 : Fr (rg 35 37) M0 (mup (mup M1 37 c (c : Int)) 35 c (-1)) := (f1.up (rg_yes (by omega))).up (rg_yes (by omega))
    refine dn (P := fun j => 1 ≤ j → ∀ M' : Mem, Fr (rg 35 37) M0 M' → (∀ c', c' < c + 1 → M' 37 c' = (c' : Int)) → (∀ q c', q < k → c' < c + 1 → (c' = c → q < j) → M' 35 (8 * q + c') = T0C (nF g) k sel cost q c') → OkV G miX8_layGoals d K 46 [some (.inr (.inr (some 34))), none, some (.inl (c : Int)), some (.inl (j : Int))] [] M') k ?_ (fun j hj ih2 => ?_) 1 hk.1 (Nat.le_refl _) _ f2 (fun c' hc' => ?_) (fun q c' hq hc' hcq => ?_)
    · intro _ M2 g2 a37 a35
      obtain ⟨b4, b5, b6⟩ := s0 g2
      refine gX8_layGoals_46 ⟨fun _ => ?_, fun c => absurd c (by rw [b5]; omega)⟩
      rw [w32n (by omega)]
      exact ih M2 g2 a37 (fun q c' hq hc' => a35 q c' hq hc' (fun _ => hq))
    · intro hj1 M2 g2 a37 a35
      obtain ⟨b4, b5, b6⟩ := s0 g2
      refine gX8_layGoals_46 ⟨fun c => absurd c (by rw [b5]; omega), fun _ => ⟨by omega, ?_⟩⟩
      rw [w32n (by omega), w32_eq (by omega) (by omega), show (((j : Int) * 8) + (c : Int)).toNat = 8 * j + c by omega]
      refine ih2 (by omega) _ (g2.up (rg_yes (by omega))) (fun c' hc' => by rw [mup_ne (by decide)]; exact a37 c' hc') (fun q c' hq hc' hcq => ?_)
      by_cases e : q = j ∧ c' = c
      · rw [e.1, e.2, mup_at, tv j c hj hc]
        by_cases e2 : j = 1 + c
        · rw [if_pos (by omega), if_pos (.inr e2)]
        · rw [if_neg (by omega), if_neg (by omega)]
      · rw [mup_at_ne (by omega)]
        exact a35 q c' hq hc' (fun z => by have := hcq z; omega)
    · by_cases e : c' = c
      · subst e; rw [mup_ne (by decide), mup_at]
      · rw [mup_ne (by decide), mup_at_ne e]; exact h37 c' (by omega)
    · by_cases e : c' = c
      · have := hcq e
        have hq0 : q = 0 := by omega
        subst hq0; subst e
        rw [show 8 * 0 + c' = c' by omega, mup_at, tv 0 c' hq hc, if_pos (.inl rfl)]
      · rw [mup_at_ne (by omega), mup_ne (by decide)]; exact h35 q c' hq (by omega)
theorem c8_layPairings {K : Mem → Prop} {t : Nat} {g q : Nat → Int} {k : Nat} (ht : t = 28 ∨ t = 39) (hC : Cq t g q M) (hk : 1 ≤ k ∧ k ≤ nF q + 1) (hT : TbC (nF q) k 0 M 1 (T0C (nF q) k (sC q) (hadF q)) (fun c => c) (fun _ => 0)) (h : ∀ M', Fr (rg 34 37) M M' → TbC (nF q) k (nC q) M' 1 (T0C (nF q) k (sC q) (hadF q)) (fun c => c) (fun r => 7 + sC q (r - k)) → K M') : CalV G miX8_layPairings (d + 1) [.inr (.inr (some 34)), .inr (.inr (some t))] M K := by
  have hw := hC.2.2.1
  have hn := hw.n
  have hN := pow_le7 hn.2
  have hac := allF_cast q
  have hgq : nF g = nF q := (ag_nF hC.2.2.2).symm
  have cqf : ∀ {M' : Mem}, Fr (rg 34 37) M M' → Cq t g q M' := fun hf => ⟨⟨pl_rg hC.1.1 hf (by omega), cv_rg hC.1.2 hf (by omega)⟩, hC.2⟩
  have e8 : ∀ {M' : Mem}, Fr (rg 34 37) M M' → M' 1 8 = (nF q : Int) := fun hf => by rw [(cqf hf).1.1.n hC.2.1, hgq]
  refine Cal.of (by decide) (Nat.le_of_ble_eq_true rfl) rfl (gX8_layPairings_0 ht ?_)
  have key := dn (P := fun s => 1 ≤ s → ∀ M' : Mem, Fr (rg 34 37) M M' → TbC (nF q) k (pcn (cstF q) s) M' 1 (T0C (nF q) k (sC q) (hadF q)) (fun c => c) (fun r => 7 + sC q (r - k)) → OkV G miX8_layPairings (d + 1) K 2 [some (.inr (.inr (some 34))), some (.inr (.inr (some t))), some (.inl (s : Int)), none] [] M') (2 ^ nF q) ?_ (fun s hs ih => ?_) 1 (pow_pos2 _) (Nat.le_refl _) M Fr.rf ⟨hT.1, hT.2.1, hT.2.2.1, fun r h1 h2 => by have e : pcn (cstF q) 1 = 0 := rfl; rw [e] at h2; omega⟩
  · exact key
  · intro _ M1 f1 hT1
    exact gX8_layPairings_2 ht (cq_all (cqf f1) ⟨fun _ => h M1 f1 hT1, fun c => absurd c (by omega)⟩)
  · intro hs1 M1 f1 hT1
    have hp := pcn_le (cstF q) s
    refine gX8_layPairings_2 ht (cq_all (cqf f1) ⟨fun c => absurd c (by omega), fun _ => ⟨by omega, ?_⟩⟩)
    rw [Int.toNat_natCast, ((cqf f1).1.2.1 s (by omega) hs).1, w32n (k := s) (by omega)]
    have hpc : pcn (cstF q) (s + 1) = pcn (cstF q) s + (if 1 ≤ s ∧ 0 ≤ cstF q s then 1 else 0) := rfl
    by_cases co : 0 ≤ cstF q s
    · rw [decide_eq_true co]
      refine ⟨fun _ => ?_, fun z => absurd z (by decide)⟩
      rw [if_pos ⟨hs1, co⟩] at hpc
      have hsel : sC q (pcn (cstF q) s) = s := sel_pcn hs1 hs co
      have row : ∀ c, T0C (nF q) k (sC q) (hadF q) (k + pcn (cstF q) s) c = if c < nF q then bitI s c else hadF q s := fun c => by
        unfold T0C; rw [if_neg (by omega), show k + pcn (cstF q) s - k = pcn (cstF q) s by omega, hsel]
      refine dn (P := fun c => ∀ M' : Mem, Fr (rg 34 37) M M' → TbC (nF q) k (pcn (cstF q) s) M' 1 (T0C (nF q) k (sC q) (hadF q)) (fun c => c) (fun r => 7 + sC q (r - k)) → (∀ c', c' < c → M' 35 (8 * (k + pcn (cstF q) s) + c') = bitI s c') → OkV G miX8_layPairings (d + 1) K 27 [some (.inr (.inr (some 34))), some (.inr (.inr (some t))), some (.inl (s : Int)), some (.inl (c : Int))] [] M') (nF q) ?_ (fun c hc ih2 => ?_) 0 (Nat.zero_le _) M1 f1 hT1 (fun c hc => absurd hc (Nat.not_lt_zero _))
      · intro M2 f2 hT2 hrow
        obtain ⟨⟨a4, a5, a6⟩, a35, a37, a36⟩ := hT2
        have hh : M2 (t + 2) s = hadF q s := ((cqf f2).1.2.1 s (by omega) hs).2.1
        have i1 : ((((k + pcn (cstF q) s : Nat) : Int) * 8) + 7).toNat = 8 * (k + pcn (cstF q) s) + 7 := by omega
        refine gX8_layPairings_27 ht ⟨fun _ => ⟨by omega, by rw [a6]; omega, by rw [mup_ne (by decide), a6]; omega, ?_⟩, fun c => absurd c (by rw [e8 f2]; omega)⟩
        rw [mup_ne (by decide), a6, Int.toNat_natCast, Int.toNat_natCast, hh, i1, mup_ne (by decide), mup_ne (by decide), a6, w32n (by omega), w32n (by omega), show w32 (7 + (s : Int)) = ((7 + s : Nat) : Int) by rw [w32_eq (by omega) (by omega)]; omega]
        refine ih (by omega) _ (((f2.up (rg_yes (by omega))).up (rg_yes (by omega))).up (rg_yes (by omega))) ⟨⟨?_, ?_, ?_⟩, fun r c hr hc => ?_, fun c hc => ?_, fun r h1 h2 => ?_⟩
        · rw [mup_at_ne (by decide), mup_ne (by decide), mup_ne (by decide), a4]
        · rw [mup_at_ne (by decide), mup_ne (by decide), mup_ne (by decide), a5]
        · rw [mup_at, hpc]; omega
        · rw [mup_ne (by decide), mup_ne (by decide)]
          have hcl := cix_le (n := nF q) (c := c) hn.2
          by_cases e : r = k + pcn (cstF q) s
          · subst e
            rw [row]
            by_cases ec : c < nF q
            · rw [cix_lt ec, if_pos ec, mup_at_ne (by omega)]; exact hrow c ec
            · have ec' : c = nF q := by omega
              subst ec'; rw [cix_n, if_neg ec, mup_at]
          · rw [mup_at_ne (by omega)]; exact a35 r c (by omega) hc
        · rw [mup_ne (by decide), mup_ne (by decide), mup_ne (by decide)]; exact a37 c hc
        · rw [mup_ne (by decide)]
          by_cases e : r = k + pcn (cstF q) s
          · subst e; rw [mup_at]; simp only; rw [show k + pcn (cstF q) s - k = pcn (cstF q) s by omega, hsel]
          · rw [mup_at_ne e, mup_ne (by decide)]; exact a36 r h1 (by omega)
      · intro M2 f2 hT2 hrow
        obtain ⟨⟨a4, a5, a6⟩, a35, a37, a36⟩ := hT2
        refine gX8_layPairings_27 ht ⟨fun c => absurd c (by rw [e8 f2]; omega), fun _ => ⟨by rw [a6]; omega, ?_⟩⟩
        rw [a6, w32n (by omega), bitN (by omega) (by omega), show ((((k + pcn (cstF q) s : Nat) : Int) * 8) + (c : Int)).toNat = 8 * (k + pcn (cstF q) s) + c by omega]
        refine ih2 _ (f2.up (rg_yes (by omega))) ⟨⟨?_, ?_, ?_⟩, fun r c' hr hc' => ?_, fun c' hc' => ?_, fun r h1 h2 => ?_⟩ (fun c' hc' => ?_)
        · rw [mup_ne (by decide)]; exact a4
        · rw [mup_ne (by decide)]; exact a5
        · rw [mup_ne (by decide)]; exact a6
        · have hcl := cix_le (n := nF q) (c := c') hn.2
          rw [mup_at_ne (by omega)]; exact a35 r c' hr hc'
        · rw [mup_ne (by decide)]; exact a37 c' hc'
        · rw [mup_ne (by decide)]; exact a36 r h1 h2
        · by_cases e : c' = c
          · subst e; rw [mup_at]; rfl
          · rw [mup_at_ne (by omega)]; exact hrow c' (by omega)
    · rw [decide_eq_false co]
      refine ⟨fun z => absurd rfl z, fun _ => ?_⟩
      rw [if_neg (fun z => co z.2), Nat.add_zero] at hpc
      exact ih (by omega) M1 f1 (by rw [hpc]; exact hT1)
theorem c8_solve {K : Int → Mem → Prop} {t : Nat} {g q : Nat → Int} {k : Nat} {v : Int} (ht : t = 28 ∨ t = 39) (hC : Cq t g q M) (h25 : nC q ≤ 25) (e : v = (k : Int)) (hk : 1 ≤ k ∧ k ≤ nF q + 1) (h1 : bndB q = true → ∀ M', Fr (rg 34 37) M M' → OpC q k M' → K 1 M') (h0 : bndB q = false → K 0 M) : CalI G miX8_solve (d + 2) [.inr (.inr (some 34)), .inr (.inr (some t)), .inl v] M K := by
  have hw := hC.2.2.1
  have hwg := hC.2.1
  have hn := hw.n
  have hN := pow_le7 hn.2
  have hgq : nF g = nF q := (ag_nF hC.2.2.2).symm
  have hng := hwg.n
  have e8 := hC.1.1.n hwg
  subst e
  have hR := nC_lt hw
  have big := ch_big (nF q) hn.2
  have cqf : ∀ {M' : Mem}, Fr (rg 34 37) M M' → Cq t g q M' := fun hf => ⟨⟨pl_rg hC.1.1 hf (by omega), cv_rg hC.1.2 hf (by omega)⟩, hC.2⟩
  have loop : bndB q = true → ∀ (fuel L : Nat) (M1 : Mem) (σ dv : Int) (N V T : Nat → Nat → Int) (C Rn : Nat → Nat), ch (nF q + 25) (nF q - 1) + 1 ≤ L + fuel → Hist (nF q) (k + nC q) k (k + nC q) 0 k (gvC (nF q) (hadF q)) (NmC q) L σ dv N V T C Rn → Fr (rg 34 37) M M1 → TbC (nF q) k (nC q) M1 dv T C Rn → OkI G miX8_solve (d + 2) K 45 [some (.inr (.inr (some 34))), none, none, some (.inl (L : Int)), none, none] [] M1 := by
    intro hb fuel
    induction fuel with
    | zero =>
      intro L M1 σ dv N V T C Rn hL hist _ _
      have := hist.cnt (kaC q) (nF q + 25) (kaC_lt hw h25) (kaC_inj hw)
      omega
    | succ fuel ih =>
      intro L M1 σ dv N V T C Rn hL hist hf hT
      have I := hist.si
      have hcnt := hist.cnt (kaC q) (nF q + 25) (kaC_lt hw h25) (kaC_inj hw)
      have hbd := bdC_of hn.2 hk.2 I (NmC_bd hw)
      have hP1 := pl_rg hC.1.1 hf (by omega)
      refine gX8_solve_45 ht ⟨fun c => absurd c (by omega), fun _ => ?_⟩
      refine c8_entering (C := C) (k := k) (R := nC q) (T := T) (dv := dv) (Rn := Rn) hP1 hwg (by omega) (by rw [hgq]; exact hT) (fun p hp him hleast => ?_) (fun hno => ?_)
      · rw [hgq] at hp hleast
        refine ⟨fun _ => ?_, fun c => absurd c (by omega)⟩
        have hex := I.goes (bounded_C hw hb) hp him
        refine c8_leaving hn.2 (by omega) hR hT hbd rfl hp (fun r0 hgo => ?_) (fun hno => ?_)
        · refine ⟨fun _ => ?_, fun c => absurd c (by omega)⟩
          have B : BP (nF q) k (k + nC q) 0 k T C Rn p r0 := ⟨hp, him, fun c hc hi => hleast c hc hi, hgo.1, hgo.2.1, hgo.2.2⟩
          have hist' := hist.step B (T' := piv T dv r0 p) (fun _ _ _ _ => rfl)
          have hbd' := bdC_of hn.2 hk.2 hist'.si (NmC_bd hw)
          have hex2 := (SX_piv I.1 hp (show r0 < k + nC q from hgo.1.2) hgo.2.1).2
          refine c8_pivot (k := k) (R := nC q) (T := T) (dv := dv) (C := C) (Rn := Rn) hP1 hwg (by omega) hR (by rw [hgq]; exact hT) (by rw [hgq]; exact hbd) rfl rfl hgo.1 (by rw [hgq]; exact hp) (by rw [hgq]; exact hbd'.2) (by rw [hgq]; exact hex2) (fun M2 f2 hT2 => ?_)
          rw [hgq] at hT2
          rw [w32n (by omega)]
          exact ih (L + 1) M2 _ _ _ _ _ _ _ (by omega) hist' (hf.tr (ST8_rg f2)) hT2
        · obtain ⟨r, r1, r2, r3⟩ := hex
          exact absurd r3 (hno r r1 r2)
      · rw [hgq] at hno
        refine ⟨fun c => absurd rfl c, fun _ => h1 hb M1 hf ?_⟩
        have O := (I.opt hno).congr (feasN_C hw)
        have ez : ∀ j, j < k → M1 35 (8 * j + 7) = T (0 + j) (nF q) := fun j hj => by
          have := hT.2.1 j (nF q) (by omega) (Nat.le_refl _)
          rw [cix_n] at this; rw [this, Nat.zero_add]
        refine ⟨by rw [hT.1.1]; exact hbd.1, by rw [hT.1.1]; exact O.zc ez, fun j hj => ?_⟩
        rw [ez j hj]
        exact ⟨O.nn hk.2 hj, (hbd.2 (0 + j) (nF q) (by omega) (Nat.le_refl _)).2⟩
  refine Cal.of (by decide) (Nat.le_of_ble_eq_true rfl) rfl (gX8_solve_0 ht ?_)
  have key := dn (P := fun f => (∀ i, i < f → 0 ≤ hadF q (2 ^ i)) → OkI G miX8_solve (d + 2) K 2 [some (.inr (.inr (some 34))), some (.inr (.inr (some t))), some (.inl (k : Int)), some (.inl (f : Int)), none, none] [] M) (nF q) ?_ (fun f hf ih => ?_) 0 (Nat.zero_le _) (fun i hi => absurd hi (Nat.not_lt_zero _))
  · exact key
  · intro hall
    have hb : bndB q = true := by unfold bndB; rw [List.all_eq_true]; intro f hf; exact decide_eq_true (hall f (List.mem_range.mp hf))
    refine gX8_solve_2 ht ⟨fun _ => ?_, fun c => absurd c (by rw [e8, hgq]; omega)⟩
    refine c8_layGoals (sel := sC q) (cost := hadF q) hC.1.1 hwg rfl (by rw [hgq]; exact hk) (fun M1 f1 hT1 => ?_)
    rw [hgq] at hT1
    refine c8_layPairings ht (cqf f1) hk hT1 (fun M2 f2 hT2 => ?_)
    exact loop hb _ 0 M2 _ _ _ _ _ _ _ (by rw [Nat.zero_add]; exact Nat.le_refl _) (Hist.zero (SI_C hw hk.2)) (f1.tr f2) hT2
  · intro hall
    have hpw := pow_lt2 hf
    have hpp : 2 ^ f ≠ 0 := Nat.ne_of_gt (Nat.two_pow_pos f)
    have hh : M (t + 2) (2 ^ f) = hadF q (2 ^ f) := (hC.1.2.1 (2 ^ f) hpp hpw).2.1
    have hbd := hadF_bd hw hpp
    have e1 : ishl 1 (f : Int) = ((2 ^ f : Nat) : Int) := ishl1 f (by omega)
    refine gX8_solve_2 ht ⟨fun c => absurd c (by rw [e8, hgq]; omega), fun _ => ?_⟩
    rw [e1]
    generalize hz : 2 ^ f = z at *
    refine ⟨by omega, ?_⟩
    rw [Int.toNat_natCast, hh, w32n (by omega)]
    refine ⟨fun c => ih (fun i hi => ?_), fun c => h0 ?_⟩
    · by_cases e : i = f
      · subst e; rw [hz]; omega
      · exact hall i (by omega)
    · unfold bndB
      rw [← Bool.not_eq_true, List.all_eq_true]
      intro hx
      have := of_decide_eq_true (hx f (List.mem_range.mpr hf))
      rw [hz] at this; omega
theorem c8_lowest {K : Int → Mem → Prop} {q : Nat → Int} {k j : Nat} {v x : Int} (hO : OpC q k M) (e : v = (j : Int)) (hj : j < k) (hk : k ≤ nF q + 1) (hn : nF q ≤ 7) (hOp : Opt (nF q) (feasP q) (nF q + 1) (optP q).1 (optP q).2) (h : K (lowR ((optP q).1 j).toNat (optP q).2.toNat x) M) : CalL G miX8_lowest (d + 1) [.inr (.inr (some 34)), .inl v, .inl x] M K := by
  subst e
  refine Cal.of (by decide) (Nat.le_of_ble_eq_true rfl) rfl (gX8_lowest_0 ⟨by omega, ?_⟩)
  rw [show (((j : Int) * 8) + 7).toNat = 8 * j + 7 by omega]
  refine c10_inLowestI (hO.2.2 j hj) hO.1 ?_
  rw [low_opt hO.2.1 hk hOp hj x]; exact h
theorem c8_boundIs {K : Int → Mem → Prop} {q : Nat → Int} {k : Nat} {a m : Int} (hO : OpC q k M) (hk : 1 ≤ k ∧ k ≤ nF q + 1) (hn : nF q ≤ 7) (hOp : Opt (nF q) (feasP q) (nF q + 1) (optP q).1 (optP q).2) (ha : -10000000 ≤ a ∧ a ≤ 10000000) (hm : 0 ≤ m ∧ m ≤ 1000000) (h1 : a * (optP q).2 = (optP q).1 0 * m → K 1 M) (h0 : ¬ a * (optP q).2 = (optP q).1 0 * m → K 0 M) : CalI G miX8_boundIs d [.inr (.inr (some 34)), .inr (.inl a), .inr (.inl m)] M K := by
  have hB : BND = 197285760 := rfl
  have z0 := hO.2.2 0 (by omega)
  rw [show 8 * 0 + 7 = 7 from rfl] at z0
  have x1 : -1972857600000000 ≤ a * M 34 4 ∧ a * M 34 4 ≤ 1972857600000000 := by
    have := bd_mul (a := 10000000) (b := 197285760) (x := a) (y := M 34 4) (by omega) (by have := hO.1; omega)
    omega
  have x2 : -197285760000000 ≤ M 35 7 * m ∧ M 35 7 * m ≤ 197285760000000 := by
    have := bd_mul (a := 197285760) (b := 1000000) (x := M 35 7) (y := m) (by omega) (by omega)
    omega
  have eq := eq_opt hO.2.1 hk.2 (by omega) hOp a m
  rw [show 8 * 0 + 7 = 7 from rfl] at eq
  refine Cal.of (by decide) (Nat.le_of_ble_eq_true rfl) rfl (gX8_boundIs_0 ?_)
  rw [w64_eq (by omega) (by omega), w64_eq (by omega) (by omega)]
  exact ⟨fun c => h0 (fun z => c (eq.mpr z)), fun c => h1 (eq.mp c)⟩
end CLSQ
