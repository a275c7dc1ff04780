/-! the class: the tape, words -/
/-- where the token that begins here ends -/
def enE (t : Nat → Int) (m a : Nat) : Nat := if isLb (t a) = true then leE t m a else if isDb (t a) = true then diE t m a else a + 1
theorem byt_in {t : Nat → Int} {m a : Nat} (h : a < m) : byt t m a = t a := by unfold byt; rw [if_pos h]
theorem lb_db {x : Int} (h : isLb x = true) : isDb x = false := by
  unfold isLb at h; unfold isDb
  simp only [Bool.and_eq_true, decide_eq_true_eq] at h
  simp only [Bool.and_eq_false_iff, decide_eq_false_iff_not]; omega
theorem enE_bd {t : Nat → Int} {m a : Nat} (h : a < m) : a + 1 ≤ enE t m a ∧ enE t m a ≤ m := by
  have e := byt_in (t := t) h
  unfold enE
  by_cases h1 : isLb (t a) = true
  · rw [if_pos h1]
    have e2 : leE t m a = runE isLb t m (m - (a + 1)) (a + 1) := by unfold leE; exact runE_yes (q := isLb) (by decide) (by rw [e]; exact h1)
    have := runE_bd (q := isLb) (t := t) (m := m) (m - (a + 1)) (a + 1)
    omega
  · rw [if_neg h1]
    by_cases h2 : isDb (t a) = true
    · rw [if_pos h2]
      have e2 : diE t m a = runE isDb t m (m - (a + 1)) (a + 1) := by unfold diE; exact runE_yes (q := isDb) (by decide) (by rw [e]; exact h2)
      have := runE_bd (q := isDb) (t := t) (m := m) (m - (a + 1)) (a + 1)
      omega
    · rw [if_neg h2]; omega
section CLSL
variable {G : GE} {d : Nat} {M : Mem}
theorem c9_isBlank {K : Int → Mem → Prop} {x : Int} (h : K (bI (isBb x)) M) : CalI G miX9_isBlank d [.inl x] M K := by
  refine Cal.of (by decide) (Nat.le_of_ble_eq_true rfl) rfl (gX9_isBlank_0 ?_)
  refine ⟨fun c => kv h ?_, fun c => ⟨fun c2 => kv h ?_, fun c2 => kv h ?_⟩⟩
  · unfold isBb; simp [c, bI]
  · unfold isBb; simp [c, c2, bI]
  · unfold isBb; simp [c2, bI]
theorem c9_isLetter {K : Int → Mem → Prop} {x : Int} (h : K (bI (isLb x)) M) : CalI G miX9_isLetter d [.inl x] M K := by
  refine Cal.of (by decide) (Nat.le_of_ble_eq_true rfl) rfl (gX9_isLetter_0 ?_)
  refine ⟨fun c => kv h ?_, fun c => ⟨fun c2 => kv h ?_, fun c2 => kv h ?_⟩⟩
  · unfold isLb; rw [decide_eq_false (by omega)]; rfl
  · unfold isLb; rw [decide_eq_false (p := x ≤ 122) (by omega), Bool.and_false]; rfl
  · unfold isLb; rw [decide_eq_true c, decide_eq_true c2]; rfl
theorem c9_isDigit {K : Int → Mem → Prop} {x : Int} (h : K (bI (isDb x)) M) : CalI G miX9_isDigit d [.inl x] M K := by
  refine Cal.of (by decide) (Nat.le_of_ble_eq_true rfl) rfl (gX9_isDigit_0 ?_)
  refine ⟨fun c => kv h ?_, fun c => ⟨fun c2 => kv h ?_, fun c2 => kv h ?_⟩⟩
  · unfold isDb; rw [decide_eq_false (by omega)]; rfl
  · unfold isDb; rw [decide_eq_false (p := x ≤ 57) (by omega), Bool.and_false]; rfl
  · unfold isDb; rw [decide_eq_true c, decide_eq_true c2]; rfl
theorem c9_endOf {K : Int → Mem → Prop} {t : Nat → Int} {m a : Nat} (h58 : M 58 2 = (m : Int)) (h59 : ∀ i, i < m → M 59 i = t i) (hm : m ≤ 60) (ha : a < m) (h : K (enE t m a : Int) M) : CalI G miX9_endOf (d + 1) [.inr (.inr (some 58)), .inl (a : Int)] M K := by
  refine Cal.of (by decide) (Nat.le_of_ble_eq_true rfl) rfl (gX9_endOf_0 ?_)
  rw [w32n (by omega)]
  have ea := h59 a ha
  -- the digits
  have dig : ∀ n e : Nat, m - e ≤ n → a + 1 ≤ e → e ≤ m → K (if isDb (t a) = true then (runE isDb t m (m - e) e : Int) else (e : Int)) M → OkI G miX9_endOf (d + 1) K 42 [some (.inr (.inr (some 58))), some (.inl (a : Int)), some (.inl (e : Int))] [] M := by
    intro n
    induction n with
    | zero =>
      intro e hn hae hem hk
      have : e = m := by omega
      subst this
      refine gX9_endOf_42 ⟨fun _ => ?_, fun c => absurd c (by omega)⟩
      have e0 : runE isDb t e (e - e) e = e := by rw [Nat.sub_self]; rfl
      rw [e0] at hk
      split at hk <;> exact hk
    | succ n ih =>
      intro e hn hae hem hk
      refine gX9_endOf_42 ⟨fun c => ?_, fun c => ⟨by omega, ?_⟩⟩
      · have : e = m := by omega
        subst this
        have e0 : runE isDb t e (e - e) e = e := by rw [Nat.sub_self]; rfl
        rw [e0] at hk
        split at hk <;> exact hk
      · have hel : e < m := by omega
        rw [Int.toNat_natCast, ea]
        refine c9_isDigit ?_
        cases hd : isDb (t a) with
        | false => rw [hd, if_neg (by decide)] at hk; exact b0 hk
        | true =>
          rw [hd, if_pos rfl] at hk
          refine b1 ⟨by omega, ?_⟩
          rw [Int.toNat_natCast, h59 e hel]
          refine c9_isDigit ?_
          cases hd2 : isDb (t e) with
          | false =>
            rw [runE_no (by rw [byt_in hel]; exact hd2)] at hk
            exact b0 hk
          | true =>
            rw [runE_yes (by decide) (by rw [byt_in hel]; exact hd2)] at hk
            refine b1 ?_
            rw [w32n (k := e) (by omega)]
            exact ih (e + 1) (by omega) (by omega) (by omega) (by rw [hd, if_pos rfl]; exact hk)
  have let_ : ∀ n e : Nat, m - e ≤ n → a + 1 ≤ e → e ≤ m → isLb (t a) = true → K (runE isLb t m (m - e) e : Int) M → OkI G miX9_endOf (d + 1) K 4 [some (.inr (.inr (some 58))), some (.inl (a : Int)), some (.inl (e : Int))] [] M := by
    intro n
    induction n with
    | zero =>
      intro e hn hae hem hl hk
      have : e = m := by omega
      subst this
      refine gX9_endOf_4 ⟨fun _ => ?_, fun c => absurd c (by omega)⟩
      have e0 : runE isLb t e (e - e) e = e := by rw [Nat.sub_self]; rfl
      rw [e0] at hk
      exact dig 0 e (by omega) hae hem (by rw [lb_db hl, if_neg (by decide)]; exact hk)
    | succ n ih =>
      intro e hn hae hem hl hk
      refine gX9_endOf_4 ⟨fun c => ?_, fun c => ⟨by omega, ?_⟩⟩
      · have : e = m := by omega
        subst this
        have e0 : runE isLb t e (e - e) e = e := by rw [Nat.sub_self]; rfl
        rw [e0] at hk
        exact dig 0 e (by omega) hae hem (by rw [lb_db hl, if_neg (by decide)]; exact hk)
      · have hel : e < m := by omega
        rw [Int.toNat_natCast, ea]
        refine c9_isLetter ?_
        rw [hl]
        refine b1 ⟨by omega, ?_⟩
        rw [Int.toNat_natCast, h59 e hel]
        refine c9_isLetter ?_
        cases hd2 : isLb (t e) with
        | false =>
          rw [runE_no (by rw [byt_in hel]; exact hd2)] at hk
          exact b0 (dig (m - e) e (Nat.le_refl _) hae hem (by rw [lb_db hl, if_neg (by decide)]; exact hk))
        | true =>
          rw [runE_yes (by decide) (by rw [byt_in hel]; exact hd2)] at hk
          refine b1 ?_
          rw [w32n (k := e) (by omega)]
          exact ih (e + 1) (by omega) (by omega) (by omega) hl hk
  unfold enE at h
  cases hl : isLb (t a) with
  | true =>
    rw [hl, if_pos rfl] at h
    refine let_ (m - (a + 1)) (a + 1) (Nat.le_refl _) (Nat.le_refl _) (by omega) hl ?_
    unfold leE at h
    rw [runE_yes (q := isLb) (by decide) (by rw [byt_in ha]; exact hl)] at h
    exact h
  | false =>
    rw [hl, if_neg (by decide)] at h
    have fin : K (if isDb (t a) = true then (runE isDb t m (m - (a + 1)) (a + 1) : Int) else ((a + 1 : Nat) : Int)) M := by
      cases hd : isDb (t a) with
      | true =>
        rw [hd, if_pos rfl] at h
        rw [if_pos rfl]
        unfold diE at h
        rw [runE_yes (q := isDb) (by decide) (by rw [byt_in ha]; exact hd)] at h
        exact h
      | false =>
        rw [hd, if_neg (by decide)] at h
        rw [if_neg (by decide)]; exact h
    refine gX9_endOf_4 ⟨fun _ => dig (m - (a + 1)) (a + 1) (Nat.le_refl _) (Nat.le_refl _) (by omega) fin, fun c => ⟨by omega, ?_⟩⟩
    rw [Int.toNat_natCast, ea]
    refine c9_isLetter ?_
    rw [hl]
    exact b0 (dig (m - (a + 1)) (a + 1) (Nat.le_refl _) (Nat.le_refl _) (by omega) fin)
theorem c9_takesNumber {K : Int → Mem → Prop} {t : Nat → Int} {m a e c : Nat} {du : Int} (h59 : ∀ i, i < m → M 59 i = t i) (hm : m ≤ 60) (hae : a ≤ e) (hem : e ≤ m) (hd : ∀ j, a ≤ j → j < e → 48 ≤ t j ∧ t j ≤ 57) (hc : M 58 3 = (c : Int)) (hc6 : c < 60) (hdu : M 58 4 = du) (hdb : 1 ≤ du ∧ du ≤ 100) (h1 : e - a ≤ 3 → K 1 (mup (mup (mup M 58 4 (du - 1)) 60 c (numV t a (e - a))) 58 3 ((c : Int) + 1))) (h0 : ¬ e - a ≤ 3 → K 0 M) : CalI G miX9_takesNumber (d + 1) [.inr (.inr (some 58)), .inl (a : Int), .inl (e : Int)] M K := by
  refine Cal.of (by decide) (Nat.le_of_ble_eq_true rfl) rfl (gX9_takesNumber_0 ?_)
  rw [w32_eq (x := (e : Int) - (a : Int)) (by omega) (by omega)]
  refine ⟨fun c1 => ?_, fun c1 => h0 (by omega)⟩
  have h1 := h1 (by omega)
  have key := dn (P := fun k => OkI G miX9_takesNumber (d + 1) K 14 [some (.inr (.inr (some 58))), none, some (.inl (e : Int)), some (.inl (numV t a k)), some (.inl ((a + k : Nat) : Int))] [] M) (e - a) ?_ (fun k hk ih => ?_) 0 (Nat.zero_le _)
  · exact key
  · refine gX9_takesNumber_14 ⟨fun _ => ?_, fun c => absurd c (by omega)⟩
    rw [hdu, w32_eq (by omega) (by omega)]
    have e3 : (mup M 58 4 (du - 1)) 58 3 = (c : Int) := by rw [mup_at_ne (by decide)]; exact hc
    refine Cal.of (by decide) (Nat.le_of_ble_eq_true rfl) rfl (gX9_keep_0 ?_)
    rw [e3, Int.toNat_natCast]
    refine ⟨fun z => absurd z (by omega), fun _ => ⟨by omega, ?_⟩⟩
    rw [mup_ne (show (58 : Nat) ≠ 60 by decide), e3, w32_eq (by omega) (by omega)]
    exact h1
  · have nb := numV_bd (t := t) (b := a) k (by omega) (fun j hj => hd (a + j) (by omega) (by omega))
    have hk2 := hd (a + k) (by omega) (by omega)
    refine gX9_takesNumber_14 ⟨fun c => absurd c (by omega), fun _ => ⟨by omega, ?_⟩⟩
    rw [Int.toNat_natCast, h59 (a + k) (by omega), w32n (k := a + k) (by omega), w32_eq (by omega) (by omega)]
    exact ih
end CLSL
