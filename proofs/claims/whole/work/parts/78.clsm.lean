/-! the class: a text parsed -/
def STp : Nat → Nat → Bool := fun c i => c == 60 || (c == 58 && (i == 3 || i == 4))
/-- the state of a parse: the tape's m bytes t, the tokens L, what is due -/
def TpM (t : Nat → Int) (m dN : Nat) (L : List Int) (M : Mem) : Prop := (M 58 2 = (m : Int) ∧ (∀ i, i < m → M 59 i = t i) ∧ m ≤ 60) ∧ M 58 3 = (L.length : Int) ∧ (∀ i, i < L.length → M 60 i = L.getD i 0) ∧ M 58 4 = (dN : Int) - 1
theorem TpM.keep {t : Nat → Int} {m dN : Nat} {L : List Int} {M : Mem} (h : TpM t m dN L M) (dN' : Nat) (x : Int) : TpM t m dN' (L ++ [x]) (mup (mup (mup M 58 4 ((dN' : Int) - 1)) 60 L.length x) 58 3 ((L.length : Int) + 1)) := by
  obtain ⟨⟨h1, h2, h3⟩, h4, h5, h6⟩ := h
  refine ⟨⟨?_, fun i hi => ?_, h3⟩, ?_, fun i hi => ?_, ?_⟩
  · rw [mup_at_ne (by decide), mup_ne (by decide), mup_at_ne (by decide)]; exact h1
  · rw [mup_ne (by decide), mup_ne (by decide), mup_ne (by decide)]; exact h2 i hi
  · rw [mup_at]; simp
  · rw [mup_ne (by decide)]
    by_cases e : i = L.length
    · subst e
      rw [mup_at]; simp [List.getD_eq_getElem?_getD]
    · have hi2 : i < L.length := by simp at hi; omega
      rw [mup_at_ne e, mup_ne (by decide), h5 i hi2]
      simp only [List.getD_eq_getElem?_getD]
      rw [List.getElem?_append_left hi2]
  · rw [mup_at_ne (by decide), mup_ne (by decide), mup_at]
theorem STp_keep {M M0 : Mem} (hf : Fr STp M0 M) (a b x : Int) (i : Nat) : Fr STp M0 (mup (mup (mup M 58 4 a) 60 i x) 58 3 b) := ((hf.up rfl).up rfl).up rfl
/-- what a token that begins at a is, where no blank stands -/
theorem tok_at {t : Nat → Int} {m a : Nat} (ha : a < m) (hb : isBb (t a) = false) : tok t m a = tokE t m a := by
  unfold tok
  have : skE t m a = a := by unfold skE; exact runE_no (q := isBb) (by rw [byt_in ha]; exact hb)
  rw [this]
theorem tok_blank {t : Nat → Int} {m a : Nat} (ha : a < m) (hb : isBb (t a) = true) : tok t m a = tok t m (a + 1) := by
  unfold tok
  have : skE t m a = skE t m (a + 1) := by unfold skE; exact runE_yes (q := isBb) (by decide) (by rw [byt_in ha]; exact hb)
  rw [this]
theorem tok_end {t : Nat → Int} {m : Nat} : tok t m m = (0, 0, m, m) := by
  unfold tok
  have : skE t m m = m := by unfold skE; rw [Nat.sub_self]; rfl
  rw [this]
  unfold tokE
  rw [if_pos (Nat.le_refl _)]
theorem parF_tok {t : Nat → Int} {m a b : Nat} (ha : a ≤ m) (hb : b ≤ m) (h : tok t m a = tok t m b) (due : Nat) : parF t m due a = parF t m due b := by
  match due with
  | 0 => rw [parF_0 ha, parF_0 hb, h]
  | 1 => rw [parF_1 ha, parF_1 hb, h]
  | n + 2 => rw [parF_n ha, parF_n hb, h]
theorem tokE_letter {t : Nat → Int} {m a : Nat} (ha : a < m) (h : isLb (t a) = true) : tokE t m a = (match wcode t a (leE t m a) with
    | some w => (1, (w : Int), a, leE t m a)
    | none => (4, 0, a, leE t m a)) := by
  unfold tokE
  rw [if_neg (by omega), byt_in ha, if_pos h]
  all_goals (cases wcode t a (leE t m a) <;> rfl)
theorem tokE_digit {t : Nat → Int} {m a : Nat} (ha : a < m) (h : isLb (t a) = false) (h2 : isDb (t a) = true) : tokE t m a = if diE t m a - a ≤ 3 then (2, numV t a (diE t m a - a), a, diE t m a) else (4, 0, a, diE t m a) := by
  unfold tokE
  rw [if_neg (by omega), byt_in ha, if_neg (by rw [h]; decide), if_pos h2]
theorem tokE_other {t : Nat → Int} {m a : Nat} (ha : a < m) (h : isLb (t a) = false) (h2 : isDb (t a) = false) : tokE t m a = (if t a = 59 then 3 else 4, 0, a, a + 1) := by
  unfold tokE
  rw [if_neg (by omega), byt_in ha, if_neg (by rw [h]; decide), if_neg (by rw [h2]; decide)]
section CLSM
variable {G : GE} {d : Nat} {M : Mem}
/-- one token is taken, or not -/
theorem c9_takes {K : Int → Mem → Prop} {t : Nat → Int} {m a dN : Nat} {L : List Int} (hT : TpM t m dN L M) (ha : a < m) (hL : L.length ≤ a) (hdN : dN ≤ 50) (hb : isBb (t a) = false)
    (h1 : ∀ (M' : Mem) (dN' : Nat) (X : List Int), Fr STp M M' → TpM t m dN' (L ++ X) M' → (L ++ X).length ≤ a + 1 → dN' ≤ 50 → parF t m dN a = preL X (parF t m dN' (enE t m a)) → K 1 M')
    (h0 : ∀ M' : Mem, Fr STp M M' → M' 58 2 = (m : Int) → (parF t m dN a).1 = false → (parF t m dN a).2.1 = a → K 0 M') : CalI G miX9_takes (d + 9) [.inr (.inr (some 58)), .inl (a : Int), .inl (enE t m a : Int)] M K := by
  obtain ⟨⟨h58, h59, hm⟩, h3, h60, h4⟩ := id hT
  have hen := enE_bd (t := t) ha
  have htk := tok_at ha hb
  have h0' : (parF t m dN a).1 = false → (parF t m dN a).2.1 = a → K 0 M := fun x y => h0 M Fr.rf h58 x y
  refine Cal.of (by decide) (Nat.le_of_ble_eq_true rfl) rfl (gX9_takes_0 ⟨by omega, ?_⟩)
  rw [Int.toNat_natCast, h59 a ha]
  refine c9_isLetter ?_
  cases hl : isLb (t a) with
  | true =>
    refine ⟨fun z => absurd z (by decide), fun _ => ?_⟩
    have hE : enE t m a = leE t m a := by unfold enE; rw [hl, if_pos rfl]
    have htE := tokE_letter ha hl
    rw [h4]
    refine ⟨fun c => ?_, fun c => ?_⟩
    · -- no word is due
      refine h0' ?_ ?_
      · match dN, c with
        | 0, c => exact absurd rfl c
        | 1, _ =>
          rw [parF_1 (by omega), htk, htE]
          cases wcode t a (leE t m a) <;> rfl
        | n + 2, _ =>
          rw [parF_n (by omega), htk, htE]
          cases wcode t a (leE t m a) <;> rfl
      · match dN, c with
        | 0, c => exact absurd rfl c
        | 1, _ =>
          rw [parF_1 (by omega), htk, htE]
          cases wcode t a (leE t m a) <;> rfl
        | n + 2, _ =>
          rw [parF_n (by omega), htk, htE]
          cases wcode t a (leE t m a) <;> rfl
    · have hd0 : dN = 0 := by omega
      subst hd0
      have hp := parF_0 (t := t) (m := m) (a := a) (by omega)
      rw [htk, htE] at hp
      rw [hE]
      have hlet : ∀ j, a ≤ j → j < leE t m a → t j ≠ 0 := fun j j1 j2 => by
        have z := runE_all (q := isLb) (t := t) (m := m) (m - a) a j j1 j2
        rw [byt_in (by rw [← hE] at j2; omega)] at z
        unfold isLb at z
        simp only [Bool.and_eq_true, decide_eq_true_eq] at z
        omega
      refine c9_takesWord h58 h59 hm (by omega) (by omega) hlet h3 (by omega) (fun w hw => b1 ?_) (fun hw => b0 (h0' ?_ ?_))
      · rw [hw] at hp
        rw [if_pos rfl] at hp
        have hwn : wantN w ≤ 4 := by
          match w with
          | 0 => decide
          | 1 => decide
          | 2 => decide
          | n + 3 => show 2 ≤ 4; decide
        have hk := hT.keep (wantN w + 1) (w : Int)
        rw [show ((wantN w + 1 : Nat) : Int) - 1 = (wantN w : Int) by omega] at hk
        refine h1 _ (wantN w + 1) [(w : Int)] (STp_keep Fr.rf _ _ _ _) hk (by simp; omega) (by omega) ?_
        rw [hp, hE]; simp only [Int.toNat_natCast]
      · rw [hp, hw]; rfl
      · rw [hp, hw]; rfl
  | false =>
    refine ⟨fun _ => ⟨by omega, ?_⟩, fun z => absurd rfl z⟩
    rw [h59 a ha]
    refine c9_isDigit ?_
    cases hdg : isDb (t a) with
    | true =>
      refine ⟨fun z => absurd z (by decide), fun _ => ?_⟩
      have hE : enE t m a = diE t m a := by unfold enE; rw [hl, hdg, if_neg (by decide), if_pos rfl]
      have htE := tokE_digit ha hl hdg
      rw [h4]
      refine ⟨fun c => ?_, fun c => ?_⟩
      · refine h0' ?_ ?_
        · match dN, c with
          | 0, _ =>
            rw [parF_0 (by omega), htk, htE]
            split <;> rfl
          | 1, _ =>
            rw [parF_1 (by omega), htk, htE]
            split <;> rfl
          | n + 2, c => exact absurd c (by omega)
        · match dN, c with
          | 0, _ =>
            rw [parF_0 (by omega), htk, htE]
            split <;> rfl
          | 1, _ =>
            rw [parF_1 (by omega), htk, htE]
            split <;> rfl
          | n + 2, c => exact absurd c (by omega)
      · obtain ⟨n, rfl⟩ : ∃ n, dN = n + 2 := ⟨dN - 2, by omega⟩
        have hp := parF_n (t := t) (m := m) (a := a) (by omega) n
        rw [htk, htE] at hp
        have hdig : ∀ j, a ≤ j → j < diE t m a → 48 ≤ t j ∧ t j ≤ 57 := fun j j1 j2 => by
          have z := runE_all (q := isDb) (t := t) (m := m) (m - a) a j j1 j2
          rw [byt_in (by rw [← hE] at j2; omega)] at z
          unfold isDb at z
          simp only [Bool.and_eq_true, decide_eq_true_eq] at z
          exact z
        rw [hE] at hen ⊢
        refine c9_takesNumber (du := ((n + 2 : Nat) : Int) - 1) h59 hm (by omega) (by omega) hdig h3 (by omega) h4 (by omega) (fun hc => b1 ?_) (fun hc => b0 (h0' ?_ ?_))
        · rw [if_pos hc, if_pos rfl] at hp
          have hk := hT.keep (n + 1) (numV t a (diE t m a - a))
          rw [show ((n + 1 : Nat) : Int) - 1 = ((n + 2 : Nat) : Int) - 1 - 1 by omega] at hk
          refine h1 _ (n + 1) [numV t a (diE t m a - a)] (STp_keep Fr.rf _ _ _ _) hk (by simp; omega) (by omega) ?_
          rw [hp, hE]
        · rw [hp, if_neg hc]; rfl
        · rw [hp, if_neg hc]; rfl
    | false =>
      refine ⟨fun _ => ⟨by omega, ?_⟩, fun z => absurd rfl z⟩
      rw [h59 a ha, h4]
      have hE : enE t m a = a + 1 := by unfold enE; rw [hl, hdg, if_neg (by decide), if_neg (by decide)]
      have htE := tokE_other ha hl hdg
      refine ⟨fun c => h0' ?_ ?_, fun c => ⟨fun c2 => h0' ?_ ?_, fun c2 => ?_⟩⟩
      · match dN with
        | 0 => rw [parF_0 (by omega), htk, htE, if_neg c]; rfl
        | 1 => rw [parF_1 (by omega), htk, htE, if_neg c]; rfl
        | n + 2 => rw [parF_n (by omega), htk, htE, if_neg c]; rfl
      · match dN with
        | 0 => rw [parF_0 (by omega), htk, htE, if_neg c]; rfl
        | 1 => rw [parF_1 (by omega), htk, htE, if_neg c]; rfl
        | n + 2 => rw [parF_n (by omega), htk, htE, if_neg c]; rfl
      · match dN, c2 with
        | 0, _ => rw [parF_0 (by omega), htk, htE, if_pos c]; rfl
        | 1, c2 => exact absurd rfl c2
        | n + 2, _ => rw [parF_n (by omega), htk, htE, if_pos c]; rfl
      · match dN, c2 with
        | 0, _ => rw [parF_0 (by omega), htk, htE, if_pos c]; rfl
        | 1, c2 => exact absurd rfl c2
        | n + 2, _ => rw [parF_n (by omega), htk, htE, if_pos c]; rfl
      · have hd1 : dN = 1 := by omega
        subst hd1
        have hp := parF_1 (t := t) (m := m) (a := a) (by omega)
        rw [htk, htE, if_pos c, if_pos rfl] at hp
        refine h1 _ 0 [] (Fr.up1 rfl) ⟨⟨by rw [mup_at_ne (by decide)]; exact h58, fun i hi => by rw [mup_ne (by decide)]; exact h59 i hi, hm⟩, by rw [List.append_nil, mup_at_ne (by decide)]; exact h3, fun i hi => ?_, by rw [mup_at]; rfl⟩ (by simp; omega) (by decide) (by rw [hp, hE]; rfl)
        rw [List.append_nil] at hi ⊢
        rw [mup_ne (by decide)]; exact h60 i hi
theorem c9_parse {K : Int → Mem → Prop} {t : Nat → Int} {m : Nat} (h58 : M 58 2 = (m : Int)) (h59 : ∀ i, i < m → M 59 i = t i) (hm : m ≤ 60)
    (h1 : ∀ M' : Mem, Fr STp M M' → (parF t m 0 0).1 = true → M' 58 3 = ((parF t m 0 0).2.2.length : Int) → (parF t m 0 0).2.2.length ≤ 60 → (∀ i, i < (parF t m 0 0).2.2.length → M' 60 i = (parF t m 0 0).2.2.getD i 0) → K (-1) M')
    (h0 : ∀ M' : Mem, Fr STp M M' → (parF t m 0 0).1 = false → (parF t m 0 0).2.1 ≤ 60 → K ((parF t m 0 0).2.1 : Int) M') : CalI G miX9_parse (d + 10) [.inr (.inr (some 58))] M K := by
  refine Cal.of (by decide) (Nat.le_of_ble_eq_true rfl) rfl (gX9_parse_0 ?_)
  have go : ∀ n a dN : Nat, m - a ≤ n → a ≤ m → dN ≤ 50 → ∀ (M' : Mem) (L : List Int), Fr STp M M' → TpM t m dN L M' → L.length ≤ a → parF t m 0 0 = preL L (parF t m dN a) → OkI G miX9_parse (d + 10) K 12 [some (.inr (.inr (some 58))), some (.inl (a : Int)), none] [] M' := by
    intro n
    have fin : ∀ dN : Nat, dN ≤ 50 → ∀ (M' : Mem) (L : List Int), Fr STp M M' → TpM t m dN L M' → L.length ≤ m → parF t m 0 0 = preL L (parF t m dN m) → OkI G miX9_parse (d + 10) K 12 [some (.inr (.inr (some 58))), some (.inl (m : Int)), none] [] M' := by
      intro dN hdN M' L hf hT hL hP
      obtain ⟨⟨g58, g59, _⟩, g3, g60, g4⟩ := hT
      refine gX9_parse_12 ⟨fun _ => ⟨fun c => ?_, fun c => ?_⟩, fun c => absurd c (by omega)⟩
      · rw [g4] at c
        rw [g58]
        have hp : parF t m dN m = (false, m, []) := by
          match dN, c with
          | 0, _ => rw [parF_0 (Nat.le_refl _), tok_end]; rfl
          | 1, c => exact absurd rfl c
          | n + 2, _ => rw [parF_n (Nat.le_refl _), tok_end]; rfl
        rw [hp] at hP
        have := h0 M' hf (by rw [hP]; rfl) (by rw [hP]; exact hm)
        rw [hP] at this; exact this
      · rw [g4] at c
        have hd1 : dN = 1 := by omega
        subst hd1
        have hp : parF t m 1 m = (true, 0, []) := by rw [parF_1 (Nat.le_refl _), tok_end]; rfl
        rw [hp] at hP
        have eL : (parF t m 0 0).2.2 = L := by rw [hP]; unfold preL; simp
        exact h1 M' hf (by rw [hP]; rfl) (by rw [eL]; exact g3) (by rw [eL]; omega) (fun i hi => by rw [eL] at hi ⊢; exact g60 i hi)
    induction n with
    | zero =>
      intro a dN hn ha hdN M' L hf hT hL hP
      have : a = m := by omega
      subst this
      exact fin dN hdN M' L hf hT hL hP
    | succ n ih =>
      intro a dN hn ha hdN M' L hf hT hL hP
      by_cases hae : a = m
      · subst hae
        exact fin dN hdN M' L hf hT hL hP
      have ham : a < m := by omega
      obtain ⟨⟨g58, g59, _⟩, g3, g60, g4⟩ := id hT
      refine gX9_parse_12 ⟨fun c => absurd c (by omega), fun _ => ⟨by omega, ?_⟩⟩
      rw [Int.toNat_natCast, g59 a ham]
      refine c9_isBlank ?_
      cases hb : isBb (t a) with
      | true =>
        refine ⟨fun z => absurd z (by decide), fun _ => ?_⟩
        rw [w32n (k := a) (by omega)]
        exact ih (a + 1) dN (by omega) (by omega) hdN M' L hf hT (by omega) (by rw [hP, parF_tok (by omega) (by omega) (tok_blank ham hb)])
      | false =>
        refine ⟨fun _ => ?_, fun z => absurd rfl z⟩
        refine c9_endOf g58 g59 hm ham ?_
        have hen := enE_bd (t := t) ham
        refine c9_takes hT ham hL hdN hb (fun M2 dN' X f2 hT2 hL2 hd2 hp2 => n1 ?_) (fun M2 f2 g2 hp2 hp3 => n0 ?_)
        · exact ih (enE t m a) dN' (by omega) (by omega) hd2 M2 (L ++ X) (hf.tr f2) hT2 (by omega) (by rw [hP, hp2, preL_preL])
        · have := h0 M2 (hf.tr f2) (by rw [hP]; exact hp2) (by rw [hP]; show (parF t m dN a).2.1 ≤ 60; omega)
          rw [hP] at this
          have e : (preL L (parF t m dN a)).2.1 = a := hp3
          rw [e] at this; exact this
  refine go m 0 0 (by omega) (Nat.zero_le _) (by decide) _ [] ((Fr.up1 rfl).up rfl) ⟨⟨by rw [mup_at_ne (by decide), mup_at_ne (by decide)]; exact h58, fun i hi => by rw [mup_ne (by decide), mup_ne (by decide)]; exact h59 i hi, hm⟩, by rw [mup_at_ne (by decide), mup_at]; rfl, fun i hi => absurd hi (Nat.not_lt_zero _), by rw [mup_at]; rfl⟩ (Nat.zero_le _) (by unfold preL; simp)
end CLSM
