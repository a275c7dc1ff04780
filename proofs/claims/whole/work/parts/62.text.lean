/-! the reference: clauses, texts -/
/-- a clause done -/
def doR (g : Nat → Int) (w : Nat) (A : Nat → Int) : Int × (Nat → Int) := match w with
  | 0 => (flyR g (A 0) (A 1) (A 2) (A 3), flyN g (A 0) (A 1) (A 2) (A 3))
  | 1 => (kindR g (A 0) (A 1) (A 2), kindN g (A 0) (A 1) (A 2))
  | 2 => (baseR g (A 0), baseN g (A 0))
  | 3 => (feeR g (A 0) (A 1), feeN g (A 0) (A 1))
  | 4 => (markR g (A 0) (A 1) 1, markN g (A 0) (A 1) 1)
  | 5 => (markR g (A 0) (A 1) 2, markN g (A 0) (A 1) 2)
  | _ => (markR g (A 0) (A 1) 0, markN g (A 0) (A 1) 0)
theorem doR_WF {g : Nat → Int} (hw : WF g) (w : Nat) (A : Nat → Int) : WF (doR g w A).2 := by
  match w with
  | 0 => exact flyN_WF hw _ _ _ _
  | 1 => exact kindN_WF hw _ _ _
  | 2 => exact baseN_WF hw _
  | 3 => exact feeN_WF hw _ _
  | 4 => exact markN_WF hw _ _ _
  | 5 => exact markN_WF hw _ _ _
  | n + 6 => exact markN_WF hw _ _ _
theorem doR_congr {g : Nat → Int} (w : Nat) {A B : Nat → Int} (h : ∀ j, j < wantN w → A j = B j) : doR g w A = doR g w B := by
  match w, h with
  | 0, h => simp only [doR, h 0 (by decide), h 1 (by decide), h 2 (by decide), h 3 (by decide)]
  | 1, h => simp only [doR, h 0 (by decide), h 1 (by decide), h 2 (by decide)]
  | 2, h => simp only [doR, h 0 (by decide)]
  | 3, h => simp only [doR, h 0 (by decide), h 1 (by decide)]
  | 4, h => simp only [doR, h 0 (by decide), h 1 (by decide)]
  | 5, h => simp only [doR, h 0 (by decide), h 1 (by decide)]
  | n + 6, h => simp only [doR, h 0 (by show 0 < 2; decide), h 1 (by show 1 < 2; decide)]
/-- the clauses of a list of codes and numbers, one behind the other: the plan, how many were done -/
def runL : Nat → List Int → (Nat → Int) → Nat → (Nat → Int) × Nat
  | 0, _, g, n => (g, n)
  | _ + 1, [], g, n => (g, n)
  | f + 1, c :: r, g, n => runL f (r.drop (wantN c.toNat)) (doR g c.toNat (fun j => r.getD j 0)).2 (n + if 0 ≤ (doR g c.toNat (fun j => r.getD j 0)).1 then 1 else 0)
theorem runL_WF : ∀ f (L : List Int) (g : Nat → Int) n, WF g → WF (runL f L g n).1 := by
  intro f
  induction f with
  | zero => intro L g n h; exact h
  | succ f ih =>
    intro L g n h
    match L with
    | [] => exact h
    | c :: r => rw [runL]; exact ih _ _ _ (doR_WF h _ _)
theorem runL_cons {f : Nat} {w : Nat} {N R : List Int} {g : Nat → Int} {n : Nat} (hN : N.length = wantN w) : runL (f + 1) ((w : Int) :: (N ++ R)) g n = runL f R (doR g w (fun j => N.getD j 0)).2 (n + if 0 ≤ (doR g w (fun j => N.getD j 0)).1 then 1 else 0) := by
  have e1 : (N ++ R).drop (wantN w) = R := by rw [← hN]; simp
  have e2 : doR g w (fun j => (N ++ R).getD j 0) = doR g w (fun j => N.getD j 0) := doR_congr w (fun j hj => by
    simp only [List.getD_eq_getElem?_getD]
    rw [List.getElem?_append_left (by omega)])
  rw [runL, Int.toNat_natCast, e1, e2]
def parF (t : Nat → Int) (m due a : Nat) : Bool × Nat × List Int := pars t m (m + 1) due a
def preL (L : List Int) (p : Bool × Nat × List Int) : Bool × Nat × List Int := (p.1, p.2.1, L ++ p.2.2)
theorem preL_preL (A B : List Int) (p : Bool × Nat × List Int) : preL A (preL B p) = preL (A ++ B) p := by unfold preL; simp
theorem parF_m {t : Nat → Int} {m a : Nat} (ha : a ≤ m) (due : Nat) (hk : (tok t m a).1 ≠ 0) : pars t m m due (tok t m a).2.2.2 = parF t m due (tok t m a).2.2.2 := by
  have hb := tok_bd (t := t) ha
  have := hb.2.2.2 hk
  exact pars_f m (m + 1) due _ hb.2.2.1 (by omega) (by omega)
theorem parF_0 {t : Nat → Int} {m a : Nat} (ha : a ≤ m) : parF t m 0 a = if (tok t m a).1 = 1 then preL [(tok t m a).2.1] (parF t m (wantN (tok t m a).2.1.toNat + 1) (tok t m a).2.2.2) else (false, (tok t m a).2.2.1, []) := by
  show pars t m (m + 1) 0 a = _
  rw [pars]
  by_cases h : (tok t m a).1 = 1
  · rw [if_pos h, if_pos h, parF_m ha _ (by omega)]; rfl
  · rw [if_neg h, if_neg h]
theorem parF_1 {t : Nat → Int} {m a : Nat} (ha : a ≤ m) : parF t m 1 a = if (tok t m a).1 = 3 then parF t m 0 (tok t m a).2.2.2 else if (tok t m a).1 = 0 then (true, 0, []) else (false, (tok t m a).2.2.1, []) := by
  show pars t m (m + 1) 1 a = _
  rw [pars]
  by_cases h : (tok t m a).1 = 3
  · rw [if_pos h, if_pos h, parF_m ha _ (by omega)]
  · rw [if_neg h, if_neg h]
theorem parF_n {t : Nat → Int} {m a : Nat} (ha : a ≤ m) (n : Nat) : parF t m (n + 2) a = if (tok t m a).1 = 2 then preL [(tok t m a).2.1] (parF t m (n + 1) (tok t m a).2.2.2) else (false, (tok t m a).2.2.1, []) := by
  show pars t m (m + 1) (n + 2) a = _
  rw [pars]
  by_cases h : (tok t m a).1 = 2
  · rw [if_pos h, if_pos h, parF_m ha _ (by omega)]; rfl
  · rw [if_neg h, if_neg h]
theorem wcode_lt {t : Nat → Int} {b e w : Nat} (h : wcode t b e = some w) : w < 7 := List.mem_range.mp (List.mem_of_find?_eq_some h)
theorem tok_word {t : Nat → Int} {m a : Nat} (h : (tok t m a).1 = 1) : ∃ w : Nat, w < 7 ∧ (tok t m a).2.1 = (w : Int) := by
  revert h
  unfold tok
  generalize skE t m a = b
  unfold tokE
  by_cases c1 : m ≤ b
  · rw [if_pos c1]; intro h; exact absurd (show (0 : Nat) = 1 from h) (by decide)
  · rw [if_neg c1]
    by_cases c2 : isLb (byt t m b) = true
    · rw [if_pos c2]
      cases hw : wcode t b (leE t m b) with
      | none => intro h; exact absurd (show (4 : Nat) = 1 from h) (by decide)
      | some w => intro _; exact ⟨w, wcode_lt hw, rfl⟩
    · rw [if_neg c2]
      by_cases c3 : isDb (byt t m b) = true
      · rw [if_pos c3]
        by_cases c4 : diE t m b - b ≤ 3
        · rw [if_pos c4]; intro h; exact absurd (show (2 : Nat) = 1 from h) (by decide)
        · rw [if_neg c4]; intro h; exact absurd (show (4 : Nat) = 1 from h) (by decide)
      · rw [if_neg c3]
        by_cases c4 : t b = 59
        · simp only [if_pos c4]; intro h; exact absurd h (by decide)
        · simp only [if_neg c4]; intro h; exact absurd h (by decide)
def txtR (g t : Nat → Int) (m : Nat) : Int × (Nat → Int) := if (parF t m 0 0).1 = true then (((runL 61 (parF t m 0 0).2.2 g 0).2 : Int), (runL 61 (parF t m 0 0).2.2 g 0).1) else (-100 - ((parF t m 0 0).2.1 : Int), g)
theorem txtR_WF {g : Nat → Int} (hw : WF g) (t : Nat → Int) (m : Nat) : WF (txtR g t m).2 := by
  unfold txtR; split
  · exact runL_WF _ _ _ _ hw
  · exact hw
def wtM (M : Mem) : Prop := ∀ w, w < 7 → M 94 w = (wantN w : Int)
/-- the token at a is read -/
def TkM (t : Nat → Int) (m a : Nat) (M : Mem) : Prop := M 66 45 = ((tok t m a).2.2.2 : Int) ∧ M 66 47 = ((tok t m a).2.2.1 : Int) ∧ M 66 46 = ((tok t m a).1 : Int) ∧ ((tok t m a).1 = 1 ∨ (tok t m a).1 = 2 → M 66 48 = (tok t m a).2.1)
def SQc (c : Nat) : Nat → Nat → Bool := fun x i => SK x i || ((x == 95 && i == c) || (x == 96 && (decide (4 * c ≤ i) && decide (i < 4 * c + 4))))
theorem SQ_SK {c x i : Nat} (h : SQc c x i = false) : SK x i = false := by unfold SQc at h; exact (Bool.or_eq_false_iff.mp h).1
section REFT
variable {G : GE} {d : Nat} {M : Mem}
/-- what stays while a text is read -/
def TxB (t : Nat → Int) (m : Nat) (M : Mem) : Prop := M 66 44 = (m : Int) ∧ (∀ i, i < m → M 92 i = t i) ∧ m ≤ 60 ∧ wdM M ∧ wtM M
theorem TxB.fr {t : Nat → Int} {m c : Nat} {M M' : Mem} (h : TxB t m M) (hf : Fr (SQc c) M M') : TxB t m M' := by
  obtain ⟨h1, h2, h3, h4, h5⟩ := h
  exact ⟨by rw [hf 66 44 rfl]; exact h1, fun i hi => by rw [hf 92 i rfl]; exact h2 i hi, h3, fun w hw k hk => by rw [hf 93 _ rfl]; exact h4 w hw k hk, fun w hw => by rw [hf 94 w rfl]; exact h5 w hw⟩
theorem c11_nextT {K : Mem → Prop} {t : Nat → Int} {m a : Nat} (hT : TxB t m M) (ha : a ≤ m) (hp : ∀ i, i < m → 0 ≤ t i) (h45 : M 66 45 = (a : Int)) (h : ∀ M', Fr SK M M' → TkM t m a M' → K M') : CalV G miX11_next (d + 2) [.inr (.inr (some 66))] M K :=
  c11_next ⟨hT.1, h45, hT.2.1, hT.2.2.1⟩ ha hp hT.2.2.2.1 (fun M' hf q1 q2 q3 q4 => h M' hf ⟨q1, q2, q3, q4⟩)
theorem c11_isClause {K : Int → Mem → Prop} {t : Nat → Int} {m a c : Nat} {v : Int} (e : v = (c : Int)) (hc : c < 60) (hT : TxB t m M) (ha : a ≤ m) (hp : ∀ i, i < m → 0 ≤ t i) (hk : TkM t m a M)
    (h1 : ∀ (M' : Mem) (a2 w : Nat) (N : List Int), Fr (SQc c) M M' → w < 7 → N.length = wantN w → a + 2 ≤ a2 → a2 ≤ m → TkM t m a2 M' → M' 95 c = (w : Int) → (∀ j, j < wantN w → M' 96 (4 * c + j) = N.getD j 0) → parF t m 0 a = preL ((w : Int) :: N) (parF t m 1 a2) → K 1 M')
    (h0 : ∀ M' : Mem, Fr (SQc c) M M' → (parF t m 0 a).1 = false → M' 66 47 = ((parF t m 0 a).2.1 : Int) → K 0 M') : CalI G miX11_isClause (d + 3) [.inr (.inr (some 66)), .inl v] M K := by
  subst e
  have hb := tok_bd (t := t) ha
  have f95 : Fr (SQc c) M (mup M 95 c (M 66 48)) := Fr.up1 (by unfold SQc; simp)
  refine Cal.of (by decide) (Nat.le_of_ble_eq_true rfl) rfl (gX11_isClause_0 ⟨by omega, fun q => ?_, fun q => ?_⟩)
  · rw [if_neg q, Int.toNat_natCast]
    have hk1 : (tok t m a).1 ≠ 1 := by have := hk.2.2.1; omega
    refine gX11_isClause_41 ⟨fun _ => gX11_isClause_53 ⟨fun _ => ⟨.inl rfl, ?_⟩, fun c => absurd c (by decide)⟩, fun c => absurd rfl c⟩
    have hP := parF_0 (t := t) ha
    rw [if_neg hk1] at hP
    refine h0 _ f95 (by rw [hP]) ?_
    rw [hP, mup_ne (by decide)]; exact hk.2.1
  · rw [if_pos q, Int.toNat_natCast]
    have hk1 : (tok t m a).1 = 1 := by have := hk.2.2.1; omega
    obtain ⟨w, hw7, hwv⟩ := tok_word hk1
    have h48 : M 66 48 = (w : Int) := by rw [hk.2.2.2 (.inl hk1), hwv]
    have hT1 := hT.fr f95
    have e48 : (mup M 95 c (M 66 48)) 66 48 = (w : Int) := by rw [mup_ne (by decide)]; exact h48
    rw [e48, Int.toNat_natCast, hT1.2.2.2.2 w hw7]
    refine ⟨by omega, gX11_isClause_41 ⟨fun c => absurd c (by decide), fun _ => ?_⟩⟩
    have hP := parF_0 (t := t) ha
    rw [if_pos hk1, hwv, Int.toNat_natCast] at hP
    refine c11_nextT (a := (tok t m a).2.2.2) hT1 hb.2.2.1 hp (by rw [mup_ne (by decide)]; exact hk.1) (fun M1 hf1 hk' => ?_)
    have hf1' : Fr (SQc c) M M1 := f95.tr (hf1.mo (fun x i hx => SQ_SK hx))
    have hwn : wantN w ≤ 4 ∧ 1 ≤ wantN w := by
      match w with
      | 0 => decide
      | 1 => decide
      | 2 => decide
      | n + 3 => exact ⟨by show 2 ≤ 4; decide, by show 1 ≤ 2; decide⟩
    have key : ∀ j k : Nat, k + j = wantN w → ∀ (M' : Mem) (a' : Nat) (N : List Int), Fr (SQc c) M M' → TkM t m a' M' → a' ≤ m → a + 1 + k ≤ a' → M' 95 c = (w : Int) → N.length = k → (∀ i, i < k → M' 96 (4 * c + i) = N.getD i 0) → parF t m 0 a = preL ((w : Int) :: N) (parF t m (j + 1) a') → OkI G miX11_isClause (d + 3) K 53 [some (.inr (.inr (some 66))), some (.inl (c : Int)), some (.inl 1), some (.inl (wantN w : Int)), some (.inl (k : Int))] [] M' := by
      intro j
      induction j with
      | zero =>
        intro k hkj M' a' N hf hk2 ha' hka h95 hNl hN hPa
        refine gX11_isClause_53 ⟨fun _ => ⟨.inr rfl, ?_⟩, fun q => absurd q (by omega)⟩
        exact h1 M' a' w N hf hw7 (by omega) (by omega) ha' hk2 h95 (fun j hj => hN j (by omega)) hPa
      | succ j ih =>
        intro k hkj M' a' N hf hk2 ha' hka h95 hNl hN hPa
        have hb' := tok_bd (t := t) ha'
        have hPn := parF_n (t := t) ha' j
        have e4 : ((4 * (c : Int)) + (k : Int)).toNat = 4 * c + k := by omega
        have f96 : Fr (SQc c) M (mup M' 96 (4 * c + k) (M' 66 48)) := hf.up (by unfold SQc; simp; omega)
        refine gX11_isClause_53 ⟨fun q => absurd q (by omega), fun _ => ⟨fun q => absurd q (by decide), fun _ => ⟨by omega, fun q => ?_, fun q => ?_⟩⟩⟩
        · have hk2n : (tok t m a').1 ≠ 2 := by have := hk2.2.2.1; omega
          rw [if_neg q, e4]
          rw [if_neg hk2n] at hPn
          have fin : K 0 (mup M' 96 (4 * c + k) (M' 66 48)) := by
            refine h0 _ f96 (by rw [hPa, hPn]; rfl) ?_
            rw [hPa, hPn, mup_ne (by decide)]; exact hk2.2.1
          exact gX11_isClause_53 ⟨fun _ => ⟨.inl rfl, fin⟩, fun _ => ⟨fun _ => ⟨.inl rfl, fin⟩, fun q => absurd rfl q⟩⟩
        · have hk2y : (tok t m a').1 = 2 := by have := hk2.2.2.1; omega
          rw [if_pos q, e4, w32n (by omega)]
          rw [if_pos hk2y] at hPn
          have hT2 := hT.fr f96
          refine c11_nextT (a := (tok t m a').2.2.2) hT2 hb'.2.2.1 hp (by rw [mup_ne (by decide)]; exact hk2.1) (fun M2 hf2 hk3 => ?_)
          have := hb'.2.2.2 (by omega)
          refine ih (k + 1) (by omega) M2 (tok t m a').2.2.2 (N ++ [(tok t m a').2.1]) (f96.tr (hf2.mo (fun x i hx => SQ_SK hx))) hk3 hb'.2.2.1 (by omega) (by rw [hf2 95 c rfl, mup_ne (by decide)]; exact h95) (by simp [hNl]) (fun i hi => ?_) ?_
          · rw [hf2 96 _ rfl]
            by_cases hik : i = k
            · subst hik
              rw [mup_at, hk2.2.2.2 (.inr hk2y)]
              simp [List.getD_eq_getElem?_getD, ← hNl]
            · rw [mup_at_ne (by omega), hN i (by omega)]
              simp only [List.getD_eq_getElem?_getD]
              rw [List.getElem?_append_left (by omega)]
          · rw [hPa, hPn, preL_preL]; rfl
    refine key (wantN w) 0 (by omega) M1 _ [] hf1' hk' hb.2.2.1 (by have := hb.2.2.2 (by omega); omega) (by rw [hf1 95 c rfl, mup_at]; exact h48) rfl (fun i hi => absurd hi (by omega)) hP
theorem c11_does {K : Int → Mem → Prop} {g : Nat → Int} {v : Int} {k w : Nat} (hg : M 67 = g) (hw : WF g) (e : v = (k : Int)) (hk : k < 60) (hw7 : w < 7) (h95 : M 95 k = (w : Int)) (h : K (doR g w (fun j => M 96 (4 * k + j))).1 (mset M 67 (doR g w (fun j => M 96 (4 * k + j))).2)) : CalI G miX11_does (d + 4) [.inr (.inr (some 66)), .inl v] M K := by
  subst e
  have e0 : (4 * (k : Int)).toNat = 4 * k + 0 := by omega
  have e1 : ((4 * (k : Int)) + 1).toNat = 4 * k + 1 := by omega
  have e2 : ((4 * (k : Int)) + 2).toNat = 4 * k + 2 := by omega
  have e3 : ((4 * (k : Int)) + 3).toNat = 4 * k + 3 := by omega
  refine Cal.of (by decide) (Nat.le_of_ble_eq_true rfl) rfl (gX11_does_0 ?_)
  rw [Int.toNat_natCast, h95, e0, e1, e2, e3]
  have hn0 : 0 ≤ M 67 0 ∧ M 67 0 ≤ 7 := by rw [hg]; exact hw.1
  refine ⟨by omega, by omega, by omega, by omega, fun c => ⟨by omega, ?_⟩, fun c => ?_, fun c => ?_, fun c => ?_, fun c => ?_, fun c => ?_, fun c => ?_⟩
  · obtain rfl : w = 0 := by omega
    refine c11_fly hn0 ?_
    rw [hg]; exact h
  · obtain rfl : w = 1 := by omega
    exact c11_kind hg hw h
  · obtain rfl : w = 2 := by omega
    exact c11_base hg h
  · obtain rfl : w = 3 := by omega
    exact c11_fee hg h
  · obtain rfl : w = 4 := by omega
    exact c11_mark hg hw h
  · obtain rfl : w = 5 := by omega
    exact c11_mark hg hw h
  · obtain rfl : w = 6 := by omega
    exact c11_mark hg hw h
end REFT
