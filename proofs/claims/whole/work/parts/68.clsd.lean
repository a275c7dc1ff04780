/-! the class: what a set would cost as a pairing -/
theorem wfold_first {g : Nat → Int} {s k : Nat} {w : WSt} (h : wfold g s k = some w) (h0 : 0 ≤ w.2.1) : ∀ m, k ≤ m → ∀ w', wfold g s m = some w' → w'.1 = w.1 ∧ 0 ≤ w'.2.1 := by
  intro m hm
  induction m with
  | zero => intro w' hw'
            have : k = 0 := by omega
            subst this; rw [h] at hw'; cases hw'; exact ⟨rfl, h0⟩
  | succ m ih =>
    intro w' hw'
    by_cases e : k = m + 1
    · subst e; rw [h] at hw'; cases hw'; exact ⟨rfl, h0⟩
    · cases hm0 : wfold g s m with
      | none => rw [wfold, hm0] at hw'; cases hw'
      | some w0 =>
        obtain ⟨a, b⟩ := ih (by omega) w0 hm0
        rw [wfold_succ hm0] at hw'
        cases hb : s.testBit (oN g m) with
        | false => rw [wstep_no hb] at hw'; cases hw'; exact ⟨a, b⟩
        | true =>
          by_cases hc : wBad g (oN g m) (wY g (oN g m) w0) (wFi (oN g m) w0) (wSt g (oN g m) w0) (wLe g (oN g m) w0) (wDu g (oN g m) w0)
          · rw [wstep_bad hb hc] at hw'; cases hw'
          · rw [wstep_ok hb hc] at hw'
            cases hw'
            refine ⟨?_, Int.natCast_nonneg _⟩
            show wFi (oN g m) w0 = w.1
            unfold wFi; rw [if_neg (by omega)]; exact a
/-- no base, no pairing -/
theorem prF_nobase {g : Nat → Int} {s k : Nat} {w : WSt} (h : wfold g s k = some w) (hk : k ≤ nF g) (h0 : 0 ≤ w.2.1) (hb : (g 86).toNat.testBit (g (1 + w.1.toNat)).toNat = false) : prF g s = none := by
  cases hp : prF g s with
  | none => rfl
  | some w' =>
    obtain ⟨a, b⟩ := prF_both hp
    obtain ⟨e, _⟩ := wfold_first h h0 _ hk w' a
    unfold prEnd at b
    rw [e, hb] at b
    simp at b
def SWg (s : Nat) : Nat → Nat → Bool := fun c i => decide (24 ≤ c) && (decide (c ≤ 27) && i == s)
theorem SWg_yes {s c : Nat} (h : 24 ≤ c ∧ c ≤ 27) : SWg s c s = true := by unfold SWg; simp [h.1, h.2]
theorem SWg_no {s c i : Nat} (h : c < 24 ∨ 27 < c ∨ i ≠ s) : SWg s c i = false := by unfold SWg; simp; omega
section CLSD
variable {G : GE} {d : Nat} {M : Mem}
theorem c4_isLawful {K : Int → Mem → Prop} {g : Nat → Int} {v du le sp : Int} {a : Nat} (hP : Pl g M) (hw : WF g) (e : v = (a : Int)) (ha : a < 4) (h1 : (g 86).toNat.testBit a = true → du ≤ dutF g a → le ≤ legsF g a → sp ≤ spanF g a → K 1 M) (h0 : (g 86).toNat.testBit a = false ∨ dutF g a < du ∨ legsF g a < le ∨ spanF g a < sp → K 0 M) : CalI G miX4_isLawful (d + 2) [.inr (.inr (some 19)), .inl v, .inl du, .inl le, .inl sp] M K := by
  refine Cal.of (by decide) (Nat.le_of_ble_eq_true rfl) rfl (gX4_isLawful_0 ?_)
  refine c5_isBase hP hw e ha (fun b => b1 ?_) (fun b => b0 (h0 (.inl b)))
  refine c5_dutiesOf hP e ha ⟨fun c => h0 (.inr (.inl c)), fun c => ?_⟩
  refine c5_legsOf hP e ha ⟨fun c2 => h0 (.inr (.inr (.inl c2))), fun c2 => ?_⟩
  exact c5_spanOf hP hw e ha ⟨fun c3 => h0 (.inr (.inr (.inr c3))), fun c3 => h1 b c c2 c3⟩
theorem c4_weigh {K : Mem → Prop} {g : Nat → Int} {v : Int} {s : Nat} (hP : Pl g M) (hw : WF g) (ho : OrM g M) (hH : HwM g M) (e : v = (s : Int)) (h0 : s ≠ 0) (hs : s < 2 ^ nF g) (h : ∀ M', Fr (SWg s) M M' → WgM g s M' → K M') : CalV G miX4_weigh (d + 3) [.inr (.inr (some 19)), .inl v] M K := by
  have hn := hw.n
  have hs7 : s < 128 := Nat.lt_of_lt_of_le hs (pow_le7 hn.2)
  subst e
  refine Cal.of (by decide) (Nat.le_of_ble_eq_true rfl) rfl (gX4_weigh_0 ⟨by omega, ?_⟩)
  rw [Int.toNat_natCast]
  have f0 : Fr (SWg s) M (mup M 24 s (-1)) := Fr.up1 (SWg_yes (by decide))
  have z24 : (mup M 24 s (-1)) 24 s = -1 := mup_at _ _ _ _
  have hP : Pl g (mup M 24 s (-1)) := pl_mup hP (by decide) _
  have ho : OrM g (mup M 24 s (-1)) := fun i hi => by rw [mup_ne (by decide)]; exact ho i hi
  have hH : HwM g (mup M 24 s (-1)) := fun f k hf hk => by rw [mup_ne (by decide), mup_ne (by decide)]; exact hH f k hf hk
  generalize mup M 24 s (-1) = M1 at *
  have nope : prF g s = none → K M1 := fun hp => h M1 f0 ⟨by rw [z24, pcF_none hp], fun w hw => by rw [hp] at hw; cases hw⟩
  have noneAt : ∀ k, k ≤ nF g → wfold g s k = none → prF g s = none := fun k hk hz => by unfold prF; rw [wfold_none hz hk]
  have key := dn (P := fun k => ∀ w : WSt, wfold g s k = some w → (0 ≤ w.2.1 → (g 86).toNat.testBit (g (1 + w.1.toNat)).toNat = true) → OkV G miX4_weigh (d + 3) K 26 [some (.inr (.inr (some 19))), some (.inl (s : Int)), some (.inl w.1), some (.inl w.2.1), some (.inl w.2.2.1), some (.inl w.2.2.2.1), some (.inl (if w.2.1 < 0 then 1 else w.2.2.2.2.1)), some (.inl w.2.2.2.2.2), some (.inl (k : Int)), none, none] [] M1) (nF g) ?_ ?_ 0 (by omega)
  · exact key (-1, -1, 0, 0, 0, 0) rfl (fun c => absurd c (by decide))
  · -- the end
    intro w hwf hba
    have hla := wend_la hw h0 hs hwf
    have hb := hba hla
    have bd := prCost_bd hw hwf hla
    rcases wfold_inv hw s _ (Nat.le_refl _) w hwf with ⟨e, hz⟩ | ⟨i, j, q1, q2, q3, q4, -, -, q5, q6, q7, q8⟩
    · subst e; exact absurd hla (by decide)
    have hi := oN_lt g (i := i) (by omega)
    have hj := oN_lt g (i := j) (by omega)
    have di := hw.fl (i := oN g i) (by omega)
    have dj := hw.fl (i := oN g j) (by omega)
    have e1 : w.1.toNat = oN g i := by omega
    have e2 : w.2.1.toNat = oN g j := by omega
    have pe : ∀ b : Bool, prEnd g w = b → prF g s = (if b then some w else none) := fun b hb => by unfold prF; rw [hwf]; simp only; rw [hb]
    have p3 := (hP.fl (i := oN g j) (by omega)).2.1
    have p2 := (hP.fl (i := oN g i) (by omega)).1
    refine gX4_weigh_26 ⟨fun _ => ⟨fun c => absurd c (by omega), fun _ => ⟨by omega, by omega, fun c => ?_, fun c => ?_⟩⟩, fun c => ?_⟩
    · rw [e1, e2, p2, p3] at c
      exact nope (by rw [pe false (by unfold prEnd; rw [e1, e2, decide_eq_false c]; simp)]; rfl)
    · rw [e1, e2, p2, p3] at c
      have pw := pe true (by unfold prEnd; rw [hb, e1, e2, decide_eq_true c]; simp [hla])
      rw [if_neg (by omega), Int.toNat_natCast]
      have R : ∀ x y z : Int, Pl g (mup (mup (mup M1 25 s x) 26 s y) 27 s z) := fun x y z => pl_mup (pl_mup (pl_mup hP (by decide) _) (by decide) _) (by decide) _
      refine ⟨by omega, by omega, by omega, by omega, by omega, by omega, by omega, ?_⟩
      have e27 : (mup (mup M1 25 s w.2.2.2.2.1) 26 s w.2.2.2.2.2) 2 w.1.toNat = g (1 + w.1.toNat) := by rw [mup_ne (by decide), mup_ne (by decide), e1]; exact p2
      rw [e27]
      have r1 := (R w.2.2.2.2.1 w.2.2.2.2.2 (g (1 + w.1.toNat))).fe (i := 0) (by decide)
      have r2 := (R w.2.2.2.2.1 w.2.2.2.2.2 (g (1 + w.1.toNat))).fe (i := 1) (by decide)
      have r3 := (R w.2.2.2.2.1 w.2.2.2.2.2 (g (1 + w.1.toNat))).fe (i := 2) (by decide)
      have r4 := ((R w.2.2.2.2.1 w.2.2.2.2.2 (g (1 + w.1.toNat))).fl (i := w.2.1.toNat) (by omega)).2.2.2
      have r5 := ((R w.2.2.2.2.1 w.2.2.2.2.2 (g (1 + w.1.toNat))).fl (i := w.1.toNat) (by omega)).2.2.1
      rw [r1, r2, r3, r4, r5]
      have ec : w32 (((w.2.2.2.2.1 * g (87 + 0)) + (w.2.2.2.2.2 * g (87 + 2))) + (g (87 + 1) * (g (22 + w.2.1.toNat) - g (15 + w.1.toNat)))) = prCost g w := by
        have : ((w.2.2.2.2.1 * g (87 + 0)) + (w.2.2.2.2.2 * g (87 + 2))) + (g (87 + 1) * (g (22 + w.2.1.toNat) - g (15 + w.1.toNat))) = prCost g w := by
          unfold prCost
          show w.2.2.2.2.1 * g 87 + w.2.2.2.2.2 * g 89 + g 88 * (g (22 + w.2.1.toNat) - g (15 + w.1.toNat)) = _
          rw [Int.mul_comm w.2.2.2.2.1, Int.mul_comm w.2.2.2.2.2, Int.add_assoc, Int.add_assoc, Int.add_comm (g 89 * _)]
        rw [this]
        have := bd.1
        generalize prCost g w = x at *
        exact w32_eq (by omega) (by omega)
      rw [ec]
      refine h _ ((((f0.up (SWg_yes (by decide))).up (SWg_yes (by decide))).up (SWg_yes (by decide))).up (SWg_yes (by decide))) ⟨by rw [mup_at, pcF_some pw], fun w' hw' => ?_⟩
      rw [pw] at hw'
      cases hw'
      exact ⟨by rw [mup_ne (by decide), mup_ne (by decide), mup_ne (by decide), mup_at], by rw [mup_ne (by decide), mup_ne (by decide), mup_at], by rw [mup_ne (by decide), mup_at]⟩
    · rw [hP.n hw] at c; omega
  · -- a flight
    intro k hk ih w hwf hba
    have hlt := oN_lt g hk
    have dk := hw.fl (i := oN g k) (by omega)
    have ek : M1 20 (k : Int).toNat = (oN g k : Int) := by rw [Int.toNat_natCast]; exact ho k hk
    have hinv := wfold_inv hw s k (by omega) w hwf
    refine gX4_weigh_26 ⟨fun c => ?_, fun _ => ⟨by omega, ?_⟩⟩
    · rw [hP.n hw] at c; omega
    rw [ek]
    generalize hh : oN g k = f at *
    have hf7 : f < 7 := by omega
    cases hb : s.testBit f with
    | false =>
      refine ⟨fun c => absurd ((bit0 hs7 (by omega)).mpr hb) c, fun _ => ?_⟩
      rw [w32n (by omega)]
      exact ih w (by rw [wfold_succ hwf, hh, wstep_no hb]) hba
    | true =>
      refine ⟨fun _ => ?_, fun c => ?_⟩
      rotate_left
      · have := (bit0 hs7 (by omega)).mp c; rw [hb] at this; cases this
      have wsu : wfold g s (k + 1) = wstep g s f w := by rw [wfold_succ hwf, hh]
      -- the tests at the end of a step
      have t151 : (0 ≤ wFi f w ∧ wFi f w < 7) → (0 ≤ wSt g f w ∧ wSt g f w ≤ 299) → ¬ wY g f w = 0 → (1 ≤ wLe g f w ∧ wLe g f w ≤ 8) → OkV G miX4_weigh (d + 3) K 151 [some (.inr (.inr (some 19))), some (.inl (s : Int)), some (.inl (wFi f w)), none, some (.inl (wSt g f w)), some (.inl (wLe g f w - 1)), some (.inl (wDu g f w)), some (.inl (wTi g f w)), some (.inl (k : Int)), some (.inl (f : Int)), none] [] M1 := by
        intro hfi hst hy hle
        obtain ⟨fi, hfi'⟩ : ∃ fi : Nat, wFi f w = (fi : Int) := ⟨(wFi f w).toNat, by omega⟩
        have dfi := hw.fl (i := fi) (by omega)
        have ha : (g (1 + fi)).toNat < 4 := by omega
        have hfn : (wFi f w).toNat = fi := by omega
        have ea : M1 2 (wFi f w).toNat = ((g (1 + fi)).toNat : Int) := by rw [hfn, (hP.fl (i := fi) (by omega)).1]; omega
        refine gX4_weigh_151 ⟨by omega, by omega, ?_⟩
        rw [Int.toNat_natCast, (hP.fl (i := f) hf7).2.2.2, w32_eq (x := wLe g f w - 1 + 1) (by omega) (by omega), w32_eq (x := g (22 + f) - wSt g f w) (by omega) (by omega), show wLe g f w - 1 + 1 = wLe g f w by omega]
        refine c4_isLawful hP hw ea ha (fun b cd cl cs => n1 ?_) (fun c => n0 ?_)
        · have hok : ¬ wBad g f (wY g f w) (wFi f w) (wSt g f w) (wLe g f w) (wDu g f w) := by unfold wBad; rw [hfn]; omega
          rw [w32n (by omega)]
          have key := ih (wFi f w, (f : Int), wSt g f w, wLe g f w, wDu g f w, wTi g f w) (by rw [wsu, wstep_ok hb hok]) (fun _ => by show (g 86).toNat.testBit (g (1 + (wFi f w).toNat)).toNat = true; rw [hfn]; exact b)
          have e6 : (if (f : Int) < 0 then (1 : Int) else wDu g f w) = wDu g f w := if_neg (by omega)
          simp only [e6] at key
          exact key
        · by_cases hbad : wBad g f (wY g f w) (wFi f w) (wSt g f w) (wLe g f w) (wDu g f w)
          · exact nope (noneAt (k + 1) (by omega) (by rw [wsu, wstep_bad hb hbad]))
          · refine nope (prF_nobase (k := k + 1) (w := (wFi f w, (f : Int), wSt g f w, wLe g f w, wDu g f w, wTi g f w)) (by rw [wsu, wstep_ok hb hbad]) (by omega) (Int.natCast_nonneg _) ?_)
            show (g 86).toNat.testBit (g (1 + (wFi f w).toNat)).toNat = false
            unfold wBad at hbad
            rw [hfn] at hbad ⊢
            rcases c with c | c | c | c
            · exact c
            · exact absurd (.inr (.inr (.inr c))) hbad
            · exact absurd (.inr (.inl c)) hbad
            · exact absurd (.inr (.inr (.inl c))) hbad
      rcases hinv with ⟨ew, -⟩ | ⟨i, j, q1, q2, q3, q4, -, -, q5, q6, q7, q8⟩
      · -- the first
        have hyw : wY g f w = 2 := by rw [ew]; simp [wY]
        have hfw : wFi f w = (f : Int) := by rw [ew]; simp [wFi]
        have hsw : wSt g f w = g (15 + f) := by simp [wSt, hyw]
        have hlw : wLe g f w = 1 := by simp [wLe, hyw]
        have hdw : wDu g f w = 1 := by simp only [wDu, hyw, if_pos]; rw [ew]; rfl
        have htw : wTi g f w = 0 := by rw [ew]; simp [wTi]
        have hz : w.2.1 = -1 := by rw [ew]
        have hle0 : w.2.2.2.1 = 0 := by rw [ew]
        have hti0 : w.2.2.2.2.2 = 0 := by rw [ew]
        refine ⟨fun c => absurd hz c, fun _ => ?_⟩
        rw [hz, if_pos (by decide), hle0, hti0]
        refine gX4_weigh_80 ⟨fun c => absurd rfl c, fun _ => ⟨by omega, ?_⟩⟩
        have T := t151 (by omega) (by omega) (by omega) (by omega)
        rw [hfw, hsw, hlw, hdw, htw] at T
        rw [Int.toNat_natCast, (hP.fl (i := f) hf7).2.2.1]
        exact T
      · -- a later one
        have hi := oN_lt g (i := i) (by omega)
        have hj := oN_lt g (i := j) (by omega)
        have ela : w.2.1.toNat = oN g j := by omega
        have hyw : wY g f w = howF g (oN g j) f := by simp only [wY]; rw [if_neg (by omega), ela]
        have hfw : wFi f w = w.1 := by simp only [wFi]; rw [if_neg (by omega)]
        have hf : f < nF g := by omega
        have eix : (w.2.1 * 7 + (f : Int)).toNat = 7 * oN g j + f := by omega
        refine ⟨fun _ => ⟨by omega, ?_⟩, fun c => absurd c (by omega)⟩
        rw [if_neg (by omega), eix, (hH _ _ hj hf).1]
        have hhb := howF_bd g (oN g j) f
        refine gX4_weigh_80 ⟨fun _ => ⟨fun cz => ⟨fun c2 => ?_, fun c2 => ⟨by omega, ?_⟩⟩, fun cz => ?_⟩, fun c => absurd c (by omega)⟩
        · -- by a sit
          have hst : wSt g f w = w.2.2.1 := by simp only [wSt, hyw]; rw [if_neg c2]
          have hle : wLe g f w = w.2.2.2.1 + 1 := by simp only [wLe, hyw]; rw [if_neg c2]
          have hdu : wDu g f w = w.2.2.2.2.1 := by simp only [wDu, hyw]; rw [if_neg c2]
          have T := t151 (by omega) (by omega) (by rw [hyw]; exact cz) (by omega)
          rw [hfw, hst, hle, hdu, show w.2.2.2.1 + 1 - 1 = w.2.2.2.1 by omega] at T
          refine c4_isTight hP hw hH q4 rfl hj hf ?_
          cases htg : tgtB g (oN g j) f with
          | false =>
            have hti : wTi g f w = w.2.2.2.2.2 := by simp only [wTi]; rw [ela, htg]; simp
            rw [hti] at T
            exact b0 T
          | true =>
            have hti : wTi g f w = w.2.2.2.2.2 + 1 := by simp only [wTi]; rw [ela, htg, if_pos ⟨by omega, rfl⟩]
            rw [hti] at T
            rw [w32_eq (x := w.2.2.2.2.2 + 1) (by omega) (by omega)]
            exact b1 T
        · -- by a rest
          have hst : wSt g f w = g (15 + f) := by simp only [wSt, hyw]; rw [if_pos c2]
          have hle : wLe g f w = 1 := by simp only [wLe, hyw]; rw [if_pos c2]
          have hdu : wDu g f w = w.2.2.2.2.1 + 1 := by simp only [wDu, hyw]; rw [if_pos c2]
          have hnt : tgtB g (oN g j) f = false := by unfold tgtB; rw [c2]; rfl
          have hti : wTi g f w = w.2.2.2.2.2 := by simp only [wTi]; rw [ela, hnt]; simp
          have T := t151 (by omega) (by omega) (by rw [hyw]; exact cz) (by omega)
          rw [hfw, hst, hle, hdu, hti] at T
          rw [Int.toNat_natCast, (hP.fl (i := f) hf7).2.2.1, w32_eq (x := w.2.2.2.2.1 + 1) (by omega) (by omega)]
          exact T
        · exact nope (noneAt (k + 1) (by omega) (by rw [wsu, wstep_bad hb (.inl (by rw [hyw]; exact cz))]))
theorem c4_workOut {K : Mem → Prop} {g : Nat → Int} (hP : Pl g M) (hw : WF g) (h : ∀ M', Fr (rg 20 27) M M' → NetM g M' → K M') : CalV G miX4_workOut (d + 4) [.inr (.inr (some 19))] M K := by
  have hn := hw.n
  have hN := pow_le7 hn.2
  refine Cal.of (by decide) (Nat.le_of_ble_eq_true rfl) rfl (gX4_workOut_0 ?_)
  refine c4_sortByDep hP hw (fun o ho => ?_)
  have f0 : Fr (rg 20 27) M (mset M 20 o) := Fr.rf.ms (fun _ => rg_yes (by decide))
  have hOr : OrM g (mset M 20 o) := fun i hi => by rw [mset_at]; exact ho i hi
  generalize mset M 20 o = M0 at *
  have plf : ∀ {M'}, Fr (rg 20 27) M M' → Pl g M' := fun hf => pl_rg hP hf (by decide)
  -- who follows whom
  refine dn (P := fun f => ∀ M' : Mem, Fr (rg 20 27) M M' → OrM g M' → (∀ a b, a < f → b < nF g → M' 21 (7 * a + b) = howF g a b ∧ M' 22 (7 * a + b) = slkF g a b) → OkV G miX4_workOut (d + 4) K 6 [some (.inr (.inr (some 19))), some (.inl (f : Int)), none] [] M') (nF g) ?_ (fun f hf ih => ?_) 0 (Nat.zero_le _) M0 f0 hOr (fun a b ha => absurd ha (Nat.not_lt_zero _))
  · intro M1 f1 hO hH
    refine gX4_workOut_6 ⟨fun _ => ?_, fun c => ?_⟩
    rotate_left
    · rw [(plf f1).n hw] at c; omega
    refine c4_findBetween (plf f1) hw hO (fun q hq => ?_)
    have f2 : Fr (rg 20 27) M (mset M1 23 q) := f1.ms (fun _ => rg_yes (by decide))
    have hO2 : OrM g (mset M1 23 q) := fun i hi => by rw [mset_ne _ (by decide)]; exact hO i hi
    have hH2 : HwM g (mset M1 23 q) := fun a b ha hb => by rw [mset_ne _ (by decide), mset_ne _ (by decide)]; exact hH a b ha hb
    generalize mset M1 23 q = M2 at *
    have hac := allF_cast g
    refine dn (P := fun s => 1 ≤ s → ∀ M' : Mem, Fr (rg 20 27) M M' → OrM g M' → HwM g M' → BwM g M' → (∀ t, t ≠ 0 → t < s → WgM g t M') → OkV G miX4_workOut (d + 4) K 54 [some (.inr (.inr (some 19))), some (.inl (s : Int)), none] [] M') (2 ^ nF g) ?_ (fun s hs ih2 => ?_) 1 (pow_pos2 _) (Nat.le_refl _) M2 f2 hO2 hH2 hq (fun t h1 h2 => by omega)
    · intro _ M' fm hO hH hB hW
      refine gX4_workOut_54 (c5_allFlights (plf fm) hw ⟨fun _ => h M' fm ⟨hO, hH, hB, hW⟩, fun c => ?_⟩)
      rw [hac] at c; omega
    · intro hs1 M' fm hO hH hB hW
      refine gX4_workOut_54 (c5_allFlights (plf fm) hw ⟨fun c => ?_, fun _ => ?_⟩)
      · rw [hac] at c; generalize 2 ^ nF g = N at *; omega
      refine c4_weigh (plf fm) hw hO hH rfl (by omega) hs (fun M3 f3 w3 => ?_)
      have hs2 : s < 2147483647 := Nat.lt_trans (Nat.lt_of_lt_of_le hs hN) (by decide)
      rw [w32n hs2]
      refine ih2 (by omega) M3 (fm.tr (f3.mo (fun c i hc => SWg_no (by have := rg_of hc; omega)))) (fun i hi => by rw [f3 20 _ (SWg_no (by omega))]; exact hO i hi) (fun a b ha hb => by rw [f3 21 _ (SWg_no (by omega)), f3 22 _ (SWg_no (by omega))]; exact hH a b ha hb) (fun a b ha hb => by rw [f3 23 _ (SWg_no (by omega))]; exact hB a b ha hb) (fun t h1 h2 => ?_)
      by_cases e : t = s
      · subst e; exact w3
      · obtain ⟨a, b⟩ := hW t h1 (by omega)
        exact ⟨by rw [f3 24 _ (SWg_no (by omega))]; exact a, fun w hw => by rw [f3 25 _ (SWg_no (by omega)), f3 26 _ (SWg_no (by omega)), f3 27 _ (SWg_no (by omega))]; exact b w hw⟩
  · intro M1 f1 hO hH
    refine gX4_workOut_6 ⟨fun c => ?_, fun _ => ?_⟩
    · rw [(plf f1).n hw] at c; omega
    refine dn (P := fun k => ∀ M' : Mem, Fr (rg 20 27) M M' → OrM g M' → (∀ a b, a < f ∨ (a = f ∧ b < k) → b < nF g → M' 21 (7 * a + b) = howF g a b ∧ M' 22 (7 * a + b) = slkF g a b) → OkV G miX4_workOut (d + 4) K 19 [some (.inr (.inr (some 19))), some (.inl (f : Int)), some (.inl (k : Int))] [] M') (nF g) ?_ (fun k hk ih2 => ?_) 0 (Nat.zero_le _) M1 f1 hO (fun a b ha hb => hH a b (by omega) hb)
    · intro M2 f2 hO2 hH2
      refine gX4_workOut_19 ⟨fun _ => ?_, fun c => ?_⟩
      · rw [w32n (by omega)]
        exact ih M2 f2 hO2 (fun a b ha hb => hH2 a b (by omega) hb)
      · rw [(plf f2).n hw] at c; omega
    · intro M2 f2 hO2 hH2
      refine gX4_workOut_19 ⟨fun c => ?_, fun _ => ?_⟩
      · rw [(plf f2).n hw] at c; omega
      refine c4_join (plf f2) hw rfl rfl hf hk (fun M3 f3 q1 q2 => ?_)
      rw [w32n (by omega)]
      refine ih2 M3 (f2.tr (f3.mo (fun c i hc => by have := rg_of hc; unfold SJ; simp; omega))) (fun i hi => by rw [f3 20 _ (by unfold SJ; simp)]; exact hO2 i hi) (fun a b ha hb => ?_)
      by_cases e : a = f ∧ b = k
      · obtain ⟨rfl, rfl⟩ := e; exact ⟨q1, q2⟩
      · rw [f3 21 _ (by unfold SJ; simp; omega), f3 22 _ (by unfold SJ; simp; omega)]
        exact hH2 a b (by omega) hb
end CLSD
