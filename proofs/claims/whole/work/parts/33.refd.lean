/-! the reference: what a set costs -/
theorem mul_bd {a b A B : Int} (ha : 0 ≤ a ∧ a ≤ A) (hb : 0 ≤ b ∧ b ≤ B) : 0 ≤ a * b ∧ a * b ≤ A * B := ⟨Int.mul_nonneg ha.1 hb.1, Int.mul_le_mul ha.2 hb.2 hb.1 (by omega)⟩
theorem wstep_no {g : Nat → Int} {s h : Nat} (hb : s.testBit h = false) (w : WSt) : wstep g s h w = some w := by unfold wstep; rw [if_neg (by rw [hb]; decide)]
def wBad (g : Nat → Int) (h : Nat) (y fi st le du : Int) : Prop := y = 0 ∨ legsF g (g (1 + fi.toNat)).toNat < le ∨ spanF g (g (1 + fi.toNat)).toNat < g (22 + h) - st ∨ dutF g (g (1 + fi.toNat)).toNat < du
def wY (g : Nat → Int) (h : Nat) (w : WSt) : Int := if w.2.1 < 0 then 2 else howF g w.2.1.toNat h
def wFi (h : Nat) (w : WSt) : Int := if w.2.1 < 0 then (h : Int) else w.1
def wSt (g : Nat → Int) (h : Nat) (w : WSt) : Int := if wY g h w = 2 then g (15 + h) else w.2.2.1
def wLe (g : Nat → Int) (h : Nat) (w : WSt) : Int := if wY g h w = 2 then 1 else w.2.2.2.1 + 1
def wDu (g : Nat → Int) (h : Nat) (w : WSt) : Int := if wY g h w = 2 then w.2.2.2.2.1 + 1 else w.2.2.2.2.1
def wTi (g : Nat → Int) (h : Nat) (w : WSt) : Int := if 0 ≤ w.2.1 ∧ tgtB g w.2.1.toNat h = true then w.2.2.2.2.2 + 1 else w.2.2.2.2.2
theorem wstep_bad {g : Nat → Int} {s h : Nat} (hb : s.testBit h = true) {w : WSt} (hc : wBad g h (wY g h w) (wFi h w) (wSt g h w) (wLe g h w) (wDu g h w)) : wstep g s h w = none := by unfold wstep; rw [if_pos hb]; exact if_pos hc
theorem wstep_ok {g : Nat → Int} {s h : Nat} (hb : s.testBit h = true) {w : WSt} (hc : ¬ wBad g h (wY g h w) (wFi h w) (wSt g h w) (wLe g h w) (wDu g h w)) : wstep g s h w = some (wFi h w, (h : Int), wSt g h w, wLe g h w, wDu g h w, wTi g h w) := by unfold wstep; rw [if_pos hb]; exact if_neg hc
theorem wfold_succ {g : Nat → Int} {s k : Nat} {w : WSt} (h : wfold g s k = some w) : wfold g s (k + 1) = wstep g s (oN g k) w := by rw [wfold, h]; rfl
theorem wfold_none {g : Nat → Int} {s : Nat} : ∀ {k m : Nat}, wfold g s k = none → k ≤ m → wfold g s m = none := by
  intro k m h hm
  induction m with
  | zero => have : k = 0 := by omega
            subst this; exact h
  | succ m ih =>
    by_cases e : k = m + 1
    · subst e; exact h
    · rw [wfold, ih (by omega)]; rfl
/-- what the state of a walk is like -/
def wInv (g : Nat → Int) (s k : Nat) (w : WSt) : Prop := (w = (-1, -1, 0, 0, 0, 0) ∧ ∀ i, i < k → s.testBit (oN g i) = false) ∨ ∃ i j : Nat, i ≤ j ∧ j < k ∧ w.1 = (oN g i : Int) ∧ w.2.1 = (oN g j : Int) ∧ s.testBit (oN g i) = true ∧ s.testBit (oN g j) = true ∧ (0 ≤ w.2.2.1 ∧ w.2.2.1 ≤ 299) ∧ (1 ≤ w.2.2.2.1 ∧ w.2.2.2.1 ≤ k) ∧ (1 ≤ w.2.2.2.2.1 ∧ w.2.2.2.2.1 ≤ k) ∧ (0 ≤ w.2.2.2.2.2 ∧ w.2.2.2.2.2 ≤ k)
theorem wfold_inv {g : Nat → Int} (hw : WF g) (s : Nat) : ∀ k, k ≤ nF g → ∀ w, wfold g s k = some w → wInv g s k w := by
  intro k
  have hn := hw.n
  induction k with
  | zero => intro _ w h; simp only [wfold, Option.some.injEq] at h; subst h; exact .inl ⟨rfl, fun i hi => absurd hi (Nat.not_lt_zero _)⟩
  | succ k ih =>
    intro hk w h
    cases hw0 : wfold g s k with
    | none => rw [wfold, hw0] at h; cases h
    | some w0 =>
      rw [wfold_succ hw0] at h
      have hi := ih (by omega) w0 hw0
      have hlt := oN_lt g (i := k) (by omega)
      have hd := hw.fl (i := oN g k) (by omega)
      cases hb : s.testBit (oN g k) with
      | false =>
        rw [wstep_no hb] at h
        cases h
        rcases hi with ⟨e, hz⟩ | ⟨i, j, h1, h2, h3⟩
        · refine .inl ⟨e, fun i hi => ?_⟩
          by_cases e2 : i = k
          · subst e2; exact hb
          · exact hz i (by omega)
        · exact .inr ⟨i, j, h1, by omega, h3.1, h3.2.1, h3.2.2.1, h3.2.2.2.1, h3.2.2.2.2.1, by omega, by omega, by omega⟩
      | true =>
        by_cases hc : wBad g (oN g k) (wY g (oN g k) w0) (wFi (oN g k) w0) (wSt g (oN g k) w0) (wLe g (oN g k) w0) (wDu g (oN g k) w0)
        · rw [wstep_bad hb hc] at h; cases h
        · rw [wstep_ok hb hc] at h
          cases h
          rcases hi with ⟨e, hz⟩ | ⟨i, j, h1, h2, h3⟩
          · subst e
            refine .inr ⟨k, k, Nat.le_refl _, by omega, ?_, rfl, hb, hb, ?_, ?_, ?_, ?_⟩
            · simp [wFi]
            · simp [wSt, wY]; omega
            · simp [wLe, wY]; omega
            · simp [wDu, wY]; omega
            · simp [wTi]; omega
          · refine .inr ⟨i, k, by omega, by omega, ?_, rfl, h3.2.2.1, hb, ?_, ?_, ?_, ?_⟩
            · simp only [wFi]; rw [if_neg (by omega)]; exact h3.1
            · simp only [wSt]; split <;> omega
            · simp only [wLe]; split <;> omega
            · simp only [wDu]; split <;> omega
            · simp only [wTi]; split <;> omega
theorem wend_la {g : Nat → Int} (hw : WF g) {s : Nat} (h0 : s ≠ 0) (hs : s < 2 ^ nF g) {w : WSt} (h : wfold g s (nF g) = some w) : 0 ≤ w.2.1 := by
  rcases wfold_inv hw s _ (Nat.le_refl _) w h with ⟨e, hz⟩ | ⟨i, j, h1, h2, h3⟩
  · exfalso
    apply h0
    refine Nat.eq_of_testBit_eq (fun f => ?_)
    rw [Nat.zero_testBit]
    rcases Nat.lt_or_ge f (nF g) with hf | hf
    · obtain ⟨i, hi, rfl⟩ := oN_sur g hf; exact hz i hi
    · exact Nat.testBit_lt_two_pow (Nat.lt_of_lt_of_le hs (Nat.pow_le_pow_right (by decide) hf))
  · omega
theorem oN_depm {g : Nat → Int} {i j : Nat} (h : i ≤ j) (hj : j < nF g) : g (15 + oN g i) ≤ g (15 + oN g j) := by
  rcases Nat.eq_or_lt_of_le h with e | e
  · subst e; exact Int.le_refl _
  · have := (ordF_ord g).2.1 i j e hj; unfold oN; simp only at this; omega
theorem prCost_bd {g : Nat → Int} (hw : WF g) {s : Nat} {w : WSt} (h : wfold g s (nF g) = some w) (h0 : 0 ≤ w.2.1) : (0 ≤ prCost g w ∧ prCost g w ≤ 4200) ∧ (0 ≤ g 87 * w.2.2.2.2.1 ∧ g 87 * w.2.2.2.2.1 ≤ 99 * 7) ∧ (0 ≤ g 88 * (g (22 + w.2.1.toNat) - g (15 + w.1.toNat)) ∧ g 88 * (g (22 + w.2.1.toNat) - g (15 + w.1.toNat)) ≤ 9 * 299) ∧ (0 ≤ g 89 * w.2.2.2.2.2 ∧ g 89 * w.2.2.2.2.2 ≤ 99 * 7) := by
  have hn := hw.n
  rcases wfold_inv hw s _ (Nat.le_refl _) w h with ⟨e, hz⟩ | ⟨i, j, h1, h2, h3, h4, -, -, h5, h6, h7, h8⟩
  · subst e; exact absurd h0 (by decide)
  · have hfe := hw.fe
    have hi := oN_lt g (i := i) (by omega)
    have hj := oN_lt g (i := j) (by omega)
    have di := hw.fl (i := oN g i) (by omega)
    have dj := hw.fl (i := oN g j) (by omega)
    have dt := hw.ft hj
    have dm := oN_depm h1 h2
    have e1 : w.1.toNat = oN g i := by omega
    have e2 : w.2.1.toNat = oN g j := by omega
    have a1 := mul_bd hfe.1 (show 0 ≤ w.2.2.2.2.1 ∧ w.2.2.2.2.1 ≤ 7 by omega)
    have a2 := mul_bd hfe.2.1 (show 0 ≤ g (22 + w.2.1.toNat) - g (15 + w.1.toNat) ∧ g (22 + w.2.1.toNat) - g (15 + w.1.toNat) ≤ 299 by rw [e1, e2]; omega)
    have a3 := mul_bd hfe.2.2.1 (show 0 ≤ w.2.2.2.2.2 ∧ w.2.2.2.2.2 ≤ 7 by omega)
    refine ⟨?_, a1, a2, a3⟩
    unfold prCost
    omega
def SC : Nat → Nat → Bool := fun c i => c == 70 || (c == 66 && (i == 5 || (i == 6 || i == 7)))
section REFD
variable {G : GE} {d : Nat} {M : Mem} {K : Int → Mem → Prop}
theorem c11_costOf {g : Nat → Int} {v : Int} {s : Nat} (hg : M 67 = g) (hw : WF g) (ho : ∀ i, i < nF g → M 69 i = (oN g i : Int)) (e : v = (s : Int)) (h0 : s ≠ 0) (hs : s < 2 ^ nF g) (h : ∀ M', Fr SC M M' → (∀ w, prF g s = some w → M' 66 5 = w.2.2.2.2.1 ∧ M' 66 6 = w.2.2.2.2.2 ∧ M' 66 7 = g (1 + w.1.toNat)) → K (cstF g s) M') : CalI G miX11_costOf (d + 4) [.inr (.inr (some 66)), .inl v] M K := by
  have hn := hw.n
  have hs7 : s < 128 := Nat.lt_of_lt_of_le hs (pow_le7 hn.2)
  subst e
  refine Cal.of (by decide) (Nat.le_of_ble_eq_true rfl) rfl (gX11_costOf_0 ?_)
  refine c11_lines hg hw ho rfl hs7 (fun a ha => ?_)
  have frg : ∀ {M' : Mem}, Fr SC M M' → M' 67 = g := fun hf => by rw [← hg]; funext i; exact hf 67 i rfl
  have fro : ∀ {M' : Mem}, Fr SC M M' → ∀ i, i < nF g → M' 69 i = (oN g i : Int) := fun hf i hi => by rw [hf 69 i rfl]; exact ho i hi
  have nope : prF g s = none → ∀ M', Fr SC M M' → K (-1) M' := fun hp M' hf => by
    have := h M' hf (fun w hw => by rw [hp] at hw; cases hw)
    unfold cstF at this; rw [hp] at this; exact this
  have noneAt : ∀ k, k ≤ nF g → wfold g s k = none → prF g s = none := fun k hk hz => by unfold prF; rw [wfold_none hz hk]
  have key := dn (P := fun k => ∀ (M' : Mem) (w : WSt), wfold g s k = some w → Fr SC M M' → (∀ j, j < nF g → M' 70 (oN g j) = linF g s j) → M' 66 5 = w.2.2.2.2.1 → M' 66 6 = w.2.2.2.2.2 → (0 ≤ w.2.1 → M' 66 7 = g (1 + w.1.toNat)) → OkI G miX11_costOf (d + 4) K 28 [some (.inr (.inr (some 66))), some (.inl (s : Int)), some (.inl w.1), some (.inl w.2.1), some (.inl w.2.2.2.1), some (.inl w.2.2.1), some (.inl (k : Int)), none, none] [] M') (nF g) ?_ ?_ 0 (by omega)
  · refine key _ (-1, -1, 0, 0, 0, 0) rfl ?_ ?_ ?_ ?_ ?_
    · exact (((Fr.rf.ms (fun _ => rfl)).up rfl).up rfl)
    · intro j hj; rw [mup_ne (by decide), mup_ne (by decide), mset_at]; exact ha j hj
    · rw [mup_at_ne (by decide), mup_at]
    · rw [mup_at]
    · intro c; exact absurd c (by decide)
  · -- the end
    intro M' w hwf hf h70 h5 h6 h7
    have h67 := frg hf
    have hla := wend_la hw h0 hs hwf
    have h7' := h7 hla
    have bd := prCost_bd hw hwf hla
    rcases wfold_inv hw s _ (Nat.le_refl _) w hwf with ⟨e, hz⟩ | ⟨i, j, q1, q2, q3, q4, -, -, q5, q6, q7, q8⟩
    · subst e; exact absurd hla (by decide)
    have hi := oN_lt g (i := i) (by omega)
    have hj := oN_lt g (i := j) (by omega)
    have di := hw.fl (i := oN g i) (by omega)
    have dj := hw.fl (i := oN g j) (by omega)
    have e1 : w.1.toNat = oN g i := by omega
    have e2 : w.2.1.toNat = oN g j := by omega
    have hbs := hw.bs
    refine gX11_costOf_28 ⟨fun _ => ?_, fun c => ?_⟩
    · rw [h67, h7']
      have pe : ∀ b : Bool, prEnd g w = b → prF g s = (if b then some w else none) := fun b hb => by unfold prF; rw [hwf]; simp only; rw [hb]
      refine c11_has (s := (g 86).toNat) (k := (g (1 + w.1.toNat)).toNat) (by omega) (by rw [e1]; omega) (by omega) (by rw [e1]; omega) (fun b => b1 ⟨by omega, ?_⟩) (fun b => b0 ?_)
      · rw [show (8 + w.2.1).toNat = 8 + w.2.1.toNat by omega, h67, h7']
        refine ⟨fun c => nope ?_ M' hf, fun c => ?_⟩
        · rw [pe false (by unfold prEnd; simp [c])]; rfl
        · have pw := pe true (by unfold prEnd; simp [c, b, hla])
          refine c11_isMarked h67 hw rfl hs7 h70 ?_
          have hK := h M' hf (fun w' hw' => by rw [pw] at hw'; cases hw'; exact ⟨h5, h6, h7'⟩)
          unfold cstF at hK
          rw [pw] at hK
          cases hsu : suitB g s with
          | false => rw [hsu] at hK; exact n0 hK
          | true =>
            rw [hsu] at hK
            refine n1 ⟨by omega, by omega, ?_⟩
            rw [show (22 + w.2.1).toNat = 22 + w.2.1.toNat by omega, show (15 + w.1).toNat = 15 + w.1.toNat by omega, h67, h5, h6, w32_eq (by omega) (by omega)]
            exact hK
      · refine nope ?_ M' hf
        rw [pe false (by unfold prEnd; simp [b])]; rfl
    · rw [h67] at c; omega
  · -- a flight
    intro k hk ih M' w hwf hf h70 h5 h6 h7
    have h67 := frg hf
    have h69 := fro hf
    have hlt := oN_lt g hk
    have dk := hw.fl (i := oN g k) (by omega)
    have ek : M' 69 (k : Int).toNat = (oN g k : Int) := by rw [Int.toNat_natCast]; exact h69 k hk
    have hinv := wfold_inv hw s k (by omega) w hwf
    refine gX11_costOf_28 ⟨fun c => ?_, fun _ => ⟨by omega, ?_⟩⟩
    · rw [h67] at c; omega
    rw [ek]
    generalize hh : oN g k = f at *
    have hf7 : f < 7 := by omega
    cases hb : s.testBit f with
    | false =>
      refine c11_has rfl rfl hs7 (by omega) (fun b => absurd b (by rw [hb]; decide)) (fun _ => n0 ?_)
      rw [w32n (by omega)]
      exact ih M' w (by rw [wfold_succ hwf, hh, wstep_no hb]) hf h70 h5 h6 h7
    | true =>
      refine c11_has rfl rfl hs7 (by omega) (fun _ => n1 ?_) (fun b => absurd b (by rw [hb]; decide))
      have wsu : wfold g s (k + 1) = wstep g s f w := by rw [wfold_succ hwf, hh]
      -- the tests at the end of a step
      have t185 : ∀ M2, Fr SC M M2 → (∀ j, j < nF g → M2 70 (oN g j) = linF g s j) → M2 66 5 = wDu g f w → M2 66 6 = wTi g f w → M2 66 7 = g (1 + (wFi f w).toNat) → (0 ≤ wFi f w ∧ wFi f w < 7) → (0 ≤ wSt g f w ∧ wSt g f w ≤ 299) → OkI G miX11_costOf (d + 4) K 185 [some (.inr (.inr (some 66))), some (.inl (s : Int)), some (.inl (wFi f w)), none, some (.inl (wLe g f w)), none, some (.inl (k : Int)), some (.inl (f : Int)), some (.inl (wY g f w))] [.inl (wSt g f w)] M2 := by
        intro M2 f2 a70 a5 a6 a7 hfi hst
        have a67 := frg f2
        obtain ⟨fi, hfi'⟩ : ∃ fi : Nat, wFi f w = (fi : Int) := ⟨(wFi f w).toNat, by omega⟩
        have dfi := hw.fl (i := fi) (by omega)
        have ha : (g (1 + fi)).toNat < 4 := by omega
        have hfn : (wFi f w).toNat = fi := by omega
        rw [hfn] at a7
        have ea : M2 66 7 = ((g (1 + fi)).toNat : Int) := by omega
        have bad : wBad g f (wY g f w) (wFi f w) (wSt g f w) (wLe g f w) (wDu g f w) → K (-1) M2 := fun hbad => nope (noneAt (k + 1) (by omega) (by rw [wsu, wstep_bad hb hbad])) M2 f2
        unfold wBad at bad
        rw [hfn] at bad
        refine gX11_costOf_185 ⟨fun c => bad (.inl c), fun c => ?_⟩
        refine c11_legs a67 ea ha ⟨fun c2 => bad (.inr (.inl c2)), fun c2 => ⟨by omega, ?_⟩⟩
        refine c11_span a67 hw ea ha ?_
        rw [show (22 + (f : Int)).toNat = 22 + f by omega, a67, w32_eq (by omega) (by omega)]
        refine ⟨fun c3 => bad (.inr (.inr (.inl c3))), fun c3 => ?_⟩
        refine c11_duties a67 ea ha ?_
        rw [a5]
        refine ⟨fun c4 => ?_, fun c4 => bad (.inr (.inr (.inr c4)))⟩
        rw [w32n (by omega)]
        refine ih M2 (wFi f w, (f : Int), wSt g f w, wLe g f w, wDu g f w, wTi g f w) ?_ f2 a70 a5 a6 (fun _ => by rw [hfn, a7])
        rw [wsu, wstep_ok hb]
        unfold wBad
        rw [hfn]; omega
      have frb : ∀ x y z, Fr SC M (mup (mup (mup M' 66 7 x) 66 6 y) 66 5 z) := fun x y z => ((hf.up rfl).up rfl).up rfl
      have m70 : ∀ x y z : Int, ∀ j, j < nF g → (mup (mup (mup M' 66 7 x) 66 6 y) 66 5 z) 70 (oN g j) = linF g s j := fun x y z j hj => by rw [mup_ne (by decide), mup_ne (by decide), mup_ne (by decide)]; exact h70 j hj
      have r5 : ∀ x y z : Int, (mup (mup (mup M' 66 7 x) 66 6 y) 66 5 z) 66 5 = z := fun x y z => mup_at _ _ _ _
      have r6 : ∀ x y z : Int, (mup (mup (mup M' 66 7 x) 66 6 y) 66 5 z) 66 6 = y := fun x y z => by rw [mup_at_ne (by decide), mup_at]
      have r7 : ∀ x y z : Int, (mup (mup (mup M' 66 7 x) 66 6 y) 66 5 z) 66 7 = x := fun x y z => by rw [mup_at_ne (by decide), mup_at_ne (by decide), mup_at]
      have r67 : ∀ x y z : Int, (mup (mup (mup M' 66 7 x) 66 6 y) 66 5 z) 67 = g := fun x y z => by rw [mup_ne (by decide), mup_ne (by decide), mup_ne (by decide), h67]
      have p6 : ∀ x : Int, (mup M' 66 7 x) 66 6 = w.2.2.2.2.2 := fun x => by rw [mup_at_ne (by decide), h6]
      have p5 : ∀ x y : Int, (mup (mup M' 66 7 x) 66 6 y) 66 5 = w.2.2.2.2.1 := fun x y => by rw [mup_at_ne (by decide), mup_at_ne (by decide), h5]
      rcases hinv with ⟨ew, -⟩ | ⟨i, j, q1, q2, q3, q4, -, -, q5, q6, q7, q8⟩
      · -- the first
        have hyw : wY g f w = 2 := by rw [ew]; simp [wY]
        have hfw : wFi f w = (f : Int) := by rw [ew]; simp [wFi]
        have hsw : wSt g f w = g (15 + f) := by simp [wSt, hyw]
        have hlw : wLe g f w = 1 := by simp [wLe, hyw]
        have hdw : wDu g f w = 1 := by simp only [wDu, hyw, if_pos]; rw [ew]; rfl
        have htw : wTi g f w = 0 := by rw [ew]; simp [wTi]
        have hz : w.2.1 < 0 := by rw [ew]; decide
        have hw6 : w.2.2.2.2.2 = 0 := by rw [ew]
        have hw5 : w.2.2.2.2.1 = 0 := by rw [ew]
        refine ⟨fun c => absurd c (by omega), fun _ => ?_⟩
        refine gX11_costOf_75 ?_
        rw [if_pos hz]
        refine ⟨by omega, fun _ => ?_, fun c => absurd c (by omega)⟩
        refine gX11_costOf_123 ⟨fun c => absurd rfl c, fun _ => ⟨by omega, ?_⟩⟩
        rw [p6, p5, hw6, hw5, h67, r67, show (15 + (f : Int)).toNat = 15 + f by omega, show (1 + (f : Int)).toNat = 1 + f by omega, show w32 (0 + 0) = 0 by decide, if_pos rfl, if_pos rfl, show w32 (0 + 1) = 1 by decide]
        have := t185 (mup (mup (mup M' 66 7 (g (1 + f))) 66 6 0) 66 5 1) (frb _ _ _) (m70 _ _ _) (by rw [r5, hdw]) (by rw [r6, htw]) (by rw [r7, hfw, Int.toNat_natCast]) (by omega) (by omega)
        rw [hyw, hfw, hsw, hlw] at this
        exact this
      · -- a later one
        have hi := oN_lt g (i := i) (by omega)
        have hj := oN_lt g (i := j) (by omega)
        have ela : w.2.1.toNat = oN g j := by omega
        have hyw : wY g f w = howF g (oN g j) f := by simp only [wY]; rw [if_neg (by omega), ela]
        have hfw : wFi f w = w.1 := by simp only [wFi]; rw [if_neg (by omega)]
        have efi : (1 + w.1).toNat = 1 + w.1.toNat := by omega
        refine ⟨fun _ => ?_, fun c => absurd c (by omega)⟩
        refine c11_followsBy h67 hw q4 rfl hj hf7 ?_
        refine gX11_costOf_75 ?_
        rw [if_neg (by omega)]
        refine ⟨by omega, fun c => absurd c (by omega), fun _ => ?_⟩
        rw [h67, efi]
        have fin : ∀ x2 : Int, x2 = (if tgtB g (oN g j) f then 1 else 0) → ((¬ howF g (oN g j) f = 2 → OkI G miX11_costOf (d + 4) K 185 [some (.inr (.inr (some 66))), some (.inl (s : Int)), some (.inl w.1), none, some (.inl (if howF g (oN g j) f = 2 then (1 : Int) else w32 (w.2.2.2.1 + 1))), none, some (.inl (k : Int)), some (.inl (f : Int)), some (.inl (howF g (oN g j) f))] [.inl w.2.2.1] (mup (mup (mup M' 66 7 (g (1 + w.1.toNat))) 66 6 (w32 (((mup M' 66 7 (g (1 + w.1.toNat))) 66 6) + (if ¬ (x2 = 0) then (1 : Int) else 0)))) 66 5 (w32 (((mup (mup M' 66 7 (g (1 + w.1.toNat))) 66 6 (w32 (((mup M' 66 7 (g (1 + w.1.toNat))) 66 6) + (if ¬ (x2 = 0) then (1 : Int) else 0)))) 66 5) + (if howF g (oN g j) f = 2 then (1 : Int) else 0))))) ∧ (howF g (oN g j) f = 2 → (0 ≤ 15 + (f : Int) ∧ 15 + (f : Int) < 92) ∧ OkI G miX11_costOf (d + 4) K 185 [some (.inr (.inr (some 66))), some (.inl (s : Int)), some (.inl w.1), none, some (.inl (if howF g (oN g j) f = 2 then (1 : Int) else w32 (w.2.2.2.1 + 1))), none, some (.inl (k : Int)), some (.inl (f : Int)), some (.inl (howF g (oN g j) f))] [.inl ((mup (mup (mup M' 66 7 (g (1 + w.1.toNat))) 66 6 (w32 (((mup M' 66 7 (g (1 + w.1.toNat))) 66 6) + (if ¬ (x2 = 0) then (1 : Int) else 0)))) 66 5 (w32 (((mup (mup M' 66 7 (g (1 + w.1.toNat))) 66 6 (w32 (((mup M' 66 7 (g (1 + w.1.toNat))) 66 6) + (if ¬ (x2 = 0) then (1 : Int) else 0)))) 66 5) + (if howF g (oN g j) f = 2 then (1 : Int) else 0)))) 67 (15 + (f : Int)).toNat)] (mup (mup (mup M' 66 7 (g (1 + w.1.toNat))) 66 6 (w32 (((mup M' 66 7 (g (1 + w.1.toNat))) 66 6) + (if ¬ (x2 = 0) then (1 : Int) else 0)))) 66 5 (w32 (((mup (mup M' 66 7 (g (1 + w.1.toNat))) 66 6 (w32 (((mup M' 66 7 (g (1 + w.1.toNat))) 66 6) + (if ¬ (x2 = 0) then (1 : Int) else 0)))) 66 5) + (if howF g (oN g j) f = 2 then (1 : Int) else 0)))))) := by
          intro x2 hx2
          rw [p6, p5, r67, show (15 + (f : Int)).toNat = 15 + f by omega]
          have t6 : w32 (w.2.2.2.2.2 + (if ¬ (x2 = 0) then (1 : Int) else 0)) = wTi g f w := by
            rw [hx2]; simp only [wTi]; rw [ela]
            cases htg : tgtB g (oN g j) f
            · simp; exact w32_eq (by omega) (by omega)
            · rw [if_pos (show 0 ≤ w.2.1 ∧ true = true from ⟨by omega, rfl⟩)]; simp; exact w32_eq (by omega) (by omega)
          have t5 : w32 (w.2.2.2.2.1 + (if howF g (oN g j) f = 2 then (1 : Int) else 0)) = wDu g f w := by
            simp only [wDu, hyw]; split <;> exact w32_eq (by omega) (by omega) |>.trans (by omega)
          have t4 : (if howF g (oN g j) f = 2 then (1 : Int) else w32 (w.2.2.2.1 + 1)) = wLe g f w := by
            simp only [wLe, hyw]; split
            · rfl
            · exact w32_eq (by omega) (by omega)
          rw [t6, t5, t4]
          have hst : 0 ≤ wSt g f w ∧ wSt g f w ≤ 299 := by simp only [wSt]; split <;> omega
          have T := t185 (mup (mup (mup M' 66 7 (g (1 + w.1.toNat))) 66 6 (wTi g f w)) 66 5 (wDu g f w)) (frb _ _ _) (m70 _ _ _) (r5 _ _ _) (r6 _ _ _) (by rw [r7, hfw]) (by omega) hst
          rw [hfw, hyw] at T
          refine ⟨fun c => ?_, fun c => ⟨by omega, ?_⟩⟩
          · have : wSt g f w = w.2.2.1 := by simp only [wSt, hyw]; rw [if_neg c]
            rw [this] at T; exact T
          · have : wSt g f w = g (15 + f) := by simp only [wSt, hyw]; rw [if_pos c]
            rw [this] at T; exact T
        refine c11_isTight (g := g) (by rw [mup_ne (by decide), h67]) hw q4 rfl hj hf7 (fun b => ?_) (fun b => ?_)
        · exact fin 1 (by rw [b]; rfl)
        · exact fin 0 (by rw [b]; rfl)
end REFD
