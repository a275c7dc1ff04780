/-! the reference: who is late -/
theorem wfold_last {g : Nat → Int} {s : Nat} : ∀ k w, wfold g s k = some w → w.2.1 = lastP g s k := by
  intro k
  induction k with
  | zero => intro w h; simp only [wfold, Option.some.injEq] at h; subst h; rfl
  | succ k ih =>
    intro w h
    cases hw0 : wfold g s k with
    | none => rw [wfold, hw0] at h; cases h
    | some w0 =>
      rw [wfold_succ hw0] at h
      rw [lastP]
      cases hb : s.testBit (oN g k) with
      | false => rw [wstep_no hb] at h; cases h; rw [if_neg (by decide)]; exact ih _ hw0
      | true =>
        rw [if_pos rfl]
        by_cases hc : wBad g (oN g k) (wY g (oN g k) w0) (wFi (oN g k) w0) (wSt g (oN g k) w0) (wLe g (oN g k) w0) (wDu g (oN g k) w0)
        · rw [wstep_bad hb hc] at h; cases h
        · rw [wstep_ok hb hc] at h; cases h; rfl
theorem wfold_some_le {g : Nat → Int} {s k m : Nat} {w : WSt} (h : wfold g s m = some w) (hk : k ≤ m) : ∃ w', wfold g s k = some w' := by
  cases h2 : wfold g s k with
  | some w' => exact ⟨w', rfl⟩
  | none => rw [wfold_none h2 hk] at h; cases h
/-- in a pairing each follows the one ahead -/
theorem pr_how {g : Nat → Int} {s : Nat} {w : WSt} (h : wfold g s (nF g) = some w) {k e : Nat} (hk : k < nF g) (hb : s.testBit (oN g k) = true) (hl : lastP g s k = (e : Int)) : howF g e (oN g k) ≠ 0 := by
  intro hz
  obtain ⟨w0, h0⟩ := wfold_some_le h (Nat.le_of_lt hk)
  have hl0 := wfold_last k w0 h0
  have hy : wY g (oN g k) w0 = 0 := by
    unfold wY; rw [hl0, hl, if_neg (by omega), Int.toNat_natCast]; exact hz
  have : wfold g s (k + 1) = none := by rw [wfold_succ h0]; exact wstep_bad hb (.inl hy)
  rw [wfold_none this hk] at h; cases h
theorem slkF_nn (g : Nat → Int) (f k : Nat) : 0 ≤ slkF g f k := by
  unfold slkF howF; (repeat' split) <;> omega
theorem slkF_le {g : Nat → Int} (hw : WF g) {f k : Nat} (hf : f < 7) (hk : k < 7) : slkF g f k ≤ 299 := by
  have h1 := hw.fl hf
  have h2 := hw.fl hk
  have ha : (g (8 + f)).toNat < 4 := by omega
  have hs := sitF_bd hw ha
  have hr := restF_bd hw ha
  unfold slkF; (repeat' split) <;> omega
def byI (g : Nat → Int) (i : Nat) : Nat := (byF g (bsI g i)).toNat
theorem byI_ok {g : Nat → Int} (hw : WF g) (hc : covB g) {i : Nat} (hi : i < (bestL g).length) : byF g (bsI g i) = (byI g i : Int) ∧ byI g i < 2 ^ nF g ∧ ∃ w, wfold g (byI g i) (nF g) = some w := by
  have hb := bsI_in hw hc hi
  obtain ⟨q, hq, hs, hlt, hcst⟩ := byF_ok hw hb.1 hb.2.2
  have e : byI g i = q := by unfold byI; rw [hq, Int.toNat_natCast]
  refine ⟨by rw [hq, e], by omega, ?_⟩
  rw [e]
  unfold cstF at hcst
  cases hp : prF g q with
  | none => rw [hp] at hcst; exact absurd hcst (by show ¬ (0 : Int) ≤ -1; decide)
  | some w => exact ⟨w, prF_fold hp⟩
def mxT (g : Nat → Int) (lt : Nat → Int) (k i : Nat) : Int := if linF g (byI g i) k < 0 then 0 else lt (linF g (byI g i) k).toNat - slkF g (linF g (byI g i) k).toNat (oN g k)
def mxF (g : Nat → Int) (lt : Nat → Int) (k : Nat) (v0 : Int) : Nat → Int
  | 0 => v0
  | i + 1 => if mxF g lt k v0 i < mxT g lt k i then mxT g lt k i else mxF g lt k v0 i
def ltT (g : Nat → Int) (own : Nat → Int) : Nat → Nat → Int
  | 0 => own
  | k + 1 => fup (ltT g own k) (oN g k) (mxF g (ltT g own k) k (ltT g own k (oN g k)) (bestL g).length)
def latV (g own : Nat → Int) (k : Nat) : Int := ltT g own (k + 1) (oN g k)
def latS (g own : Nat → Int) : Int := sumT (latV g own) (nF g)
def latB (g own : Nat → Int) : Nat → Nat
  | 0 => 0
  | k + 1 => if 0 < latV g own k then latB g own k ||| 2 ^ oN g k else latB g own k
def ownOK (g own : Nat → Int) : Prop := ∀ f, f < nF g → 0 ≤ own f ∧ own f ≤ 99
theorem linF_bd {g : Nat → Int} {s k : Nat} (hk : k ≤ nF g) : linF g s k = -1 ∨ ∃ j, j < k ∧ linF g s k = (oN g j : Int) ∧ s.testBit (oN g k) = true ∧ lastP g s k = (oN g j : Int) := by
  have : ∀ k, lastP g s k = -1 ∨ ∃ j, j < k ∧ lastP g s k = (oN g j : Int) := by
    intro k
    induction k with
    | zero => exact .inl rfl
    | succ k ih =>
      rw [lastP]; split
      · exact .inr ⟨k, by omega, rfl⟩
      · rcases ih with h | ⟨j, hj, h⟩
        · exact .inl h
        · exact .inr ⟨j, by omega, h⟩
  unfold linF
  cases hb : s.testBit (oN g k) with
  | false => exact .inl rfl
  | true =>
    rw [if_pos rfl]
    rcases this k with h | ⟨j, hj, h⟩
    · exact .inl h
    · exact .inr ⟨j, hj, h, rfl, h⟩
theorem ltT_bd {g own : Nat → Int} (hw : WF g) (hc : covB g) (ho : ownOK g own) : ∀ k, k ≤ nF g → ∀ f, f < nF g → 0 ≤ ltT g own k f ∧ ltT g own k f ≤ 99 := by
  intro k
  have hn := hw.n
  induction k with
  | zero => intro _; exact ho
  | succ k ih =>
    intro hk f hf
    have ih' := ih (by omega)
    have hok := oN_lt g (i := k) (by omega)
    have mx : ∀ i, i ≤ (bestL g).length → 0 ≤ mxF g (ltT g own k) k (ltT g own k (oN g k)) i ∧ mxF g (ltT g own k) k (ltT g own k (oN g k)) i ≤ 99 := by
      intro i
      induction i with
      | zero => intro _; exact ih' _ hok
      | succ i ihi =>
        intro hi
        have := ihi (by omega)
        rw [mxF]; split
        · rename_i h
          refine ⟨by omega, ?_⟩
          unfold mxT
          split
          · decide
          · rcases linF_bd (g := g) (s := byI g i) (k := k) (by omega) with e | ⟨j, hj, e, -⟩
            · omega
            · have h1 := ih' (oN g j) (oN_lt g (by omega))
              have h2 := slkF_nn g (oN g j) (oN g k)
              rw [e, Int.toNat_natCast]; omega
        · exact this
    rw [ltT]
    by_cases e : f = oN g k
    · subst e; rw [fup_at]; exact mx _ (Nat.le_refl _)
    · rw [fup_ne _ e]; exact ih' f hf
theorem or_pow_lt {a k : Nat} (ha : a < 128) (hk : k < 7) : a ||| 2 ^ k < 128 := Nat.or_lt_two_pow (n := 7) ha (Nat.pow_lt_pow_right (by decide) hk)
theorem latB_lt {g own : Nat → Int} (hw : WF g) : ∀ k, k ≤ nF g → latB g own k < 128 := by
  intro k
  have hn := hw.n
  induction k with
  | zero => intro _; unfold latB; decide
  | succ k ih =>
    intro hk
    have := ih (by omega)
    have := oN_lt g (i := k) (by omega)
    unfold latB; split
    · exact or_pow_lt (by omega) (by omega)
    · omega
def SL : Nat → Nat → Bool := fun c i => c == 70 || (c == 91 || (c == 66 && i == 37))
section REFI
variable {G : GE} {d : Nat} {M : Mem}
theorem SL67 {g : Nat → Int} (hg : M 67 = g) : ∀ {M' : Mem}, Fr SL M M' → M' 67 = g := fun hf => by rw [← hg]; funext i; exact hf 67 i rfl
theorem c11_noDelays {K : Mem → Prop} (h : ∀ o : Nat → Int, (∀ i, i < 7 → o i = 0) → K (mset M 90 o)) : CalV G miX11_noDelays d [.inr (.inr (some 66))] M K := by
  refine Cal.of (by decide) (Nat.le_of_ble_eq_true rfl) rfl (gX11_noDelays_0 ?_)
  have key := dn (P := fun k => ∀ o : Nat → Int, (∀ i, i < k → o i = 0) → OkV G miX11_noDelays d K 2 [some (.inr (.inr (some 66))), some (.inl (k : Int))] [] (mset M 90 o)) 7 (fun o ho => gX11_noDelays_2 ⟨fun _ => h o ho, fun c => absurd c (by omega)⟩) (fun k hk ih o ho => ?_) 0 (by omega)
  · have := key (M 90) (fun i hi => absurd hi (Nat.not_lt_zero _))
    rw [mset_self] at this; exact this
  · refine gX11_noDelays_2 ⟨fun c => absurd c (by omega), fun _ => ⟨by omega, ?_⟩⟩
    rw [w32n (by omega), mup_mset, mset_at, mset_mset, Int.toNat_natCast]
    refine ih _ (fun i hi => ?_)
    by_cases e : i = k
    · subst e; rw [fup_at]
    · rw [fup_ne _ e]; exact ho i (by omega)
theorem c11_allLate {K : Int → Mem → Prop} {g own : Nat → Int} (hg : M 67 = g) (hw : WF g) (hc : covB g) (ho : ownOK g own) (h69 : ∀ i, i < nF g → M 69 i = (oN g i : Int)) (h73 : ∀ s, s ≠ 0 → s < 2 ^ nF g → M 73 s = byF g s) (hcv : Cv g M) (h90 : ∀ f, f < nF g → M 90 f = own f) (h : ∀ M', Fr SL M M' → M' 66 37 = (latB g own (nF g) : Int) → K (latS g own) M') : CalI G miX11_allLate (d + 3) [.inr (.inr (some 66))] M K := by
  have hn := hw.n
  have hN := pow_le7 hn.2
  have hl := bestL_len g
  have sb : ∀ k, k ≤ nF g → 0 ≤ sumT (latV g own) k ∧ sumT (latV g own) k ≤ 693 := fun k hk => by
    have := sumT_bd (f := latV g own) (n := k) (B := 99) (fun i hi => by have := ltT_bd hw hc ho (i + 1) (by omega) (oN g i) (oN_lt g (by omega)); exact this)
    omega
  refine Cal.of (by decide) (Nat.le_of_ble_eq_true rfl) rfl (gX11_allLate_0 ?_)
  have key := dn (P := fun k => ∀ M' : Mem, Fr SL M M' → M' 66 37 = 0 → (∀ f, f < k → M' 91 f = own f) → OkI G miX11_allLate (d + 3) K 9 [some (.inr (.inr (some 66))), some (.inl 0), some (.inl (k : Int)), none, none, none, none, none] [] M') (nF g) ?_ (fun k hk ih => ?_) 0 (Nat.zero_le _)
  · exact key _ (Fr.up1 rfl) (mup_at _ _ _ _) (fun f hf => absurd hf (Nat.not_lt_zero _))
  · intro M' hf h37 h91
    refine gX11_allLate_9 ⟨fun _ => ?_, fun c => absurd c (by rw [SL67 hg hf]; omega)⟩
    refine dn (P := fun k => ∀ M' : Mem, Fr SL M M' → M' 66 37 = (latB g own k : Int) → (∀ f, f < nF g → M' 91 f = ltT g own k f) → OkI G miX11_allLate (d + 3) K 39 [some (.inr (.inr (some 66))), some (.inl (sumT (latV g own) k)), some (.inl (k : Int)), none, none, none, none, none] [] M') (nF g) ?_ (fun k hk ih => ?_) 0 (Nat.zero_le _) M' hf h37 h91
    · intro M' hf h37 h91
      exact gX11_allLate_39 ⟨fun _ => h M' hf h37, fun c => absurd c (by rw [SL67 hg hf]; omega)⟩
    · intro M' hf h37 h91
      have hok := oN_lt g hk
      have e69 : M' 69 (k : Int).toNat = (oN g k : Int) := by rw [Int.toNat_natCast, hf 69 k rfl]; exact h69 k hk
      refine gX11_allLate_39 ⟨fun c => absurd c (by rw [SL67 hg hf]; omega), fun _ => ⟨by omega, ?_⟩⟩
      rw [e69]
      refine dn (P := fun i => ∀ M' : Mem, Fr SL M M' → M' 66 37 = (latB g own k : Int) → (∀ f, f < nF g → M' 91 f = fup (ltT g own k) (oN g k) (mxF g (ltT g own k) k (ltT g own k (oN g k)) i) f) → OkI G miX11_allLate (d + 3) K 59 [some (.inr (.inr (some 66))), some (.inl (sumT (latV g own) k)), some (.inl (k : Int)), some (.inl (oN g k : Int)), some (.inl (i : Int)), none, none, none] [] M') (bestL g).length ?_ (fun i hi ihi => ?_) 0 (Nat.zero_le _) M' hf h37 (fun f hff => ?_)
      · -- all pairings seen
        intro M' hf h37 h91
        have hcv' : M' 66 14 = ((bestL g).length : Int) := by rw [hf 66 14 rfl]; exact hcv.1
        have e91 : M' 91 (oN g k : Int).toNat = latV g own k := by rw [Int.toNat_natCast, h91 _ hok]; rfl
        have vb : 0 ≤ latV g own k ∧ latV g own k ≤ 99 := ltT_bd hw hc ho (k + 1) (by omega) (oN g k) hok
        have s1 := sb k (by omega)
        have bl := latB_lt (own := own) hw k (by omega)
        refine gX11_allLate_59 ⟨fun _ => ⟨by omega, by omega, ?_⟩, fun c => absurd c (by rw [hcv']; omega)⟩
        rw [e91, w32n (by omega), w32_eq (by omega) (by omega), h37]
        have e37 : ior (latB g own k : Int) (if 0 < latV g own k then ishl 1 (oN g k : Int) else 0) = (latB g own (k + 1) : Int) := by
          conv => rhs; unfold latB
          have hp := pow_le7 (show oN g k ≤ 7 by omega)
          split
          · rw [ishl1 _ (by omega), iorN (by omega) (by omega)]
          · have := iorN (a := latB g own k) (b := 0) (by omega) (by decide)
            rw [Nat.or_zero] at this; exact this
        rw [e37]
        refine ih _ (hf.up rfl) (mup_at _ _ _ _) (fun f hff => ?_)
        rw [mup_ne (by decide), h91 f hff]; rfl
      · -- a pairing
        intro M' hf h37 h91
        have hcv' : M' 66 14 = ((bestL g).length : Int) := by rw [hf 66 14 rfl]; exact hcv.1
        have hb := bsI_in hw hc hi
        have e76 : M' 76 (i : Int).toNat = (bsI g i : Int) := by rw [Int.toNat_natCast, hf 76 i rfl, hcv.2 i hi]; rfl
        obtain ⟨y1, y2, w, y3⟩ := byI_ok hw hc hi
        have e73 : M' 73 (bsI g i : Int).toNat = (byI g i : Int) := by rw [Int.toNat_natCast, hf 73 _ rfl, h73 _ hb.1 hb.2.1, y1]
        refine gX11_allLate_59 ⟨fun c => absurd c (by rw [hcv']; omega), fun _ => ⟨by omega, ?_⟩⟩
        rw [e76]
        refine ⟨by omega, ?_⟩
        rw [e73]
        refine c11_lines (SL67 hg hf) hw (fun j hj => by rw [hf 69 j rfl]; exact h69 j hj) rfl (by omega) (fun a ha => ?_)
        have hf2 : Fr SL M (mset M' 70 a) := hf.ms (fun _ => rfl)
        have h91' : ∀ f, f < nF g → (mset M' 70 a) 91 f = fup (ltT g own k) (oN g k) (mxF g (ltT g own k) k (ltT g own k (oN g k)) i) f := fun f hff => by rw [mset_ne _ (by decide)]; exact h91 f hff
        have h37' : (mset M' 70 a) 66 37 = (latB g own k : Int) := by rw [mset_ne _ (by decide)]; exact h37
        have e70 : (mset M' 70 a) 70 (oN g k : Int).toNat = linF g (byI g i) k := by rw [mset_at, Int.toNat_natCast, ha k hk]
        -- the greater of two
        have fin : ∀ t : Int, t = mxT g (ltT g own k) k i → OkI G miX11_allLate (d + 3) K 120 [some (.inr (.inr (some 66))), some (.inl (sumT (latV g own) k)), some (.inl (k : Int)), some (.inl (oN g k : Int)), some (.inl (i : Int)), none, none, none] [.inl t] (mset M' 70 a) := by
          intro t ht
          have e91 : (mset M' 70 a) 91 (oN g k : Int).toNat = mxF g (ltT g own k) k (ltT g own k (oN g k)) i := by rw [Int.toNat_natCast, h91' _ hok, fup_at]
          refine gX11_allLate_120 ⟨by omega, fun c => ⟨by omega, ?_⟩, fun c => ?_⟩
          · rw [e91] at c ⊢
            refine gX11_allLate_149 ⟨by omega, ?_⟩
            rw [w32n (by omega), Int.toNat_natCast]
            refine ihi _ (hf2.up rfl) (by rw [mup_ne (by decide)]; exact h37') (fun f hff => ?_)
            by_cases e : f = oN g k
            · subst e; rw [mup_at, fup_at, mxF, if_neg (by omega)]
            · rw [mup_at_ne e, h91' f hff, fup_ne _ e, fup_ne _ e]
          · rw [e91] at c
            refine gX11_allLate_149 ⟨by omega, ?_⟩
            rw [w32n (by omega), Int.toNat_natCast]
            refine ihi _ (hf2.up rfl) (by rw [mup_ne (by decide)]; exact h37') (fun f hff => ?_)
            by_cases e : f = oN g k
            · subst e; rw [mup_at, fup_at, mxF, if_pos (by omega), ht]
            · rw [mup_at_ne e, h91' f hff, fup_ne _ e, fup_ne _ e]
        refine ⟨by omega, ?_⟩
        rw [e70]
        rcases linF_bd (g := g) (s := byI g i) (k := k) (by omega) with e | ⟨j, hj, e, hbit, hlast⟩
        · rw [e]
          exact ⟨fun _ => fin 0 (by unfold mxT; rw [e]; rfl), fun c => absurd c (by decide)⟩
        · rw [e]
          have hoj := oN_lt g (i := j) (by omega)
          have hne : oN g j ≠ oN g k := fun q => by have := oN_inj g (by omega) hk q; omega
          have hhow := pr_how y3 hk hbit hlast
          have lb := ltT_bd hw hc ho k (by omega) (oN g j) hoj
          have sn := slkF_nn g (oN g j) (oN g k)
          have sl := slkF_le hw (f := oN g j) (k := oN g k) (by omega) (by omega)
          refine ⟨fun c => absurd c (by omega), fun _ => ⟨by omega, ?_⟩⟩
          refine c11_slack (SL67 hg hf2) hw rfl rfl hoj (by omega) ?_
          have e91 : (mset M' 70 a) 91 (oN g j : Int).toNat = ltT g own k (oN g j) := by rw [Int.toNat_natCast, h91' _ hoj, fup_ne _ hne]
          rw [slk0_F hhow, e91, w32_eq (by omega) (by omega)]
          refine fin _ ?_
          unfold mxT; rw [e, if_neg (by omega), Int.toNat_natCast]
      · rw [h91 f hff]
        by_cases e : f = oN g k
        · subst e; rw [fup_at]; rfl
        · rw [fup_ne _ e]
  · intro M' hf h37 h91
    refine gX11_allLate_9 ⟨fun c => absurd c (by rw [SL67 hg hf]; omega), fun _ => ⟨by omega, by omega, ?_⟩⟩
    rw [w32n (by omega), Int.toNat_natCast, hf 90 k rfl, h90 k hk]
    refine ih _ (hf.up rfl) (by rw [mup_ne (by decide)]; exact h37) (fun f hff => ?_)
    by_cases e : f = k
    · subst e; rw [mup_at]
    · rw [mup_at_ne e]; exact h91 f (by omega)
end REFI
