/-! the reference: all labels, the way -/
theorem foldK_base (g : Nat → Int) (f : Nat) (A : List Lb) : ∀ (K : List Lb) (a b : Nat), (A.foldl (stepK g f) (K, a + b)) = ((A.foldl (stepK g f) (K, b)).1, a + (A.foldl (stepK g f) (K, b)).2) := by
  induction A with
  | nil => intro K a b; rfl
  | cons c A ih =>
    intro K a b
    rw [List.foldl_cons, List.foldl_cons]
    have e : stepK g f (K, a + b) c = ((stepK g f (K, b) c).1, a + (stepK g f (K, b) c).2) := by
      unfold stepK; split
      · simp only; rw [Nat.add_assoc]
      · rfl
    rw [e, ih]
theorem foldK_tot (g : Nat → Int) (f : Nat) : ∀ (A : List Lb) (r : List Lb × Nat), (A.foldl (stepK g f) r).1.length + (A.foldl (stepK g f) r).2 ≤ r.1.length + r.2 + A.length := by
  intro A
  induction A with
  | nil => intro r; exact Nat.le_refl _
  | cons c A ih =>
    intro r
    rw [List.foldl_cons, List.length_cons]
    have h := ih (stepK g f r c)
    have : (stepK g f r c).1.length + (stepK g f r c).2 ≤ r.1.length + r.2 + 1 := by
      unfold stepK; split
      · have := (insL_len r.1 c).2; simp only; omega
      · omega
    omega
/-- kept and dropped at a place, above what was dropped before -/
def accL (g p : Nat → Int) (k : Nat) (A : List Lb) : List Lb × Nat := A.foldl (stepK g (oN g k)) ([], dropS g p k)
theorem dropS_le (g p : Nat → Int) : ∀ k, dropS g p k + 1 ≤ 2 ^ k := by
  intro k
  induction k with
  | zero => exact Nat.le_refl _
  | succ k ih =>
    rw [dropS]
    have h1 := foldK_tot g (oN g k) (arrL g p k k) ([], 0)
    have h2 := (arr_len g p k).2 k (Nat.le_refl _)
    have h3 := two_pow_sum k
    have h4 : dropC g p k ≤ (arrL g p k k).length := by unfold dropC foldK; simp only [List.length_nil] at h1; omega
    omega
theorem accL_end (g p : Nat → Int) (k : Nat) : accL g p k (arrL g p k k) = (keptL g p k, dropS g p (k + 1)) := by
  unfold accL
  have := foldK_base g (oN g k) (arrL g p k k) [] (dropS g p k) 0
  rw [Nat.add_zero] at this
  rw [this, keptL_eq]; rfl
theorem accL_snoc (g p : Nat → Int) (k : Nat) (A : List Lb) (c : Lb) : accL g p k (A ++ [c]) = stepK g (oN g k) (accL g p k A) c := by unfold accL; rw [List.foldl_append]; rfl
theorem accL_bd (g p : Nat → Int) {k : Nat} (hk : k ≤ 7) (A : List Lb) : (accL g p k A).1.length ≤ A.length ∧ (accL g p k A).2 ≤ 128 + A.length := by
  have h1 := foldK_len g (oN g k) A ([], dropS g p k)
  have h2 := foldK_tot g (oN g k) A ([], dropS g p k)
  have h3 := dropS_le g p k
  have h4 := pow_le7 hk
  unfold accL
  simp only [List.length_nil] at h1 h2
  omega
def SY : Nat → Nat → Bool := fun c i => c == 69 || (c == 84 || (c == 85 || (c == 86 || (c == 87 || (c == 88 || (c == 89 || (c == 66 && (i == 33 || i == 34))))))))
theorem SS_SY (f : Nat) : ∀ c i, SY c i = false → SS f c i = false := by
  intro c i h
  unfold SY at h; unfold SS
  simp only [Bool.or_eq_false_iff] at h
  obtain ⟨h69, h84, h85, h86, h87, h88, h89, h66⟩ := h
  rw [h84, h85, h86, h87, h88, h89]
  simp only [Bool.and_eq_false_iff, Bool.or_eq_false_iff] at h66 ⊢
  simp only [Bool.false_and, Bool.or_false, Bool.false_or, true_and]
  refine ⟨.inl trivial, .inl trivial, ?_⟩
  rcases h66 with h | h
  · exact .inl h
  · exact .inr h.2
theorem LbM_SS {f f' : Nat} {M M' : Mem} {K : List Lb} (h : LbM M f' K) (hf : Fr (SS f) M M') (hne : f ≠ f') (hlen : K.length ≤ 128) : LbM M' f' K := by
  refine ⟨?_, fun i hi => ?_⟩
  · rw [hf 84 f' (by unfold SS; simp; omega)]; exact h.1
  · rw [SS_lab hf (by omega)]; exact h.2 i hi
section REFY
variable {G : GE} {d : Nat} {M : Mem}
theorem SY67 {g : Nat → Int} (hg : M 67 = g) : ∀ {M' : Mem}, Fr SY M M' → M' 67 = g := fun hf => by rw [← hg]; funext i; exact hf 67 i rfl
theorem c11_laysLabels {K0 : Mem → Prop} {g p : Nat → Int} {v : Int} {sh : Nat} (hg : M 67 = g) (hw : WF g) (hp : prOK g p) (e : v = (sh : Int)) (hsh : sh < 4) (h82 : ∀ f, f < nF g → M 82 (40 * sh + f) = p f) (h : ∀ M', Fr SY M M' → (∀ k, k < nF g → LbM M' (oN g k) (keptL g p k)) → M' 66 33 = (keptS g p (nF g) : Int) → M' 66 34 = (dropS g p (nF g) : Int) → K0 M') : CalV G miX11_laysLabels (d + 5) [.inr (.inr (some 66)), .inl v] M K0 := by
  have hn := hw.n
  subst e
  have hkl : ∀ k, k ≤ 6 → (keptL g p k).length ≤ 64 := fun k hk => Nat.le_trans (arr_len g p k).1 (Nat.pow_le_pow_right (n := 2) (by decide) hk)
  refine Cal.of (d := d + 5) (by decide) (Nat.le_of_ble_eq_true rfl) rfl (gX11_laysLabels_0 ?_)
  refine c11_orders hg hw (fun o ho => ?_)
  refine dn (P := fun k => ∀ M' : Mem, Fr SY M M' → (∀ i, i < nF g → M' 69 i = (oN g i : Int)) → (∀ i, i < k → LbM M' (oN g i) (keptL g p i)) → M' 66 33 = (keptS g p k : Int) → M' 66 34 = (dropS g p k : Int) → keptS g p k ≤ 64 * k → OkV G miX11_laysLabels (d + 5) K0 16 [some (.inr (.inr (some 66))), some (.inl (sh : Int)), some (.inl (k : Int)), none, none, none, none] [] M') (nF g) ?_ (fun k hk ih => ?_) 0 (Nat.zero_le _) _ (((Fr.rf.ms (fun _ => rfl)).up rfl).up rfl) (fun i hi => by rw [mup_ne (by decide), mup_ne (by decide), mset_at]; exact ho i hi) (fun i hi => absurd hi (Nat.not_lt_zero _)) (by rw [mup_at_ne (by decide), mup_at]; rfl) (by rw [mup_at]; rfl) (Nat.le_refl _)
  · intro M' hf h69 hL h33 h34 _
    exact gX11_laysLabels_16 ⟨fun _ => h M' hf hL h33 h34, fun c => absurd c (by rw [SY67 hg hf]; omega)⟩
  · intro M' hf h69 hL h33 h34 hks
    have hok := oN_lt g hk
    have hne : ∀ i, i < k → oN g k ≠ oN g i := fun i hi q => by have := oN_inj g hk (by omega) q; omega
    have ek : M' 69 (k : Int).toNat = (oN g k : Int) := by rw [Int.toNat_natCast]; exact h69 k hk
    refine gX11_laysLabels_16 ⟨fun c => absurd c (by rw [SY67 hg hf]; omega), fun _ => ⟨by omega, ?_⟩⟩
    rw [ek, Int.toNat_natCast]
    generalize hff : oN g k = f at *
    refine ⟨by omega, ?_⟩
    have fz : Fr SY M (mup M' 84 f 0) := hf.up rfl
    have pit : ∀ M2 : Mem, Fr SY M M2 → M2 82 (40 * sh + f) = p f := fun M2 f2 => by rw [f2 82 _ rfl]; exact h82 f hok
    refine c11_itemOf rfl rfl hsh (by omega) ?_
    rw [pit _ fz]
    have h340 : (mup M' 84 f 0) 66 34 = (dropS g p k : Int) := by rw [mup_ne (by decide)]; exact h34
    have hd := dropS_le g p k
    have hp7 := pow_le7 (show k ≤ 7 by omega)
    refine c11_begins (K := []) (SY67 hg fz) hw hp rfl hok ⟨mup_at _ _ _ _, fun i hi => absurd hi (Nat.not_lt_zero _)⟩ (Nat.zero_le _) (by omega) h340 (fun M2 f2 l2 d2 => ?_)
    have e0 : (if (g 86).toNat.testBit (g (1 + f)).toNat = true then stepK g f ([], dropS g p k) (begL g p f) else ([], dropS g p k)) = accL g p k (arrL g p k 0) := by
      unfold accL
      show _ = (arr0 g p k).foldl (stepK g (oN g k)) ([], dropS g p k)
      unfold arr0
      rw [hff]
      split <;> rfl
    rw [e0] at l2 d2
    have fz2 : Fr SY M M2 := fz.tr (f2.mo (SS_SY f))
    have lab2 : ∀ i, i < k → LbM M2 (oN g i) (keptL g p i) := fun i hi => by
      have hlen := hkl i (by omega)
      refine LbM_SS (M := mup M' 84 f 0) (f := f) ?_ f2 (hne i hi) (by omega)
      have a := hL i hi
      refine ⟨by rw [mup_at_ne (Ne.symm (hne i hi))]; exact a.1, fun j hj => ?_⟩
      have b := a.2 j hj
      unfold labAt at b ⊢
      rw [mup_ne (by decide), mup_ne (by decide), mup_ne (by decide), mup_ne (by decide), mup_ne (by decide)]; exact b
    -- over those ahead
    refine dn (P := fun i => ∀ M2 : Mem, Fr SY M M2 → (∀ i, i < nF g → M2 69 i = (oN g i : Int)) → (∀ i, i < k → LbM M2 (oN g i) (keptL g p i)) → M2 66 33 = (keptS g p k : Int) → LbM M2 f (accL g p k (arrL g p k i)).1 → M2 66 34 = ((accL g p k (arrL g p k i)).2 : Int) → OkV G miX11_laysLabels (d + 5) K0 54 [some (.inr (.inr (some 66))), some (.inl (sh : Int)), some (.inl (k : Int)), some (.inl (f : Int)), some (.inl (i : Int)), none, none] [] M2) k ?_ (fun i hi ihi => ?_) 0 (Nat.zero_le _) M2 fz2 (fun i hi => by rw [f2 69 i (by unfold SS; simp), mup_ne (by decide)]; exact h69 i hi) lab2 (by rw [f2 66 33 (by unfold SS; simp), mup_ne (by decide)]; exact h33) l2 d2
    · intro M2 fz h69 lab h33 l2 d2
      rw [accL_end] at l2 d2
      simp only at l2 d2
      have hl := hkl k (by omega)
      refine gX11_laysLabels_54 ⟨fun _ => ⟨by omega, ?_⟩, fun c => absurd c (by omega)⟩
      rw [Int.toNat_natCast, l2.1, h33, w32n (by omega), w32_eq (by omega) (by omega), show (keptS g p k : Int) + ((keptL g p k).length : Int) = (keptS g p (k + 1) : Int) by rw [keptS]; omega]
      have el : ∀ (q : Nat), labAt (mup M2 66 33 (keptS g p (k + 1) : Int)) q = labAt M2 q := fun q => by unfold labAt; rw [mup_ne (by decide), mup_ne (by decide), mup_ne (by decide), mup_ne (by decide), mup_ne (by decide)]
      refine ih _ (fz.up rfl) (fun i hi => by rw [mup_ne (by decide)]; exact h69 i hi) (fun i hi => ?_) (mup_at _ _ _ _) (by rw [mup_at_ne (by decide)]; exact d2) (by rw [keptS]; omega)
      by_cases ei : i = k
      · subst ei; rw [hff]; exact ⟨by rw [mup_ne (by decide)]; exact l2.1, fun j hj => by rw [el]; exact l2.2 j hj⟩
      · have a := lab i (by omega)
        exact ⟨by rw [mup_ne (by decide)]; exact a.1, fun j hj => by rw [el]; exact a.2 j hj⟩
    · intro M2 fz h69 lab h33 l2 d2
      have hoi := oN_lt g (i := i) (by omega)
      have hnei := hne i hi
      have ei : M2 69 (i : Int).toNat = (oN g i : Int) := by rw [Int.toNat_natCast]; exact h69 i (by omega)
      refine gX11_laysLabels_54 ⟨fun c => absurd c (by omega), fun _ => ⟨by omega, ?_⟩⟩
      rw [ei]
      have hlen := hkl i (by omega)
      have h2i : (arrL g p k i).length ≤ 32 := Nat.le_trans ((arr_len g p k).2 i (by omega)) (show 2 ^ i ≤ 32 from Nat.pow_le_pow_right (n := 2) (by decide) (show i ≤ 5 by omega))
      have h2k : (keptL g p i).length ≤ 32 := Nat.le_trans (arr_len g p i).1 (show 2 ^ i ≤ 32 from Nat.pow_le_pow_right (n := 2) (by decide) (show i ≤ 5 by omega))
      have eapp : arrL g p k (i + 1) = arrL g p k i ++ arrI g p (keptL g p) k i := rfl
      by_cases hhow : 0 < howF g (oN g i) f
      · have eA : arrI g p (keptL g p) k i = (keptL g p i).map (extL g p (oN g i) f) := by unfold arrI; rw [hff, if_pos hhow]
        refine dn (P := fun j => ∀ M2 : Mem, Fr SY M M2 → (∀ i, i < nF g → M2 69 i = (oN g i : Int)) → (∀ i, i < k → LbM M2 (oN g i) (keptL g p i)) → M2 66 33 = (keptS g p k : Int) → LbM M2 f (accL g p k (arrL g p k i ++ ((keptL g p i).take j).map (extL g p (oN g i) f))).1 → M2 66 34 = ((accL g p k (arrL g p k i ++ ((keptL g p i).take j).map (extL g p (oN g i) f))).2 : Int) → OkV G miX11_laysLabels (d + 5) K0 72 [some (.inr (.inr (some 66))), some (.inl (sh : Int)), some (.inl (k : Int)), some (.inl (f : Int)), some (.inl (i : Int)), some (.inl (oN g i : Int)), some (.inl (j : Int))] [] M2) (keptL g p i).length ?_ (fun j hj ihj => ?_) 0 (Nat.zero_le _) M2 fz h69 lab h33 (by simpa using l2) (by simpa using d2)
        · intro M2 fz h69 lab h33 l2 d2
          rw [List.take_length, ← eA, ← eapp] at l2 d2
          refine gX11_laysLabels_72 ⟨by omega, ?_⟩
          rw [Int.toNat_natCast, (lab i hi).1]
          refine ⟨fun _ => ?_, fun c => absurd c (by omega)⟩
          rw [w32n (by omega)]
          exact ihi M2 fz h69 lab h33 l2 d2
        · intro M2 fz h69 lab h33 l2 d2
          have bl := (lab i hi).2 j hj
          have lok := (kept_ok hw hp i (by omega)).1 ((keptL g p i).getD j dl0) (by
            have : (keptL g p i).getD j dl0 = (keptL g p i)[j] := by simp [hj]
            rw [this]; exact List.getElem_mem hj)
          have abd := accL_bd g p (k := k) (by omega) (arrL g p k i ++ ((keptL g p i).take j).map (extL g p (oN g i) f))
          rw [List.length_append, List.length_map, List.length_take] at abd
          refine gX11_laysLabels_72 ⟨by omega, ?_⟩
          rw [Int.toNat_natCast, (lab i hi).1]
          refine ⟨fun c => absurd c (by omega), fun _ => ?_⟩
          refine c11_followsBy (SY67 hg fz) hw rfl rfl hoi (by omega) ⟨fun c => absurd c (by omega), fun _ => ?_⟩
          refine c11_itemOf rfl rfl hsh (by omega) ?_
          rw [pit M2 fz, show w32 ((128 * (oN g i : Int)) + (j : Int)) = ((128 * oN g i + j : Nat) : Int) by rw [w32_eq (by omega) (by omega)]; omega]
          refine c11_goesOn (e := oN g i) (q := 128 * oN g i + j) (l := (keptL g p i).getD j dl0) (K := (accL g p k (arrL g p k i ++ ((keptL g p i).take j).map (extL g p (oN g i) f))).1) (dr := (accL g p k (arrL g p k i ++ ((keptL g p i).take j).map (extL g p (oN g i) f))).2) (SY67 hg fz) hw hp rfl rfl rfl hoi hok hhow (by omega) (by omega) bl (lbOK_mono (by omega) lok.1) l2 (by omega) (by omega) d2 (fun M3 f3 l3 d3 => ?_)
          rw [w32n (by omega)]
          have esn : arrL g p k i ++ ((keptL g p i).take (j + 1)).map (extL g p (oN g i) f) = (arrL g p k i ++ ((keptL g p i).take j).map (extL g p (oN g i) f)) ++ [extL g p (oN g i) f ((keptL g p i).getD j dl0)] := by
            rw [List.append_assoc]
            congr 1
            rw [List.take_succ, List.map_append]
            have : (keptL g p i).getD j dl0 = (keptL g p i)[j] := by simp [hj]
            rw [this, List.getElem?_eq_getElem hj]; rfl
          have ih' := ihj M3 (fz.tr (f3.mo (SS_SY f))) (fun i hi => by rw [f3 69 i (by unfold SS; simp)]; exact h69 i hi) (fun i hi => LbM_SS (lab i hi) f3 (hne i hi) (by have := hkl i (by omega); omega)) (by rw [f3 66 33 (by unfold SS; simp)]; exact h33)
          rw [esn, accL_snoc, hff] at ih'
          exact ih' l3 d3
      · have eA : arrI g p (keptL g p) k i = [] := by unfold arrI; rw [hff, if_neg hhow]
        rw [eapp, eA, List.append_nil] at ihi
        have nxt : OkV G miX11_laysLabels (d + 5) K0 54 [some (.inr (.inr (some 66))), some (.inl (sh : Int)), some (.inl (k : Int)), some (.inl (f : Int)), some (.inl (w32 ((i : Int) + 1))), none, none] [] M2 := by
          rw [w32n (by omega)]; exact ihi M2 fz h69 lab h33 l2 d2
        refine gX11_laysLabels_72 ⟨by omega, fun _ => nxt, fun _ => ?_⟩
        refine c11_followsBy (SY67 hg fz) hw rfl rfl hoi (by omega) ⟨fun _ => nxt, fun c => absurd c (by omega)⟩
def labR (g so sz it : Nat → Int) (v x : Int) : Int := if v < 0 ∨ 3 < v ∨ x < 0 ∨ 1 < x then -2 else if twR g so sz it v.toNat (-999999) ≠ 0 then twR g so sz it v.toNat (-999999) else if x = 0 then (keptS g (fun f => it (40 * v.toNat + f)) (nF g) : Int) else (dropS g (fun f => it (40 * v.toNat + f)) (nF g) : Int)
theorem c11_labels {K : Int → Mem → Prop} {g : Nat → Int} {v x : Int} (hg : M 67 = g) (hw : WF g) (hs : shW (M 80) (M 81)) (h : ∀ M', Fr SY M M' → K (labR g (M 80) (M 81) (M 82) v x) M') : CalI G miX11_labels (d + 6) [.inr (.inr (some 66)), .inl v, .inl x] M K := by
  have bad : (v < 0 ∨ 3 < v ∨ x < 0 ∨ 1 < x) → K (-2) M := fun hb => kv (h M Fr.rf) (by unfold labR; rw [if_pos hb])
  refine Cal.of (by decide) (Nat.le_of_ble_eq_true rfl) rfl (gX11_labels_0 ?_)
  refine c11_isSheet (fun p q => b1 ?_) (fun p => b0 (bad (by omega)))
  refine c11_in (fun p2 q2 => n1 ?_) (fun p2 => n0 (bad (by omega)))
  have hb : ¬ (v < 0 ∨ 3 < v ∨ x < 0 ∨ 1 < x) := by omega
  obtain ⟨sh, hsh⟩ : ∃ sh : Nat, v = (sh : Int) := ⟨v.toNat, by omega⟩
  subst hsh
  refine c11_toldWrong hg hw hs rfl (by omega) ⟨fun c => ?_, fun c => ?_⟩
  · refine c11_laysLabels (p := fun f => M 82 (40 * sh + f)) hg hw (fun f hf => twR_0 c f hf) rfl (by omega) (fun f hf => rfl) (fun M' f' _ h33 h34 => ?_)
    have hK := h M' f'
    unfold labR at hK
    rw [if_neg hb, Int.toNat_natCast, if_neg (fun q => q c)] at hK
    refine ⟨fun c2 => ?_, fun c2 => ?_⟩
    · rw [if_neg c2] at hK; rw [h34]; exact hK
    · rw [if_pos c2] at hK; rw [h33]; exact hK
  · refine kv (h M Fr.rf) ?_
    unfold labR
    rw [if_neg hb, Int.toNat_natCast, if_pos c]
def minL : List Int → Option Int
  | [] => none
  | x :: xs => match minL xs with
    | none => some x
    | some m => some (if x < m then x else m)
theorem minL_ok : ∀ L : List Int, (minL L = none → L = []) ∧ ∀ m, minL L = some m → m ∈ L ∧ ∀ x ∈ L, m ≤ x := by
  intro L
  induction L with
  | nil => exact ⟨fun _ => rfl, fun m h => by cases h⟩
  | cons x xs ih =>
    refine ⟨fun h => ?_, fun m h => ?_⟩
    · rw [minL] at h; cases hm : minL xs <;> rw [hm] at h <;> cases h
    · rw [minL] at h
      cases hm : minL xs with
      | none =>
        rw [hm] at h; cases h
        rw [ih.1 hm]
        exact ⟨List.mem_cons_self, fun y hy => by rw [List.mem_singleton.mp hy]; exact Int.le_refl _⟩
      | some m0 =>
        rw [hm] at h
        simp only [Option.some.injEq] at h
        have := ih.2 m0 hm
        by_cases c : x < m0
        · rw [if_pos c] at h; subst h
          refine ⟨List.mem_cons_self, fun y hy => ?_⟩
          rcases List.mem_cons.mp hy with e | hy
          · omega
          · have := this.2 y hy; omega
        · rw [if_neg c] at h; subst h
          refine ⟨List.mem_cons_of_mem _ this.1, fun y hy => ?_⟩
          rcases List.mem_cons.mp hy with e | hy
          · omega
          · exact this.2 y hy
def minI (L : List Int) : Int := match minL L with
  | some m => m
  | none => NO
theorem minI_none {L : List Int} (h : ∀ x, ¬ x ∈ L) : minI L = NO := by
  unfold minI
  cases hm : minL L with
  | none => rfl
  | some m => exact absurd ((minL_ok L).2 m hm).1 (h m)
theorem minI_some {L : List Int} {v : Int} (h1 : v ∈ L) (h2 : ∀ x ∈ L, v ≤ x) : minI L = v := by
  unfold minI
  cases hm : minL L with
  | none => rw [(minL_ok L).1 hm] at h1; exact absurd h1 List.not_mem_nil
  | some m =>
    have a := (minL_ok L).2 m hm
    have b := h2 m a.1
    have c := a.2 v h1
    simp only; omega
/-- costs of the labels that are home -/
def homC (g p : Nat → Int) : List Int := (List.range (nF g)).flatMap fun k => ((keptL g p k).filter (fun l => decide (g (8 + oN g k) = l.1))).map (fun l => l.2.1)
theorem homC_mem {g p : Nat → Int} {x : Int} : x ∈ homC g p ↔ ∃ k, k < nF g ∧ ∃ l ∈ keptL g p k, g (8 + oN g k) = l.1 ∧ l.2.1 = x := by
  unfold homC
  rw [List.mem_flatMap]
  constructor
  · rintro ⟨k, hk, h⟩
    obtain ⟨l, hl, e⟩ := List.mem_map.mp h
    have := List.mem_filter.mp hl
    exact ⟨k, List.mem_range.mp hk, l, this.1, by simpa using this.2, e⟩
  · rintro ⟨k, hk, l, hl, e1, e2⟩
    exact ⟨k, List.mem_range.mpr hk, List.mem_map.mpr ⟨l, List.mem_filter.mpr ⟨hl, by simpa using e1⟩, e2⟩⟩
def wayR (g so sz it : Nat → Int) (v : Int) : Int := if v < 0 ∨ 3 < v then NO else if twR g so sz it v.toNat (-999999) ≠ 0 then NO else minI (homC g (fun f => it (40 * v.toNat + f)))
theorem c11_way {K : Int → Mem → Prop} {g : Nat → Int} {v : Int} (hg : M 67 = g) (hw : WF g) (hs : shW (M 80) (M 81)) (h : ∀ M', Fr SY M M' → K (wayR g (M 80) (M 81) (M 82) v) M') : CalL G miX11_way (d + 6) [.inr (.inr (some 66)), .inl v] M K := by
  have hn := hw.n
  refine Cal.of (by decide) (Nat.le_of_ble_eq_true rfl) rfl (gX11_way_0 ?_)
  refine c11_isSheet (fun p q => b1 ?_) (fun p => b0 (kv (h M Fr.rf) (by unfold wayR; rw [if_pos (by omega)]; rfl)))
  have hb : ¬ (v < 0 ∨ 3 < v) := by omega
  obtain ⟨sh, hsh⟩ : ∃ sh : Nat, v = (sh : Int) := ⟨v.toNat, by omega⟩
  subst hsh
  refine c11_toldWrong hg hw hs rfl (by omega) ⟨fun c => ?_, fun c => ?_⟩
  · generalize hp : (fun f => M 82 (40 * sh + f)) = p
    have hpr : prOK g p := fun f hf => by rw [← hp]; exact twR_0 c f hf
    refine c11_laysLabels (p := p) hg hw hpr rfl (by omega) (fun f hf => by rw [← hp]) (fun M' f' hlab _ _ => ?_)
    have hK := h M' f'
    unfold wayR at hK
    rw [if_neg hb, Int.toNat_natCast, if_neg (fun q => q c), hp] at hK
    have e67 := SY67 hg f'
    -- seen so far: flights below f, labels below j at f
    generalize hseen : (fun (f j : Nat) (x : Int) => ∃ k, k < nF g ∧ ∃ i, i < (keptL g p k).length ∧ (oN g k < f ∨ (oN g k = f ∧ i < j)) ∧ g (8 + oN g k) = ((keptL g p k).getD i dl0).1 ∧ ((keptL g p k).getD i dl0).2.1 = x) = seen
    have sd : ∀ f j x, seen f j x ↔ ∃ k, k < nF g ∧ ∃ i, i < (keptL g p k).length ∧ (oN g k < f ∨ (oN g k = f ∧ i < j)) ∧ g (8 + oN g k) = ((keptL g p k).getD i dl0).1 ∧ ((keptL g p k).getD i dl0).2.1 = x := fun f j x => by rw [← hseen]
    refine dn (P := fun f => ∀ v2 v3 : Int, ((v2 = 0 ∧ ∀ x, ¬ seen f 0 x) ∨ (v2 = 1 ∧ seen f 0 v3 ∧ ∀ x, seen f 0 x → v3 ≤ x)) → OkL G miX11_way (d + 6) K 34 [some (.inr (.inr (some 66))), none, some (.inl v2), some (.inr (.inl v3)), none, some (.inl (f : Int)), none] [] M') (nF g) ?_ (fun f hf ih => ?_) 0 (Nat.zero_le _) 0 0 (.inl ⟨rfl, fun x hx => ?_⟩)
    · intro v2 v3 hv
      have fin : ∀ x, seen (nF g) 0 x ↔ x ∈ homC g p := fun x => by
        rw [sd, homC_mem]
        constructor
        · rintro ⟨k, hk, i, hi, -, e1, e2⟩
          refine ⟨k, hk, (keptL g p k).getD i dl0, ?_, e1, e2⟩
          have : (keptL g p k).getD i dl0 = (keptL g p k)[i] := by simp [hi]
          rw [this]; exact List.getElem_mem hi
        · rintro ⟨k, hk, l, hl, e1, e2⟩
          obtain ⟨i, hi, e⟩ := List.mem_iff_getElem.mp hl
          have : (keptL g p k).getD i dl0 = (keptL g p k)[i] := by simp [hi]
          exact ⟨k, hk, i, hi, .inl (oN_lt g hk), by rw [this, e]; exact e1, by rw [this, e]; exact e2⟩
      refine gX11_way_34 ⟨fun _ => ?_, fun c => absurd c (by rw [e67]; omega)⟩
      rcases hv with ⟨e, hno⟩ | ⟨e, h1, h2⟩
      · subst e
        rw [if_pos rfl, ← show NO = -9223372036854775808 from rfl, ← minI_none (L := homC g p) (fun x hx => hno x ((fin x).mpr hx))]; exact hK
      · subst e
        rw [if_neg (by decide), ← minI_some (L := homC g p) ((fin v3).mp h1) (fun x hx => h2 x ((fin x).mpr hx))]; exact hK
    · intro v2 v3 hv
      obtain ⟨k, hk, hkf⟩ := oN_sur g hf
      have lb := hlab k hk
      rw [hkf] at lb
      have hl64 : (keptL g p k).length ≤ 64 := Nat.le_trans (arr_len g p k).1 (show 2 ^ k ≤ 64 from Nat.pow_le_pow_right (n := 2) (by decide) (show k ≤ 6 by omega))
      refine gX11_way_34 ⟨fun c => absurd c (by rw [e67]; omega), fun _ => ?_⟩
      rw [show w32 (128 * (f : Int)) = ((128 * f + 0 : Nat) : Int) by rw [w32_eq (by omega) (by omega)]; omega]
      refine dn (P := fun j => ∀ v2 v3 : Int, ((v2 = 0 ∧ ∀ x, ¬ seen f j x) ∨ (v2 = 1 ∧ seen f j v3 ∧ ∀ x, seen f j x → v3 ≤ x)) → OkL G miX11_way (d + 6) K 53 [some (.inr (.inr (some 66))), none, some (.inl v2), some (.inr (.inl v3)), none, some (.inl (f : Int)), some (.inl ((128 * f + j : Nat) : Int))] [] M') (keptL g p k).length ?_ (fun j hj ihj => ?_) 0 (Nat.zero_le _) v2 v3 hv
      · intro v2 v3 hv
        refine gX11_way_53 ⟨by omega, ?_⟩
        rw [Int.toNat_natCast, lb.1, w32_eq (by omega) (by omega)]
        refine ⟨fun _ => ?_, fun c => absurd c (by omega)⟩
        rw [w32n (by omega)]
        have eq : ∀ x, seen f (keptL g p k).length x ↔ seen (f + 1) 0 x := fun x => by
          rw [sd, sd]
          constructor
          · rintro ⟨k', hk', i, hi, q, e⟩
            exact ⟨k', hk', i, hi, .inl (by omega), e⟩
          · rintro ⟨k', hk', i, hi, q, e⟩
            refine ⟨k', hk', i, hi, ?_, e⟩
            by_cases ef : oN g k' = f
            · have : k' = k := oN_inj g hk' hk (by rw [ef, hkf])
              subst this; exact .inr ⟨ef, hi⟩
            · exact .inl (by omega)
        exact ih v2 v3 (by rcases hv with ⟨e, q⟩ | ⟨e, q1, q2⟩
                           · exact .inl ⟨e, fun x hx => q x ((eq x).mpr hx)⟩
                           · exact .inr ⟨e, (eq v3).mp q1, fun x hx => q2 x ((eq x).mpr hx)⟩)
      · intro v2 v3 hv
        have l := lb.2 j hj
        have e85 : M' 85 (128 * f + j) = ((keptL g p k).getD j dl0).1 := congrArg (fun l : Lb => l.1) l
        have e89 : M' 89 (128 * f + j) = ((keptL g p k).getD j dl0).2.1 := congrArg (fun l : Lb => l.2.1) l
        have mono : ∀ x, seen f j x → seen f (j + 1) x := fun x hx => by
          rw [sd] at hx ⊢
          obtain ⟨k', hk', i, hi, q, e⟩ := hx
          exact ⟨k', hk', i, hi, by omega, e⟩
        have new : ∀ x, seen f (j + 1) x → seen f j x ∨ (g (8 + f) = ((keptL g p k).getD j dl0).1 ∧ ((keptL g p k).getD j dl0).2.1 = x) := fun x hx => by
          rw [sd] at hx
          obtain ⟨k', hk', i, hi, q, e1, e2⟩ := hx
          by_cases ef : oN g k' = f ∧ i = j
          · have : k' = k := oN_inj g hk' hk (by rw [ef.1, hkf])
            subst this
            rw [ef.2] at e1 e2; rw [hkf] at e1
            exact .inr ⟨e1, e2⟩
          · exact .inl ((sd f j x).mpr ⟨k', hk', i, hi, by omega, e1, e2⟩)
        have own : g (8 + f) = ((keptL g p k).getD j dl0).1 → seen f (j + 1) ((keptL g p k).getD j dl0).2.1 := fun e1 => (sd f (j + 1) _).mpr ⟨k, hk, j, hj, .inr ⟨hkf, by omega⟩, by rw [hkf]; exact e1, rfl⟩
        have ej : w32 (((128 * f + j : Nat) : Int) + 1) = ((128 * f + (j + 1) : Nat) : Int) := by rw [w32_eq (by omega) (by omega)]; omega
        have k108 : g (8 + f) = ((keptL g p k).getD j dl0).1 → (∀ x, seen f (j + 1) x → ((keptL g p k).getD j dl0).2.1 ≤ x) → OkL G miX11_way (d + 6) K 108 [some (.inr (.inr (some 66))), none, none, none, none, some (.inl (f : Int)), some (.inl ((128 * f + j : Nat) : Int))] [] M' := fun e1 hle => by
          refine gX11_way_108 ⟨by clear ej; omega, ?_⟩
          rw [ej, Int.toNat_natCast, e89]
          exact ihj _ _ (.inr ⟨rfl, own e1, hle⟩)
        have keep : (∀ x, seen f (j + 1) x → seen f j x ∨ (v2 = 1 ∧ v3 ≤ x)) → OkL G miX11_way (d + 6) K 53 [some (.inr (.inr (some 66))), none, some (.inl v2), some (.inr (.inl v3)), none, some (.inl (f : Int)), some (.inl ((128 * f + (j + 1) : Nat) : Int))] [] M' := fun hq => by
          refine ihj v2 v3 ?_
          rcases hv with ⟨e, q⟩ | ⟨e, q1, q2⟩
          · refine .inl ⟨e, fun x hx => ?_⟩
            rcases hq x hx with r | r
            · exact q x r
            · rw [e] at r; exact absurd r.1 (by decide)
          · refine .inr ⟨e, mono _ q1, fun x hx => ?_⟩
            rcases hq x hx with r | r
            · exact q2 x r
            · exact r.2
        refine gX11_way_53 ⟨by clear ej; omega, ?_⟩
        rw [ej]
        clear ej
        rw [Int.toNat_natCast, Int.toNat_natCast, lb.1, e85, e89, e67, show (8 + (f : Int)).toNat = 8 + f by omega, w32_eq (by omega) (by omega)]
        refine ⟨fun c => absurd c (by omega), fun _ => ⟨by omega, by omega, fun c => keep (fun x hx => ?_), fun c => ⟨fun c2 => k108 c (fun x hx => ?_), fun c2 => ⟨by omega, fun c3 => keep (fun x hx => ?_), fun c3 => k108 c (fun x hx => ?_)⟩⟩⟩⟩
        · rcases new x hx with r | r
          · exact .inl r
          · exact absurd r.1 c
        · rcases hv with ⟨e, q⟩ | ⟨e, q1, q2⟩
          · rcases new x hx with r | r
            · exact absurd r (q x)
            · rw [r.2]; exact Int.le_refl _
          · rw [e] at c2; exact absurd c2 (by decide)
        · rcases hv with ⟨e, q⟩ | ⟨e, q1, q2⟩
          · exact absurd e c2
          · rcases new x hx with r | r
            · exact .inl r
            · exact .inr ⟨e, by rw [← r.2]; exact c3⟩
        · rcases hv with ⟨e, q⟩ | ⟨e, q1, q2⟩
          · exact absurd e c2
          · rcases new x hx with r | r
            · have := q2 x r; omega
            · rw [r.2]; exact Int.le_refl _
    · rw [sd] at hx
      obtain ⟨k, hk, i, hi, q, -⟩ := hx
      omega
  · refine kv (h M Fr.rf) ?_
    unfold wayR
    rw [if_neg hb, Int.toNat_natCast, if_pos c]; rfl
end REFY
