/-! the reference: labels, one at a time -/
def labAt (M : Mem) (q : Nat) : Lb := (M 85 q, M 89 q, M 86 q, M 87 q, M 88 q)
def setL (M : Mem) (b : Nat) (l : Lb) : Mem := mup (mup (mup (mup (mup M 85 b l.1) 89 b l.2.1) 86 b l.2.2.1) 87 b l.2.2.2.1) 88 b l.2.2.2.2
theorem setL_at (M : Mem) (b : Nat) (l : Lb) : labAt (setL M b l) b = l := by
  unfold labAt setL
  rw [mup_ne (show (85 : Nat) ≠ 88 by decide), mup_ne (show (85 : Nat) ≠ 87 by decide), mup_ne (show (85 : Nat) ≠ 86 by decide), mup_ne (show (85 : Nat) ≠ 89 by decide), mup_at, mup_ne (show (89 : Nat) ≠ 88 by decide), mup_ne (show (89 : Nat) ≠ 87 by decide), mup_ne (show (89 : Nat) ≠ 86 by decide), mup_at, mup_ne (show (86 : Nat) ≠ 88 by decide), mup_ne (show (86 : Nat) ≠ 87 by decide), mup_at, mup_ne (show (87 : Nat) ≠ 88 by decide), mup_at, mup_at]
theorem setL_ne {M : Mem} {b q : Nat} (l : Lb) (h : q ≠ b) : labAt (setL M b l) q = labAt M q := by
  unfold labAt setL mup
  simp [h]
theorem setL_cell {M : Mem} {b c : Nat} (l : Lb) (h : c < 85 ∨ 89 < c) : setL M b l c = M c := by
  unfold setL
  rw [mup_ne (by omega), mup_ne (by omega), mup_ne (by omega), mup_ne (by omega), mup_ne (by omega)]
/-- what the labels of flight f's block may change -/
def SS (f : Nat) : Nat → Nat → Bool := fun c i => ((c == 85 || (c == 86 || (c == 87 || (c == 88 || c == 89)))) && (decide (128 * f ≤ i) && decide (i < 128 * f + 128))) || ((c == 84 && i == f) || (c == 66 && i == 34))
theorem SS_lab {f : Nat} {M M' : Mem} (h : Fr (SS f) M M') {q : Nat} (hq : q < 128 * f ∨ 128 * f + 128 ≤ q) : labAt M' q = labAt M q := by
  have e : ∀ c, SS f c q = false ∨ c = 84 ∨ c = 66 := by
    intro c
    by_cases h84 : c = 84
    · exact .inr (.inl h84)
    · by_cases h66 : c = 66
      · exact .inr (.inr h66)
      · refine .inl ?_
        unfold SS
        have : (decide (128 * f ≤ q) && decide (q < 128 * f + 128)) = false := by
          rw [Bool.and_eq_false_iff]
          rcases hq with hq | hq
          · exact .inl (by simp; omega)
          · exact .inr (by simp; omega)
        rw [this]
        simp [h84, h66]
  unfold labAt
  rw [h 85 q ((e 85).resolve_right (by decide)), h 86 q ((e 86).resolve_right (by decide)), h 87 q ((e 87).resolve_right (by decide)), h 88 q ((e 88).resolve_right (by decide)), h 89 q ((e 89).resolve_right (by decide))]
theorem Fr_setL {f : Nat} {M M' : Mem} (h : Fr (SS f) M M') {b : Nat} (l : Lb) (hb : 128 * f ≤ b ∧ b < 128 * f + 128) : Fr (SS f) M (setL M' b l) := by
  unfold setL
  refine ((((h.up ?_).up ?_).up ?_).up ?_).up ?_ <;> (unfold SS; simp; omega)
section REFW
variable {G : GE} {d : Nat} {M : Mem}
theorem c11_outdoes {K : Int → Mem → Prop} {v w : Int} {a b : Nat} (e : v = (a : Int)) (e' : w = (b : Int)) (ha : a < 896) (hb : b < 896) (h : K (bI (odB (labAt M a) (labAt M b))) M) : CalI G miX11_outdoes d [.inr (.inr (some 66)), .inl v, .inl w] M K := by
  subst e; subst e'
  refine Cal.of (by decide) (Nat.le_of_ble_eq_true rfl) rfl (gX11_outdoes_0 ?_)
  rw [Int.toNat_natCast, Int.toNat_natCast]
  have no : odB (labAt M a) (labAt M b) = false → K 0 M := fun q => by rw [q] at h; exact h
  refine ⟨by omega, by omega, fun c => no ?_, fun c => ⟨by omega, by omega, fun c2 => no ?_, fun c2 => ⟨by omega, by omega, fun c3 => no ?_, fun c3 => ⟨by omega, by omega, fun c4 => no ?_, fun c4 => ⟨by omega, by omega, fun c5 => no ?_, fun c5 => ?_⟩⟩⟩⟩⟩
  · unfold odB labAt; simp [c]
  · unfold odB labAt; simp; omega
  · unfold odB labAt; simp; omega
  · unfold odB labAt; simp; omega
  · unfold odB labAt; simp; omega
  · have : odB (labAt M a) (labAt M b) = true := by unfold odB labAt; simp; omega
    rw [this] at h; exact h
theorem c11_movesLabel {K : Mem → Prop} {v w : Int} {a b : Nat} (e : v = (a : Int)) (e' : w = (b : Int)) (ha : a < 896) (hb : b < 896) (h : K (setL M b (labAt M a))) : CalV G miX11_movesLabel d [.inr (.inr (some 66)), .inl v, .inl w] M K := by
  subst e; subst e'
  refine Cal.of (by decide) (Nat.le_of_ble_eq_true rfl) rfl (gX11_movesLabel_0 ?_)
  rw [Int.toNat_natCast, Int.toNat_natCast]
  refine ⟨by omega, by omega, by omega, by omega, by omega, by omega, by omega, by omega, by omega, by omega, ?_⟩
  rw [mup_ne (show (89 : Nat) ≠ 85 by decide)]
  rw [mup_ne (show (86 : Nat) ≠ 89 by decide), mup_ne (show (86 : Nat) ≠ 85 by decide)]
  rw [mup_ne (show (87 : Nat) ≠ 86 by decide), mup_ne (show (87 : Nat) ≠ 89 by decide), mup_ne (show (87 : Nat) ≠ 85 by decide)]
  rw [mup_ne (show (88 : Nat) ≠ 87 by decide), mup_ne (show (88 : Nat) ≠ 86 by decide), mup_ne (show (88 : Nat) ≠ 89 by decide), mup_ne (show (88 : Nat) ≠ 85 by decide)]
  exact h
def dl0 : Lb := (0, 0, 0, 0, 0)
theorem take_any {K : List Lb} {q : Lb → Bool} {j : Nat} (hj : j < K.length) : (K.take (j + 1)).any q = ((K.take j).any q || q (K.getD j dl0)) := by
  rw [List.take_succ, List.any_append]
  have : K.getD j dl0 = K[j] := by simp [hj]
  rw [this, List.getElem?_eq_getElem hj]; simp
theorem take_filter {K : List Lb} {q : Lb → Bool} {j : Nat} (hj : j < K.length) : (K.take (j + 1)).filter q = (K.take j).filter q ++ (if q (K.getD j dl0) then [K.getD j dl0] else []) := by
  rw [List.take_succ, List.filter_append]
  have : K.getD j dl0 = K[j] := by simp [hj]
  rw [this, List.getElem?_eq_getElem hj]
  simp only [Option.toList_some, List.filter_cons, List.filter_nil]
/-- labels of a flight, as they lie -/
def LbM (M : Mem) (f : Nat) (K : List Lb) : Prop := M 84 f = (K.length : Int) ∧ ∀ i, i < K.length → labAt M (128 * f + i) = K.getD i dl0
theorem getD_app_l {A B : List Lb} {i : Nat} (h : i < A.length) : (A ++ B).getD i dl0 = A.getD i dl0 := by
  rw [List.getD_eq_getElem?_getD, List.getD_eq_getElem?_getD, List.getElem?_append_left h]
theorem getD_app_r {A : List Lb} {c : Lb} : (A ++ [c]).getD A.length dl0 = c := by simp
theorem c11_settles {K0 : Mem → Prop} {g : Nat → Int} {v : Int} {f dr : Nat} {K : List Lb} {c : Lb} (hg : M 67 = g) (hw : WF g) (e : v = (f : Int)) (hf : f < nF g) (hK : LbM M f K) (hlen : K.length ≤ 120) (hdr : dr ≤ 100000) (hc : labAt M (128 * f + K.length) = c) (hcb : lbOK 7 c) (h34 : M 66 34 = (dr : Int)) (h : ∀ M', Fr (SS f) M M' → LbM M' f (stepK g f (K, dr) c).1 → M' 66 34 = ((stepK g f (K, dr) c).2 : Int) → K0 M') : CalV G miX11_settles (d + 1) [.inr (.inr (some 66)), .inl v] M K0 := by
  have hn := hw.n
  subst e
  obtain ⟨h84, hlab⟩ := hK
  generalize hL : K.length = L at *
  have ix : ((128 * (f : Int)) + (L : Int)).toNat = 128 * f + L := by omega
  have cb : M 85 (128 * f + L) = c.1 ∧ M 89 (128 * f + L) = c.2.1 ∧ M 86 (128 * f + L) = c.2.2.1 ∧ M 87 (128 * f + L) = c.2.2.2.1 ∧ M 88 (128 * f + L) = c.2.2.2.2 := by
    rw [← hc]; exact ⟨rfl, rfl, rfl, rfl, rfl⟩
  obtain ⟨c1, c2, c3, c4, c5⟩ := cb
  unfold lbOK at hcb
  have ea : c.1 = (c.1.toNat : Int) := by omega
  have dfl := hw.fl (show f < 7 by omega)
  have nolaw : lawB g f c = false → K0 M := fun hl => by
    refine h M Fr.rf ?_ ?_
    · unfold stepK; rw [hl, if_neg (by decide)]; exact ⟨by rw [hL]; exact h84, by rw [hL]; exact hlab⟩
    · unfold stepK; rw [hl, if_neg (by decide)]; exact h34
  refine Cal.of (d := d + 1) (by decide) (Nat.le_of_ble_eq_true rfl) rfl (gX11_settles_0 ?_)
  rw [Int.toNat_natCast, h84, ix, c1]
  refine ⟨by omega, by omega, by omega, ?_⟩
  refine c11_legs (a := c.1.toNat) hg ea (by omega) ?_
  rw [c4]
  refine ⟨fun q => nolaw ?_, fun q1 => ⟨by omega, ?_⟩⟩
  · unfold lawB; rw [show decide (c.2.2.2.1 ≤ legsF g c.1.toNat) = false by simp; omega]; rfl
  refine c11_duties (a := c.1.toNat) hg ea (by omega) ?_
  rw [c3]
  refine ⟨fun q => nolaw ?_, fun q2 => ⟨by omega, by omega, ?_⟩⟩
  · unfold lawB; rw [show decide (c.2.2.1 ≤ dutF g c.1.toNat) = false by simp; omega]; simp
  refine c11_span (a := c.1.toNat) hg hw ea (by omega) ?_
  rw [show (22 + (f : Int)).toNat = 22 + f by omega, hg, c5, w32_eq (by omega) (by omega), w32_eq (by omega) (by omega), w32_eq (by omega) (by omega)]
  refine ⟨fun q3 => ?_, fun q => nolaw ?_⟩
  rotate_left
  · unfold lawB; rw [show decide (g (22 + f) - c.2.2.2.2 ≤ spanF g c.1.toNat) = false by simp; omega]; simp
  have hlaw : lawB g f c = true := by unfold lawB; simp; omega
  have hst : stepK g f (K, dr) c = (insL K c, dr + insD K c) := by unfold stepK; rw [if_pos hlaw]
  rw [hst] at h
  have e128 : (128 * (f : Int)) = ((128 * f : Nat) : Int) := by omega
  have eown : (128 * (f : Int)) + (L : Int) = ((128 * f + L : Nat) : Int) := by omega
  rw [eown, e128]
  clear nolaw
  -- is it outdone
  have key := dn (P := fun j => OkV G miX11_settles (d + 1) K0 83 [some (.inr (.inr (some 66))), some (.inl (f : Int)), some (.inl ((128 * f + L : Nat) : Int)), none, some (.inl (bI (!(K.take j).any (fun k => odB k c)))), some (.inl ((128 * f + j : Nat) : Int)), none, none] [] M) L ?_ (fun j hj ih => ?_) 0 (Nat.zero_le _)
  · have e0 : bI (!(K.take 0).any (fun k => odB k c)) = 1 := rfl
    rw [e0] at key; exact key
  · refine gX11_settles_83 ⟨fun _ => ?_, fun q => absurd q (by omega)⟩
    rw [← hL, List.take_length, hL, show w32 (128 * (f : Int)) = ((128 * f : Nat) : Int) by rw [w32_eq (by omega) (by omega)]; omega, h34]
    cases hany : K.any (fun k => odB k c) with
    | true =>
      have eI : insL K c = K ∧ insD K c = 1 := by unfold insL insD; rw [if_pos hany, if_pos hany]; exact ⟨rfl, rfl⟩
      rw [eI.1, eI.2] at h
      refine gX11_settles_150 ⟨fun q => ?_, fun _ => ⟨fun _ => ?_, fun q => absurd rfl q⟩⟩
      · refine gX11_settles_226 ⟨fun _ => h _ (Fr.up1 (by unfold SS; simp)) ⟨by rw [mup_ne (by decide), hL]; exact h84, fun i hi => ?_⟩ ?_, fun q => absurd rfl q⟩
        · have : labAt (mup M 66 34 (w32 ((dr : Int) + (if bI (!true) = 0 then (1 : Int) else 0)))) (128 * f + i) = labAt M (128 * f + i) := by unfold labAt; rw [mup_ne (by decide), mup_ne (by decide), mup_ne (by decide), mup_ne (by decide), mup_ne (by decide)]
          rw [this]; exact hlab i (by rw [← hL]; exact hi)
        · rw [mup_at, if_pos (show bI (!true) = 0 from rfl), w32n (by omega)]
      · refine gX11_settles_226 ⟨fun _ => h _ (Fr.up1 (by unfold SS; simp)) ⟨by rw [mup_ne (by decide), hL]; exact h84, fun i hi => ?_⟩ ?_, fun q => absurd rfl q⟩
        · have : labAt (mup M 66 34 (w32 ((dr : Int) + (if bI (!true) = 0 then (1 : Int) else 0)))) (128 * f + i) = labAt M (128 * f + i) := by unfold labAt; rw [mup_ne (by decide), mup_ne (by decide), mup_ne (by decide), mup_ne (by decide), mup_ne (by decide)]
          rw [this]; exact hlab i (by rw [← hL]; exact hi)
        · rw [mup_at, if_pos (show bI (!true) = 0 from rfl), w32n (by omega)]
    | false =>
      have eI : insL K c = K.filter (fun k => !odB c k) ++ [c] ∧ insD K c = (K.filter (fun k => odB c k)).length := by unfold insL insD; rw [hany]; exact ⟨rfl, rfl⟩
      rw [eI.1, eI.2] at h
      have em : mup M 66 34 (w32 ((dr : Int) + (if bI (!false) = 0 then (1 : Int) else 0))) = M := by
        rw [if_neg (by decide), w32_eq (by omega) (by omega), Int.add_zero, ← h34, mup_mset]
        have : fup (M 66) 34 (M 66 34) = M 66 := by
          funext i; unfold fup; split
          · subst_vars; rfl
          · rfl
        rw [this, mset_self]
      rw [em]
      have hfl : ∀ j, ((K.take j).filter (fun k => !odB c k)).length ≤ j := fun j => Nat.le_trans (List.length_filter_le _ _) (by rw [List.length_take]; exact Nat.min_le_left _ _)
      have hfd : ∀ j, ((K.take j).filter (fun k => odB c k)).length ≤ j := fun j => Nat.le_trans (List.length_filter_le _ _) (by rw [List.length_take]; exact Nat.min_le_left _ _)
      have k2 := dn (P := fun j => ∀ M' : Mem, Fr (SS f) M M' → M' 84 f = (L : Int) → M' 66 34 = ((dr + ((K.take j).filter (fun k => odB c k)).length : Nat) : Int) → (∀ i, i < ((K.take j).filter (fun k => !odB c k)).length → labAt M' (128 * f + i) = ((K.take j).filter (fun k => !odB c k)).getD i dl0) → (∀ i, j ≤ i → i < L → labAt M' (128 * f + i) = K.getD i dl0) → labAt M' (128 * f + L) = c → OkV G miX11_settles (d + 1) K0 150 [some (.inr (.inr (some 66))), some (.inl (f : Int)), some (.inl ((128 * f + L : Nat) : Int)), none, some (.inl (bI (!false))), some (.inl ((128 * f + ((K.take j).filter (fun k => !odB c k)).length : Nat) : Int)), some (.inl ((128 * f + j : Nat) : Int)), none] [] M') L ?_ (fun j hj ih => ?_) 0 (Nat.zero_le _)
      · exact k2 M Fr.rf h84 (by rw [h34]; rfl) (fun i hi => absurd hi (Nat.not_lt_zero _)) (fun i _ hi => hlab i hi) hc
      · intro M' hf' a84 a34 apre arest aown
        rw [← hL, List.take_length] at a34 apre ⊢
        rw [hL]
        have hle := hfl K.length
        rw [List.take_length, hL] at hle
        refine gX11_settles_150 ⟨fun _ => ?_, fun q => absurd q (by omega)⟩
        refine gX11_settles_226 ⟨fun q => absurd q (by decide), fun _ => ?_⟩
        refine c11_movesLabel rfl rfl (by omega) (by omega) ⟨by omega, ?_⟩
        rw [Int.toNat_natCast, show w32 ((((128 * f + (K.filter (fun k => !odB c k)).length : Nat) : Int) + 1) - (128 * (f : Int))) = (((K.filter (fun k => !odB c k)) ++ [c]).length : Int) by rw [w32_eq (by omega) (by omega), List.length_append, List.length_singleton]; omega, aown]
        refine h _ ((Fr_setL hf' c ⟨by omega, by omega⟩).up (by unfold SS; simp)) ⟨mup_at _ _ _ _, fun i hi => ?_⟩ ?_
        · rw [List.length_append, List.length_singleton] at hi
          have el : ∀ (M2 : Mem) (x : Int) (q : Nat), labAt (mup M2 84 f x) q = labAt M2 q := fun M2 x q => by unfold labAt; rw [mup_ne (by decide), mup_ne (by decide), mup_ne (by decide), mup_ne (by decide), mup_ne (by decide)]
          rw [el]
          by_cases ei : i = (K.filter (fun k => !odB c k)).length
          · subst ei; rw [setL_at, getD_app_r]
          · rw [setL_ne _ (by omega), getD_app_l (by omega)]; exact apre i (by omega)
        · rw [mup_ne (by decide), setL_cell _ (by omega)]; exact a34
      · intro M' hf' a84 a34 apre arest aown
        have hle := hfl j
        have hld := hfd j
        have ej := arest j (Nat.le_refl _) hj
        have t1 := take_filter (K := K) (q := fun k => odB c k) (j := j) (by omega)
        have t2 := take_filter (K := K) (q := fun k => !odB c k) (j := j) (by omega)
        rw [t1, t2] at ih
        refine gX11_settles_150 ⟨fun q => absurd q (by omega), fun _ => ⟨fun q => absurd q (by decide), fun _ => ?_⟩⟩
        refine c11_outdoes rfl rfl (by omega) (by omega) ?_
        rw [aown, ej, a34]
        generalize hod : odB c (K.getD j dl0) = b at *
        refine c11_movesLabel rfl rfl (by omega) (by omega) ?_
        have emv : labAt (mup M' 66 34 (w32 (((dr + ((K.take j).filter (fun k => odB c k)).length : Nat) : Int) + (if ¬ (bI b = 0) then (1 : Int) else 0)))) (128 * f + j) = K.getD j dl0 := by rw [← ej]; unfold labAt; rw [mup_ne (by decide), mup_ne (by decide), mup_ne (by decide), mup_ne (by decide), mup_ne (by decide)]
        rw [emv, show w32 (((128 * f + j : Nat) : Int) + 1) = ((128 * f + (j + 1) : Nat) : Int) by rw [w32_eq (by omega) (by omega)]; omega]
        have lab' : ∀ (x : Int) (q : Nat), q ≠ 128 * f + ((K.take j).filter (fun k => !odB c k)).length → labAt (setL (mup M' 66 34 x) (128 * f + ((K.take j).filter (fun k => !odB c k)).length) (K.getD j dl0)) q = labAt M' q := fun x q hq => by
          rw [setL_ne _ hq]; unfold labAt; rw [mup_ne (by decide), mup_ne (by decide), mup_ne (by decide), mup_ne (by decide), mup_ne (by decide)]
        have frl : ∀ x : Int, Fr (SS f) M (setL (mup M' 66 34 x) (128 * f + ((K.take j).filter (fun k => !odB c k)).length) (K.getD j dl0)) := fun x => Fr_setL (hf'.up (by unfold SS; simp)) _ ⟨by omega, by omega⟩
        cases b with
        | true =>
          rw [if_pos (show ¬ (bI true = 0) by decide), if_neg (show ¬ (bI true = 0) by decide), w32_eq (x := _ + 1) (by omega) (by omega), w32_eq (by omega) (by omega), Int.add_zero]
          have ih' := ih (setL (mup M' 66 34 (((dr + ((K.take j).filter (fun k => odB c k)).length : Nat) : Int) + 1)) (128 * f + ((K.take j).filter (fun k => !odB c k)).length) (K.getD j dl0)) (frl _)
          simp only [Bool.not_true, if_pos, Bool.false_eq_true, if_false, List.append_nil, List.length_append, List.length_singleton] at ih'
          refine ih' (by rw [setL_cell _ (by omega), mup_ne (by decide), a84]) (by rw [setL_cell _ (by omega), mup_at]; omega) (fun i hi => ?_) (fun i h1 h2 => ?_) ?_
          · rw [lab' _ _ (by omega)]; exact apre i hi
          · by_cases eq : 128 * f + i = 128 * f + ((K.take j).filter (fun k => !odB c k)).length
            · omega
            · rw [lab' _ _ eq]; exact arest i (by omega) h2
          · rw [lab' _ _ (by omega)]; exact aown
        | false =>
          rw [if_neg (show ¬ ¬ (bI false = 0) by decide), if_pos (show bI false = 0 by decide), Int.add_zero, w32_eq (by omega) (by omega), w32_eq (by omega) (by omega)]
          have ih' := ih (setL (mup M' 66 34 ((dr + ((K.take j).filter (fun k => odB c k)).length : Nat) : Int)) (128 * f + ((K.take j).filter (fun k => !odB c k)).length) (K.getD j dl0)) (frl _)
          simp only [Bool.not_false, if_pos, Bool.false_eq_true, if_false, List.append_nil, List.length_append, List.length_singleton] at ih'
          rw [show ((128 * f + ((K.take j).filter (fun k => !odB c k)).length : Nat) : Int) + 1 = ((128 * f + (((K.take j).filter (fun k => !odB c k)).length + 1) : Nat) : Int) by omega]
          refine ih' (by rw [setL_cell _ (by omega), mup_ne (by decide), a84]) (by rw [setL_cell _ (by omega), mup_at]) (fun i hi => ?_) (fun i h1 h2 => ?_) ?_
          · by_cases eq : i = ((K.take j).filter (fun k => !odB c k)).length
            · subst eq; rw [setL_at, getD_app_r]
            · rw [lab' _ _ (by omega), getD_app_l (by omega)]; exact apre i (by omega)
          · rw [lab' _ _ (by omega)]; exact arest i (by omega) h2
          · rw [lab' _ _ (by omega)]; exact aown
  · have ta := take_any (K := K) (q := fun k => odB k c) (j := j) (by omega)
    rw [ta] at ih
    refine gX11_settles_83 ⟨fun q => absurd q (by omega), fun _ => ?_⟩
    rw [show w32 (((128 * f + j : Nat) : Int) + 1) = ((128 * f + (j + 1) : Nat) : Int) by rw [w32_eq (by omega) (by omega)]; omega]
    generalize (K.take j).any (fun k => odB k c) = a at *
    cases a with
    | true => exact ⟨fun _ => ih, fun q => absurd rfl q⟩
    | false =>
      refine ⟨fun q => absurd q (by decide), fun _ => ?_⟩
      refine c11_outdoes rfl rfl (by omega) (by omega) ?_
      rw [hc, hlab j hj]
      cases hb : odB (K.getD j dl0) c with
      | true => rw [hb] at ih; exact ih
      | false => rw [hb] at ih; exact ih
end REFW
