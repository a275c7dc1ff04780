/-! the class: labels in memory -/
def labC (M : Mem) (i : Nat) : Lb := (M 48 i, M 52 i, M 49 i, M 50 i, M 51 i)
def EnM (M : Mem) (i : Nat) (s : Bool × Nat × Lb) : Prop := M 47 i = (s.2.1 : Int) ∧ M 53 i = bI s.1 ∧ labC M i = s.2.2
def LcM (S : Ls) (M : Mem) : Prop := M 46 9 = (S.length : Int) ∧ M 46 10 = (lsD S : Int) ∧ ∀ (i : Nat) (s : Bool × Nat × Lb), S[i]? = some s → EnM M i s
theorem LcM.fr {S : Ls} {M M' : Mem} {F : Nat → Nat → Bool} (h : LcM S M) (hf : Fr F M M') (hS : ∀ c i, 46 ≤ c → c ≤ 53 → F c i = false) : LcM S M' := by
  have e : ∀ c i, 46 ≤ c → c ≤ 53 → M' c i = M c i := fun c i h1 h2 => hf c i (hS c i h1 h2)
  refine ⟨by rw [e _ _ (by decide) (by decide)]; exact h.1, by rw [e _ _ (by decide) (by decide)]; exact h.2.1, fun i s hs => ?_⟩
  obtain ⟨h1, h2, h3⟩ := h.2.2 i s hs
  refine ⟨by rw [e _ _ (by decide) (by decide)]; exact h1, by rw [e _ _ (by decide) (by decide)]; exact h2, ?_⟩
  rw [← h3]; unfold labC
  rw [e 48 _ (by decide) (by decide), e 49 _ (by decide) (by decide), e 50 _ (by decide) (by decide), e 51 _ (by decide) (by decide), e 52 _ (by decide) (by decide)]
def S53 : Nat → Nat → Bool := fun c i => c == 53 || (c == 46 && i == 10)
theorem S53_rg {M M' : Mem} (h : Fr S53 M M') : Fr (rg 46 53) M M' := h.mo fun c i hc => by
  have := rg_of hc
  unfold S53; simp; omega
theorem EnM.of {M M' : Mem} (hf : Fr S53 M M') {i : Nat} {s : Bool × Nat × Lb} {b : Bool} (h : EnM M i s) (e : M' 53 i = bI b) : EnM M' i (b, s.2) := by
  refine ⟨by rw [hf 47 i rfl]; exact h.1, e, ?_⟩
  rw [← h.2.2]; unfold labC
  rw [hf 48 i rfl, hf 49 i rfl, hf 50 i rfl, hf 51 i rfl, hf 52 i rfl]
theorem dec_nat (a b : Nat) : decide ((a : Int) = (b : Int)) = (a == b) := by
  by_cases h : a = b
  · subst h; simp
  · rw [decide_eq_false (by omega)]; simp [h]
theorem dec_nat' (a b : Nat) : decide ((b : Int) = (a : Int)) = (a == b) := by
  by_cases h : a = b
  · subst h; simp
  · rw [decide_eq_false (by omega)]; simp [h]
section CLSV
variable {G : GE} {d : Nat} {M : Mem}
theorem c3_outdoes {K : Int → Mem → Prop} {v w : Int} {a b : Nat} (e : v = (a : Int)) (e' : w = (b : Int)) (ha : a < 128) (hb : b < 128) (h : K (bI (decide (M 47 a = M 47 b) && odB (labC M a) (labC M b))) M) : CalI G miX3_outdoes d [.inr (.inr (some 46)), .inl v, .inl w] M K := by
  subst e; subst e'
  have no : (decide (M 47 a = M 47 b) && odB (labC M a) (labC M b)) = false → K 0 M := fun q => by rw [q] at h; exact h
  refine Cal.of (by decide) (Nat.le_of_ble_eq_true rfl) rfl (gX3_outdoes_0 ?_)
  rw [Int.toNat_natCast, Int.toNat_natCast]
  refine ⟨by omega, by omega, fun c0 => no ?_, fun c0 => ⟨by omega, by omega, fun c => no ?_, fun c => ⟨by omega, by omega, fun c2 => no ?_, fun c2 => ⟨by omega, by omega, fun c3 => no ?_, fun c3 => ⟨by omega, by omega, fun c4 => no ?_, fun c4 => ⟨by omega, by omega, fun c5 => no ?_, fun c5 => ?_⟩⟩⟩⟩⟩⟩
  · simp [c0]
  · unfold odB labC; simp [c]
  · unfold odB labC; simp; omega
  · unfold odB labC; simp; omega
  · unfold odB labC; simp; omega
  · unfold odB labC; simp; omega
  · have : (decide (M 47 a = M 47 b) && odB (labC M a) (labC M b)) = true := by unfold odB labC; simp; omega
    rw [this] at h; exact h
theorem lsK_hit {S : Ls} (hR : RC S) {s s' : Bool × Nat × Lb} {f : Nat} (h : s ∈ S) (h' : s' ∈ S) (e : s.2.1 = f) (e' : s'.2.1 = f) (b : s.1 = false) (b' : s'.1 = false) (ho : odB s.2.2 s'.2.2 = true) : s.2.2 = s'.2.2 := by
  have hac : AcL (lsK f S) := by rw [hR f]; exact kl_ac _
  exact ac_eq hac _ (lsK_of h e b) _ (lsK_of h' e' b') ho
theorem take_mem {S : Ls} {a : Nat} {x : Bool × Nat × Lb} (h : x ∈ S.take a) : ∃ i, i < a ∧ S[i]? = some x := by
  obtain ⟨i, hi⟩ := List.mem_iff_getElem?.mp h
  rw [List.getElem?_take] at hi
  by_cases c : i < a
  · rw [if_pos c] at hi; exact ⟨i, c, hi⟩
  · rw [if_neg c] at hi; cases hi
theorem c3_compareLatest {K : Mem → Prop} {S : Ls} {f : Nat} {c : Lb} (hR : RC S) (hm : S.length ≤ 127) (h9 : M 46 9 = ((S.length + 1 : Nat) : Int)) (h10 : M 46 10 = (lsD S : Int)) (hS : ∀ (i : Nat) (s : Bool × Nat × Lb), S[i]? = some s → EnM M i s) (hl : EnM M S.length (false, f, c)) (h : ∀ M', Fr S53 M M' → LcM (lsC S f c) M' → K M') : CalV G miX3_compareLatest (d + 1) [.inr (.inr (some 46))] M K := by
  have hd := lsD_le S
  refine Cal.of (by decide) (Nat.le_of_ble_eq_true rfl) rfl (gX3_compareLatest_0 ?_)
  rw [h9, show w32 (((S.length + 1 : Nat) : Int) - 1) = (S.length : Int) by rw [w32_eq (by omega) (by omega)]; omega]
  have key := dn (P := fun a => ∀ M' : Mem, Fr S53 M M' → (∀ (i : Nat) (s : Bool × Nat × Lb), S[i]? = some s → M' 53 i = bI (if i < a then (ldU f c s).1 else s.1)) → M' 53 S.length = 0 → M' 46 10 = ((lsD S + (S.take a).countP (nwB f c) : Nat) : Int) → (∀ (i : Nat) (s : Bool × Nat × Lb), i < a → S[i]? = some s → s.1 = false → s.2.1 = f → odB s.2.2 c = false) → OkV G miX3_compareLatest (d + 1) K 9 [some (.inr (.inr (some 46))), some (.inl (S.length : Int)), some (.inl (a : Int))] [] M') S.length ?_ (fun a ha ih => ?_) 0 (Nat.zero_le _) M Fr.rf (fun i s hs => by rw [if_neg (by omega)]; exact (hS i s hs).2.1) hl.2.1 (by rw [List.take_zero]; exact h10) (fun i s hi => absurd hi (Nat.not_lt_zero _))
  · exact key
  · intro M' hf h53 hm53 hdr hno
    refine gX3_compareLatest_9 ⟨fun _ => ?_, fun z => absurd z (by omega)⟩
    have hh : hitB f c S = false := by
      rw [Bool.eq_false_iff]
      intro z
      unfold hitB at z
      obtain ⟨s, hs, e⟩ := List.any_eq_true.mp z
      obtain ⟨i, hi⟩ := List.mem_iff_getElem?.mp hs
      have hil := (List.getElem?_eq_some_iff.mp hi).1
      simp at e
      have := hno i s hil hi e.1 e.2.1
      rw [this] at e; exact absurd e.2.2 (by decide)
    have el : lsC S f c = S.map (ldU f c) ++ [(false, f, c)] := by unfold lsC; rw [if_neg (by rw [hh]; decide)]
    refine h M' hf ⟨?_, ?_, fun i s hs => ?_⟩
    · rw [lsC_len, hf 46 9 rfl, h9]
    · rw [el, lsD_app, lsD_U, hdr, List.take_length]; rfl
    · rw [el] at hs
      rcases Nat.lt_or_ge i S.length with c1 | c1
      · rw [List.getElem?_append_left (by rw [List.length_map]; exact c1), List.getElem?_map] at hs
        have hsi := List.getElem?_eq_getElem c1
        rw [hsi] at hs
        simp only [Option.map_some, Option.some.injEq] at hs
        have a := h53 i _ hsi
        rw [if_pos c1] at a
        have b := (hS i _ hsi).of hf a
        rw [← ldU_2 f c] at b
        rw [← hs]; exact b
      · have hi : i = S.length := by
          have := (List.getElem?_eq_some_iff.mp hs).1
          rw [List.length_append, List.length_map, List.length_singleton] at this; omega
        subst hi
        have e2 := List.getElem?_concat_length (l := S.map (ldU f c)) (a := (false, f, c))
        rw [List.length_map] at e2
        rw [e2] at hs
        cases hs
        exact hl.of hf hm53
  · intro M' hf h53 hm53 hdr hno
    have hsa := List.getElem?_eq_getElem ha
    generalize S[a] = s at hsa
    have hsm : s ∈ S := List.mem_of_getElem? hsa
    have a53 := h53 a s hsa
    rw [if_neg (by omega)] at a53
    have en := (hS a s hsa).of hf a53
    have enl := hl.of hf (b := false) hm53
    have hcnt : (S.take a).countP (nwB f c) ≤ S.length := Nat.le_trans List.countP_le_length (by rw [List.length_take]; omega)
    have etk : (S.take (a + 1)).countP (nwB f c) = (S.take a).countP (nwB f c) + if nwB f c s = true then 1 else 0 := by
      rw [List.take_succ, hsa, List.countP_append]; simp [List.countP_cons]
    -- nothing new here
    have stay : nwB f c s = false → (s.1 = false → s.2.1 = f → odB s.2.2 c = false) → OkV G miX3_compareLatest (d + 1) K 9 [some (.inr (.inr (some 46))), some (.inl (S.length : Int)), some (.inl ((a + 1 : Nat) : Int))] [] M' := fun hn hz => by
      refine ih M' hf (fun i s' hs' => ?_) hm53 (by rw [etk, hn]; exact hdr) (fun i s' hi hs' => ?_)
      · rw [h53 i s' hs']
        by_cases e : i = a
        · subst e
          rw [hsa] at hs'; cases hs'
          rw [if_neg (by omega), if_pos (by omega)]; unfold ldU; rw [if_neg (by rw [hn]; decide)]
        · by_cases e2 : i < a
          · rw [if_pos e2, if_pos (by omega)]
          · rw [if_neg e2, if_neg (by omega)]
      · by_cases e : i = a
        · subst e; rw [hsa] at hs'; cases hs'; exact hz
        · exact hno i s' (by omega) hs'
    refine gX3_compareLatest_9 ⟨fun z => absurd z (by omega), fun _ => ⟨by omega, ?_⟩⟩
    rw [Int.toNat_natCast, a53, w32n (k := a) (by omega)]
    cases hb : s.1 with
    | true => exact ⟨fun z => absurd z (by decide), fun _ => stay (by unfold nwB; rw [hb]; rfl) (fun z => by rw [hb] at z; cases z)⟩
    | false =>
      refine ⟨fun _ => ?_, fun z => absurd rfl z⟩
      have ef : decide (M' 47 a = M' 47 S.length) = (s.2.1 == f) := by
        rw [en.1, enl.1]; exact dec_nat _ _
      have ef2 : decide (M' 47 S.length = M' 47 a) = (s.2.1 == f) := by
        rw [en.1, enl.1]; exact dec_nat' _ _
      have la : labC M' a = s.2.2 := en.2.2
      have ll : labC M' S.length = c := enl.2.2
      refine c3_outdoes rfl rfl (by omega) (by omega) ?_
      rw [ef, la, ll, Int.toNat_natCast]
      cases h1 : (s.2.1 == f && odB s.2.2 c) with
      | true =>
        refine ⟨fun z => absurd z (by decide), fun _ => ⟨by omega, ?_⟩⟩
        rw [Bool.and_eq_true] at h1
        have hsf : s.2.1 = f := by simpa using h1.1
        have none : ∀ (i : Nat) (s' : Bool × Nat × Lb), i < a → S[i]? = some s' → nwB f c s' = false := fun i s' hi hs' => by
          rw [Bool.eq_false_iff]
          intro z
          unfold nwB at z
          simp at z
          have hs'm := List.mem_of_getElem? hs'
          have e := lsK_hit hR hsm hs'm hsf z.2.1 hb z.1 (odB_tr h1.2 z.2.2)
          have := hno i s' hi hs' z.1 z.2.1
          rw [← e, h1.2] at this; cases this
        have hc0 : (S.take a).countP (nwB f c) = 0 := List.countP_eq_zero.mpr (fun x hx => by
          obtain ⟨i, hi, hi2⟩ := take_mem hx
          rw [none i x hi hi2]; decide)
        rw [hc0, Nat.add_zero] at hdr
        have hh : hitB f c S = true := by
          unfold hitB
          exact List.any_eq_true.mpr ⟨s, hsm, by rw [hb, h1.1, h1.2]; rfl⟩
        have el : lsC S f c = S ++ [(true, f, c)] := by unfold lsC; rw [if_pos hh]
        rw [mup_ne (show (46 : Nat) ≠ 53 by decide), hdr, w32n (by omega)]
        have f2 : Fr S53 M (mup (mup M' 53 S.length 1) 46 10 ((lsD S + 1 : Nat) : Int)) := (hf.up (by unfold S53; simp)).up (by unfold S53; simp)
        refine h _ f2 ⟨?_, ?_, fun i s' hs' => ?_⟩
        · rw [lsC_len, f2 46 9 rfl, h9]
        · rw [el, lsD_app, mup_at]; rfl
        · rw [el] at hs'
          rcases Nat.lt_or_ge i S.length with c1 | c1
          · rw [List.getElem?_append_left c1] at hs'
            have q := h53 i s' hs'
            have q2 : M' 53 i = bI s'.1 := by
              rw [q]
              by_cases e2 : i < a
              · rw [if_pos e2]; unfold ldU; rw [if_neg (by rw [none i s' e2 hs']; decide)]
              · rw [if_neg e2]
            have q3 := (hS i s' hs').of f2 (b := s'.1) (by rw [mup_ne (by decide), mup_at_ne (by omega)]; exact q2)
            exact q3
          · have hi : i = S.length := by
              have := (List.getElem?_eq_some_iff.mp hs').1
              rw [List.length_append, List.length_singleton] at this; omega
            subst hi
            rw [List.getElem?_concat_length] at hs'
            cases hs'
            exact hl.of f2 (b := true) (by rw [mup_ne (by decide), mup_at]; rfl)
      | false =>
        refine ⟨fun _ => ?_, fun z => absurd rfl z⟩
        have hz : s.1 = false → s.2.1 = f → odB s.2.2 c = false := fun _ e => by
          rw [e] at h1; simpa using h1
        refine c3_outdoes rfl rfl (by omega) (by omega) ?_
        rw [ef2, la, ll]
        cases h2 : (s.2.1 == f && odB c s.2.2) with
        | false => exact ⟨fun _ => stay (by unfold nwB; rw [hb, h2]; rfl) hz, fun z => absurd rfl z⟩
        | true =>
          refine ⟨fun z => absurd z (by decide), fun _ => ⟨by omega, ?_⟩⟩
          have hn : nwB f c s = true := by unfold nwB; rw [hb, h2]; rfl
          rw [mup_ne (show (46 : Nat) ≠ 53 by decide), hdr, w32n (by omega)]
          have f2 : Fr S53 M (mup (mup M' 53 a 1) 46 10 ((lsD S + (S.take a).countP (nwB f c) + 1 : Nat) : Int)) := (hf.up (by unfold S53; simp)).up (by unfold S53; simp)
          refine ih _ f2 (fun i s' hs' => ?_) (by rw [mup_ne (by decide), mup_at_ne (by omega)]; exact hm53) (by rw [mup_at, etk, if_pos hn]; omega) (fun i s' hi hs' => ?_)
          · rw [mup_ne (by decide)]
            by_cases e : i = a
            · subst e
              rw [hsa] at hs'; cases hs'
              rw [mup_at, if_pos (by omega)]; unfold ldU; rw [if_pos hn]; rfl
            · rw [mup_at_ne e, h53 i s' hs']
              by_cases e2 : i < a
              · rw [if_pos e2, if_pos (by omega)]
              · rw [if_neg e2, if_neg (by omega)]
          · by_cases e : i = a
            · subst e; rw [hsa] at hs'; cases hs'; exact hz
            · exact hno i s' (by omega) hs'
end CLSV
