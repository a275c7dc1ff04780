/-! the class's labels: how they come, what they come to -/
theorem how_place {g : Nat → Int} (hw : WF g) {i k : Nat} (hi : i < nF g) (hk : k < nF g) (h : howF g (oN g i) (oN g k) ≠ 0) : i < k := by
  have hn := hw.n
  have hl := oN_lt g hi
  have h1 := hw.ft hl
  have ha := (hw.fl (show oN g i < 7 by omega)).2.1
  have hr := restF_bd hw (a := (g (8 + oN g i)).toNat) (by omega)
  have hs := sitF_bd hw (a := (g (8 + oN g i)).toNat) (by omega)
  refine oN_dep g hi hk ?_
  unfold howF at h
  split at h
  · exact absurd rfl h
  · split at h
    · omega
    · split at h
      · omega
      · exact absurd rfl h
def lawC (g : Nat → Int) (f : Nat) (c : Lb) : Bool := (g 86).toNat.testBit c.1.toNat && lawB g f c
def lsV (g : Nat → Int) (S : Ls) (f : Nat) (c : Lb) : Ls := if lawC g f c = true then lsC S f c else S
theorem lsV_len (g : Nat → Int) (S : Ls) (f : Nat) (c : Lb) : S.length ≤ (lsV g S f c).length := by
  unfold lsV; split
  · rw [lsC_len]; omega
  · exact Nat.le_refl _
theorem lsA_V (g : Nat → Int) (S : Ls) (f f' : Nat) (c : Lb) : lsA f' (lsV g S f c) = lsA f' S ++ if f' = f then [c].filter (lawC g f) else [] := by
  unfold lsV
  cases h : lawC g f c with
  | true => rw [if_pos rfl, lsA_C, List.filter_cons_of_pos h, List.filter_nil]
  | false =>
    rw [if_neg (by decide), List.filter_cons_of_neg (by rw [h]; decide), List.filter_nil]
    split <;> rw [List.append_nil]
theorem RC_V {g : Nat → Int} {S : Ls} (h : RC S) (f : Nat) (c : Lb) : RC (lsV g S f c) := by
  unfold lsV; split
  · exact RC_C h f c
  · exact h
theorem lsC_mem {S : Ls} {f : Nat} {c : Lb} {s : Bool × Nat × Lb} (h : s ∈ lsC S f c) : s.2 = (f, c) ∨ ∃ s0 ∈ S, s.2 = s0.2 := by
  unfold lsC at h
  split at h
  · rcases List.mem_append.mp h with h | h
    · exact .inr ⟨s, h, rfl⟩
    · rw [List.mem_singleton.mp h]; exact .inl rfl
  · rcases List.mem_append.mp h with h | h
    · obtain ⟨s0, h0, e⟩ := List.mem_map.mp h
      exact .inr ⟨s0, h0, by rw [← e, ldU_2]⟩
    · rw [List.mem_singleton.mp h]; exact .inl rfl
def EnS (g : Nat → Int) (S : Ls) : Prop := ∀ s ∈ S, s.2.1 < nF g ∧ (g 86).toNat.testBit s.2.2.1.toNat = true
theorem EnS_V {g : Nat → Int} {S : Ls} (h : EnS g S) {f : Nat} (hf : f < nF g) (c : Lb) : EnS g (lsV g S f c) := by
  unfold lsV
  cases hl : lawC g f c with
  | false => rw [if_neg (by decide)]; exact h
  | true =>
    rw [if_pos rfl]
    intro s hs
    rcases lsC_mem hs with e | ⟨s0, h0, e⟩
    · rw [e]
      unfold lawC at hl
      rw [Bool.and_eq_true] at hl
      exact ⟨hf, hl.1⟩
    · rw [e]; exact h s0 h0
/-- those at f stay as they are -/
def Kp (f : Nat) (S S' : Ls) : Prop := ∀ (j : Nat) (s : Bool × Nat × Lb), S[j]? = some s → ∃ b, S'[j]? = some (b, s.2) ∧ (s.2.1 = f → b = s.1)
theorem Kp.rf {f : Nat} {S : Ls} : Kp f S S := fun _ s h => ⟨s.1, h, fun _ => rfl⟩
theorem Kp.tr {f : Nat} {S S' S'' : Ls} (h : Kp f S S') (h' : Kp f S' S'') : Kp f S S'' := fun j s hs => by
  obtain ⟨b, h1, h2⟩ := h j s hs
  obtain ⟨b', h3, h4⟩ := h' j _ h1
  exact ⟨b', h3, fun e => (h4 e).trans (h2 e)⟩
theorem Kp_V {g : Nat → Int} {f f' : Nat} (hne : f' ≠ f) (S : Ls) (c : Lb) : Kp f S (lsV g S f' c) := by
  unfold lsV
  split
  · intro j s hs
    have hj : j < S.length := (List.getElem?_eq_some_iff.mp hs).1
    unfold lsC
    split
    · exact ⟨s.1, by rw [List.getElem?_append_left hj]; exact hs, fun _ => rfl⟩
    · refine ⟨(ldU f' c s).1, ?_, fun e => ?_⟩
      · rw [List.getElem?_append_left (by rw [List.length_map]; exact hj), List.getElem?_map, hs]
        rw [← ldU_2 f' c s]; rfl
      · unfold ldU
        rw [if_neg]
        unfold nwB
        have : (s.2.1 == f') = false := by rw [e]; simp; exact fun z => hne z.symm
        rw [this]; simp
  · exact Kp.rf
def goS (g p : Nat → Int) (f : Nat) (l : Lb) (S : Ls) : Nat → Ls
  | 0 => S
  | h + 1 => if howF g f h ≠ 0 then lsV g (goS g p f l S h) h (extL g p f h l) else goS g p f l S h
section GOS
variable {g p : Nat → Int} {f : Nat} {l : Lb} {S : Ls}
theorem goS_len1 (h : Nat) : (goS g p f l S h).length ≤ (goS g p f l S (h + 1)).length := by
  rw [goS]; split
  · exact lsV_len _ _ _ _
  · exact Nat.le_refl _
theorem goS_len {h h' : Nat} (hh : h ≤ h') : (goS g p f l S h).length ≤ (goS g p f l S h').length := by
  induction h' with
  | zero => have : h = 0 := by omega
            subst this; exact Nat.le_refl _
  | succ h' ih =>
    by_cases e : h = h' + 1
    · subst e; exact Nat.le_refl _
    · exact Nat.le_trans (ih (by omega)) (goS_len1 h')
theorem lsA_go (h' : Nat) : ∀ h, lsA h' (goS g p f l S h) = lsA h' S ++ if h' < h ∧ howF g f h' ≠ 0 then [extL g p f h' l].filter (lawC g h') else [] := by
  intro h
  induction h with
  | zero => rw [goS, if_neg (by omega), List.append_nil]
  | succ h ih =>
    rw [goS]
    by_cases hh : howF g f h ≠ 0
    · rw [if_pos hh, lsA_V, ih]
      by_cases e : h' = h
      · subst e; rw [if_neg (by omega), if_pos rfl, if_pos ⟨by omega, hh⟩, List.append_nil]
      · rw [if_neg e, List.append_nil]
        by_cases e2 : h' < h ∧ howF g f h' ≠ 0
        · rw [if_pos e2, if_pos ⟨by omega, e2.2⟩]
        · rw [if_neg e2, if_neg (fun z => e2 ⟨by omega, z.2⟩)]
    · rw [if_neg hh, ih]
      by_cases e2 : h' < h ∧ howF g f h' ≠ 0
      · rw [if_pos e2, if_pos ⟨by omega, e2.2⟩]
      · rw [if_neg e2, if_neg (fun z => e2 ⟨by
          rcases Nat.lt_or_ge h' h with q | q
          · exact q
          · have : h' = h := by omega
            subst this; exact absurd z.2 hh, z.2⟩)]
theorem RC_go (hS : RC S) : ∀ h, RC (goS g p f l S h) := by
  intro h
  induction h with
  | zero => exact hS
  | succ h ih =>
    rw [goS]; split
    · exact RC_V ih _ _
    · exact ih
theorem EnS_go (hS : EnS g S) : ∀ h, h ≤ nF g → EnS g (goS g p f l S h) := by
  intro h
  induction h with
  | zero => intro _; exact hS
  | succ h ih =>
    intro hh
    rw [goS]; split
    · exact EnS_V (ih (by omega)) (by omega) _
    · exact ih (by omega)
theorem Kp_go (hf : howF g f f = 0) : ∀ h, Kp f S (goS g p f l S h) := by
  intro h
  induction h with
  | zero => exact Kp.rf
  | succ h ih =>
    rw [goS]; split
    · rename_i hh
      exact ih.tr (Kp_V (fun e => by subst e; exact hh hf) _ _)
    · exact ih
end GOS
def wk1 (g p : Nat → Int) (f : Nat) (o : Option (Bool × Nat × Lb)) (S : Ls) : Ls := match o with
  | some s => if s.1 = false ∧ s.2.1 = f then goS g p f s.2.2 S (nF g) else S
  | none => S
def wkS (g p : Nat → Int) (f : Nat) (S1 : Ls) : Nat → Ls
  | 0 => S1
  | a + 1 => wk1 g p f S1[a]? (wkS g p f S1 a)
section WKS
variable {g p : Nat → Int} {f : Nat} {S1 : Ls}
theorem wkS_len1 (a : Nat) : (wkS g p f S1 a).length ≤ (wkS g p f S1 (a + 1)).length := by
  rw [wkS]; unfold wk1
  split
  · split
    · exact goS_len (h := 0) (h' := nF g) (Nat.zero_le _)
    · exact Nat.le_refl _
  · exact Nat.le_refl _
theorem wkS_len {a a' : Nat} (h : a ≤ a') : (wkS g p f S1 a).length ≤ (wkS g p f S1 a').length := by
  induction a' with
  | zero => have : a = 0 := by omega
            subst this; exact Nat.le_refl _
  | succ a' ih =>
    by_cases e : a = a' + 1
    · subst e; exact Nat.le_refl _
    · exact Nat.le_trans (ih (by omega)) (wkS_len1 a')
theorem lsA_wk (h : Nat) : ∀ a, lsA h (wkS g p f S1 a) = lsA h S1 ++ if h < nF g ∧ howF g f h ≠ 0 then ((lsK f (S1.take a)).map (extL g p f h)).filter (lawC g h) else [] := by
  intro a
  induction a with
  | zero =>
    rw [wkS, List.take_zero]
    have : lsK f [] = [] := rfl
    rw [this]
    split <;> exact (List.append_nil _).symm
  | succ a ih =>
    rw [wkS, List.take_succ]
    unfold wk1
    cases hs : S1[a]? with
    | none => simp only [Option.toList_none, List.append_nil]; exact ih
    | some s =>
      obtain ⟨b, f1, l⟩ := s
      simp only [Option.toList_some]
      rw [lsK_app, lsK_one]
      by_cases c : b = false ∧ f1 = f
      · rw [if_pos c, if_pos (⟨c.1, c.2.symm⟩ : b = false ∧ f = f1), lsA_go, ih]
        by_cases c2 : h < nF g ∧ howF g f h ≠ 0
        · rw [if_pos c2, if_pos c2, if_pos c2, List.map_append, List.filter_append, List.append_assoc]; rfl
        · rw [if_neg c2, if_neg c2, if_neg c2, List.append_nil]
      · rw [if_neg c, if_neg (show ¬ (b = false ∧ f = f1) from fun z => c ⟨z.1, z.2.symm⟩), List.append_nil]; exact ih
theorem RC_wk (hS : RC S1) : ∀ a, RC (wkS g p f S1 a) := by
  intro a
  induction a with
  | zero => exact hS
  | succ a ih =>
    rw [wkS]; unfold wk1; split
    · split
      · exact RC_go ih _
      · exact ih
    · exact ih
theorem EnS_wk (hS : EnS g S1) : ∀ a, EnS g (wkS g p f S1 a) := by
  intro a
  induction a with
  | zero => exact hS
  | succ a ih =>
    rw [wkS]; unfold wk1; split
    · split
      · exact EnS_go ih _ (Nat.le_refl _)
      · exact ih
    · exact ih
theorem Kp_wk (hf : howF g f f = 0) : ∀ a, Kp f S1 (wkS g p f S1 a) := by
  intro a
  induction a with
  | zero => exact Kp.rf
  | succ a ih =>
    rw [wkS]; unfold wk1; split
    · split
      · exact ih.tr (Kp_go hf _)
      · exact ih
    · exact ih
end WKS
def begS (g p : Nat → Int) (f : Nat) (S : Ls) : Ls := lsV g S f (begL g p f)
def woS (g p : Nat → Int) : Nat → Ls
  | 0 => []
  | i + 1 => wkS g p (oN g i) (begS g p (oN g i) (woS g p i)) (begS g p (oN g i) (woS g p i)).length
def arrN (g p : Nat → Int) (k : Nat) : Nat → List Lb
  | 0 => []
  | i + 1 => arrN g p k i ++ arrI g p (keptL g p) k i
theorem arrL_N (g p : Nat → Int) (k : Nat) : ∀ i, arrL g p k i = arr0 g p k ++ arrN g p k i := by
  intro i
  induction i with
  | zero => show arr0 g p k = _; rw [arrN, List.append_nil]
  | succ i ih =>
    show arrT g p (keptL g p) k i ++ arrI g p (keptL g p) k i = _
    have ih' : arrT g p (keptL g p) k i = arr0 g p k ++ arrN g p k i := ih
    rw [arrN, ih', List.append_assoc]
theorem filt_law {g : Nat → Int} {f : Nat} {A : List Lb} (h : ∀ l ∈ A, (g 86).toNat.testBit l.1.toNat = true) : A.filter (lawC g f) = A.filter (lawB g f) :=
  List.filter_congr (fun l hl => by unfold lawC; rw [h l hl]; rfl)
theorem lsK_in {f : Nat} {S : Ls} {l : Lb} (h : l ∈ lsK f S) : ∃ s ∈ S, s.2.2 = l ∧ s.2.1 = f ∧ s.1 = false := by
  unfold lsK at h
  obtain ⟨s, hs, e⟩ := List.mem_map.mp h
  have := List.mem_filter.mp hs
  simp at this
  exact ⟨s, this.1, e, this.2.2, this.2.1⟩
theorem lsA_in {f : Nat} {S : Ls} {s : Bool × Nat × Lb} (h : s ∈ S) (e : s.2.1 = f) : s.2.2 ∈ lsA f S := by
  unfold lsA
  exact List.mem_map.mpr ⟨s, List.mem_filter.mpr ⟨h, by simpa using e⟩, rfl⟩
theorem lsK_of {f : Nat} {S : Ls} {s : Bool × Nat × Lb} (h : s ∈ S) (e : s.2.1 = f) (e2 : s.1 = false) : s.2.2 ∈ lsK f S := by
  unfold lsK
  exact List.mem_map.mpr ⟨s, List.mem_filter.mpr ⟨h, by rw [e2, e]; simp⟩, rfl⟩
section WOS
variable {g p : Nat → Int}
/-- what came to place k while i places are done -/
def WoI (g p : Nat → Int) (S : Ls) (i : Nat) : Prop := (EnS g S ∧ RC S) ∧ (∀ k, k < i → (lsA (oN g k) S).Perm ((arrL g p k k).filter (lawB g (oN g k)))) ∧ ∀ k, i ≤ k → k < nF g → (lsA (oN g k) S).Perm ((arrN g p k i).filter (lawB g (oN g k)))
/-- the flight begun, too -/
def WoJ (g p : Nat → Int) (S : Ls) (i : Nat) : Prop := (EnS g S ∧ RC S) ∧ (∀ k, k ≤ i → (lsA (oN g k) S).Perm ((arrL g p k k).filter (lawB g (oN g k)))) ∧ ∀ k, i < k → k < nF g → (lsA (oN g k) S).Perm ((arrN g p k i).filter (lawB g (oN g k)))
theorem WoJ.kept {S : Ls} {i : Nat} (h : WoJ g p S i) {k : Nat} (hk : k ≤ i) : (lsK (oN g k) S).Perm (keptL g p k) := by
  rw [h.1.2, (keptL_kl g p k).1]; exact kl_perm (h.2.1 k hk)
theorem wo_begin {S : Ls} {i : Nat} (hi : i < nF g) (h : WoI g p S i) : WoJ g p (begS g p (oN g i) S) i := by
  have hl := oN_lt g hi
  refine ⟨⟨EnS_V h.1.1 hl _, RC_V h.1.2 _ _⟩, fun k hk => ?_, fun k hk hkn => ?_⟩
  · unfold begS
    rw [lsA_V]
    by_cases e : k = i
    · subst e
      rw [if_pos rfl, arrL_N, List.filter_append]
      refine (List.Perm.append_right _ (h.2.2 k (Nat.le_refl _) hi)).trans ?_
      refine List.perm_append_comm.trans (List.Perm.append_right _ ?_)
      have e1 : [begL g p (oN g k)].filter (lawC g (oN g k)) = (arr0 g p k).filter (lawB g (oN g k)) := by
        unfold arr0
        have eb : (begL g p (oN g k)).1 = g (1 + oN g k) := rfl
        split
        · rename_i hb
          exact filt_law (fun l hl => by rw [List.mem_singleton.mp hl, eb]; exact hb)
        · rename_i hb
          rw [List.filter_cons_of_neg]
          · rfl
          · unfold lawC; rw [eb]; simp [hb]
      rw [e1]
    · rw [if_neg (fun z => e (oN_inj g (by omega) hi z)), List.append_nil]
      exact h.2.1 k (by omega)
  · unfold begS
    rw [lsA_V, if_neg (fun z => by have := oN_inj g hkn hi z; omega), List.append_nil]
    exact h.2.2 k (by omega) hkn
theorem wo_step (hw : WF g) {S : Ls} {i : Nat} (hi : i < nF g) (h : WoJ g p S i) : WoI g p (wkS g p (oN g i) S S.length) (i + 1) := by
  refine ⟨⟨EnS_wk h.1.1 _, RC_wk h.1.2 _⟩, fun k hk => ?_, fun k hk hkn => ?_⟩
  · rw [lsA_wk, if_neg (fun z => by have := how_place hw hi (show k < nF g by omega) z.2; omega), List.append_nil]
    exact h.2.1 k (by omega)
  · rw [lsA_wk, List.take_length, arrN, List.filter_append]
    refine List.Perm.append (h.2.2 k (by omega) hkn) ?_
    unfold arrI
    have hb := howF_bd g (oN g i) (oN g k)
    by_cases c : howF g (oN g i) (oN g k) ≠ 0
    · rw [if_pos ⟨oN_lt g hkn, c⟩, if_pos (by omega), filt_law]
      · exact ((h.kept (Nat.le_refl _)).map _).filter _
      · intro l hl
        obtain ⟨l0, h0, rfl⟩ := List.mem_map.mp hl
        obtain ⟨s, hs, e, -⟩ := lsK_in h0
        have := (h.1.1 s hs).2
        rw [e] at this
        exact this
    · rw [if_neg (fun z => c z.2), if_neg (by omega)]; exact List.Perm.refl _
theorem wo_inv (hw : WF g) : ∀ i, i ≤ nF g → WoI g p (woS g p i) i := by
  intro i
  induction i with
  | zero => intro _; exact ⟨⟨fun s hs => absurd hs List.not_mem_nil, RC_nil⟩, fun k hk => absurd hk (Nat.not_lt_zero _), fun k _ _ => List.Perm.refl _⟩
  | succ i ih => intro hi; exact wo_step hw (by omega) (wo_begin (by omega) (ih (by omega)))
theorem wo_lenA {S : Ls} {i : Nat} (hi : i ≤ nF g) (h : WoI g p S i) {k : Nat} (hk : k < nF g) : (lsA (oN g k) S).length ≤ 2 ^ k := by
  rcases Nat.lt_or_ge k i with c | c
  · rw [(h.2.1 k c).length_eq]
    exact Nat.le_trans (List.length_filter_le _ _) ((arr_len g p k).2 k (Nat.le_refl _))
  · rw [(h.2.2 k c hk).length_eq]
    have h1 := (arr_len g p k).2 i c
    rw [arrL_N, List.length_append] at h1
    have h2 : 2 ^ i ≤ 2 ^ k := Nat.pow_le_pow_right (by decide) c
    have h3 := List.length_filter_le (lawB g (oN g k)) (arrN g p k i)
    omega
theorem sum_two (n : Nat) : sumT (fun k => ((2 ^ k : Nat) : Int)) n = ((2 ^ n : Nat) : Int) - 1 := by
  induction n with
  | zero => rfl
  | succ n ih =>
    have := two_pow_sum n
    simp only [sumT, ih]; omega
theorem wo_len (hw : WF g) {S : Ls} {i : Nat} (hi : i ≤ nF g) (h : WoI g p S i) : S.length ≤ 127 := by
  have hn := hw.n
  have h1 := ls_tot (g := g) (fun _ => true) S (fun s hs => (h.1.1 s hs).1)
  have h2 : sumT (fun k => ((S.countP (fun s => true && s.2.1 == oN g k) : Nat) : Int)) (nF g) ≤ sumT (fun k => ((2 ^ k : Nat) : Int)) (nF g) := sumT_le (fun k hk => by rw [← lsA_len]; have := wo_lenA hi h hk; omega)
  rw [sum_two] at h2
  have h3 : S.countP (fun _ => true) = S.length := by simp
  have h4 := pow_le7 hn.2
  rw [h3] at h1
  omega
theorem wo_fin (hw : WF g) {S : Ls} (h : WoI g p S (nF g)) : S.length = keptS g p (nF g) + dropS g p (nF g) ∧ lsD S = dropS g p (nF g) ∧ ∀ k, k < nF g → (lsK (oN g k) S).Perm (keptL g p k) := by
  have hk : ∀ k, k < nF g → (lsK (oN g k) S).Perm (keptL g p k) := fun k hk => by
    rw [h.1.2, (keptL_kl g p k).1]; exact kl_perm (h.2.1 k hk)
  have h1 := ls_tot (g := g) (fun _ => true) S (fun s hs => (h.1.1 s hs).1)
  have h2 := ls_tot (g := g) (fun s => !s.1) S (fun s hs => (h.1.1 s hs).1)
  have e1 : sumT (fun k => ((S.countP (fun s => true && s.2.1 == oN g k) : Nat) : Int)) (nF g) = sumT (fun k => (((keptL g p k).length + dropC g p k : Nat) : Int)) (nF g) := sumT_congr (fun k hk => by rw [← lsA_len, (h.2.1 k hk).length_eq, (keptL_kl g p k).2])
  have e2 : sumT (fun k => ((S.countP (fun s => !s.1 && s.2.1 == oN g k) : Nat) : Int)) (nF g) = sumT (fun k => (((keptL g p k).length : Nat) : Int)) (nF g) := sumT_congr (fun k hk' => by rw [← lsK_len, (hk k hk').length_eq])
  have f1 : ∀ n, sumT (fun k => (((keptL g p k).length : Nat) : Int)) n = (keptS g p n : Int) := fun n => by
    induction n with
    | zero => rfl
    | succ n ih => simp only [sumT, ih, keptS]; omega
  have f2 : ∀ n, sumT (fun k => (((keptL g p k).length + dropC g p k : Nat) : Int)) n = ((keptS g p n + dropS g p n : Nat) : Int) := fun n => by
    induction n with
    | zero => rfl
    | succ n ih => simp only [sumT, ih, keptS, dropS]; omega
  rw [e1, f2] at h1
  rw [e2, f1] at h2
  have h3 : S.countP (fun _ => true) = S.length := by simp
  have h4 : S.length = S.countP (fun s => s.1) + S.countP (fun s => !s.1) := by
    have := List.length_eq_countP_add_countP (fun s : Bool × Nat × Lb => s.1) (l := S)
    rw [this]; congr 1
    exact List.countP_congr (fun s _ => by cases s.1 <;> simp)
  rw [h3] at h1
  refine ⟨by omega, ?_, hk⟩
  unfold lsD; omega
theorem minI_eq {L L' : List Int} (h : ∀ x ∈ L, ∃ y ∈ L', y ≤ x) (h' : ∀ y ∈ L', ∃ x ∈ L, x ≤ y) : minI L = minI L' := by
  cases hm : minL L with
  | none =>
    have e := (minL_ok L).1 hm
    have : ∀ y, ¬ y ∈ L' := fun y hy => by
      obtain ⟨x, hx, -⟩ := h' y hy
      rw [e] at hx; exact absurd hx List.not_mem_nil
    rw [minI_none this, e]; rfl
  | some m =>
    have a := (minL_ok L).2 m hm
    obtain ⟨y, hy, hle⟩ := h m a.1
    obtain ⟨x, hx, hle2⟩ := h' y hy
    have := a.2 x hx
    have e : minI L = m := by unfold minI; rw [hm]
    rw [e]
    refine (minI_some (show m ∈ L' from by rw [show m = y by omega]; exact hy) (fun z hz => ?_)).symm
    obtain ⟨x2, hx2, hle3⟩ := h' z hz
    have := a.2 x2 hx2
    omega
/-- costs of all labels that are home -/
def lsH (g : Nat → Int) (S : Ls) : List Int := (S.filter (fun s => decide (g (8 + s.2.1) = s.2.2.1))).map (fun s => s.2.2.2.1)
theorem lsH_min {S : Ls} (h : WoI g p S (nF g)) (hw : WF g) : minI (lsH g S) = minI (homC g p) := by
  have hk := (wo_fin hw h).2.2
  refine minI_eq (fun x hx => ?_) (fun y hy => ?_)
  · unfold lsH at hx
    obtain ⟨s, hs, e⟩ := List.mem_map.mp hx
    have hs2 := List.mem_filter.mp hs
    simp only [decide_eq_true_eq] at hs2
    obtain ⟨k, hk1, ek⟩ := oN_sur g (h.1.1 s hs2.1).1
    have hA := lsA_in hs2.1 ek.symm
    obtain ⟨l, hl, ho⟩ := kl_dom hA
    rw [← h.1.2] at hl
    have hl2 := (hk k hk1).mem_iff.mp hl
    rw [odB_iff] at ho
    exact ⟨l.2.1, homC_mem.mpr ⟨k, hk1, l, hl2, by rw [ek, hs2.2]; exact ho.1.symm, rfl⟩, by rw [← e]; exact ho.2.1⟩
  · obtain ⟨k, hk1, l, hl, e1, e2⟩ := homC_mem.mp hy
    have hl2 := (hk k hk1).mem_iff.mpr hl
    obtain ⟨s, hs, e3, e4, -⟩ := lsK_in hl2
    refine ⟨y, ?_, Int.le_refl _⟩
    unfold lsH
    exact List.mem_map.mpr ⟨s, List.mem_filter.mpr ⟨hs, by rw [e4, e3]; simpa using e1⟩, by rw [e3]; exact e2⟩
theorem wo_lb (hw : WF g) (hp : prOK g p) {S : Ls} {i : Nat} (hi : i ≤ nF g) (h : WoI g p S i) : ∀ s ∈ S, lbOK 6 s.2.2 := by
  have hn := hw.n
  intro s hs
  obtain ⟨k, hk, ek⟩ := oN_sur g (h.1.1 s hs).1
  have hA := lsA_in hs ek.symm
  have ok := (kept_ok hw hp k hk).2
  rcases Nat.lt_or_ge k i with c | c
  · exact lbOK_mono (by omega) (ok k (Nat.le_refl _) _ (List.mem_filter.mp ((h.2.1 k c).mem_iff.mp hA)).1)
  · have := (List.mem_filter.mp ((h.2.2 k c hk).mem_iff.mp hA)).1
    exact lbOK_mono (by omega) (ok i c _ (by rw [arrL_N]; exact List.mem_append_right _ this))
end WOS
