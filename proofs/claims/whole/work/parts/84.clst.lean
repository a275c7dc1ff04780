/-! labels: the kept are the least, whatever the order of arrival -/
theorem odB_iff {a b : Lb} : odB a b = true ↔ a.1 = b.1 ∧ a.2.1 ≤ b.2.1 ∧ a.2.2.1 ≤ b.2.2.1 ∧ a.2.2.2.1 ≤ b.2.2.2.1 ∧ b.2.2.2.2 ≤ a.2.2.2.2 := by unfold odB; simp
theorem odB_rf (a : Lb) : odB a a = true := odB_iff.mpr ⟨rfl, Int.le_refl _, Int.le_refl _, Int.le_refl _, Int.le_refl _⟩
theorem odB_tr {a b c : Lb} (h : odB a b = true) (h' : odB b c = true) : odB a c = true := by
  rw [odB_iff] at *; exact ⟨h.1.trans h'.1, by omega, by omega, by omega, by omega⟩
theorem odB_as {a b : Lb} (h : odB a b = true) (h' : odB b a = true) : a = b := by
  rw [odB_iff] at *
  obtain ⟨a1, a2, a3, a4, a5⟩ := a
  obtain ⟨b1, b2, b3, b4, b5⟩ := b
  simp only at h h'
  simp only [Prod.mk.injEq]; omega
def kl (A : List Lb) : List Lb := A.foldl insL []
theorem kl_snoc (A : List Lb) (c : Lb) : kl (A ++ [c]) = insL (kl A) c := by unfold kl; rw [List.foldl_append]; rfl
def AcL (K : List Lb) : Prop := K.Pairwise (fun a b => ¬ odB a b = true ∧ ¬ odB b a = true)
theorem insL_ac {K : List Lb} (h : AcL K) (c : Lb) : AcL (insL K c) := by
  unfold insL
  split
  · exact h
  · rename_i hno
    refine List.pairwise_append.mpr ⟨List.Pairwise.filter _ h, List.pairwise_singleton _ _, fun a ha b hb => ?_⟩
    rw [List.mem_singleton] at hb; subst hb
    have h1 := List.mem_filter.mp ha
    refine ⟨fun z => hno (List.any_eq_true.mpr ⟨a, h1.1, z⟩), fun z => ?_⟩
    have := h1.2; rw [z] at this; exact absurd this (by decide)
theorem kl_acK : ∀ (A K : List Lb), AcL K → AcL (A.foldl insL K) := by
  intro A
  induction A with
  | nil => intro K h; exact h
  | cons c A ih => intro K h; exact ih _ (insL_ac h c)
theorem kl_ac (A : List Lb) : AcL (kl A) := kl_acK A [] List.Pairwise.nil
theorem ac_eq : ∀ {K : List Lb}, AcL K → ∀ a ∈ K, ∀ b ∈ K, odB a b = true → a = b := by
  intro K
  induction K with
  | nil => intro _ a ha; exact absurd ha List.not_mem_nil
  | cons x K ih =>
    intro h a ha b hb hab
    have h2 := List.pairwise_cons.mp h
    rcases List.mem_cons.mp ha with e1 | ha2
    · rcases List.mem_cons.mp hb with e2 | hb2
      · rw [e1, e2]
      · subst e1; exact absurd hab (h2.1 b hb2).1
    · rcases List.mem_cons.mp hb with e2 | hb2
      · subst e2; exact absurd hab (h2.1 a ha2).2
      · exact ih h2.2 a ha2 b hb2 hab
theorem ac_nodup {K : List Lb} (h : AcL K) : K.Nodup := List.Pairwise.imp (fun {a b} hab e => by subst e; exact hab.1 (odB_rf a)) h
theorem kl_sub : ∀ (A K : List Lb) (l : Lb), l ∈ A.foldl insL K → l ∈ K ∨ l ∈ A := by
  intro A
  induction A with
  | nil => intro K l h; exact .inl h
  | cons c A ih =>
    intro K l h
    rcases ih _ l h with h | h
    · rcases insL_mem h with h | h
      · exact .inl h
      · subst h; exact .inr List.mem_cons_self
    · exact .inr (List.mem_cons_of_mem _ h)
theorem insL_dom {K : List Lb} (c : Lb) {a : Lb} (h : a = c ∨ ∃ k ∈ K, odB k a = true) : ∃ k ∈ insL K c, odB k a = true := by
  unfold insL
  split
  · rename_i hy
    rcases h with rfl | h
    · obtain ⟨k, hk, e⟩ := List.any_eq_true.mp hy; exact ⟨k, hk, e⟩
    · exact h
  · rcases h with rfl | ⟨k, hk, e⟩
    · exact ⟨a, List.mem_append_right _ (List.mem_singleton.mpr rfl), odB_rf a⟩
    · by_cases hc : odB c k = true
      · exact ⟨c, List.mem_append_right _ (List.mem_singleton.mpr rfl), odB_tr hc e⟩
      · refine ⟨k, List.mem_append_left _ (List.mem_filter.mpr ⟨hk, ?_⟩), e⟩
        rw [Bool.not_eq_true] at hc; rw [hc]; rfl
theorem kl_domK : ∀ (A K : List Lb) (a : Lb), (a ∈ A ∨ ∃ k ∈ K, odB k a = true) → ∃ k ∈ A.foldl insL K, odB k a = true := by
  intro A
  induction A with
  | nil =>
    intro K a h
    rcases h with h | h
    · exact absurd h List.not_mem_nil
    · exact h
  | cons c A ih =>
    intro K a h
    refine ih _ a ?_
    rcases h with h | h
    · rcases List.mem_cons.mp h with h | h
      · exact .inr (insL_dom c (.inl h))
      · exact .inl h
    · exact .inr (insL_dom c (.inr h))
theorem kl_dom {A : List Lb} {a : Lb} (h : a ∈ A) : ∃ k ∈ kl A, odB k a = true := kl_domK A [] a (.inl h)
theorem kl_mem {A : List Lb} {k : Lb} (h : k ∈ kl A) : k ∈ A := (kl_sub A [] k h).resolve_left List.not_mem_nil
theorem kl_iff {A : List Lb} {k : Lb} : k ∈ kl A ↔ k ∈ A ∧ ∀ a ∈ A, odB a k = true → a = k := by
  constructor
  · intro h
    refine ⟨kl_mem h, fun a ha hak => ?_⟩
    obtain ⟨k', hk', e⟩ := kl_dom ha
    have := ac_eq (kl_ac A) k' hk' k h (odB_tr e hak)
    subst this
    exact odB_as hak e
  · rintro ⟨h, h2⟩
    obtain ⟨k', hk', e⟩ := kl_dom h
    rw [← h2 k' (kl_mem hk') e]; exact hk'
theorem kl_perm {A B : List Lb} (h : A.Perm B) : (kl A).Perm (kl B) := by
  refine (List.perm_ext_iff_of_nodup (ac_nodup (kl_ac A)) (ac_nodup (kl_ac B))).mpr (fun a => ?_)
  rw [kl_iff, kl_iff]
  constructor
  · rintro ⟨h1, h2⟩; exact ⟨h.mem_iff.mp h1, fun x hx => h2 x (h.mem_iff.mpr hx)⟩
  · rintro ⟨h1, h2⟩; exact ⟨h.mem_iff.mpr h1, fun x hx => h2 x (h.mem_iff.mp hx)⟩
theorem foldK_kl (g : Nat → Int) (f : Nat) : ∀ (A : List Lb) (r : List Lb × Nat), (A.foldl (stepK g f) r).1 = (A.filter (lawB g f)).foldl insL r.1 ∧ (A.foldl (stepK g f) r).1.length + (A.foldl (stepK g f) r).2 = r.1.length + r.2 + (A.filter (lawB g f)).length := by
  intro A
  induction A with
  | nil => intro r; exact ⟨rfl, rfl⟩
  | cons c A ih =>
    intro r
    rw [List.foldl_cons]
    have h := ih (stepK g f r c)
    by_cases hl : lawB g f c = true
    · rw [List.filter_cons_of_pos hl, List.foldl_cons, List.length_cons]
      have e : stepK g f r c = (insL r.1 c, r.2 + insD r.1 c) := if_pos hl
      have := (insL_len r.1 c).2
      rw [e] at h ⊢
      simp only at h ⊢
      exact ⟨h.1, by omega⟩
    · rw [List.filter_cons_of_neg hl]
      have e : stepK g f r c = r := if_neg hl
      rw [e] at h ⊢; exact h
theorem keptL_kl (g p : Nat → Int) (k : Nat) : keptL g p k = kl ((arrL g p k k).filter (lawB g (oN g k))) ∧ (keptL g p k).length + dropC g p k = ((arrL g p k k).filter (lawB g (oN g k))).length := by
  have h := foldK_kl g (oN g k) (arrL g p k k) ([], 0)
  have e : keptL g p k = (foldK g (oN g k) (arrL g p k k)).1 := keptL_eq g p k
  unfold dropC
  rw [e]
  unfold foldK kl
  exact ⟨h.1, by have := h.2; simp only [List.length_nil] at this; omega⟩
/-! the class's labels, as they came: outdone, flight, label -/
abbrev Ls : Type := List (Bool × Nat × Lb)
def lsA (f : Nat) (S : Ls) : List Lb := (S.filter (fun s => s.2.1 == f)).map (fun s => s.2.2)
def lsK (f : Nat) (S : Ls) : List Lb := (S.filter (fun s => !s.1 && s.2.1 == f)).map (fun s => s.2.2)
def lsD (S : Ls) : Nat := S.countP (fun s => s.1)
def nwB (f : Nat) (c : Lb) (s : Bool × Nat × Lb) : Bool := !s.1 && (s.2.1 == f && odB c s.2.2)
def ldU (f : Nat) (c : Lb) (s : Bool × Nat × Lb) : Bool × Nat × Lb := if nwB f c s = true then (true, s.2) else s
def hitB (f : Nat) (c : Lb) (S : Ls) : Bool := S.any (fun s => !s.1 && (s.2.1 == f && odB s.2.2 c))
def lsC (S : Ls) (f : Nat) (c : Lb) : Ls := if hitB f c S = true then S ++ [(true, f, c)] else S.map (ldU f c) ++ [(false, f, c)]
theorem ldU_2 (f : Nat) (c : Lb) (s : Bool × Nat × Lb) : (ldU f c s).2 = s.2 := by unfold ldU; split <;> rfl
theorem lsC_len (S : Ls) (f : Nat) (c : Lb) : (lsC S f c).length = S.length + 1 := by unfold lsC; split <;> simp
theorem lsA_app (f : Nat) (S S' : Ls) : lsA f (S ++ S') = lsA f S ++ lsA f S' := by unfold lsA; rw [List.filter_append, List.map_append]
theorem lsK_app (f : Nat) (S S' : Ls) : lsK f (S ++ S') = lsK f S ++ lsK f S' := by unfold lsK; rw [List.filter_append, List.map_append]
theorem lsA_U (f f' : Nat) (c : Lb) (S : Ls) : lsA f' (S.map (ldU f c)) = lsA f' S := by
  induction S with
  | nil => rfl
  | cons s S ih =>
    unfold lsA at ih ⊢
    rw [List.map_cons]
    have e := ldU_2 f c s
    by_cases h : (s.2.1 == f') = true
    · rw [List.filter_cons_of_pos (by rw [e]; exact h), List.filter_cons_of_pos (p := fun s : Bool × Nat × Lb => s.2.1 == f') h, List.map_cons, List.map_cons, ih, e]
    · rw [List.filter_cons_of_neg (by rw [e]; exact h), List.filter_cons_of_neg (p := fun s : Bool × Nat × Lb => s.2.1 == f') h, ih]
theorem lsA_one (f f' : Nat) (b : Bool) (c : Lb) : lsA f' [(b, f, c)] = if f' = f then [c] else [] := by
  unfold lsA
  by_cases h : f' = f
  · subst h; simp
  · simp [h, Ne.symm h]
theorem lsA_C (S : Ls) (f f' : Nat) (c : Lb) : lsA f' (lsC S f c) = lsA f' S ++ if f' = f then [c] else [] := by
  unfold lsC
  split
  · rw [lsA_app, lsA_one]
  · rw [lsA_app, lsA_U, lsA_one]
theorem lsK_U (f f' : Nat) (c : Lb) (S : Ls) : lsK f' (S.map (ldU f c)) = if f' = f then (lsK f S).filter (fun k => !odB c k) else lsK f' S := by
  induction S with
  | nil => split <;> rfl
  | cons s S ih =>
    obtain ⟨b, f1, l⟩ := s
    unfold lsK at ih ⊢
    rw [List.map_cons]
    by_cases hf : f' = f
    · subst hf
      rw [if_pos rfl] at ih ⊢
      cases b with
      | true => simpa [ldU, nwB] using ih
      | false =>
        by_cases h1 : f1 = f'
        · subst h1
          cases ho : odB c l with
          | true => simpa [ldU, nwB, ho] using ih
          | false => simpa [ldU, nwB, ho] using ih
        · simpa [ldU, nwB, h1] using ih
    · rw [if_neg hf] at ih ⊢
      cases b with
      | true => simpa [ldU, nwB] using ih
      | false =>
        by_cases h1 : f1 = f
        · subst h1
          have hf2 : ¬ f1 = f' := fun z => hf z.symm
          cases ho : odB c l with
          | true => simpa [ldU, nwB, ho, hf2] using ih
          | false => simpa [ldU, nwB, ho, hf2] using ih
        · by_cases h2 : f1 = f'
          · subst h2; simpa [ldU, nwB, h1] using ih
          · simpa [ldU, nwB, h1, h2] using ih
theorem hit_K (f : Nat) (c : Lb) (S : Ls) : hitB f c S = (lsK f S).any (fun k => odB k c) := by
  unfold hitB lsK
  induction S with
  | nil => rfl
  | cons s S ih =>
    obtain ⟨b, f1, l⟩ := s
    rw [List.any_cons, ih]
    cases b with
    | true => simp
    | false =>
      by_cases h1 : f1 = f
      · subst h1; simp
      · simp [h1]
theorem lsK_one (f f' : Nat) (b : Bool) (c : Lb) : lsK f' [(b, f, c)] = if b = false ∧ f' = f then [c] else [] := by
  unfold lsK
  cases b with
  | true => simp
  | false =>
    by_cases h : f' = f
    · subst h; simp
    · simp [h, Ne.symm h]
theorem lsK_C (S : Ls) (f f' : Nat) (c : Lb) : lsK f' (lsC S f c) = if f' = f then insL (lsK f S) c else lsK f' S := by
  unfold lsC insL
  rw [← hit_K]
  cases hh : hitB f c S with
  | true =>
    rw [if_pos rfl, if_pos rfl, lsK_app, lsK_one, if_neg (by simp), List.append_nil]
    split
    · rename_i e; rw [e]
    · rfl
  | false =>
    rw [if_neg (show ¬ (false = true) by decide), if_neg (show ¬ (false = true) by decide), lsK_app, lsK_U, lsK_one]
    by_cases e : f' = f
    · rw [if_pos e, if_pos ⟨rfl, e⟩, if_pos e]
    · rw [if_neg e, if_neg (fun z => e z.2), if_neg e, List.append_nil]
def RC (S : Ls) : Prop := ∀ f, lsK f S = kl (lsA f S)
theorem RC_nil : RC [] := fun _ => rfl
theorem RC_C {S : Ls} (h : RC S) (f : Nat) (c : Lb) : RC (lsC S f c) := fun f' => by
  rw [lsK_C, lsA_C]
  by_cases e : f' = f
  · subst e; rw [if_pos rfl, if_pos rfl, kl_snoc, h]
  · rw [if_neg e, if_neg e, List.append_nil, h]
theorem lsD_U (f : Nat) (c : Lb) (S : Ls) : lsD (S.map (ldU f c)) = lsD S + S.countP (nwB f c) := by
  unfold lsD
  induction S with
  | nil => rfl
  | cons s S ih =>
    rw [List.map_cons, List.countP_cons, List.countP_cons, List.countP_cons, ih]
    unfold ldU
    cases hn : nwB f c s with
    | true =>
      have : s.1 = false := by unfold nwB at hn; simp at hn; exact hn.1
      simp [this]; omega
    | false => simp; omega
theorem lsD_app (S S' : Ls) : lsD (S ++ S') = lsD S + lsD S' := List.countP_append
theorem lsD_le (S : Ls) : lsD S ≤ S.length := List.countP_le_length
/-- totals over the places -/
theorem ls_tot {g : Nat → Int} (P : (Bool × Nat × Lb) → Bool) : ∀ S : Ls, (∀ s ∈ S, s.2.1 < nF g) → ((S.countP P : Nat) : Int) = sumT (fun k => ((S.countP (fun s => P s && s.2.1 == oN g k) : Nat) : Int)) (nF g) := by
  intro S
  induction S with
  | nil =>
    intro _
    have : ∀ n, sumT (fun _ => (0 : Int)) n = 0 := fun n => by
      induction n with
      | zero => rfl
      | succ n ih => simp only [sumT, ih]; rfl
    exact (this (nF g)).symm
  | cons s S ih =>
    intro h
    have ih := ih (fun s' hs => h s' (List.mem_cons_of_mem _ hs))
    obtain ⟨k0, hk0, ek⟩ := oN_sur g (h s List.mem_cons_self)
    have e1 : sumT (fun k => (((s :: S).countP (fun s => P s && s.2.1 == oN g k) : Nat) : Int)) (nF g) = sumT (fun k => ((S.countP (fun s => P s && s.2.1 == oN g k) : Nat) : Int) + (if k = k0 ∧ P s = true then (1 : Int) else 0)) (nF g) := by
      refine sumT_congr (fun k hk => ?_)
      rw [List.countP_cons]
      by_cases e : k = k0
      · subst e
        cases hp : P s with
        | true => simp [ek]
        | false => simp
      · have : ¬ s.2.1 = oN g k := fun z => e (oN_inj g hk hk0 (by rw [← z, ek]))
        simp [e, this]
    have e2 : sumT (fun k => (if k = k0 ∧ P s = true then (1 : Int) else 0)) (nF g) = if P s = true then (1 : Int) else 0 := by
      rw [sumT_one (f := fun k => if k = k0 ∧ P s = true then (1 : Int) else 0) (c := k0) hk0 (fun k _ hk => if_neg (fun z => hk z.1))]
      simp
    rw [e1, sumT_add, e2, ← ih, List.countP_cons]
    split <;> omega
theorem lsA_len (f : Nat) (S : Ls) : (lsA f S).length = S.countP (fun s => true && s.2.1 == f) := by unfold lsA; rw [List.length_map, ← List.countP_eq_length_filter]; simp
theorem lsK_len (f : Nat) (S : Ls) : (lsK f S).length = S.countP (fun s => !s.1 && s.2.1 == f) := by unfold lsK; rw [List.length_map, ← List.countP_eq_length_filter]
