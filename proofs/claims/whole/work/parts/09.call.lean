/-! calls, entry -/
section RULES4
variable {G : GE} {y : MI} {d mc ms : Nat} {Q : Option MV → Lay → Mem → Prop} {pc : Nat} {L : List (Option MV)} {S : List MV} {lay : Lay} {M : Mem} {kc ks : Nat}
theorem Met.post {l : Launch} {x : MethodName} {ws : List Cond} {rm : Room} {Pc : Array Value → State → Prop} {Qc Qc' : Array Value → State → Outcome → State → Prop} {mc ms : Nat} {free : Addr → Prop} (h : Met l x ws rm Pc Qc mc ms free) (hq : ∀ a st o t, Pc a st → Qc a st o t → Qc' a st o t) : Met l x ws rm Pc Qc' mc ms free := by
  intro p e ha hc hk s m args below hf happ hP hK
  obtain ⟨n, o, h1, h2, h3, h4, h5⟩ := h p e ha hc hk s m args below hf happ hP hK
  exact ⟨n, o, h1, h2, h3, hq _ _ _ _ hP h4, h5⟩
theorem Cal.mono {as : List MV} {Q' : Option MV → Lay → Mem → Prop} (h : Cal G y d mc ms as lay M Q) (hq : ∀ r lay' M', Q r lay' M' → Q' r lay' M') : Cal G y d mc ms as lay M Q' := by
  intro hs hM l
  refine (h hs hM l).post (fun a st o t _ hh => ?_)
  obtain ⟨⟨r, lay', M', h1, h2, h3⟩, h4⟩ := hh
  exact ⟨⟨r, lay', M', h1, hq _ _ _ h2, h3⟩, h4⟩
/-- with what is known of the numbers at the start -/
theorem Cal.rng {as : List MV} (h : okS as → okM lay M → Cal G y d mc ms as lay M Q) : Cal G y d mc ms as lay M Q := fun hs hM => h hs hM hs hM
/-- with what is known of the answer and of the memory behind it -/
theorem Cal.okd {as : List MV} (h : Cal G y d mc ms as lay M Q) : Cal G y d mc ms as lay M (fun r lay' M' => Q r lay' M' ∧ (∀ v, r = some v → okV v) ∧ okM lay' M') := by
  intro hs hM l
  refine (h hs hM l).post (fun a st o t _ hh => ?_)
  obtain ⟨⟨r, lay', M', h1, h2, h3, h5, h6⟩, h4⟩ := hh
  exact ⟨⟨r, lay', M', h1, ⟨h2, h3, h6⟩, h3, h5, h6⟩, h4⟩
def entL : List MV → List (Option MV)
  | [] => []
  | .inr (.inl x) :: as => some (.inr (.inl x)) :: none :: entL as
  | v :: as => some v :: entL as
theorem entL_args (G : GE) : ∀ (as : List MV) (k i : Nat) (v : MV), (entL as)[i]? = some (some v) → (k + i, cv G v) ∈ lv_args k (as.map (cv G)) := by
  intro as
  induction as with
  | nil => intro k i v h; simp [entL] at h
  | cons w as ih =>
    intro k i v h
    match w with
    | .inr (.inl x) =>
      simp only [entL] at h
      simp only [List.map_cons, lv_args]
      match i with
      | 0 => simp at h; subst h; simp
      | 1 => simp at h
      | i + 2 =>
        simp only [List.getElem?_cons_succ] at h
        have := ih (k + 2) i v h
        rw [show k + (i + 2) = k + 2 + i by omega]
        exact List.mem_cons_of_mem _ this
    | .inl x =>
      simp only [entL] at h
      simp only [List.map_cons, lv_args]
      match i with
      | 0 => simp at h; subst h; simp
      | i + 1 =>
        simp only [List.getElem?_cons_succ] at h
        have := ih (k + 1) i v h
        rw [show k + (i + 1) = k + 1 + i by omega]
        exact List.mem_cons_of_mem _ this
    | .inr (.inr none) =>
      simp only [entL] at h
      simp only [List.map_cons, lv_args]
      match i with
      | 0 => simp at h; subst h; simp
      | i + 1 =>
        simp only [List.getElem?_cons_succ] at h
        have := ih (k + 1) i v h
        rw [show k + (i + 1) = k + 1 + i by omega]
        exact List.mem_cons_of_mem _ this
    | .inr (.inr (some a)) =>
      simp only [entL] at h
      simp only [List.map_cons, lv_args]
      match i with
      | 0 => simp at h; subst h; simp
      | i + 1 =>
        simp only [List.getElem?_cons_succ] at h
        have := ih (k + 1) i v h
        rw [show k + (i + 1) = k + 1 + i by omega]
        exact List.mem_cons_of_mem _ this
theorem entL_len (G : GE) : ∀ as : List MV, (lg_sl (as.map (cv G))).length = (entL as).length := by
  intro as
  induction as with
  | nil => rfl
  | cons w as ih =>
    match w with
    | .inr (.inl x) => simp [entL, lg_sl, cv, Value.category] at ih ⊢; omega
    | .inl x => simp [entL, lg_sl, cv, Value.category] at ih ⊢; omega
    | .inr (.inr none) => simp [entL, lg_sl, cv, Value.category] at ih ⊢; omega
    | .inr (.inr (some a)) => simp [entL, lg_sl, cv, Value.category] at ih ⊢; omega
theorem entL_ok : ∀ as : List MV, okS as → ∀ (i : Nat) (v : MV), (entL as)[i]? = some (some v) → okV v := by
  intro as
  induction as with
  | nil => intro _ i v h; simp [entL] at h
  | cons w as ih =>
    intro hs i v h
    match w, hs with
    | .inr (.inl x), hs =>
      simp only [entL] at h
      match i with
      | 0 => simp at h; subst h; exact okS_hd hs
      | 1 => simp at h
      | i + 2 => exact ih (okS_tl hs) i v (by simpa using h)
    | .inl x, hs =>
      simp only [entL] at h
      match i with
      | 0 => simp at h; subst h; exact okS_hd hs
      | i + 1 => exact ih (okS_tl hs) i v (by simpa using h)
    | .inr (.inr none), hs =>
      simp only [entL] at h
      match i with
      | 0 => simp at h; subst h; exact okS_hd hs
      | i + 1 => exact ih (okS_tl hs) i v (by simpa using h)
    | .inr (.inr (some a)), hs =>
      simp only [entL] at h
      match i with
      | 0 => simp at h; subst h; exact okS_hd hs
      | i + 1 => exact ih (okS_tl hs) i v (by simpa using h)
def entF (as : List MV) (n : Nat) : List (Option MV) := entL as ++ List.replicate (n - (entL as).length) none
theorem entF_get {as : List MV} {n i : Nat} {v : MV} (h : (entF as n)[i]? = some (some v)) : (entL as)[i]? = some (some v) := by
  unfold entF at h
  by_cases hi : i < (entL as).length
  · rwa [List.getElem?_append_left hi] at h
  · rw [List.getElem?_append_right (by omega)] at h
    have := List.mem_of_getElem? h
    simp at this
/-- a method's contract out of its body -/
theorem Cal.of {as : List MV} {L0 : List (Option MV)} (hy : plainName y.1.cls = true) (hn : (entL as).length ≤ y.2.2.1) (hL0 : entF as y.2.2.1 = L0) (k : Ok G y d mc ms Q 0 L0 [] lay M 0 0) : Cal G y d mc ms as lay M Q := by
  subst hL0
  intro hs hM l
  refine Met.ofW (cc := y.2.1) (maxL := y.2.2.1) (ret := y.2.2.2) hy rfl ?_
  intro p e s m args below meth c s₁ B hml hv
  obtain ⟨rfl, hP, hK, hF, hbs⟩ := hv
  have hts0 := atoms_spec (ws := wsY y) B.pre
  have hts : ∀ w ∈ TBL, w.before (as.map (cv G)).toArray s = true := fun w hw => hts0 w (List.mem_cons_of_mem _ hw)
  have hl := lv_entry (as.map (cv G)) (n := y.2.2.1) (by rw [entL_len]; exact hn)
  rw [lg_entry_eq]
  generalize (lg_sl (as.map (cv G)) ++ List.replicate (y.2.2.1 - (lg_sl (as.map (cv G))).length) Slot.unset).toArray = ls at hl ⊢
  refine k p l e s m _ below meth c s.heap [] ls ⟨B.exec, B.bytes, hml, findClass_of_methodNamed B.named, hts, B.returns, B.notSynchronized, (name_of_methodNamed B.named B.method).1, hK, hF, hbs⟩ va_S.rf hP ⟨hl.1, hl.2.1, fun i v hi => ?_⟩ (fun i v hi => entL_ok as hs i v (entF_get hi)) okS_nil hM
  have := hl.2.2 _ (entL_args G as 0 i v (entF_get hi))
  simpa using this
end RULES4
