/-! storing into locals -/
def isLg : MV → Bool
  | .inr (.inl _) => true
  | _ => false
def kilL (L : List (Option MV)) (i : Nat) : List (Option MV) := match i with
  | 0 => L
  | j + 1 => match L[j]? with
    | some (some w) => if isLg w then L.set j none else L
    | _ => L
def mst1 (L : List (Option MV)) (i : Nat) (v : MV) : List (Option MV) := (kilL L i).set i (some v)
def mst2 (L : List (Option MV)) (i : Nat) (v : MV) : List (Option MV) := ((kilL L i).set i (some v)).set (i + 1) none
def prsL (G : GE) (L : List (Option MV)) : List (Nat × Value) := (List.range L.length).filterMap (fun i => match L[i]? with
  | some (some v) => some (i, cv G v)
  | _ => none)
theorem prsL_mem {G : GE} {L : List (Option MV)} {q : Nat × Value} : q ∈ prsL G L ↔ ∃ v, L[q.1]? = some (some v) ∧ q.2 = cv G v := by
  unfold prsL
  rw [List.mem_filterMap]
  constructor
  · rintro ⟨i, hi, h⟩
    cases hx : L[i]? with
    | none => simp [hx] at h
    | some o =>
      cases o with
      | none => simp [hx] at h
      | some v =>
        simp only [hx, Option.some.injEq] at h
        subst h
        exact ⟨v, hx, rfl⟩
  · rintro ⟨v, h1, h2⟩
    have hlt := (List.getElem?_eq_some_iff.mp h1).1
    refine ⟨q.1, List.mem_range.mpr hlt, ?_⟩
    simp only [h1]
    rw [← h2]
theorem LocOK.has {G : GE} {ls : Array Slot} {nL : Nat} {L : List (Option MV)} (h : LocOK G ls nL L) : lv_has ls nL (prsL G L) := by
  refine ⟨h.1, h.2.1, fun q hq => ?_⟩
  obtain ⟨v, h1, h2⟩ := prsL_mem.mp hq
  rw [h2]
  exact h.2.2 q.1 v h1
theorem cv_cat (G : GE) (v : MV) : ((cv G v).category == 2) = isLg v := by
  match v with
  | .inl x => rfl
  | .inr (.inl x) => rfl
  | .inr (.inr none) => rfl
  | .inr (.inr (some a)) => rfl
theorem kilL_get {L : List (Option MV)} {i j : Nat} {w : MV} (h : (kilL L i)[j]? = some (some w)) : L[j]? = some (some w) ∧ ¬ (j + 1 = i ∧ isLg w = true) := by
  cases i with
  | zero => exact ⟨h, fun q => by omega⟩
  | succ i =>
    simp only [kilL] at h
    cases hx : L[i]? with
    | none =>
      simp only [hx] at h
      refine ⟨h, fun q => ?_⟩
      have : j = i := by omega
      subst this
      rw [hx] at h; cases h
    | some o =>
      cases o with
      | none =>
        simp only [hx] at h
        refine ⟨h, fun q => ?_⟩
        have : j = i := by omega
        subst this
        rw [hx] at h; cases h
      | some u =>
        simp only [hx] at h
        by_cases hu : isLg u = true
        · rw [if_pos hu] at h
          by_cases hj : j = i
          · subst hj
            rw [List.getElem?_set_self (List.getElem?_eq_some_iff.mp hx).1] at h
            cases h
          · rw [List.getElem?_set_ne (Ne.symm hj)] at h
            exact ⟨h, fun q => hj (by omega)⟩
        · rw [if_neg hu] at h
          refine ⟨h, fun q => ?_⟩
          have : j = i := by omega
          subst this
          rw [hx] at h
          cases h
          exact hu q.2
theorem LocOK.st1 {G : GE} {ls' : Array Slot} {nL : Nat} {L : List (Option MV)} {i : Nat} {v : MV} (h : lv_has ls' nL ((i, cv G v) :: (prsL G L).filter (fun q => !(q.1 == i) && !(q.1 + 1 == i && q.2.category == 2)))) : LocOK G ls' nL (mst1 L i v) := by
  refine ⟨h.1, h.2.1, fun j w hj => ?_⟩
  unfold mst1 at hj
  by_cases hji : j = i
  · subst hji
    have hlt : j < (kilL L j).length := by
      have := (List.getElem?_eq_some_iff.mp hj).1
      simpa using this
    rw [List.getElem?_set_self hlt] at hj
    cases hj
    exact h.2.2 (j, cv G v) List.mem_cons_self
  · rw [List.getElem?_set_ne (Ne.symm hji)] at hj
    obtain ⟨h1, h2⟩ := kilL_get hj
    refine h.2.2 (j, cv G w) (List.mem_cons_of_mem _ (List.mem_filter.mpr ⟨prsL_mem.mpr ⟨w, h1, rfl⟩, ?_⟩))
    show (!(j == i) && !(j + 1 == i && (cv G w).category == 2)) = true
    rw [cv_cat]
    by_cases hq : j + 1 = i
    · have hw : isLg w = false := by
        cases hb : isLg w with
        | false => rfl
        | true => exact absurd ⟨hq, hb⟩ h2
      simp [hw, hji]
    · simp [hq, hji]
theorem LocOK.st2 {G : GE} {ls' : Array Slot} {nL : Nat} {L : List (Option MV)} {i : Nat} {v : MV} (h : lv_has ls' nL ((i, cv G v) :: (prsL G L).filter (fun q => !(q.1 == i) && (!(q.1 == i + 1) && !(q.1 + 1 == i && q.2.category == 2))))) : LocOK G ls' nL (mst2 L i v) := by
  refine ⟨h.1, h.2.1, fun j w hj => ?_⟩
  unfold mst2 at hj
  by_cases hj1 : j = i + 1
  · subst hj1
    have hlt : i + 1 < ((kilL L i).set i (some v)).length := by
      have := (List.getElem?_eq_some_iff.mp hj).1
      simpa using this
    rw [List.getElem?_set_self hlt] at hj
    cases hj
  · rw [List.getElem?_set_ne (Ne.symm hj1)] at hj
    by_cases hji : j = i
    · subst hji
      have hlt : j < (kilL L j).length := by
        have := (List.getElem?_eq_some_iff.mp hj).1
        simpa using this
      rw [List.getElem?_set_self hlt] at hj
      cases hj
      exact h.2.2 (j, cv G v) List.mem_cons_self
    · rw [List.getElem?_set_ne (Ne.symm hji)] at hj
      obtain ⟨h1, h2⟩ := kilL_get hj
      refine h.2.2 (j, cv G w) (List.mem_cons_of_mem _ (List.mem_filter.mpr ⟨prsL_mem.mpr ⟨w, h1, rfl⟩, ?_⟩))
      show (!(j == i) && (!(j == i + 1) && !(j + 1 == i && (cv G w).category == 2))) = true
      rw [cv_cat]
      by_cases hq : j + 1 = i
      · have hw : isLg w = false := by
          cases hb : isLg w with
          | false => rfl
          | true => exact absurd ⟨hq, hb⟩ h2
        simp [hw, hji, hj1]
      · simp [hq, hji, hj1]
theorem okL.st1 {L : List (Option MV)} {i : Nat} {v : MV} (h : okL L) (hv : okV v) : okL (mst1 L i v) := by
  intro j w hj
  unfold mst1 at hj
  by_cases hji : j = i
  · subst hji
    have hlt : j < (kilL L j).length := by
      have := (List.getElem?_eq_some_iff.mp hj).1
      simpa using this
    rw [List.getElem?_set_self hlt] at hj
    cases hj
    exact hv
  · rw [List.getElem?_set_ne (Ne.symm hji)] at hj
    exact h j w (kilL_get hj).1
theorem okL.st2 {L : List (Option MV)} {i : Nat} {v : MV} (h : okL L) (hv : okV v) : okL (mst2 L i v) := by
  intro j w hj
  unfold mst2 at hj
  by_cases hj1 : j = i + 1
  · subst hj1
    have hlt : i + 1 < ((kilL L i).set i (some v)).length := by
      have := (List.getElem?_eq_some_iff.mp hj).1
      simpa using this
    rw [List.getElem?_set_self hlt] at hj
    cases hj
  · rw [List.getElem?_set_ne (Ne.symm hj1)] at hj
    by_cases hji : j = i
    · subst hji
      have hlt : j < (kilL L j).length := by
        have := (List.getElem?_eq_some_iff.mp hj).1
        simpa using this
      rw [List.getElem?_set_self hlt] at hj
      cases hj
      exact hv
    · rw [List.getElem?_set_ne (Ne.symm hji)] at hj
      exact h j w (kilL_get hj).1
