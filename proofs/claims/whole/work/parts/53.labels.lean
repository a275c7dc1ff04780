/-! labels: base, cost, duties, legs, begun -/
abbrev Lb : Type := Int × Int × Int × Int × Int
def odB (a b : Lb) : Bool := decide (a.1 = b.1) && (decide (a.2.1 ≤ b.2.1) && (decide (a.2.2.1 ≤ b.2.2.1) && (decide (a.2.2.2.1 ≤ b.2.2.2.1) && decide (b.2.2.2.2 ≤ a.2.2.2.2))))
def insL (K : List Lb) (c : Lb) : List Lb := if K.any (fun k => odB k c) = true then K else K.filter (fun k => !odB c k) ++ [c]
def insD (K : List Lb) (c : Lb) : Nat := if K.any (fun k => odB k c) = true then 1 else (K.filter (fun k => odB c k)).length
def lawB (g : Nat → Int) (f : Nat) (c : Lb) : Bool := decide (c.2.2.2.1 ≤ legsF g c.1.toNat) && (decide (c.2.2.1 ≤ dutF g c.1.toNat) && decide (g (22 + f) - c.2.2.2.2 ≤ spanF g c.1.toNat))
def stepK (g : Nat → Int) (f : Nat) (r : List Lb × Nat) (c : Lb) : List Lb × Nat := if lawB g f c = true then (insL r.1 c, r.2 + insD r.1 c) else r
def begL (g : Nat → Int) (p : Nat → Int) (f : Nat) : Lb := (g (1 + f), g 87 + g 88 * (g (22 + f) - g (15 + f)) - p f, 1, 1, g (15 + f))
def extL (g : Nat → Int) (p : Nat → Int) (e f : Nat) (l : Lb) : Lb :=
  (l.1, l.2.1 + (g 88 * (g (22 + f) - g (22 + e)) - p f + (if howF g e f = 2 then g 87 else if tgtB g e f = true then g 89 else 0)), (if howF g e f = 2 then l.2.2.1 + 1 else l.2.2.1), (if howF g e f = 2 then 1 else l.2.2.2.1 + 1), if howF g e f = 2 then g (15 + f) else l.2.2.2.2)
/-- what comes to the flight at place k from the one at place i -/
def arrI (g p : Nat → Int) (T : Nat → List Lb) (k i : Nat) : List Lb := if 0 < howF g (oN g i) (oN g k) then (T i).map (extL g p (oN g i) (oN g k)) else []
def arr0 (g p : Nat → Int) (k : Nat) : List Lb := if (g 86).toNat.testBit (g (1 + oN g k)).toNat = true then [begL g p (oN g k)] else []
def arrT (g p : Nat → Int) (T : Nat → List Lb) (k : Nat) : Nat → List Lb
  | 0 => arr0 g p k
  | i + 1 => arrT g p T k i ++ arrI g p T k i
def foldK (g : Nat → Int) (f : Nat) (A : List Lb) : List Lb × Nat := A.foldl (stepK g f) ([], 0)
def KT (g p : Nat → Int) : Nat → Nat → List Lb
  | 0 => fun _ => []
  | k + 1 => fun i => if i = k then (foldK g (oN g k) (arrT g p (KT g p k) k k)).1 else KT g p k i
/-- kept at place k, and how many were dropped there -/
def keptL (g p : Nat → Int) (k : Nat) : List Lb := KT g p (k + 1) k
theorem KT_eq (g p : Nat → Int) : ∀ k i, i < k → KT g p k i = keptL g p i := by
  intro k
  induction k with
  | zero => intro i h; omega
  | succ k ih =>
    intro i h
    by_cases e : i = k
    · subst e; rfl
    · rw [KT]; simp only; rw [if_neg e]; exact ih i (by omega)
theorem arrT_congr {g p : Nat → Int} {T T' : Nat → List Lb} {k : Nat} : ∀ i, (∀ j, j < i → T j = T' j) → arrT g p T k i = arrT g p T' k i := by
  intro i
  induction i with
  | zero => intro _; rfl
  | succ i ih =>
    intro h
    rw [arrT, arrT, ih (fun j hj => h j (by omega))]
    unfold arrI
    rw [h i (by omega)]
def arrL (g p : Nat → Int) (k i : Nat) : List Lb := arrT g p (keptL g p) k i
theorem keptL_eq (g p : Nat → Int) (k : Nat) : keptL g p k = (foldK g (oN g k) (arrL g p k k)).1 := by
  unfold keptL
  rw [KT]; simp only; rw [if_pos trivial]
  unfold arrL
  rw [arrT_congr k (fun j hj => KT_eq g p k j hj)]
def dropC (g p : Nat → Int) (k : Nat) : Nat := (foldK g (oN g k) (arrL g p k k)).2
def keptS (g p : Nat → Int) : Nat → Nat
  | 0 => 0
  | k + 1 => keptS g p k + (keptL g p k).length
def dropS (g p : Nat → Int) : Nat → Nat
  | 0 => 0
  | k + 1 => dropS g p k + dropC g p k
theorem insL_len (K : List Lb) (c : Lb) : (insL K c).length ≤ K.length + 1 ∧ (insL K c).length + insD K c = K.length + 1 := by
  unfold insL insD
  split
  · exact ⟨by omega, rfl⟩
  · have h := List.length_eq_countP_add_countP (fun k => odB c k) (l := K)
    rw [List.countP_eq_length_filter, List.countP_eq_length_filter] at h
    have e : K.filter (fun k => !odB c k) = K.filter (fun a => decide ¬odB c a = true) := List.filter_congr (fun a _ => by cases odB c a <;> rfl)
    rw [List.length_append, List.length_singleton, e]
    omega
theorem foldK_len (g : Nat → Int) (f : Nat) : ∀ (A : List Lb) (r : List Lb × Nat), (A.foldl (stepK g f) r).1.length ≤ r.1.length + A.length := by
  intro A
  induction A with
  | nil => intro r; exact Nat.le_refl _
  | cons c A ih =>
    intro r
    rw [List.foldl_cons, List.length_cons]
    have h := ih (stepK g f r c)
    have : (stepK g f r c).1.length ≤ r.1.length + 1 := by
      unfold stepK; split
      · exact (insL_len r.1 c).1
      · omega
    omega
theorem arrI_len (g p : Nat → Int) (T : Nat → List Lb) (k i : Nat) : (arrI g p T k i).length ≤ (T i).length := by
  unfold arrI; split
  · rw [List.length_map]; exact Nat.le_refl _
  · exact Nat.zero_le _
theorem arr0_len (g p : Nat → Int) (k : Nat) : (arr0 g p k).length ≤ 1 := by unfold arr0; split <;> simp
theorem two_pow_sum : ∀ k, 2 ^ k + 2 ^ k = 2 ^ (k + 1) := fun k => by rw [Nat.pow_succ]; omega
theorem arr_len (g p : Nat → Int) : ∀ k, (keptL g p k).length ≤ 2 ^ k ∧ ∀ i, i ≤ k → (arrL g p k i).length ≤ 2 ^ i := by
  intro k
  induction k using Nat.strongRecOn with
  | ind k ih =>
    have h2 : ∀ i, i ≤ k → (arrL g p k i).length ≤ 2 ^ i := by
      intro i
      induction i with
      | zero => intro _; exact arr0_len g p k
      | succ i ihi =>
        intro hi
        have a := ihi (by omega)
        have b := (ih i (by omega)).1
        have c := arrI_len g p (keptL g p) k i
        have e := two_pow_sum i
        show (arrT g p (keptL g p) k i ++ arrI g p (keptL g p) k i).length ≤ _
        rw [List.length_append]
        have a' : (arrT g p (keptL g p) k i).length ≤ 2 ^ i := a
        omega
    refine ⟨?_, h2⟩
    rw [keptL_eq]
    have := foldK_len g (oN g k) (arrL g p k k) ([], 0)
    have h3 := h2 k (Nat.le_refl _)
    unfold foldK
    simp only [List.length_nil, Nat.zero_add] at this
    omega
/-- what labels are like: k steps at most were made -/
def lbOK (k : Nat) (l : Lb) : Prop := (0 ≤ l.1 ∧ l.1 ≤ 3) ∧ (-1100000 * ((k : Int) + 1) ≤ l.2.1 ∧ l.2.1 ≤ 1100000 * ((k : Int) + 1)) ∧ (1 ≤ l.2.2.1 ∧ l.2.2.1 ≤ (k : Int) + 1) ∧ (1 ≤ l.2.2.2.1 ∧ l.2.2.2.1 ≤ (k : Int) + 1) ∧ (0 ≤ l.2.2.2.2 ∧ l.2.2.2.2 ≤ 299)
def prOK (g p : Nat → Int) : Prop := ∀ f, f < nF g → -999999 ≤ p f ∧ p f ≤ 999999
theorem begL_ok {g p : Nat → Int} (hw : WF g) (hp : prOK g p) {f : Nat} (hf : f < nF g) : lbOK 0 (begL g p f) := by
  have hn := hw.n
  have h1 := hw.fl (show f < 7 by omega)
  have h2 := hw.ft hf
  have h3 := hp f hf
  have h4 := hw.fe
  have m := mul_bd h4.2.1 (show 0 ≤ g (22 + f) - g (15 + f) ∧ g (22 + f) - g (15 + f) ≤ 299 by omega)
  unfold lbOK begL
  simp only
  omega
theorem extL_bd {g p : Nat → Int} (hw : WF g) (hp : prOK g p) {e f : Nat} (he : e < nF g) (hf : f < nF g) : (-2691 ≤ g 88 * (g (22 + f) - g (22 + e)) ∧ g 88 * (g (22 + f) - g (22 + e)) ≤ 2691) ∧ (-999999 ≤ p f ∧ p f ≤ 999999) := by
  have hn := hw.n
  have h1 := hw.fl (show f < 7 by omega)
  have h2 := hw.fl (show e < 7 by omega)
  have h4 := hw.fe
  have m := bd_mul (x := g 88) (y := g (22 + f) - g (22 + e)) (a := 9) (b := 299) (by omega) (by omega)
  exact ⟨by omega, hp f hf⟩
theorem extL_ok {g p : Nat → Int} (hw : WF g) (hp : prOK g p) {e f k : Nat} (he : e < nF g) (hf : f < nF g) {l : Lb} (hl : lbOK k l) : lbOK (k + 1) (extL g p e f l) := by
  have hn := hw.n
  have h1 := hw.fl (show f < 7 by omega)
  have h2 := extL_bd hw hp he hf
  have h4 := hw.fe
  unfold lbOK at hl ⊢
  unfold extL
  simp only
  have hb : 0 ≤ (if howF g e f = 2 then g 87 else if tgtB g e f = true then g 89 else 0) ∧ (if howF g e f = 2 then g 87 else if tgtB g e f = true then g 89 else 0) ≤ 99 := by (repeat' split) <;> omega
  generalize (if howF g e f = 2 then g 87 else if tgtB g e f = true then g 89 else 0) = z at *
  generalize g 88 * (g (22 + f) - g (22 + e)) = y at *
  refine ⟨hl.1, by omega, ?_, ?_, ?_⟩
  · split <;> omega
  · split <;> omega
  · split <;> omega
theorem lbOK_mono {k k' : Nat} (h : k ≤ k') {l : Lb} (hl : lbOK k l) : lbOK k' l := by unfold lbOK at *; omega
theorem insL_mem {K : List Lb} {c l : Lb} (h : l ∈ insL K c) : l ∈ K ∨ l = c := by
  unfold insL at h; split at h
  · exact .inl h
  · rcases List.mem_append.mp h with h | h
    · exact .inl (List.mem_filter.mp h).1
    · exact .inr (List.mem_singleton.mp h)
theorem foldK_mem {g : Nat → Int} {f : Nat} : ∀ (A : List Lb) (r : List Lb × Nat) (l : Lb), l ∈ (A.foldl (stepK g f) r).1 → l ∈ r.1 ∨ (l ∈ A ∧ lawB g f l = true) := by
  intro A
  induction A with
  | nil => intro r l h; exact .inl h
  | cons c A ih =>
    intro r l h
    rw [List.foldl_cons] at h
    rcases ih _ l h with h | h
    · unfold stepK at h; split at h
      · rename_i hl
        rcases insL_mem h with h | h
        · exact .inl h
        · subst h; exact .inr ⟨List.mem_cons_self, hl⟩
      · exact .inl h
    · exact .inr ⟨List.mem_cons_of_mem _ h.1, h.2⟩
theorem kept_ok {g p : Nat → Int} (hw : WF g) (hp : prOK g p) : ∀ k, k < nF g → (∀ l ∈ keptL g p k, lbOK k l ∧ lawB g (oN g k) l = true) ∧ ∀ i, i ≤ k → ∀ l ∈ arrL g p k i, lbOK k l := by
  intro k
  induction k using Nat.strongRecOn with
  | ind k ih =>
    intro hk
    have h2 : ∀ i, i ≤ k → ∀ l ∈ arrL g p k i, lbOK k l := by
      intro i
      induction i with
      | zero =>
        intro _ l hl
        have hl' : l ∈ arr0 g p k := hl
        unfold arr0 at hl'; split at hl'
        · rw [List.mem_singleton.mp hl']; exact lbOK_mono (Nat.zero_le _) (begL_ok hw hp (oN_lt g hk))
        · exact absurd hl' List.not_mem_nil
      | succ i ihi =>
        intro hi l hl
        have hl' : l ∈ arrT g p (keptL g p) k i ++ arrI g p (keptL g p) k i := hl
        rcases List.mem_append.mp hl' with h | h
        · exact ihi (by omega) l h
        · unfold arrI at h; split at h
          · obtain ⟨l0, h0, rfl⟩ := List.mem_map.mp h
            exact lbOK_mono (show i + 1 ≤ k by omega) (extL_ok hw hp (oN_lt g (by omega)) (oN_lt g hk) ((ih i (by omega) (by omega)).1 l0 h0).1)
          · exact absurd h List.not_mem_nil
    refine ⟨fun l hl => ?_, h2⟩
    rw [keptL_eq] at hl
    rcases foldK_mem _ _ l hl with h | h
    · exact absurd h List.not_mem_nil
    · exact ⟨h2 k (Nat.le_refl _) l h.1, h.2⟩
