/-! how many lines there are; histories -/
def ch : Nat → Nat → Nat
  | _, 0 => 1
  | 0, _ + 1 => 0
  | m + 1, k + 1 => ch m k + ch m (k + 1)
theorem ch_zero (m : Nat) : ch m 0 = 1 := by cases m <;> rfl
theorem ch_mono (m k : Nat) : ch m k ≤ ch (m + 1) k := by
  cases k with
  | zero => rw [ch_zero, ch_zero]; exact Nat.le_refl _
  | succ k => show ch m (k + 1) ≤ ch m k + ch m (k + 1); omega
theorem ch_mono' {m m' : Nat} (k : Nat) (h : m ≤ m') : ch m k ≤ ch m' k := by
  obtain ⟨j, rfl⟩ : ∃ j, m' = m + j := ⟨m' - m, by omega⟩
  clear h
  induction j with
  | zero => exact Nat.le_refl _
  | succ j ih => exact Nat.le_trans ih (ch_mono _ _)
def crd (f : Nat → Bool) : Nat → Nat
  | 0 => 0
  | m + 1 => crd f m + (f m).toNat
theorem cnt_sets : ∀ (m k : Nat) (S : List (Nat → Bool)), (∀ f ∈ S, crd f m = k) → S.Pairwise (fun f h => ∃ j, j < m ∧ f j ≠ h j) → S.length ≤ ch m k := by
  intro m
  induction m with
  | zero =>
    intro k S h1 h2
    match S, h1, h2 with
    | [], _, _ => exact Nat.zero_le _
    | [f], h1, _ => have h3 := h1 f List.mem_cons_self; simp only [crd] at h3; subst h3; exact Nat.le_refl _
    | f :: h :: S, _, h2 => obtain ⟨j, hj, _⟩ := (List.pairwise_cons.mp h2).1 h List.mem_cons_self; omega
  | succ m ih =>
    intro k S h1 h2
    have hl : S.length = (S.filter (fun f => f m)).length + (S.filter (fun f => !f m)).length := by
      have := List.length_eq_countP_add_countP (fun f : Nat → Bool => f m) (l := S)
      rw [List.countP_eq_length_filter, List.countP_eq_length_filter] at this
      rw [this]
      congr 2
      exact List.filter_congr (fun f _ => by cases f m <;> rfl)
    have sub : ∀ q : (Nat → Bool) → Bool, (∀ f h : Nat → Bool, q f = true → q h = true → f m = h m) → (S.filter q).Pairwise (fun f h => ∃ j, j < m ∧ f j ≠ h j) := by
      intro q hq
      refine List.Pairwise.imp_of_mem ?_ (h2.filter q)
      rintro f h hf hh ⟨j, hj, hne⟩
      have e := hq f h (List.mem_filter.mp hf).2 (List.mem_filter.mp hh).2
      refine ⟨j, ?_, hne⟩
      rcases Nat.lt_or_ge j m with h | h
      · exact h
      · have : j = m := by omega
        subst this; exact absurd e hne
    have hB := ih k (S.filter (fun f => !f m)) (fun f hf => by
      have a := h1 f (List.mem_filter.mp hf).1
      have b := (List.mem_filter.mp hf).2
      simp only [crd] at a
      have hm : f m = false := by cases hm : f m <;> simp_all
      rw [hm] at a; exact a) (sub _ (fun f h a b => by cases hm : f m <;> cases hm' : h m <;> simp_all))
    match k with
    | 0 =>
      have hA : S.filter (fun f => f m) = [] := by
        refine List.filter_eq_nil_iff.mpr (fun f hf hm => ?_)
        have a := h1 f hf
        simp only [crd] at a
        rw [hm] at a; simp at a
      rw [hl, hA, ch_zero]; rw [ch_zero] at hB; simp only [List.length_nil]; omega
    | k + 1 =>
      have hA := ih k (S.filter (fun f => f m)) (fun f hf => by
        have a := h1 f (List.mem_filter.mp hf).1
        have b := (List.mem_filter.mp hf).2
        simp only [crd] at a
        rw [b] at a; simp at a; exact a) (sub _ (fun f h a b => by rw [a, b]))
      rw [hl]; show _ ≤ ch m k + ch m (k + 1); omega
theorem crd_or (a b : Nat → Bool) (m : Nat) (h : ∀ j, j < m → ¬ (a j = true ∧ b j = true)) : crd (fun j => a j || b j) m = crd a m + crd b m := by
  induction m with
  | zero => rfl
  | succ m ih =>
    have := h m (by omega)
    simp only [crd]; rw [ih (fun j hj => h j (by omega))]
    cases ha : a m <;> cases hb : b m <;> simp_all [Bool.toNat] <;> omega
theorem crd_none (f : Nat → Bool) (m : Nat) (h : ∀ j, j < m → f j = false) : crd f m = 0 := by
  induction m with
  | zero => rfl
  | succ m ih => simp only [crd]; rw [ih (fun j hj => h j (by omega)), h m (by omega)]; rfl
theorem crd_single (m x : Nat) (hx : x < m) : crd (fun j => x == j) m = 1 := by
  induction m with
  | zero => omega
  | succ m ih =>
    simp only [crd]
    by_cases h : x = m
    · subst h; rw [crd_none _ _ (fun j hj => by simp; omega)]; simp
    · rw [ih (by omega)]; simp [h]
theorem crd_img (e : Nat → Bool) (f : Nat → Nat) (m : Nat) : ∀ n, (∀ c, c < n → f c < m) → (∀ c c', c < n → c' < n → f c = f c' → c = c') → crd (fun j => (List.range n).any (fun c => e c && f c == j)) m = crd e n := by
  intro n
  induction n with
  | zero => intro _ _; exact crd_none _ _ (fun j _ => rfl)
  | succ n ih =>
    intro h1 h2
    have e1 : (fun j => (List.range (n + 1)).any (fun c => e c && f c == j)) = (fun j => (List.range n).any (fun c => e c && f c == j) || (e n && f n == j)) := by
      funext j; rw [List.range_succ, List.any_append]; simp
    rw [e1, crd_or]
    · rw [ih (fun c hc => h1 c (by omega)) (fun c c' hc hc' => h2 c c' (by omega) (by omega))]
      simp only [crd]
      cases he : e n
      · rw [crd_none (fun j => false && f n == j) m (fun j _ => rfl)]; simp
      · have : (fun j => true && f n == j) = (fun j => f n == j) := by funext j; simp
        rw [this, crd_single _ _ (h1 n (by omega))]; simp
    · rintro j hj ⟨a, b⟩
      obtain ⟨c, hc, h⟩ := List.any_eq_true.mp a
      have hc' := List.mem_range.mp hc
      simp only [Bool.and_eq_true, beq_iff_eq] at h b
      have := h2 c n (by omega) (by omega) (by rw [h.2, b.2])
      omega
theorem crd_but (n p : Nat) (hp : p < n) : crd (fun c => c != p) n = n - 1 := by
  have : ∀ m, crd (fun c => c != p) m = if p < m then m - 1 else m := by
    intro m
    induction m with
    | zero => rfl
    | succ m ih =>
      simp only [crd]; rw [ih]
      by_cases h : m = p
      · subst h; simp
      · have : (m != p) = true := by simp [h]
        simp only [this, Bool.toNat_true]
        by_cases h2 : p < m
        · rw [if_pos h2, if_pos (by omega)]; omega
        · rw [if_neg h2, if_neg (by omega)]
  rw [this, if_pos hp]
theorem exit_count {n H lo hi g0 K : Nat} {gv : Nat → Nat → Int} {Nm : Nat → Prop} {σ d : Nat → Int} {N V T : Nat → Nat → Nat → Int} {C R : Nat → Nat → Nat} {p r : Nat → Nat} {L : Nat} (Q : SQ n H lo hi g0 K gv Nm σ d N V T C R p r L) (κ : Nat → Nat) (m : Nat) (hκ : ∀ x, Nm x → κ x < m) (hi' : ∀ x y, Nm x → Nm y → κ x = κ y → x = y) : L ≤ ch m (n - 1) := by
  have hn : ∀ l, l < L → ∀ c, c < n → Nm (C l c) := fun l hl c hc => ((Q.1 l (by omega)).2.2.2.2.2.1 _).mpr (.inl ⟨c, hc, rfl⟩)
  have hC : ∀ l, l < L → ∀ c c', c < n → c' < n → C l c = C l c' → c = c' := fun l hl => (Q.1 l (by omega)).2.2.2.2.2.2.1
  have hlen : ((List.range L).map (fun l j => (List.range n).any (fun c => (c != p l) && κ (C l c) == j))).length ≤ ch m (n - 1) := by
    refine cnt_sets m (n - 1) _ (fun f hf => ?_) ?_
    · obtain ⟨l, hl, rfl⟩ := List.mem_map.mp hf
      have hl' := List.mem_range.mp hl
      rw [crd_img (fun c => c != p l) (fun c => κ (C l c)) m n (fun c hc => hκ _ (hn l hl' c hc)) (fun c c' hc hc' e => hC l hl' c c' hc hc' (hi' _ _ (hn l hl' c hc) (hn l hl' c' hc') e))]
      exact crd_but n (p l) (Q.2 l hl').1.1
    · rw [List.pairwise_map]
      refine List.Pairwise.imp_of_mem ?_ List.pairwise_lt_range
      intro a b ha hb hab
      have ha' := List.mem_range.mp ha
      have hb' := List.mem_range.mp hb
      refine Classical.byContradiction (fun hno => exit_one Q hab hb' (fun x => ?_))
      have hall : ∀ j, j < m → (List.range n).any (fun c => (c != p a) && κ (C a c) == j) = (List.range n).any (fun c => (c != p b) && κ (C b c) == j) := fun j hj => Classical.byContradiction (fun hne => hno ⟨j, hj, hne⟩)
      have go : ∀ u w, u < L → w < L → (∀ j, j < m → (List.range n).any (fun c => (c != p u) && κ (C u c) == j) = (List.range n).any (fun c => (c != p w) && κ (C w c) == j)) → (∃ c, c < n ∧ c ≠ p u ∧ C u c = x) → ∃ c, c < n ∧ c ≠ p w ∧ C w c = x := by
        rintro u w hu hw he ⟨c, hc, hcp, rfl⟩
        have h1 := he (κ (C u c)) (hκ _ (hn u hu c hc))
        have h2 : (List.range n).any (fun c' => (c' != p u) && κ (C u c') == κ (C u c)) = true := List.any_eq_true.mpr ⟨c, List.mem_range.mpr hc, by simp [hcp]⟩
        rw [h1] at h2
        obtain ⟨c', hc', h3⟩ := List.any_eq_true.mp h2
        simp only [Bool.and_eq_true, bne_iff_ne, ne_eq, beq_iff_eq] at h3
        have hc'' := List.mem_range.mp hc'
        exact ⟨c', hc'', h3.1, hi' _ _ (hn w hw c' hc'') (hn u hu c hc) h3.2⟩
      exact ⟨go a b ha' hb' hall, go b a hb' ha' (fun j hj => (hall j hj).symm)⟩
  simpa using hlen
theorem SX.congr {n : Nat} {σ d : Int} {N : Nat → Nat → Int} {H : Nat} {V T T' : Nat → Nat → Int} (S : SX n σ d N H V T) (h : ∀ r c, r < H → c ≤ n → T' r c = T r c) : SX n σ d N H V T' := by
  obtain ⟨h1, h2, h3, h4, h5, h6⟩ := S
  exact ⟨h1, h2, h3, h4, h5, fun r hr => ⟨fun c hc => by rw [h r c hr (by omega)]; exact (h6 r hr).1 c hc, by rw [h r n hr (by omega)]; exact (h6 r hr).2⟩⟩
theorem SI.congr {n H lo hi g0 K : Nat} {gv : Nat → Nat → Int} {Nm : Nat → Prop} {σ d : Int} {N V T T' : Nat → Nat → Int} {C R : Nat → Nat} (I : SI n H lo hi g0 K gv Nm σ d N V T C R) (h : ∀ r c, r < H → c ≤ n → T' r c = T r c) : SI n H lo hi g0 K gv Nm σ d N V T' C R := by
  obtain ⟨h1, h2, h3, h4, h5⟩ := I
  exact ⟨h1.congr h, h2, h3, fun r a b => ⟨(h4 r a b).1, by rw [h r n (by omega) (Nat.le_refl _)]; exact (h4 r a b).2⟩, h5⟩
def Hist (n H lo hi g0 K : Nat) (gv : Nat → Nat → Int) (Nm : Nat → Prop) (L : Nat) (σ0 d0 : Int) (N0 V0 T0 : Nat → Nat → Int) (C0 R0 : Nat → Nat) : Prop :=
  ∃ (σ d : Nat → Int) (N V T : Nat → Nat → Nat → Int) (C R : Nat → Nat → Nat) (p r : Nat → Nat), SQ n H lo hi g0 K gv Nm σ d N V T C R p r L ∧ σ L = σ0 ∧ d L = d0 ∧ N L = N0 ∧ V L = V0 ∧ T L = T0 ∧ C L = C0 ∧ R L = R0
section HIST
variable {n H lo hi g0 K : Nat} {gv : Nat → Nat → Int} {Nm : Nat → Prop} {L : Nat} {σ0 d0 : Int} {N0 V0 T0 : Nat → Nat → Int} {C0 R0 : Nat → Nat}
theorem Hist.zero (I : SI n H lo hi g0 K gv Nm σ0 d0 N0 V0 T0 C0 R0) : Hist n H lo hi g0 K gv Nm 0 σ0 d0 N0 V0 T0 C0 R0 :=
  ⟨fun _ => σ0, fun _ => d0, fun _ => N0, fun _ => V0, fun _ => T0, fun _ => C0, fun _ => R0, fun _ => 0, fun _ => 0, ⟨fun _ _ => I, fun l hl => absurd hl (Nat.not_lt_zero _)⟩, rfl, rfl, rfl, rfl, rfl, rfl, rfl⟩
theorem Hist.si (h : Hist n H lo hi g0 K gv Nm L σ0 d0 N0 V0 T0 C0 R0) : SI n H lo hi g0 K gv Nm σ0 d0 N0 V0 T0 C0 R0 := by
  obtain ⟨σ, d, N, V, T, C, R, p, r, Q, rfl, rfl, rfl, rfl, rfl, rfl, rfl⟩ := h
  exact Q.1 L (Nat.le_refl _)
theorem Hist.cnt (h : Hist n H lo hi g0 K gv Nm L σ0 d0 N0 V0 T0 C0 R0) (κ : Nat → Nat) (m : Nat) (hκ : ∀ x, Nm x → κ x < m) (hi' : ∀ x y, Nm x → Nm y → κ x = κ y → x = y) : L ≤ ch m (n - 1) := by
  obtain ⟨σ, d, N, V, T, C, R, p, r, Q, -⟩ := h
  exact exit_count Q κ m hκ hi'
theorem Hist.step (h : Hist n H lo hi g0 K gv Nm L σ0 d0 N0 V0 T0 C0 R0) {p0 r0 : Nat} (B : BP n lo hi g0 K T0 C0 R0 p0 r0) {T' : Nat → Nat → Int} (hT : ∀ q c, q < H → c ≤ n → T' q c = piv T0 d0 r0 p0 q c) : Hist n H lo hi g0 K gv Nm (L + 1) (-σ0) (T0 r0 p0) (vup N0 p0 (V0 r0)) (vup V0 r0 (N0 p0)) T' (nup C0 p0 (R0 r0)) (nup R0 r0 (C0 p0)) := by
  have I' := (h.si.step B).congr hT
  obtain ⟨σ, d, N, V, T, C, R, p, r, Q, rfl, rfl, rfl, rfl, rfl, rfl, rfl⟩ := h
  refine ⟨fun i => if i ≤ L then σ i else -σ L, fun i => if i ≤ L then d i else T L r0 p0, fun i => if i ≤ L then N i else vup (N L) p0 (V L r0), fun i => if i ≤ L then V i else vup (V L) r0 (N L p0), fun i => if i ≤ L then T i else T', fun i => if i ≤ L then C i else nup (C L) p0 (R L r0), fun i => if i ≤ L then R i else nup (R L) r0 (C L p0), fun i => if i < L then p i else p0, fun i => if i < L then r i else r0, ⟨fun l hl => ?_, fun l hl => ?_⟩, ?_⟩
  · by_cases e : l ≤ L
    · simp only [if_pos e]; exact Q.1 l e
    · simp only [if_neg e]; exact I'
  · have e1 : l ≤ L := by omega
    by_cases e : l < L
    · have e2 : l + 1 ≤ L := by omega
      simp only [if_pos e1, if_pos e2, if_pos e]
      exact Q.2 l e
    · have e2 : ¬ l + 1 ≤ L := by omega
      have e3 : l = L := by omega
      subst e3
      simp only [if_pos e1, if_neg e2, if_neg e]
      exact ⟨B, trivial, trivial, trivial, hT, trivial, trivial⟩
  · have e : ¬ L + 1 ≤ L := by omega
    simp [e]
end HIST
theorem ch_big : ∀ n, n ≤ 7 → ch (n + 25) (n - 1) < 999999 := by decide +kernel
