/-! Bland: no set of columns comes again -/
theorem lxn_add {f h : Nat → Int} {K : Nat} {a b : Int} (ha : 0 ≤ a) (hb : 0 ≤ b) (hl : lxn (fun k => a * f k + b * h k) K) : lxn f K ∨ lxn h K := by
  have h1 : lxn (fun k => sumT (fun c => if c = 0 then f k * a else h k * b) 2) K := lxn_congr (fun k _ => by simp only [sumT]; grind) hl
  obtain ⟨c, hc, h2⟩ := lxn_sum (F := fun k c => if c = 0 then f k * a else h k * b) h1
  by_cases h0 : c = 0
  · subst h0; exact .inl (lxn_mul ha h2)
  · exact .inr (lxn_mul hb (lxn_congr (fun k _ => by rw [if_neg h0]) h2))
theorem lxn_two {f : Nat → Int} {K : Nat} (h : lxn f K) (h' : lxn (fun k => -f k) K) : False := by
  obtain ⟨k, _, h1, h2⟩ := h
  obtain ⟨k', _, h3, h4⟩ := h'
  have h3' : -f k' < 0 := h3
  rcases Nat.lt_trichotomy k k' with e | e | e
  · have : -f k = 0 := h4 k e
    omega
  · subst e; omega
  · have := h2 k' e; omega
def ge0 (f : Nat → Int) (K : Nat) : Prop := (∀ k, k < K → f k = 0) ∨ lxn (fun k => -f k) K
theorem ge0_not {f : Nat → Int} {K : Nat} (h : ge0 f K) : ¬ lxn f K := by
  intro hl
  rcases h with h | h
  · obtain ⟨k, hk, h1, _⟩ := hl; have := h k hk; omega
  · exact lxn_two hl h
theorem ge0_comb {f h : Nat → Int} {K : Nat} {a b : Int} (hf : ge0 f K) (hh : lxn (fun k => -h k) K) (ha : 0 < a) (hb : 0 ≤ b) : ge0 (fun k => a * f k + b * h k) K ∧ (0 < b ∨ lxn (fun k => -f k) K → lxn (fun k => -(a * f k + b * h k)) K) := by
  rcases lxn_tri (fun k => a * f k + b * h k) K with e | e | e
  · refine ⟨.inl e, fun hs => ?_⟩
    exfalso
    have hb0 : 0 < b → False := by
      intro hb
      obtain ⟨k, hk, h1, h2⟩ := hh
      have h1' : -h k < 0 := h1
      refine ge0_not hf ⟨k, hk, ?_, fun j hj => ?_⟩
      · have := e k hk
        have := Int.mul_pos hb (show 0 < h k by omega)
        refine Classical.byContradiction (fun hge => ?_)
        have := Int.mul_nonneg (Int.le_of_lt ha) (show 0 ≤ f k by omega)
        omega
      · have h3 : -h j = 0 := h2 j hj
        have h4 := e j (by omega)
        have h5 : h j = 0 := by omega
        rw [h5] at h4
        have h6 : a * f j = 0 := by omega
        rcases Int.mul_eq_zero.mp h6 with h | h
        · omega
        · exact h
    rcases hs with hs | hs
    · exact hb0 hs
    · rcases Int.lt_or_eq_of_le hb with hb | hb
      · exact hb0 hb
      · obtain ⟨k, hk, h1, h2⟩ := hs
        have h1' : -f k < 0 := h1
        have := e k hk
        subst hb
        have := Int.mul_pos ha (show 0 < f k by omega)
        omega
  · exfalso
    rcases lxn_add (Int.le_of_lt ha) hb e with h1 | h1
    · exact ge0_not hf h1
    · exact lxn_two h1 hh
  · exact ⟨.inr e, fun _ => e⟩
def SQ (n H lo hi g0 K : Nat) (gv : Nat → Nat → Int) (Nm : Nat → Prop) (σ d : Nat → Int) (N V T : Nat → Nat → Nat → Int) (C R : Nat → Nat → Nat) (p r : Nat → Nat) (L : Nat) : Prop :=
  (∀ l, l ≤ L → SI n H lo hi g0 K gv Nm (σ l) (d l) (N l) (V l) (T l) (C l) (R l)) ∧ ∀ l, l < L → BP n lo hi g0 K (T l) (C l) (R l) (p l) (r l) ∧ N (l + 1) = vup (N l) (p l) (V l (r l)) ∧ σ (l + 1) = -σ l ∧ d (l + 1) = T l (r l) (p l) ∧ (∀ q c, q < H → c ≤ n → T (l + 1) q c = piv (T l) (d l) (r l) (p l) q c) ∧ C (l + 1) = nup (C l) (p l) (R l (r l)) ∧ R (l + 1) = nup (R l) (r l) (C l (p l))
def nb (n : Nat) (C : Nat → Nat → Nat) (l x : Nat) : Prop := ∃ c, c < n ∧ C l c = x
section BLAND
variable {n H lo hi g0 K : Nat} {gv : Nat → Nat → Int} {Nm : Nat → Prop} {σ d : Nat → Int} {N V T : Nat → Nat → Nat → Int} {C R : Nat → Nat → Nat} {p r : Nat → Nat} {L : Nat}
theorem nb_step (Q : SQ n H lo hi g0 K gv Nm σ d N V T C R p r L) {l : Nat} (hl : l < L) (x : Nat) : nb n C (l + 1) x ↔ (nb n C l x ∧ x ≠ C l (p l)) ∨ x = R l (r l) := by
  obtain ⟨B, -, -, -, -, hC, -⟩ := Q.2 l hl
  obtain ⟨-, -, -, -, -, -, hCi, -, -⟩ := Q.1 l (by omega)
  constructor
  · rintro ⟨c, hc, h⟩
    rw [hC] at h
    by_cases e : c = p l
    · subst e; rw [nup_at] at h; exact .inr h.symm
    · rw [nup_ne _ e] at h; exact .inl ⟨⟨c, hc, h⟩, fun e2 => e (hCi c (p l) hc B.1 (h.trans e2))⟩
  · rintro (⟨⟨c, hc, h⟩, h2⟩ | h)
    · refine ⟨c, hc, ?_⟩
      rw [hC, nup_ne _ (fun e => h2 (by rw [← h, e])), h]
    · exact ⟨p l, B.1, by rw [hC, nup_at, h]⟩
theorem nb_en (Q : SQ n H lo hi g0 K gv Nm σ d N V T C R p r L) {l : Nat} (hl : l < L) : nb n C l (C l (p l)) ∧ ¬ nb n C (l + 1) (C l (p l)) := by
  obtain ⟨B, -⟩ := Q.2 l hl
  obtain ⟨-, -, -, -, -, -, -, -, hCR⟩ := Q.1 l (by omega)
  refine ⟨⟨p l, B.1, rfl⟩, fun h => ?_⟩
  rcases (nb_step Q hl _).mp h with ⟨-, h⟩ | h
  · exact h rfl
  · exact hCR (p l) (r l) B.1 B.2.2.2.1.1 B.2.2.2.1.2 h
theorem nb_lv (Q : SQ n H lo hi g0 K gv Nm σ d N V T C R p r L) {l : Nat} (hl : l < L) : ¬ nb n C l (R l (r l)) ∧ nb n C (l + 1) (R l (r l)) := by
  obtain ⟨B, -⟩ := Q.2 l hl
  obtain ⟨-, -, -, -, -, -, -, -, hCR⟩ := Q.1 l (by omega)
  exact ⟨fun ⟨c, hc, h⟩ => hCR c (r l) hc B.2.2.2.1.1 B.2.2.2.1.2 h, (nb_step Q hl _).mpr (.inr rfl)⟩
/-- the objective, step by step, against that of i -/
theorem obj_step (Q : SQ n H lo hi g0 K gv Nm σ d N V T C R p r L) {l : Nat} (hl : l < L) (i k : Nat) (hk : k < K) : d l * (T (l + 1) (g0 + k) n * d i - T i (g0 + k) n * d (l + 1)) = d (l + 1) * (T l (g0 + k) n * d i - T i (g0 + k) n * d l) + (d i * T l (r l) n) * (-T l (g0 + k) (p l)) := by
  obtain ⟨B, -, -, hd, hT, -, -⟩ := Q.2 l hl
  obtain ⟨S, hhi, -, -, hg, -⟩ := Q.1 l (by omega)
  have hne : g0 + k ≠ r l := by have := (hg k hk).2.1; have := B.2.2.2.1; omega
  have e := (SX_piv S B.1 (show r l < H by have := B.2.2.2.1.2; omega) B.2.2.2.2.1).2 (g0 + k) n (hg k hk).1 hne (Nat.le_refl _) (by have := B.1; omega)
  rw [← hT (g0 + k) n (hg k hk).1 (Nat.le_refl _), ← hd] at e
  grind
theorem obj_ge (Q : SQ n H lo hi g0 K gv Nm σ d N V T C R p r L) {i : Nat} : ∀ m, i + m ≤ L → ge0 (fun k => T (i + m) (g0 + k) n * d i - T i (g0 + k) n * d (i + m)) K ∧ ((∃ l, i ≤ l ∧ l < i + m ∧ 0 < T l (r l) n) → lxn (fun k => -(T (i + m) (g0 + k) n * d i - T i (g0 + k) n * d (i + m))) K) := by
  intro m
  induction m with
  | zero => intro _; exact ⟨.inl (fun k _ => by simp only [Nat.add_zero]; omega), fun ⟨l, h1, h2, _⟩ => by omega⟩
  | succ m ih =>
    intro hm
    obtain ⟨h1, h2⟩ := ih (by omega)
    have hl : i + m < L := by omega
    obtain ⟨B, -, -, hd, -⟩ := Q.2 (i + m) hl
    have S := (Q.1 (i + m) (by omega)).1
    have S' := (Q.1 (i + m + 1) (by omega)).1
    have Si := (Q.1 i (by omega)).1
    have hB0 : 0 ≤ T (i + m) (r (i + m)) n := ((Q.1 (i + m) (by omega)).2.2.2.1 _ B.2.2.2.1.1 B.2.2.2.1.2).2
    have hb : 0 ≤ d i * T (i + m) (r (i + m)) n := Int.mul_nonneg (Int.le_of_lt Si.2.1) hB0
    have hh : lxn (fun k => -(-T (i + m) (g0 + k) (p (i + m)))) K := lxn_congr (fun k _ => by omega) B.2.1
    have hc := ge0_comb h1 hh S'.2.1 hb
    have conv : ∀ f : Nat → Int, (∀ k, k < K → d (i + m) * (T (i + m + 1) (g0 + k) n * d i - T i (g0 + k) n * d (i + m + 1)) = f k) → lxn (fun k => -f k) K → lxn (fun k => -(T (i + m + 1) (g0 + k) n * d i - T i (g0 + k) n * d (i + m + 1))) K := by
      intro f hf hx
      refine lxn_mul (w := d (i + m)) (Int.le_of_lt S.2.1) (lxn_congr (fun k hk => ?_) hx)
      rw [← hf k hk]; grind
    have est := fun k hk => obj_step Q hl i k hk
    refine ⟨?_, fun ⟨l, l1, l2, l3⟩ => ?_⟩
    · rcases hc.1 with e | e
      · refine .inl (fun k hk => ?_)
        have h3 : d (i + m) * (T (i + m + 1) (g0 + k) n * d i - T i (g0 + k) n * d (i + m + 1)) = 0 := (est k hk).trans (e k hk)
        rcases Int.mul_eq_zero.mp h3 with h5 | h5
        · have := S.2.1; omega
        · exact h5
      · exact .inr (conv _ est e)
    · refine conv _ est (hc.2 ?_)
      by_cases e : l = i + m
      · subst e; exact .inl (Int.mul_pos Si.2.1 l3)
      · exact .inr (h2 ⟨l, l1, by omega, l3⟩)
/-- like sets of columns: like points -/
theorem same_pt (Q : SQ n H lo hi g0 K gv Nm σ d N V T C R p r L) {i j : Nat} (hi' : i ≤ L) (hj : j ≤ L) (hs : ∀ x, nb n C i x → nb n C j x) (k : Nat) (hk : k < K) : T j (g0 + k) n * d i = T i (g0 + k) n * d j := by
  obtain ⟨S, hhi, hN, -, hg, -⟩ := Q.1 i hi'
  obtain ⟨S', hhi', hN', -, hg', -⟩ := Q.1 j hj
  have e := SX_ev S (xF n (σ j) (N j) n) (hg k hk).1
  rw [(hg k hk).2.2, ← (hg' k hk).2.2, S'.xr (hg' k hk).1, S'.xn, sumT_zero] at e
  · grind
  · intro c hc
    obtain ⟨c', hc', h⟩ := hs (C i c) ⟨c, hc, rfl⟩
    rw [hN c hc, ← h, ← hN' c' hc', xF_col (by omega) (by omega) (by omega)]; simp
theorem cyc_deg (Q : SQ n H lo hi g0 K gv Nm σ d N V T C R p r L) {i j : Nat} (hij : i < j) (hj : j ≤ L) (hs : ∀ x, nb n C i x → nb n C j x) : ∀ l, i ≤ l → l < j → T l (r l) n = 0 := by
  intro l h1 h2
  refine Classical.byContradiction (fun hne => ?_)
  obtain ⟨B, -⟩ := Q.2 l (by omega)
  have hB0 : 0 ≤ T l (r l) n := ((Q.1 l (by omega)).2.2.2.1 _ B.2.2.2.1.1 B.2.2.2.1.2).2
  have h := (obj_ge Q (i := i) (j - i) (by omega)).2 ⟨l, h1, by omega, by omega⟩
  rw [show i + (j - i) = j by omega] at h
  obtain ⟨k, hk, h3, -⟩ := h
  have h4 : -(T j (g0 + k) n * d i - T i (g0 + k) n * d j) < 0 := h3
  have := same_pt Q (by omega) hj hs k hk
  omega
/-- the point stays -/
theorem pt_step (Q : SQ n H lo hi g0 K gv Nm σ d N V T C R p r L) {l : Nat} (hl : l < L) (hz : T l (r l) n = 0) (v : Nat → Int) : d l * ev n (xF n (σ (l + 1)) (N (l + 1)) n) v = d (l + 1) * ev n (xF n (σ l) (N l) n) v := by
  obtain ⟨B, hN, hσ, hd, -⟩ := Q.2 l hl
  obtain ⟨S, hhi, -⟩ := Q.1 l (by omega)
  obtain ⟨hs1, hd0, hn, hC, hdd, hT⟩ := S
  have hr : r l < H := by have := B.2.2.2.1.2; omega
  rw [xF_ev (by omega), xF_ev (by omega), hN, hσ, hd]
  have hk := plk hC (p := p l) (c := n) (V l (r l)) v (by have := B.1; omega) (by omega) (by have := B.1; omega)
  have h1 := (hT (r l) hr).1 (p l) B.1
  have h2 := (hT (r l) hr).2
  rw [hz] at h2
  have hss : σ l * σ l = 1 := by rcases hs1 with h | h <;> rw [h] <;> decide
  have h3 : det (n + 1) (vup (N l) n (V l (r l))) = 0 := by
    rcases hs1 with h | h <;> rw [h] at h2 <;> omega
  rw [h3] at hk
  rw [h1, hdd]
  grind
theorem pt_same (Q : SQ n H lo hi g0 K gv Nm σ d N V T C R p r L) {i j : Nat} (hij : i < j) (hj : j ≤ L) (hs : ∀ x, nb n C i x → nb n C j x) (v : Nat → Int) : ∀ m, i + m ≤ j → (ev n (xF n (σ (i + m)) (N (i + m)) n) v = 0 ↔ ev n (xF n (σ i) (N i) n) v = 0) := by
  intro m
  induction m with
  | zero => intro _; exact Iff.rfl
  | succ m ih =>
    intro hm
    rw [← ih (by omega)]
    have h := pt_step Q (show i + m < L by omega) (cyc_deg Q hij hj hs (i + m) (by omega) (by omega)) v
    have h1 := (Q.1 (i + m) (by omega)).1.2.1
    have h2 := (Q.1 (i + m + 1) (by omega)).1.2.1
    constructor
    · intro e; rw [show i + (m + 1) = i + m + 1 by omega] at e; rw [e] at h
      rcases Int.mul_eq_zero.mp (show d (i + m + 1) * ev n (xF n (σ (i + m)) (N (i + m)) n) v = 0 by omega) with h3 | h3
      · omega
      · exact h3
    · intro e; rw [e] at h
      rcases Int.mul_eq_zero.mp (show d (i + m) * ev n (xF n (σ (i + m + 1)) (N (i + m + 1)) n) v = 0 by omega) with h3 | h3
      · omega
      · exact h3
theorem fin_max (P : Nat → Prop) (a b : Nat → Nat) (i : Nat) : ∀ m, (∀ x, P x ↔ ∃ l, i ≤ l ∧ l < i + m + 1 ∧ (a l = x ∨ b l = x)) → ∃ q, P q ∧ ∀ x, P x → x ≤ q := by
  intro m
  induction m generalizing P with
  | zero =>
    intro h
    rcases Nat.le_total (a i) (b i) with e | e
    · refine ⟨b i, (h _).mpr ⟨i, by omega, by omega, .inr rfl⟩, fun x hx => ?_⟩
      obtain ⟨l, h1, h2, h3⟩ := (h x).mp hx
      have : l = i := by omega
      subst this; omega
    · refine ⟨a i, (h _).mpr ⟨i, by omega, by omega, .inl rfl⟩, fun x hx => ?_⟩
      obtain ⟨l, h1, h2, h3⟩ := (h x).mp hx
      have : l = i := by omega
      subst this; omega
  | succ m ih =>
    intro h
    obtain ⟨q, hq, hm⟩ := ih (fun x => ∃ l, i ≤ l ∧ l < i + m + 1 ∧ (a l = x ∨ b l = x)) (fun x => Iff.rfl)
    have key : ∀ x, P x → x ≤ q ∨ x = a (i + m + 1) ∨ x = b (i + m + 1) := by
      intro x hx
      obtain ⟨l, h1, h2, h3⟩ := (h x).mp hx
      by_cases e : l = i + m + 1
      · subst e; rcases h3 with h3 | h3
        · exact .inr (.inl h3.symm)
        · exact .inr (.inr h3.symm)
      · exact .inl (hm x ⟨l, h1, by omega, h3⟩)
    have pq : P q := by obtain ⟨l, h1, h2, h3⟩ := hq; exact (h q).mpr ⟨l, h1, by omega, h3⟩
    have pa : P (a (i + m + 1)) := (h _).mpr ⟨i + m + 1, by omega, by omega, .inl rfl⟩
    have pb : P (b (i + m + 1)) := (h _).mpr ⟨i + m + 1, by omega, by omega, .inr rfl⟩
    rcases Nat.le_total q (a (i + m + 1)) with e1 | e1 <;> rcases Nat.le_total q (b (i + m + 1)) with e2 | e2 <;> rcases Nat.le_total (a (i + m + 1)) (b (i + m + 1)) with e3 | e3
    all_goals first
      | exact ⟨q, pq, fun x hx => by have := key x hx; omega⟩
      | exact ⟨a (i + m + 1), pa, fun x hx => by have := key x hx; omega⟩
      | exact ⟨b (i + m + 1), pb, fun x hx => by have := key x hx; omega⟩
theorem no_rep (Q : SQ n H lo hi g0 K gv Nm σ d N V T C R p r L) {i j : Nat} (hij : i < j) (hj : j ≤ L) (hs : ∀ x, nb n C i x ↔ nb n C j x) : False := by
  obtain ⟨q, ⟨lq, q1, q2, q3⟩, hmax⟩ := fin_max (fun x => ∃ l, i ≤ l ∧ l < i + (j - i - 1) + 1 ∧ (C l (p l) = x ∨ R l (r l) = x)) (fun l => C l (p l)) (fun l => R l (r l)) i (j - i - 1) (fun x => Iff.rfl)
  rw [show i + (j - i - 1) + 1 = j by omega] at q2
  have hF : ∀ l, i ≤ l → l < j → C l (p l) ≤ q ∧ R l (r l) ≤ q := fun l h1 h2 => ⟨hmax _ ⟨l, h1, by omega, .inl rfl⟩, hmax _ ⟨l, h1, by omega, .inr rfl⟩⟩
  have steady : ∀ x, (∀ l, i ≤ l → l < j → C l (p l) ≠ x) → (∀ l, i ≤ l → l < j → R l (r l) ≠ x) → ∀ m, i + m ≤ j → (nb n C (i + m) x ↔ nb n C i x) := by
    intro x h1 h2 m
    induction m with
    | zero => intro _; exact Iff.rfl
    | succ m ih =>
      intro hm
      rw [← ih (by omega), show i + (m + 1) = i + m + 1 by omega, nb_step Q (by omega)]
      have a1 := h1 (i + m) (by omega) (by omega)
      have a2 := h2 (i + m) (by omega) (by omega)
      constructor
      · rintro (h | h)
        · exact h.1
        · exact absurd h.symm a2
      · intro h; exact .inl ⟨h, Ne.symm a1⟩
  have ent : ∃ l, i ≤ l ∧ l < j ∧ C l (p l) = q := by
    refine Classical.byContradiction (fun hno => ?_)
    have h1 : ∀ l, i ≤ l → l < j → C l (p l) ≠ q := fun l a b e => hno ⟨l, a, b, e⟩
    have hlq : R lq (r lq) = q := q3.resolve_left (h1 lq q1 q2)
    have up : ∀ m l, i ≤ l → l + m ≤ j → nb n C l q → nb n C (l + m) q := by
      intro m
      induction m with
      | zero => intro l _ _ h; exact h
      | succ m ih => intro l a b h; exact (nb_step Q (show l + m < L by omega) q).mpr (.inl ⟨ih l a (by omega) h, Ne.symm (h1 (l + m) (by omega) (by omega))⟩)
    have a := nb_lv Q (show lq < L by omega)
    rw [hlq] at a
    have b := up (j - (lq + 1)) (lq + 1) (by omega) (by omega) a.2
    rw [show lq + 1 + (j - (lq + 1)) = j by omega] at b
    have c := up (lq - i) i (by omega) (by omega) ((hs q).mpr b)
    rw [show i + (lq - i) = lq by omega] at c
    exact a.1 c
  have lea : ∃ l, i ≤ l ∧ l < j ∧ R l (r l) = q := by
    refine Classical.byContradiction (fun hno => ?_)
    have h1 : ∀ l, i ≤ l → l < j → R l (r l) ≠ q := fun l a b e => hno ⟨l, a, b, e⟩
    have hlq : C lq (p lq) = q := q3.resolve_right (h1 lq q1 q2)
    have dw : ∀ m l, i ≤ l → l + m ≤ j → nb n C (l + m) q → nb n C l q := by
      intro m
      induction m with
      | zero => intro l _ _ h; exact h
      | succ m ih =>
        intro l a b h
        rcases (nb_step Q (show l + m < L by omega) q).mp h with h | h
        · exact ih l a (by omega) h.1
        · exact absurd h.symm (h1 (l + m) (by omega) (by omega))
    have a := nb_en Q (show lq < L by omega)
    rw [hlq] at a
    have b := dw (lq - i) i (by omega) (by omega) (by rw [show i + (lq - i) = lq by omega]; exact a.1)
    have c := dw (j - (lq + 1)) (lq + 1) (by omega) (by omega) (by rw [show lq + 1 + (j - (lq + 1)) = j by omega]; exact (hs q).mp b)
    exact a.2 c
  obtain ⟨l1, i1, j1, e1⟩ := ent
  obtain ⟨l2, i2, j2, e2⟩ := lea
  obtain ⟨B1, -⟩ := Q.2 l1 (by omega)
  obtain ⟨B2, -⟩ := Q.2 l2 (by omega)
  obtain ⟨S1, hhi1, hN1, hV1, hg1, hNm1, hCi1, hRi1, hCR1⟩ := Q.1 l1 (by omega)
  obtain ⟨S2, hhi2, hN2, hV2, hg2, hNm2, hCi2, hRi2, hCR2⟩ := Q.1 l2 (by omega)
  have hp2 := B2.1
  -- the way along the column that comes at l2
  have hy : ∀ k, k < K → sumT (fun c => T l1 (g0 + k) c * ev n (xF n (σ l2) (N l2) (p l2)) (N l1 c)) n = T l2 (g0 + k) (p l2) * d l1 := by
    intro k hk
    have e := SX_ev S1 (xF n (σ l2) (N l2) (p l2)) (hg1 k hk).1
    rw [S2.yn hp2, (hg1 k hk).2.2, ← (hg2 k hk).2.2, S2.yr hp2 (hg2 k hk).1] at e
    grind
  have hneg : lxn (fun k => sumT (fun c => T l1 (g0 + k) c * ev n (xF n (σ l2) (N l2) (p l2)) (N l1 c)) n) K := by
    obtain ⟨k, hk, h1, h2⟩ := B2.2.1
    have hd1 := S1.2.1
    have h1' : T l2 (g0 + k) (p l2) < 0 := h1
    refine ⟨k, hk, ?_, fun m hm => ?_⟩
    · show sumT (fun c => T l1 (g0 + k) c * ev n (xF n (σ l2) (N l2) (p l2)) (N l1 c)) n < 0
      rw [hy k hk]
      have := Int.mul_pos (show 0 < -T l2 (g0 + k) (p l2) by omega) hd1
      rw [Int.neg_mul] at this; omega
    · show sumT (fun c => T l1 (g0 + m) c * ev n (xF n (σ l2) (N l2) (p l2)) (N l1 c)) n = 0
      rw [hy m (by omega)]
      have : T l2 (g0 + m) (p l2) = 0 := h2 m hm
      rw [this]; simp
  obtain ⟨c, hc, hcn⟩ := lxn_sum (F := fun k c => T l1 (g0 + k) c * ev n (xF n (σ l2) (N l2) (p l2)) (N l1 c)) hneg
  have hY0 : ev n (xF n (σ l2) (N l2) (p l2)) (N l1 c) ≠ 0 := by
    intro h0
    obtain ⟨k, -, h1, -⟩ := hcn
    rw [h0] at h1; simp at h1
  have hNmx : Nm (C l1 c) := (hNm1 _).mpr (.inl ⟨c, hc, rfl⟩)
  have hlt : ∀ c', c' < n → lxn (fun k => T l1 (g0 + k) c') K → q ≤ C l1 c' := fun c' h1 h2 => by rw [← e1]; exact B1.2.2.1 c' h1 h2
  rcases (hNm2 _).mp hNmx with ⟨c2, hc2, hx⟩ | ⟨r2, hr1, hr2, hx⟩
  · -- a column at l2, too: it's the one that comes there
    have hce : c2 = p l2 := by
      refine Classical.byContradiction (fun hne => hY0 ?_)
      rw [hN1 c hc, ← hx, ← hN2 c2 hc2, xF_col (by omega) (by omega) hne]
    subst hce
    have hpos : ev n (xF n (σ l2) (N l2) (p l2)) (N l1 c) = d l2 := by
      rw [hN1 c hc, ← hx, ← hN2 _ hc2, xF_own (by omega) S2.2.2.2.2.1]
    rw [hpos] at hcn
    have h1 := hlt c hc (lxn_mul (Int.le_of_lt S2.2.1) hcn)
    have h2 := (hF l2 i2 j2).1
    have h3 : q ≠ C l2 (p l2) := by rw [← e2]; exact Ne.symm (hCR2 (p l2) (r l2) hp2 B2.2.2.2.1.1 B2.2.2.2.1.2)
    omega
  · -- a row at l2
    have hYr : ev n (xF n (σ l2) (N l2) (p l2)) (N l1 c) = -T l2 r2 (p l2) := by
      rw [hN1 c hc, ← hx, ← (hV2 r2 hr1 hr2).1, S2.yr hp2 (by omega)]
    have hfick : C l1 c ≤ q := by
      refine Classical.byContradiction (fun hgt => ?_)
      have st := steady (C l1 c) (fun l a b e => by have := (hF l a b).1; omega) (fun l a b e => by have := (hF l a b).2; omega)
      have s1 := st (l1 - i) (by omega)
      have s2 := st (l2 - i) (by omega)
      rw [show i + (l1 - i) = l1 by omega] at s1
      rw [show i + (l2 - i) = l2 by omega] at s2
      obtain ⟨c3, hc3, h3⟩ := s2.mpr (s1.mp ⟨c, hc, rfl⟩)
      exact hCR2 c3 r2 hc3 hr1 hr2 (h3.trans hx.symm)
    rw [hYr] at hcn hY0
    by_cases hxq : C l1 c = q
    · -- it's the one that goes at l2
      have hrr : r2 = r l2 := hRi2 r2 (r l2) hr1 hr2 B2.2.2.2.1.1 B2.2.2.2.1.2 (by rw [hx, hxq, e2])
      subst hrr
      have hcp : c = p l1 := hCi1 c (p l1) hc B1.1 (by rw [hxq, e1])
      subst hcp
      obtain ⟨k, hk, h1, h2⟩ := B1.2.1
      obtain ⟨k', hk', h3, h4⟩ := hcn
      have hT2 := B2.2.2.2.2.1
      have h1' : T l1 (g0 + k) (p l1) < 0 := h1
      rcases Nat.lt_trichotomy k k' with e | e | e
      · have := h4 k e
        have := Int.mul_pos (show 0 < -T l1 (g0 + k) (p l1) by omega) hT2
        grind
      · subst e
        have := Int.mul_pos (show 0 < -T l1 (g0 + k) (p l1) by omega) hT2
        grind
      · have h5 : T l1 (g0 + k') (p l1) = 0 := h2 k' e
        have h6 : T l1 (g0 + k') (p l1) * -T l2 (r l2) (p l2) < 0 := h3
        rw [h5] at h6; simp at h6
    · -- less than q: a tie at l2
      have hT2 : 0 < T l2 r2 (p l2) := by
        refine Classical.byContradiction (fun hle => ?_)
        have := hlt c hc (lxn_mul (w := -T l2 r2 (p l2)) (by omega) hcn)
        omega
      have hz2 : T l2 r2 n = 0 := by
        have a1 := pt_same Q hij hj (fun x h => (hs x).mp h) (N l1 c) (l1 - i) (by omega)
        have a2 := pt_same Q hij hj (fun x h => (hs x).mp h) (N l1 c) (l2 - i) (by omega)
        rw [show i + (l1 - i) = l1 by omega] at a1
        rw [show i + (l2 - i) = l2 by omega] at a2
        have a3 := a2.mpr (a1.mp (xF_col (by omega) (by omega) (by omega)))
        rw [hN1 c hc, ← hx, ← (hV2 r2 hr1 hr2).1, S2.xr (by omega)] at a3
        exact a3
      have hz : T l2 (r l2) n = 0 := cyc_deg Q hij hj (fun x h => (hs x).mp h) l2 i2 j2
      have := (B2.2.2.2.2.2 r2 hr1 hr2 hT2).2 (by rw [hz, hz2]; simp)
      rw [e2, hx] at this
      omega
end BLAND
