/-! order of goals; the greatest is one alone -/
def lxn (f : Nat → Int) (K : Nat) : Prop := ∃ k, k < K ∧ f k < 0 ∧ ∀ j, j < k → f j = 0
theorem sumT_nn {f : Nat → Int} {n : Nat} (h : ∀ c, c < n → 0 ≤ f c) : 0 ≤ sumT f n := by
  induction n with
  | zero => exact Int.le_refl _
  | succ n ih => simp only [sumT]; have := ih (fun c hc => h c (by omega)); have := h n (by omega); omega
theorem sumT_nz {f : Nat → Int} {n : Nat} (h : ∀ c, c < n → 0 ≤ f c) (hz : sumT f n = 0) : ∀ c, c < n → f c = 0 := by
  induction n with
  | zero => intro c hc; exact absurd hc (Nat.not_lt_zero _)
  | succ n ih =>
    intro c hc
    simp only [sumT] at hz
    have h1 := sumT_nn (f := f) (n := n) (fun c hc => h c (by omega))
    have h2 := h n (by omega)
    by_cases hcn : c = n
    · subst hcn; omega
    · exact ih (fun c hc => h c (by omega)) (by omega) c (by omega)
theorem lxn_sum {F : Nat → Nat → Int} {K n : Nat} (h : lxn (fun k => sumT (F k) n) K) : ∃ c, c < n ∧ lxn (fun k => F k c) K := by
  refine Classical.byContradiction (fun hn => ?_)
  obtain ⟨k, hk, hneg, hz⟩ := h
  have hc : ∀ c, c < n → ¬ lxn (fun k => F k c) K := fun c hc h => hn ⟨c, hc, h⟩
  have claim : ∀ j, j ≤ k → ∀ i, i < j → ∀ c, c < n → F i c = 0 := by
    intro j
    induction j with
    | zero => intro _ i hi; exact absurd hi (Nat.not_lt_zero _)
    | succ j ih =>
      intro hj i hi c hcn
      rcases Nat.lt_or_ge i j with h | h
      · exact ih (by omega) i h c hcn
      · have : i = j := by omega
        subst this
        refine sumT_nz (f := F i) (n := n) (fun c hcn => ?_) (hz i (by omega)) c hcn
        refine Classical.byContradiction (fun hlt => hc c hcn ⟨i, by omega, by show F i c < 0; omega, fun j hj' => ih (by omega) j hj' c hcn⟩)
  have : 0 ≤ sumT (F k) n := sumT_nn (fun c hcn => Classical.byContradiction (fun hlt => hc c hcn ⟨k, hk, by show F k c < 0; omega, fun j hj => claim k (Nat.le_refl _) j hj c hcn⟩))
  have hneg' : sumT (F k) n < 0 := hneg
  omega
theorem lxn_mul {f : Nat → Int} {K : Nat} {w : Int} (hw : 0 ≤ w) (h : lxn (fun k => f k * w) K) : lxn f K := by
  obtain ⟨k, hk, hneg, hz⟩ := h
  have hw0 : w ≠ 0 := fun e => by subst e; simp at hneg
  refine ⟨k, hk, ?_, fun j hj => ?_⟩
  · refine Classical.byContradiction (fun hge => ?_)
    have := Int.mul_nonneg (show 0 ≤ f k by omega) hw
    have hneg' : f k * w < 0 := hneg
    omega
  · have := hz j hj
    simp only at this
    rcases Int.mul_eq_zero.mp this with h | h
    · exact h
    · exact absurd h hw0
theorem lxn_tri (f : Nat → Int) (K : Nat) : (∀ k, k < K → f k = 0) ∨ lxn f K ∨ lxn (fun k => -f k) K := by
  induction K with
  | zero => exact .inl (fun k hk => absurd hk (Nat.not_lt_zero _))
  | succ K ih =>
    rcases ih with h | ⟨k, hk, h⟩ | ⟨k, hk, h⟩
    · rcases Int.lt_trichotomy (f K) 0 with h1 | h1 | h1
      · exact .inr (.inl ⟨K, by omega, h1, h⟩)
      · refine .inl (fun k hk => ?_)
        by_cases e : k = K
        · subst e; exact h1
        · exact h k (by omega)
      · exact .inr (.inr ⟨K, by omega, by show -f K < 0; omega, fun j hj => by show -f j = 0; rw [h j hj]; rfl⟩)
    · exact .inr (.inl ⟨k, by omega, h⟩)
    · exact .inr (.inr ⟨k, by omega, h⟩)
theorem lxn_mono {f : Nat → Int} {K K' : Nat} (hK : K ≤ K') (h : lxn f K) : lxn f K' := by obtain ⟨k, hk, h⟩ := h; exact ⟨k, by omega, h⟩
theorem lxn_congr {f h : Nat → Int} {K : Nat} (e : ∀ k, k < K → f k = h k) (hf : lxn f K) : lxn h K := by
  obtain ⟨k, hk, h1, h2⟩ := hf
  exact ⟨k, hk, by rw [← e k hk]; exact h1, fun j hj => by rw [← e j (by omega)]; exact h2 j hj⟩
/-- the goals: all prices together, then flight 0's, .. -/
def gm (n : Nat) : Nat → Nat → Int
  | 0 => fun i => if i < n then 1 else 0
  | k + 1 => eV k
def Opt (n : Nat) (feas : (Nat → Int) → Prop) (K : Nat) (z : Nat → Int) (d : Int) : Prop := 0 < d ∧ (∃ φ : Nat → Int, feas φ ∧ φ n = d ∧ ∀ k, k < K → ev n φ (gm n k) = z k) ∧ ∀ φ : Nat → Int, feas φ → ¬ lxn (fun k => φ n * z k - d * ev n φ (gm n k)) K
theorem Opt.one {n : Nat} {feas : (Nat → Int) → Prop} {K K' : Nat} {z z' : Nat → Int} {d d' : Int} (h : Opt n feas K z d) (h' : Opt n feas K' z' d') (hK : K ≤ K') : ∀ k, k < K → z k * d' = z' k * d := by
  obtain ⟨hd, ⟨φ, f1, f2, f3⟩, ho⟩ := h
  obtain ⟨hd', ⟨ψ, p1, p2, p3⟩, ho'⟩ := h'
  have h1 := ho' φ f1
  have h2 := ho ψ p1
  rw [f2] at h1
  rw [p2] at h2
  rcases lxn_tri (fun k => d' * z k - d * z' k) K with h | h | h
  · intro k hk; have := h k hk; grind
  · exact absurd (lxn_congr (fun k hk => by rw [p3 k (by omega)]) h) h2
  · exact absurd (lxn_mono hK (lxn_congr (h := fun k => d * z' k - d' * ev n φ (gm n k)) (fun k hk => by rw [f3 k hk]; omega) h)) h1
theorem Opt.congr {n : Nat} {feas feas' : (Nat → Int) → Prop} {K : Nat} {z : Nat → Int} {d : Int} (h : Opt n feas K z d) (e : ∀ φ : Nat → Int, feas φ ↔ feas' φ) : Opt n feas' K z d :=
  ⟨h.1, by obtain ⟨φ, f1, f2⟩ := h.2.1; exact ⟨φ, (e φ).mp f1, f2⟩, fun φ hφ => h.2.2 φ ((e φ).mpr hφ)⟩
/-- names: x is the column's or the row's -/
def SI (n H lo hi g0 K : Nat) (gv : Nat → Nat → Int) (Nm : Nat → Prop) (σ d : Int) (N V T : Nat → Nat → Int) (C R : Nat → Nat) : Prop :=
  SX n σ d N H V T ∧ hi ≤ H ∧ (∀ c, c < n → N c = gv (C c)) ∧ (∀ r, lo ≤ r → r < hi → V r = gv (R r) ∧ 0 ≤ T r n) ∧ (∀ k, k < K → g0 + k < H ∧ (g0 + k < lo ∨ hi ≤ g0 + k) ∧ V (g0 + k) = gm n k) ∧ (∀ x, Nm x ↔ (∃ c, c < n ∧ C c = x) ∨ ∃ r, lo ≤ r ∧ r < hi ∧ R r = x) ∧ (∀ c c', c < n → c' < n → C c = C c' → c = c') ∧ (∀ r r', lo ≤ r → r < hi → lo ≤ r' → r' < hi → R r = R r' → r = r') ∧ ∀ c r, c < n → lo ≤ r → r < hi → C c ≠ R r
def feasN (n : Nat) (gv : Nat → Nat → Int) (Nm : Nat → Prop) (φ : Nat → Int) : Prop := 0 < φ n ∧ ∀ x, Nm x → 0 ≤ ev n φ (gv x)
/-- the point of a table, and the way along a column, as functionals -/
def xF (n : Nat) (σ : Int) (N : Nat → Nat → Int) (c : Nat) : Nat → Int := fun i => σ * det (n + 1) (vup N c (eV i))
theorem xF_ev {n : Nat} {σ : Int} {N : Nat → Nat → Int} {c : Nat} (hc : c < n + 1) (v : Nat → Int) : ev n (xF n σ N c) v = σ * det (n + 1) (vup N c v) := ev_det n σ N hc v
theorem xF_col {n : Nat} {σ : Int} {N : Nat → Nat → Int} {c j : Nat} (hc : c < n + 1) (hj : j < n + 1) (h : j ≠ c) : ev n (xF n σ N c) (N j) = 0 := by
  rw [xF_ev hc, det_eq0 (p := c) (c := j) hc hj (Ne.symm h) (by rw [vup_at, vup_ne _ h])]; simp
theorem xF_own {n : Nat} {σ d : Int} {N : Nat → Nat → Int} {c : Nat} (hc : c < n + 1) (hd : d = σ * det (n + 1) N) : ev n (xF n σ N c) (N c) = d := by
  rw [xF_ev hc, vup_self, hd]
theorem SX.unit {n : Nat} {σ d : Int} {N : Nat → Nat → Int} {H : Nat} {V T : Nat → Nat → Int} (S : SX n σ d N H V T) (φ : Nat → Int) : ev n φ (N n) = φ n := by rw [S.2.2.1, ev_unit φ (Nat.le_refl n)]
theorem SX.xn {n : Nat} {σ d : Int} {N : Nat → Nat → Int} {H : Nat} {V T : Nat → Nat → Int} (S : SX n σ d N H V T) : xF n σ N n n = d := by
  have h := xF_own (n := n) (c := n) (by omega) S.2.2.2.2.1
  rw [S.unit] at h; exact h
theorem SX.yn {n : Nat} {σ d : Int} {N : Nat → Nat → Int} {H : Nat} {V T : Nat → Nat → Int} (S : SX n σ d N H V T) {p : Nat} (hp : p < n) : xF n σ N p n = 0 := by
  have h := xF_col (n := n) (σ := σ) (N := N) (c := p) (j := n) (by omega) (by omega) (by omega)
  rw [S.unit] at h; exact h
theorem SX.xr {n : Nat} {σ d : Int} {N : Nat → Nat → Int} {H : Nat} {V T : Nat → Nat → Int} (S : SX n σ d N H V T) {r : Nat} (hr : r < H) : ev n (xF n σ N n) (V r) = T r n := by
  rw [xF_ev (by omega), (S.2.2.2.2.2 r hr).2]
theorem SX.yr {n : Nat} {σ d : Int} {N : Nat → Nat → Int} {H : Nat} {V T : Nat → Nat → Int} (S : SX n σ d N H V T) {p r : Nat} (hp : p < n) (hr : r < H) : ev n (xF n σ N p) (V r) = -T r p := by
  rw [xF_ev (by omega), (S.2.2.2.2.2 r hr).1 p hp]; omega
theorem SI.opt {n H lo hi g0 K : Nat} {gv : Nat → Nat → Int} {Nm : Nat → Prop} {σ d : Int} {N V T : Nat → Nat → Int} {C R : Nat → Nat} (I : SI n H lo hi g0 K gv Nm σ d N V T C R) (ht : ∀ c, c < n → ¬ lxn (fun k => T (g0 + k) c) K) : Opt n (feasN n gv Nm) K (fun k => T (g0 + k) n) d := by
  obtain ⟨S, hhi, hN, hV, hg, hNm, -⟩ := I
  refine ⟨S.2.1, ⟨xF n σ N n, ⟨by rw [S.xn]; exact S.2.1, fun x hx => ?_⟩, S.xn, fun k hk => by rw [← (hg k hk).2.2, S.xr (hg k hk).1]⟩, fun φ hφ hlx => ?_⟩
  · rcases (hNm x).mp hx with ⟨c, hc, rfl⟩ | ⟨r, h1, h2, rfl⟩
    · rw [← hN c hc, xF_col (by omega) (by omega) (by omega)]; exact Int.le_refl _
    · rw [← (hV r h1 h2).1, S.xr (by omega)]; exact (hV r h1 h2).2
  · have h1 : lxn (fun k => sumT (fun c => T (g0 + k) c * ev n φ (N c)) n) K := by
      refine lxn_congr (fun k hk => ?_) hlx
      have := SX_ev S φ (hg k hk).1
      rw [(hg k hk).2.2] at this
      simp only; rw [this]; grind
    obtain ⟨c, hc, h2⟩ := lxn_sum (F := fun k c => T (g0 + k) c * ev n φ (N c)) h1
    refine ht c hc (lxn_mul ?_ h2)
    rw [hN c hc]
    exact hφ.2 _ ((hNm _).mpr (.inl ⟨c, hc, rfl⟩))
def nup (C : Nat → Nat) (p x : Nat) : Nat → Nat := fun i => if i = p then x else C i
theorem nup_at (C : Nat → Nat) (p x : Nat) : nup C p x p = x := by unfold nup; rw [if_pos rfl]
theorem nup_ne {C : Nat → Nat} {p i : Nat} (x : Nat) (h : i ≠ p) : nup C p x i = C i := by unfold nup; rw [if_neg h]
/-- what Bland asks of column and row -/
def BP (n lo hi g0 K : Nat) (T : Nat → Nat → Int) (C R : Nat → Nat) (p r0 : Nat) : Prop :=
  p < n ∧ lxn (fun k => T (g0 + k) p) K ∧ (∀ c, c < n → lxn (fun k => T (g0 + k) c) K → C p ≤ C c) ∧ (lo ≤ r0 ∧ r0 < hi) ∧ 0 < T r0 p ∧ ∀ r, lo ≤ r → r < hi → 0 < T r p → T r0 n * T r p ≤ T r n * T r0 p ∧ (T r0 n * T r p = T r n * T r0 p → R r0 ≤ R r)
theorem SI.step {n H lo hi g0 K : Nat} {gv : Nat → Nat → Int} {Nm : Nat → Prop} {σ d : Int} {N V T : Nat → Nat → Int} {C R : Nat → Nat} (I : SI n H lo hi g0 K gv Nm σ d N V T C R) {p r0 : Nat} (B : BP n lo hi g0 K T C R p r0) : SI n H lo hi g0 K gv Nm (-σ) (T r0 p) (vup N p (V r0)) (vup V r0 (N p)) (piv T d r0 p) (nup C p (R r0)) (nup R r0 (C p)) := by
  obtain ⟨S, hhi, hN, hV, hg, hNm, hCi, hRi, hCR⟩ := I
  obtain ⟨hp, -, -, ⟨hr1, hr2⟩, hpos, hmin⟩ := B
  obtain ⟨S', hex⟩ := SX_piv S hp (by omega) hpos
  refine ⟨S', hhi, fun c hc => ?_, fun r h1 h2 => ?_, fun k hk => ⟨(hg k hk).1, (hg k hk).2.1, ?_⟩, fun x => ?_, fun c c' hc hc' e => ?_, fun r r' h1 h2 h3 h4 e => ?_, fun c r hc h1 h2 e => ?_⟩
  · by_cases h : c = p
    · subst h; rw [vup_at, nup_at, (hV r0 hr1 hr2).1]
    · rw [vup_ne _ h, nup_ne _ h, hN c hc]
  · by_cases h : r = r0
    · subst h; rw [vup_at, nup_at, hN p hp]
      refine ⟨rfl, ?_⟩
      unfold piv; rw [if_pos rfl, if_neg (by omega)]; exact (hV r h1 h2).2
    · rw [vup_ne _ h, nup_ne _ h]
      refine ⟨(hV r h1 h2).1, ?_⟩
      have e := hex r n (by omega) h (Nat.le_refl _) (by omega)
      have : 0 ≤ T r n * T r0 p - T r p * T r0 n := by
        rcases Int.lt_or_le 0 (T r p) with h3 | h3
        · have := (hmin r h1 h2 h3).1; grind
        · have h4 := Int.mul_nonneg (hV r h1 h2).2 (Int.le_of_lt hpos)
          have h5 := Int.mul_nonneg (show 0 ≤ -T r p by omega) (hV r0 hr1 hr2).2
          grind
      rw [← e] at this
      refine Classical.byContradiction (fun hlt => ?_)
      have := Int.mul_pos S.2.1 (show 0 < -piv T d r0 p r n by omega)
      grind
  · rw [vup_ne _ (by have := (hg k hk).2.1; omega), (hg k hk).2.2]
  · rw [hNm x]
    constructor
    · rintro (⟨c, hc, rfl⟩ | ⟨r, h1, h2, rfl⟩)
      · by_cases h : c = p
        · subst h; exact .inr ⟨r0, hr1, hr2, nup_at _ _ _⟩
        · exact .inl ⟨c, hc, nup_ne _ h⟩
      · by_cases h : r = r0
        · subst h; exact .inl ⟨p, hp, nup_at _ _ _⟩
        · exact .inr ⟨r, h1, h2, nup_ne _ h⟩
    · rintro (⟨c, hc, rfl⟩ | ⟨r, h1, h2, rfl⟩)
      · by_cases h : c = p
        · subst h; rw [nup_at]; exact .inr ⟨r0, hr1, hr2, rfl⟩
        · rw [nup_ne _ h]; exact .inl ⟨c, hc, rfl⟩
      · by_cases h : r = r0
        · subst h; rw [nup_at]; exact .inl ⟨p, hp, rfl⟩
        · rw [nup_ne _ h]; exact .inr ⟨r, h1, h2, rfl⟩
  · by_cases h : c = p <;> by_cases h' : c' = p
    · omega
    · subst h; rw [nup_at, nup_ne _ h'] at e; exact absurd e.symm (hCR c' r0 hc' hr1 hr2)
    · subst h'; rw [nup_at, nup_ne _ h] at e; exact absurd e (hCR c r0 hc hr1 hr2)
    · rw [nup_ne _ h, nup_ne _ h'] at e; exact hCi c c' hc hc' e
  · by_cases h : r = r0 <;> by_cases h' : r' = r0
    · omega
    · subst h; rw [nup_at, nup_ne _ h'] at e; exact absurd e (hCR p r' hp h3 h4)
    · subst h'; rw [nup_at, nup_ne _ h] at e; exact absurd e.symm (hCR p r hp h1 h2)
    · rw [nup_ne _ h, nup_ne _ h'] at e; exact hRi r r' h1 h2 h3 h4 e
  · by_cases h : c = p <;> by_cases h' : r = r0
    · subst h; subst h'; rw [nup_at, nup_at] at e; exact hCR c r hc hr1 hr2 e.symm
    · subst h; rw [nup_at, nup_ne _ h'] at e; exact h' (hRi r0 r hr1 hr2 h1 h2 e).symm
    · subst h'; rw [nup_at, nup_ne _ h] at e; exact h (hCi c p hc hp e)
    · rw [nup_ne _ h, nup_ne _ h'] at e; exact hCR c r hc h1 h2 e
