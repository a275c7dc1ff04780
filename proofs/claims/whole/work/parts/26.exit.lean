/-! lines by which points are left; how many there are; rows that go; sizes -/
section EXIT
variable {n H lo hi g0 K : Nat} {gv : Nat → Nat → Int} {Nm : Nat → Prop} {σ d : Nat → Int} {N V T : Nat → Nat → Nat → Int} {C R : Nat → Nat → Nat} {p r : Nat → Nat} {L : Nat}
theorem line_ev (Q : SQ n H lo hi g0 K gv Nm σ d N V T C R p r L) {a : Nat} (ha : a < L) (φ : Nat → Int) (hE : ∀ c, c < n → c ≠ p a → ev n φ (N a c) = 0) (q : Nat) (hq : q < H) : d a * ev n φ (V a q) = ev n (xF n (σ a) (N a) n) (V a q) * φ n + ev n (xF n (σ a) (N a) (p a)) (V a q) * ev n φ (N a (p a)) := by
  obtain ⟨B, -⟩ := Q.2 a ha
  obtain ⟨S, -⟩ := Q.1 a (by omega)
  rw [S.xr hq, S.yr B.1 hq, SX_ev S φ hq, sumT_one (c := p a) B.1 (fun c hc h => by rw [hE c hc h]; simp)]
  grind
theorem line_nm (Q : SQ n H lo hi g0 K gv Nm σ d N V T C R p r L) {a : Nat} (ha : a < L) (φ : Nat → Int) (hE : ∀ c, c < n → c ≠ p a → ev n φ (N a c) = 0) (x : Nat) (hx : Nm x) : d a * ev n φ (gv x) = ev n (xF n (σ a) (N a) n) (gv x) * φ n + ev n (xF n (σ a) (N a) (p a)) (gv x) * ev n φ (N a (p a)) := by
  obtain ⟨B, -⟩ := Q.2 a ha
  obtain ⟨S, hhi, hN, hV, hg, hNm, hCi, hRi, hCR⟩ := Q.1 a (by omega)
  rcases (hNm x).mp hx with ⟨c, hc, rfl⟩ | ⟨q, h1, h2, rfl⟩
  · rw [← hN c hc]
    by_cases h : c = p a
    · subst h
      rw [xF_col (by omega) (by omega) (by omega), xF_own (by omega) S.2.2.2.2.1]; grind
    · have := B.1
      rw [hE c hc h, xF_col (by omega) (by omega) (by omega), xF_col (by omega) (by omega) h]; simp
  · rw [← (hV q h1 h2).1]; exact line_ev Q ha φ hE q (by omega)
theorem exit_one (Q : SQ n H lo hi g0 K gv Nm σ d N V T C R p r L) {a b : Nat} (hab : a < b) (hb : b < L) (hE : ∀ x, (∃ c, c < n ∧ c ≠ p a ∧ C a c = x) ↔ (∃ c, c < n ∧ c ≠ p b ∧ C b c = x)) : False := by
  have ha : a < L := by omega
  obtain ⟨Ba, -⟩ := Q.2 a ha
  obtain ⟨Bb, -⟩ := Q.2 b hb
  obtain ⟨S1, hhi1, hN1, hV1, hg1, hNm1, hCi1, hRi1, hCR1⟩ := Q.1 a (by omega)
  obtain ⟨S2, hhi2, hN2, hV2, hg2, hNm2, hCi2, hRi2, hCR2⟩ := Q.1 b (by omega)
  have hd1 := S1.2.1
  have hd2 := S2.2.1
  have hEb : ∀ c, c < n → c ≠ p a → ∃ c', c' < n ∧ c' ≠ p b ∧ N a c = N b c' := by
    intro c hc h
    obtain ⟨c', h1, h2, h3⟩ := (hE (C a c)).mp ⟨c, hc, h, rfl⟩
    exact ⟨c', h1, h2, by rw [hN1 c hc, hN2 c' h1, h3]⟩
  have hY0 : ∀ c, c < n → c ≠ p a → ev n (xF n (σ b) (N b) (p b)) (N a c) = 0 := by
    intro c hc h
    obtain ⟨c', h1, h2, h3⟩ := hEb c hc h
    have := Bb.1
    rw [h3, xF_col (by omega) (by omega) h2]
  have hX0 : ∀ c, c < n → c ≠ p a → ev n (xF n (σ b) (N b) n) (N a c) = 0 := by
    intro c hc h
    obtain ⟨c', h1, h2, h3⟩ := hEb c hc h
    rw [h3, xF_col (by omega) (by omega) (by omega)]
  have y0 : xF n (σ b) (N b) (p b) n = 0 := S2.yn Bb.1
  have x0 : xF n (σ b) (N b) n n = d b := S2.xn
  generalize hlam : ev n (xF n (σ b) (N b) (p b)) (N a (p a)) = lam
  generalize hmu : ev n (xF n (σ b) (N b) n) (N a (p a)) = mu
  -- the ways have one direction
  have hgoal : ∀ k, k < K → d a * T b (g0 + k) (p b) = T a (g0 + k) (p a) * lam := by
    intro k hk
    have e := line_ev Q ha _ hY0 (g0 + k) (hg1 k hk).1
    rw [(hg1 k hk).2.2, ← (hg2 k hk).2.2, S2.yr Bb.1 (hg2 k hk).1, y0, (hg2 k hk).2.2, ← (hg1 k hk).2.2, S1.yr Ba.1 (hg1 k hk).1, hlam] at e
    grind
  have hlpos : 0 < lam := by
    refine Classical.byContradiction (fun hle => ?_)
    have h1 : lxn (fun k => (-T a (g0 + k) (p a)) * (-lam)) K := by
      obtain ⟨k, hk, h1, h2⟩ := Bb.2.1
      have h1' : T b (g0 + k) (p b) < 0 := h1
      refine ⟨k, hk, ?_, fun j hj => ?_⟩
      · have := hgoal k hk
        have := Int.mul_pos hd1 (show 0 < -T b (g0 + k) (p b) by omega)
        show (-T a (g0 + k) (p a)) * (-lam) < 0
        grind
      · have h3 : T b (g0 + j) (p b) = 0 := h2 j hj
        have := hgoal j (by omega)
        rw [h3] at this
        show (-T a (g0 + j) (p a)) * (-lam) = 0
        grind
    exact lxn_two Ba.2.1 (lxn_mul (by omega) h1)
  -- names along the line
  have nY : ∀ x, Nm x → d a * ev n (xF n (σ b) (N b) (p b)) (gv x) = ev n (xF n (σ a) (N a) (p a)) (gv x) * lam := by
    intro x hx
    have e := line_nm Q ha _ hY0 x hx
    rw [y0, hlam] at e; grind
  have nX : ∀ x, Nm x → d a * ev n (xF n (σ b) (N b) n) (gv x) = ev n (xF n (σ a) (N a) n) (gv x) * d b + ev n (xF n (σ a) (N a) (p a)) (gv x) * mu := by
    intro x hx
    have e := line_nm Q ha _ hX0 x hx
    rw [x0, hmu] at e; exact e
  have hma : Nm (R a (r a)) := (hNm1 _).mpr (.inr ⟨r a, Ba.2.2.2.1.1, Ba.2.2.2.1.2, rfl⟩)
  have hmb : Nm (R b (r b)) := (hNm2 _).mpr (.inr ⟨r b, Bb.2.2.2.1.1, Bb.2.2.2.1.2, rfl⟩)
  -- the ratio tests
  have ta : ∀ x, Nm x → ev n (xF n (σ a) (N a) (p a)) (gv x) < 0 → T a (r a) n * -ev n (xF n (σ a) (N a) (p a)) (gv x) ≤ ev n (xF n (σ a) (N a) n) (gv x) * T a (r a) (p a) ∧ (T a (r a) n * -ev n (xF n (σ a) (N a) (p a)) (gv x) = ev n (xF n (σ a) (N a) n) (gv x) * T a (r a) (p a) → R a (r a) ≤ x) := by
    intro x hx hneg
    have hp := Ba.1
    rcases (hNm1 x).mp hx with ⟨c, hc, rfl⟩ | ⟨q, h1, h2, rfl⟩
    · exfalso
      rw [← hN1 c hc] at hneg
      by_cases h : c = p a
      · subst h; rw [xF_own (by omega) S1.2.2.2.2.1] at hneg; omega
      · rw [xF_col (by omega) (by omega) h] at hneg; omega
    · rw [← (hV1 q h1 h2).1, S1.yr hp (by omega)] at hneg ⊢
      rw [S1.xr (by omega), Int.neg_neg]
      exact Ba.2.2.2.2.2 q h1 h2 (by omega)
  have tb : ∀ x, Nm x → ev n (xF n (σ b) (N b) (p b)) (gv x) < 0 → T b (r b) n * -ev n (xF n (σ b) (N b) (p b)) (gv x) ≤ ev n (xF n (σ b) (N b) n) (gv x) * T b (r b) (p b) ∧ (T b (r b) n * -ev n (xF n (σ b) (N b) (p b)) (gv x) = ev n (xF n (σ b) (N b) n) (gv x) * T b (r b) (p b) → R b (r b) ≤ x) := by
    intro x hx hneg
    have hp := Bb.1
    rcases (hNm2 x).mp hx with ⟨c, hc, rfl⟩ | ⟨q, h1, h2, rfl⟩
    · exfalso
      rw [← hN2 c hc] at hneg
      by_cases h : c = p b
      · subst h; rw [xF_own (by omega) S2.2.2.2.2.1] at hneg; omega
      · rw [xF_col (by omega) (by omega) h] at hneg; omega
    · rw [← (hV2 q h1 h2).1, S2.yr hp (by omega)] at hneg ⊢
      rw [S2.xr (by omega), Int.neg_neg]
      exact Bb.2.2.2.2.2 q h1 h2 (by omega)
  have va : ev n (xF n (σ a) (N a) (p a)) (gv (R a (r a))) = -T a (r a) (p a) ∧ ev n (xF n (σ a) (N a) n) (gv (R a (r a))) = T a (r a) n := by
    rw [← (hV1 _ Ba.2.2.2.1.1 Ba.2.2.2.1.2).1, S1.yr Ba.1 (by have := Ba.2.2.2.1.2; omega), S1.xr (by have := Ba.2.2.2.1.2; omega)]; exact ⟨rfl, rfl⟩
  have vb : ev n (xF n (σ b) (N b) (p b)) (gv (R b (r b))) = -T b (r b) (p b) ∧ ev n (xF n (σ b) (N b) n) (gv (R b (r b))) = T b (r b) n := by
    rw [← (hV2 _ Bb.2.2.2.1.1 Bb.2.2.2.1.2).1, S2.yr Bb.1 (by have := Bb.2.2.2.1.2; omega), S2.xr (by have := Bb.2.2.2.1.2; omega)]; exact ⟨rfl, rfl⟩
  have hpa := Ba.2.2.2.2.1
  have hpb := Bb.2.2.2.2.1
  have na1 := nY _ hma
  have na2 := nX _ hma
  have nb1 := nY _ hmb
  have nb2 := nX _ hmb
  rw [va.1] at na1 na2
  rw [va.2] at na2
  rw [vb.1] at nb1
  rw [vb.2] at nb2
  have sa : ev n (xF n (σ b) (N b) (p b)) (gv (R a (r a))) < 0 := by
    have := Int.mul_pos hpa hlpos
    refine Classical.byContradiction (fun hge => ?_)
    have := Int.mul_nonneg (Int.le_of_lt hd1) (show 0 ≤ ev n (xF n (σ b) (N b) (p b)) (gv (R a (r a))) by omega)
    grind
  have sb : ev n (xF n (σ a) (N a) (p a)) (gv (R b (r b))) < 0 := by
    have := Int.mul_pos hd1 hpb
    refine Classical.byContradiction (fun hge => ?_)
    have := Int.mul_nonneg (show 0 ≤ ev n (xF n (σ a) (N a) (p a)) (gv (R b (r b))) by omega) (Int.le_of_lt hlpos)
    grind
  have r1 := ta _ hmb sb
  have r2 := tb _ hma sa
  generalize ev n (xF n (σ a) (N a) (p a)) (gv (R b (r b))) = yab at *
  generalize ev n (xF n (σ a) (N a) n) (gv (R b (r b))) = xab at *
  generalize ev n (xF n (σ b) (N b) (p b)) (gv (R a (r a))) = yba at *
  generalize ev n (xF n (σ b) (N b) n) (gv (R a (r a))) = xba at *
  generalize T a (r a) n = ba at *
  generalize T a (r a) (p a) = pa at *
  generalize T b (r b) n = bb at *
  generalize T b (r b) (p b) = pb at *
  generalize d a = da at *
  generalize d b = db at *
  -- da*da*(xba*pb - bb*(-yba)) = db*lam*(ba*(-yab) - xab*pa)
  have key : (da * da) * (xba * pb - bb * -yba) = (db * lam) * (ba * -yab - xab * pa) := by
    have e1 : (da * da) * (xba * pb - bb * -yba) = (da * xba) * (da * pb) + (da * bb) * (da * yba) := by grind
    have e2 : da * pb = -(yab * lam) := by grind
    rw [e1, na2, nb2, na1, e2]; grind
  have hdd : 0 < da * da := Int.mul_pos hd1 hd1
  have hdl : 0 < db * lam := Int.mul_pos hd2 hlpos
  have z1 : 0 ≤ (da * da) * (xba * pb - bb * -yba) := Int.mul_nonneg (Int.le_of_lt hdd) (by have := r2.1; omega)
  have z2 : ba * -yab - xab * pa = 0 := by
    rcases Int.lt_or_eq_of_le (show ba * -yab - xab * pa ≤ 0 by have := r1.1; omega) with h | h
    · have := Int.mul_pos hdl (show 0 < -(ba * -yab - xab * pa) by omega)
      rw [Int.mul_neg] at this
      omega
    · exact h
  have z3 : xba * pb - bb * -yba = 0 := by
    rw [z2, Int.mul_zero] at key
    rcases Int.mul_eq_zero.mp key with h | h
    · omega
    · exact h
  have l1 := r1.2 (by omega)
  have l2 := r2.2 (by omega)
  have hl : R a (r a) = R b (r b) := by omega
  refine no_rep Q (i := a + 1) (j := b + 1) (by omega) (by omega) (fun x => ?_)
  rw [nb_step Q ha, nb_step Q hb, hl]
  have cv : ∀ l, l < L → ((nb n C l x ∧ x ≠ C l (p l)) ↔ ∃ c, c < n ∧ c ≠ p l ∧ C l c = x) := by
    intro l hl
    obtain ⟨-, -, -, -, -, -, hCi, -, -⟩ := Q.1 l (by omega)
    constructor
    · rintro ⟨⟨c, hc, rfl⟩, h⟩; exact ⟨c, hc, fun e => h (by rw [e]), rfl⟩
    · rintro ⟨c, hc, h, rfl⟩; exact ⟨⟨c, hc, rfl⟩, fun e => h (hCi c (p l) hc ((Q.2 l hl).1).1 e)⟩
  rw [cv a ha, cv b hb, hE x]
end EXIT
/-- a row goes, where prices are bounded -/
theorem SI.goes {n H lo hi g0 K : Nat} {gv : Nat → Nat → Int} {Nm : Nat → Prop} {σ d : Int} {N V T : Nat → Nat → Int} {C R : Nat → Nat} (I : SI n H lo hi g0 K gv Nm σ d N V T C R) (hb : ∀ φ : Nat → Int, φ n = 0 → (∀ x, Nm x → 0 ≤ ev n φ (gv x)) → ∀ f, f < n → φ f = 0) {p : Nat} (hp : p < n) (hi' : lxn (fun k => T (g0 + k) p) K) : ∃ q, lo ≤ q ∧ q < hi ∧ 0 < T q p := by
  refine Classical.byContradiction (fun hno => ?_)
  obtain ⟨S, hhi, hN, hV, hg, hNm, -⟩ := I
  have h0 := hb (xF n σ N p) (S.yn hp) (fun x hx => by
    rcases (hNm x).mp hx with ⟨c, hc, rfl⟩ | ⟨q, h1, h2, rfl⟩
    · rw [← hN c hc]
      by_cases h : c = p
      · subst h; rw [xF_own (by omega) S.2.2.2.2.1]; exact Int.le_of_lt S.2.1
      · rw [xF_col (by omega) (by omega) h]; exact Int.le_refl _
    · rw [← (hV q h1 h2).1, S.yr hp (by omega)]
      have : ¬ 0 < T q p := fun h => hno ⟨q, h1, h2, h⟩
      omega)
  obtain ⟨k, hk, h1, -⟩ := hi'
  have h1' : T (g0 + k) p < 0 := h1
  have h2 := S.yr hp (hg k hk).1
  have h3 : ev n (xF n σ N p) (V (g0 + k)) = 0 := by
    unfold ev
    refine sumT_zero (fun i hi => ?_)
    by_cases h : i = n
    · subst h; rw [S.yn hp]; simp
    · rw [h0 i (by omega)]; simp
  omega
/-- sizes -/
theorem SI.bd {n H lo hi g0 K : Nat} {gv : Nat → Nat → Int} {Nm : Nat → Prop} {σ d : Int} {N V T : Nat → Nat → Int} {C R : Nat → Nat} (I : SI n H lo hi g0 K gv Nm σ d N V T C R) (b : Int) (hb1 : 1 ≤ b) (hv : ∀ x, Nm x → (∀ i, i < n → -1 ≤ gv x i ∧ gv x i ≤ 1) ∧ -b ≤ gv x n ∧ gv x n ≤ b) (hK : K ≤ n + 1) : d ≤ ((n + 1 : Nat) : Int) * (b * fct n) ∧ ∀ q, (lo ≤ q ∧ q < hi) ∨ (g0 ≤ q ∧ q < g0 + K) → ∀ c, c ≤ n → -(((n + 1 : Nat) : Int) * (b * fct n)) ≤ T q c ∧ T q c ≤ ((n + 1 : Nat) : Int) * (b * fct n) := by
  obtain ⟨S, hhi, hN, hV, hg, hNm, -⟩ := I
  obtain ⟨hs, hd0, hn, -, hd, hT⟩ := S
  have okN : ∀ c, c < n + 1 → (∀ i, i < n → -1 ≤ N c i ∧ N c i ≤ 1) ∧ -b ≤ N c n ∧ N c n ≤ b := by
    intro c hc
    by_cases h : c = n
    · subst h; rw [hn]; unfold eV
      refine ⟨fun i _ => ?_, ?_⟩
      · split <;> omega
      · rw [if_pos rfl]; omega
    · rw [hN c (by omega)]; exact hv _ ((hNm _).mpr (.inl ⟨c, by omega, rfl⟩))
  have okV : ∀ q, (lo ≤ q ∧ q < hi) ∨ (g0 ≤ q ∧ q < g0 + K) → (∀ i, i < n → -1 ≤ V q i ∧ V q i ≤ 1) ∧ -b ≤ V q n ∧ V q n ≤ b := by
    rintro q (⟨h1, h2⟩ | ⟨h1, h2⟩)
    · rw [(hV q h1 h2).1]; exact hv _ ((hNm _).mpr (.inr ⟨q, h1, h2, rfl⟩))
    · have := (hg (q - g0) (by omega)).2.2
      rw [show g0 + (q - g0) = q by omega] at this
      rw [this]
      cases hk : q - g0 with
      | zero =>
        unfold gm
        refine ⟨fun i _ => ?_, ?_⟩
        · simp only; split <;> omega
        · simp only; rw [if_neg (by omega)]; omega
      | succ k =>
        unfold gm eV
        refine ⟨fun i _ => ?_, ?_⟩
        · simp only; split <;> omega
        · simp only; rw [if_neg (by omega)]; omega
  have bdd : ∀ M : Nat → Nat → Int, (∀ c, c < n + 1 → (∀ i, i < n → -1 ≤ M c i ∧ M c i ≤ 1) ∧ -b ≤ M c n ∧ M c n ≤ b) → -(((n + 1 : Nat) : Int) * (b * fct n)) ≤ det (n + 1) M ∧ det (n + 1) M ≤ ((n + 1 : Nat) : Int) * (b * fct n) :=
    fun M hM => det_bd1 n M b (fun i hi l hl => (hM i hi).1 l hl) (fun i hi => (hM i hi).2)
  refine ⟨?_, fun q hq c hc => ?_⟩
  · have := bdd N okN
    rcases hs with h | h <;> rw [h] at hd <;> omega
  · have hqH : q < H := by
      rcases hq with h | h
      · omega
      · have := (hg (q - g0) (by omega)).1; omega
    have := bdd (vup N c (V q)) (fun c' hc' => by
      by_cases h : c' = c
      · subst h; rw [vup_at]; exact okV q hq
      · rw [vup_ne _ h]; exact okN c' hc')
    by_cases h : c = n
    · subst h; rw [(hT q hqH).2]
      rcases hs with h | h <;> rw [h] <;> omega
    · rw [(hT q hqH).1 c (by omega)]
      rcases hs with h | h <;> rw [h] <;> omega
