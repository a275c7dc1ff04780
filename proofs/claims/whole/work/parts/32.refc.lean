/-! the reference: order, lines, marks, what a set costs -/
section REFC
variable {G : GE} {d : Nat} {M : Mem}
theorem fup_at (o : Nat → Int) (p : Nat) (v : Int) : fup o p v p = v := by unfold fup; rw [if_pos rfl]
theorem fup_ne {o : Nat → Int} {p i : Nat} (v : Int) (h : i ≠ p) : fup o p v i = o i := by unfold fup; rw [if_neg h]
theorem shft_lt {dep : Nat → Int} {v : Int} {p : Nat} {o : Nat → Int} (h : v < dep (o p).toNat) : shft dep v (p + 1) o = shft dep v p (fup o (p + 1) (o p)) := by rw [shft, if_pos h]
theorem shft_ge {dep : Nat → Int} {v : Int} {p : Nat} {o : Nat → Int} (h : ¬ v < dep (o p).toNat) : shft dep v (p + 1) o = (o, p + 1) := by rw [shft, if_neg h]
theorem l11_shift {K : Mem → Prop} {g : Nat → Int} (hg : M 67 = g) (hw : WF g) {k : Nat} (hk : k < nF g) (hX : ∀ (o' : Nat → Int) (p' : Nat) (cur' : Nat → Int), (cur', p') = shft (fun i => g (15 + i)) (g (15 + k)) k (ordT (fun i => g (15 + i)) k) → p' ≤ k → (∀ i, i ≤ k → i ≠ p' → o' i = cur' i) → OkV G miX11_orders d K 66 [some (.inr (.inr (some 66))), some (.inl (k : Int)), some (.inl (p' : Int))] [] (mset M 69 o')) : ∀ (p : Nat) (o cur : Nat → Int), p ≤ k → (∀ i, i ≤ k → i ≠ p → o i = cur i) → (∀ i, i < p → 0 ≤ cur i ∧ cur i < k) → shft (fun i => g (15 + i)) (g (15 + k)) p cur = shft (fun i => g (15 + i)) (g (15 + k)) k (ordT (fun i => g (15 + i)) k) → OkV G miX11_orders d K 14 [some (.inr (.inr (some 66))), some (.inl (k : Int)), some (.inl (p : Int))] [] (mset M 69 o) := by
  intro p
  have hn := hw.n
  induction p with
  | zero =>
    intro o cur hp ho hv hs
    refine gX11_orders_14 ⟨fun _ => hX o 0 cur hs (by omega) ho, fun c => absurd c (by omega)⟩
  | succ p ih =>
    intro o cur hp ho hv hs
    have e1 : (((p + 1 : Nat) : Int) - 1).toNat = p := by omega
    have e2 := ho p (by omega) (by omega)
    have e3 := hv p (by omega)
    have e4 : (15 + o p).toNat = 15 + (cur p).toNat := by omega
    have e5 : (15 + (k : Int)).toNat = 15 + k := by omega
    have e6 : ((p + 1 : Nat) : Int).toNat = p + 1 := by omega
    have g67 : (mset M 69 o) 67 = g := by rw [mset_ne _ (by decide)]; exact hg
    refine gX11_orders_14 ?_
    rw [mset_at, g67, e1, e4, e5, e6]
    refine ⟨fun c => absurd c (by omega), fun _ => ⟨by omega, by omega, by omega, fun c => ?_, fun c => ⟨by omega, by omega, ?_⟩⟩⟩
    · have hge : ¬ g (15 + k) < (fun i => g (15 + i)) (cur p).toNat := by show ¬ g (15 + k) < g (15 + (cur p).toNat); omega
      rw [shft_ge hge] at hs
      exact hX o (p + 1) cur hs hp ho
    · have hlt : g (15 + k) < (fun i => g (15 + i)) (cur p).toNat := c
      rw [shft_lt hlt] at hs
      rw [mup_mset, mset_at, mset_mset, show w32 (((p + 1 : Nat) : Int) + (-1)) = (p : Int) by rw [w32_eq (by omega) (by omega)]; omega]
      refine ih (fup o (p + 1) (o p)) (fup cur (p + 1) (cur p)) (by omega) (fun i hi hne => ?_) (fun i hi => ?_) hs
      · by_cases h : i = p + 1
        · subst h; rw [fup_at, fup_at, e2]
        · rw [fup_ne _ h, fup_ne _ h]; exact ho i hi h
      · rw [fup_ne _ (by omega)]; exact hv i (by omega)
theorem c11_orders {K : Mem → Prop} {g : Nat → Int} (hg : M 67 = g) (hw : WF g) (h : ∀ o : Nat → Int, (∀ i, i < nF g → o i = (oN g i : Int)) → K (mset M 69 o)) : CalV G miX11_orders d [.inr (.inr (some 66))] M K := by
  have hn := hw.n
  refine Cal.of (by decide) (Nat.le_of_ble_eq_true rfl) rfl (gX11_orders_0 ?_)
  have key := dn (P := fun k => ∀ o : Nat → Int, (∀ i, i < k → o i = ordT (fun i => g (15 + i)) k i) → OkV G miX11_orders d K 2 [some (.inr (.inr (some 66))), some (.inl (k : Int)), none] [] (mset M 69 o)) (nF g) ?_ (fun k hk ih o ho => ?_) 0 (by omega)
  · have := key (M 69) (fun i hi => absurd hi (Nat.not_lt_zero _))
    rw [mset_self] at this; exact this
  · intro o ho
    refine gX11_orders_2 ⟨fun _ => h o (fun i hi => by rw [ho i hi]; exact ordF_N g hi), fun c => ?_⟩
    rw [mset_ne _ (by decide), hg] at c; omega
  · refine gX11_orders_2 ⟨fun c => ?_, fun _ => ?_⟩
    · rw [mset_ne _ (by decide), hg] at c; omega
    · refine l11_shift hg hw hk (fun o' p' cur' hs hp' ho' => ?_) k o (ordT (fun i => g (15 + i)) k) (Nat.le_refl _) (fun i hi hne => ho i (by omega)) (fun i hi => (ordT_ord _ k).1 i hi) rfl
      refine gX11_orders_66 ⟨by omega, ?_⟩
      rw [w32n (by omega), Int.toNat_natCast, mup_mset, mset_at, mset_mset]
      refine ih _ (fun i hi => ?_)
      show _ = insO (fun i => g (15 + i)) k (ordT (fun i => g (15 + i)) k) i
      unfold insO
      rw [← hs]
      by_cases e : i = p'
      · subst e; rw [fup_at, fup_at]
      · rw [fup_ne _ e, fup_ne _ e]; exact ho' i (by omega) e
/-- the lines of a set -/
def linF (g : Nat → Int) (s j : Nat) : Int := if s.testBit (oN g j) then lastP g s j else -1
theorem lastP_bd (g : Nat → Int) (s : Nat) : ∀ j, j ≤ nF g → lastP g s j = -1 ∨ ∃ f, f < nF g ∧ lastP g s j = (f : Int) := by
  intro j
  induction j with
  | zero => intro _; exact .inl rfl
  | succ j ih =>
    intro hj
    unfold lastP; split
    · exact .inr ⟨_, oN_lt g (by omega), rfl⟩
    · exact ih (by omega)
theorem c11_lines {K : Mem → Prop} {g : Nat → Int} {v : Int} {s : Nat} (hg : M 67 = g) (hw : WF g) (ho : ∀ i, i < nF g → M 69 i = (oN g i : Int)) (e : v = (s : Int)) (hs : s < 128) (h : ∀ a : Nat → Int, (∀ j, j < nF g → a (oN g j) = linF g s j) → K (mset M 70 a)) : CalV G miX11_lines (d + 1) [.inr (.inr (some 66)), .inl v] M K := by
  have hn := hw.n
  subst e
  refine Cal.of (by decide) (Nat.le_of_ble_eq_true rfl) rfl (gX11_lines_0 ?_)
  have key := dn (P := fun k => ∀ a : Nat → Int, (∀ j, j < k → a (oN g j) = linF g s j) → OkV G miX11_lines (d + 1) K 4 [some (.inr (.inr (some 66))), some (.inl (s : Int)), some (.inl (lastP g s k)), some (.inl (k : Int)), none] [] (mset M 70 a)) (nF g) ?_ (fun k hk ih a ha => ?_) 0 (by omega)
  · have := key (M 70) (fun i hi => absurd hi (Nat.not_lt_zero _))
    rw [mset_self] at this; exact this
  · intro a ha
    refine gX11_lines_4 ⟨fun _ => h a ha, fun c => ?_⟩
    rw [mset_ne _ (by decide), hg] at c; omega
  · have hlt := oN_lt g hk
    have e1 : (mset M 70 a) 69 (k : Int).toNat = (oN g k : Int) := by rw [mset_ne _ (by decide), Int.toNat_natCast, ho k hk]
    refine gX11_lines_4 ⟨fun c => ?_, fun _ => ⟨by omega, ?_⟩⟩
    · rw [mset_ne _ (by decide), hg] at c; omega
    rw [e1]
    have fin : ∀ x y : Int, x = linF g s k → y = lastP g s (k + 1) → OkV G miX11_lines (d + 1) K 4 [some (.inr (.inr (some 66))), some (.inl (s : Int)), some (.inl y), some (.inl (w32 ((k : Int) + 1))), none] [] (mup (mset M 70 a) 70 (oN g k : Int).toNat x) := by
      intro x y hx hy
      rw [w32n (by omega), mup_mset, mset_mset, mset_at, Int.toNat_natCast, hx, hy]
      refine ih _ (fun j hj => ?_)
      by_cases e : j = k
      · subst e; rw [fup_at]
      · rw [fup_ne _ (fun e2 => e (oN_inj g (by omega) hk e2))]; exact ha j (by omega)
    refine c11_has rfl rfl hs (by omega) (fun b => ⟨by omega, ?_⟩) (fun b => ⟨by omega, ?_⟩)
    · refine c11_has rfl rfl hs (by omega) (fun b' => ?_) (fun b' => ?_)
      · exact fin _ _ (by unfold linF; simp [b]) (by rw [if_neg (by decide), lastP, if_pos b])
      · exact absurd b (by rw [b']; decide)
    · refine c11_has rfl rfl hs (by omega) (fun b' => ?_) (fun b' => ?_)
      · exact absurd b' (by rw [b]; decide)
      · exact fin _ _ (by unfold linF; simp [b]) (by rw [if_pos rfl, lastP, if_neg (by rw [b]; decide)])
theorem rb_at (g : Nat → Int) (s f : Nat) {j : Nat} (hj : j < nF g) : rbB g s f (oN g j) = (s.testBit (oN g j) && decide (lastP g s j = (f : Int))) := by
  unfold rbB
  refine Bool.eq_iff_iff.mpr ?_
  rw [List.any_eq_true]
  constructor
  · rintro ⟨i, hi, h⟩
    simp only [Bool.and_eq_true, decide_eq_true_eq] at h
    have := oN_inj g (List.mem_range.mp hi) hj h.1
    subst this
    simp only [Bool.and_eq_true, decide_eq_true_eq]; exact h.2
  · intro h
    exact ⟨j, List.mem_range.mpr hj, by simp only [Bool.and_eq_true, decide_eq_true_eq] at h ⊢; exact ⟨trivial, h⟩⟩
def bI (b : Bool) : Int := if b then 1 else 0
theorem bI_01 (b : Bool) : bI b = 0 ∨ bI b = 1 := by cases b <;> decide
/-- what the lines tell of who is behind whom -/
theorem lin_rb {g : Nat → Int} {s : Nat} {a : Nat → Int} (ha : ∀ j, j < nF g → a (oN g j) = linF g s j) {f h : Nat} (hh : h < nF g) : (s.testBit h = true → (a h = (f : Int) ↔ rbB g s f h = true)) ∧ (s.testBit h = false → rbB g s f h = false) := by
  obtain ⟨j, hj, rfl⟩ := oN_sur g hh
  rw [rb_at g s f hj, ha j hj]
  constructor
  · intro b; unfold linF; rw [if_pos b, b]; simp
  · intro b; rw [b]; rfl
theorem c11_markOf {K : Int → Mem → Prop} {v w : Int} {f k : Nat} (e : v = (f : Int)) (e' : w = (k : Int)) (hf : f < 7) (hk : k < 7) (h : K (M 67 (29 + (7 * f + k))) M) : CalI G miX11_markOf d [.inr (.inr (some 66)), .inl v, .inl w] M K := by
  subst e; subst e'
  have e1 : ((29 + (7 * (f : Int))) + (k : Int)).toNat = 29 + (7 * f + k) := by omega
  refine Cal.of (by decide) (Nat.le_of_ble_eq_true rfl) rfl (gX11_markOf_0 ?_)
  rw [e1]
  exact ⟨by omega, h⟩
theorem c11_isMarked {K : Int → Mem → Prop} {g : Nat → Int} {v : Int} {s : Nat} (hg : M 67 = g) (hw : WF g) (e : v = (s : Int)) (hs : s < 128) (ha : ∀ j, j < nF g → M 70 (oN g j) = linF g s j) (h : K (bI (suitB g s)) M) : CalI G miX11_isMarked (d + 1) [.inr (.inr (some 66)), .inl v] M K := by
  have hn := hw.n
  subst e
  refine Cal.of (by decide) (Nat.le_of_ble_eq_true rfl) rfl (gX11_isMarked_0 ?_)
  have key := dn (P := fun f => OkI G miX11_isMarked (d + 1) K 4 [some (.inr (.inr (some 66))), some (.inl (s : Int)), some (.inl (bI ((List.range f).all fun f => (List.range (nF g)).all fun h => suit1 g s f h))), some (.inl (f : Int)), none, none, none] [] M) (nF g) ?_ (fun f hf ih => ?_) 0 (by omega)
  · exact key
  · refine gX11_isMarked_4 ⟨fun _ => ⟨bI_01 _, h⟩, fun c => ?_⟩
    rw [hg] at c; omega
  · refine gX11_isMarked_4 ⟨fun c => ?_, fun _ => ?_⟩
    · rw [hg] at c; omega
    generalize hA : ((List.range f).all fun f => (List.range (nF g)).all fun h => suit1 g s f h) = A
    have inner := dn (P := fun k => OkI G miX11_isMarked (d + 1) K 17 [some (.inr (.inr (some 66))), some (.inl (s : Int)), some (.inl (bI (A && (List.range k).all fun h => suit1 g s f h))), some (.inl (f : Int)), some (.inl (k : Int)), none, none] [] M) (nF g) ?_ (fun k hk ih2 => ?_) 0 (by omega)
    · have e : (A && (List.range 0).all fun h => suit1 g s f h) = A := by simp
      rw [e] at inner; exact inner
    · refine gX11_isMarked_17 ⟨fun _ => ?_, fun c => ?_⟩
      · rw [w32n (by omega)]
        rw [List.range_succ, List.all_append, hA] at ih
        simpa using ih
      · rw [hg] at c; omega
    · have nx : ∀ x : Int, x = bI ((A && (List.range k).all fun h => suit1 g s f h) && suit1 g s f k) → OkI G miX11_isMarked (d + 1) K 17 [some (.inr (.inr (some 66))), some (.inl (s : Int)), some (.inl x), some (.inl (f : Int)), some (.inl (w32 ((k : Int) + 1))), none, none] [] M := by
        intro x hx
        rw [w32n (by omega), hx]
        rw [List.range_succ, List.all_append] at ih2
        simpa [Bool.and_assoc] using ih2
      generalize hB : (A && (List.range k).all fun h => suit1 g s f h) = B
      rw [hB] at nx
      have hl := lin_rb (g := g) (s := s) (a := M 70) ha (f := f) hk
      have hm := hw.mk (i := 7 * f + k) (by omega)
      have e7 : M 67 (29 + (7 * f + k)) = g (29 + (7 * f + k)) := by rw [hg]
      -- 79: with behind told
      have t79 : ∀ x5 : Int, B = true → (x5 = 0 ↔ rbB g s f k = false) → ¬ (g (29 + (7 * f + k)) = 2 ∧ rbB g s f k = true) → OkI G miX11_isMarked (d + 1) K 79 [some (.inr (.inr (some 66))), some (.inl (s : Int)), none, some (.inl (f : Int)), some (.inl (k : Int)), some (.inl x5), some (.inl (g (29 + (7 * f + k))))] [] M := by
        intro x5 hBt hx5 hn2
        refine gX11_isMarked_79 ⟨fun c => nx 1 ?_, fun c => ⟨fun c2 => nx 1 ?_, fun c2 => ?_⟩⟩
        · rw [hBt]; unfold suit1
          cases hr : rbB g s f k <;> simp_all [bI]
        · have : rbB g s f k = true := by
            cases hr : rbB g s f k
            · exact absurd (hx5.mpr hr) c2
            · rfl
          rw [hBt]; unfold suit1; simp [this, c, bI]
        · have hr := hx5.mp c2
          refine c11_has rfl rfl hs (by omega) (fun b => n1 (nx 0 ?_)) (fun b => n0 ?_)
          · rw [hBt]; unfold suit1; simp [hr, c, b, bI]
          · refine c11_has rfl rfl hs (by omega) (fun b' => nx _ ?_) (fun b' => nx _ ?_)
            · rw [hBt]; unfold suit1; simp [hr, c, b, b', bI]
            · rw [hBt]; unfold suit1; simp [hr, c, b, b', bI]
      refine gX11_isMarked_17 ⟨fun c => ?_, fun _ => ?_⟩
      · rw [hg] at c; omega
      refine c11_has rfl rfl hs (by omega) (fun b => b1 ⟨by omega, ?_⟩) (fun b => b0 ?_)
      · have hl1 := hl.1 b
        rw [Int.toNat_natCast]
        refine c11_markOf rfl rfl (by omega) (by omega) ?_
        rw [e7]
        refine ⟨fun c => nx 0 ?_, fun c => ?_⟩
        · have : B = false := by cases B <;> simp_all [bI]
          rw [this]; rfl
        · have hBt : B = true := by cases B <;> simp_all [bI]
          refine ⟨fun c2 => t79 _ hBt ?_ (fun q => c2 q.1), fun c2 => ⟨fun c3 => nx 0 ?_, fun c3 => t79 _ hBt ?_ (fun q => c3 (hl1.mpr q.2))⟩⟩
          · by_cases h70 : M 70 k = (f : Int)
            · have := hl1.mp h70; simp [h70, this]
            · have : rbB g s f k = false := by cases hr : rbB g s f k <;> simp_all
              simp [h70, this]
          · have := hl1.mp c3
            rw [hBt]; unfold suit1; simp [this, c2, bI]
          · have : rbB g s f k = false := by cases hr : rbB g s f k <;> simp_all
            simp [c3, this]
      · have hr := hl.2 b
        refine gX11_isMarked_52 ?_
        refine c11_markOf rfl rfl (by omega) (by omega) ?_
        rw [e7]
        refine ⟨fun c => nx 0 ?_, fun c => ?_⟩
        · have : B = false := by cases B <;> simp_all [bI]
          rw [this]; rfl
        · have hBt : B = true := by cases B <;> simp_all [bI]
          refine ⟨fun c2 => t79 0 hBt (by simp [hr]) (fun q => c2 q.1), fun c2 => ⟨fun c3 => absurd rfl c3, fun _ => t79 0 hBt (by simp [hr]) (fun q => by rw [hr] at q; simp at q)⟩⟩
end REFC
