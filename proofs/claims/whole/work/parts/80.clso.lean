/-! the class's table: goals first, then the pairings -/
def T0C (n K : Nat) (sel : Nat → Nat) (cost : Nat → Int) : Nat → Nat → Int := fun q c => if q < K then (if c < n ∧ (q = 0 ∨ q = 1 + c) then -1 else 0) else if c < n then bitI (sel (q - K)) c else cost (sel (q - K))
def V0C (n K : Nat) (sel : Nat → Nat) (cost : Nat → Int) : Nat → Nat → Int := fun q => if q < K then gm n q else slv n (cost (sel (q - K))) (sel (q - K))
theorem T0C_SX (n K R : Nat) (sel : Nat → Nat) (cost : Nat → Int) (hK : K ≤ n + 1) : SX n 1 1 eV (K + R) (V0C n K sel cost) (T0C n K sel cost) := by
  refine SX_init (fun r hr => ⟨fun c hc => ?_, ?_⟩)
  · unfold T0C V0C
    by_cases h : r < K
    · rw [if_pos h, if_pos h]
      cases r with
      | zero => rw [if_pos ⟨hc, .inl rfl⟩]; unfold gm; simp only; rw [if_pos hc]
      | succ k =>
        unfold gm eV; simp only
        by_cases e : c = k
        · subst e; rw [if_pos ⟨hc, .inr (by omega)⟩, if_pos rfl]
        · rw [if_neg (by omega), if_neg e]; rfl
    · rw [if_neg h, if_neg h, if_pos hc]; unfold slv bitI; rw [if_pos hc]; split <;> omega
  · unfold T0C V0C
    by_cases h : r < K
    · rw [if_pos h, if_pos h, if_neg (by omega)]
      cases r with
      | zero => unfold gm; simp only; rw [if_neg (by omega)]
      | succ k => unfold gm eV; simp only; rw [if_neg (by omega)]
    · rw [if_neg h, if_neg h, if_neg (by omega)]; unfold slv; rw [if_neg (by omega), if_pos rfl]
/-- the class's names: 7 and the set -/
def gvC (n : Nat) (cost : Nat → Int) : Nat → Nat → Int := fun x => if x < 7 then eV x else slv n (cost (x - 7)) (x - 7)
def sC (q : Nat → Int) : Nat → Nat := selN (cstF q) (2 ^ nF q)
def nC (q : Nat → Int) : Nat := pcn (cstF q) (2 ^ nF q)
def NmC (q : Nat → Int) (x : Nat) : Prop := x < nF q ∨ (7 ≤ x ∧ x - 7 ≠ 0 ∧ x - 7 < 2 ^ nF q ∧ 0 ≤ cstF q (x - 7))
theorem had_cst {q : Nat → Int} (hw : WF q) {s : Nat} (h0 : s ≠ 0) (hs : s < 2 ^ nF q) (hc : 0 ≤ cstF q s) : 0 ≤ hadF q s := (had_hit hw h0 (and_self' s) hs hc).1
section PC
variable {q : Nat → Int}
theorem sC_ok {j : Nat} (h : j < nC q) : 1 ≤ sC q j ∧ sC q j < 2 ^ nF q ∧ 0 ≤ cstF q (sC q j) ∧ pcn (cstF q) (sC q j) = j := sel_ok h
theorem nC_lt (hw : WF q) : nC q < 128 := by
  have h1 := pow_le7 hw.n.2
  have h2 : ∀ k, 1 ≤ k → pcn (cstF q) k < k := by
    intro k
    induction k with
    | zero => intro h; omega
    | succ k ih =>
      intro _
      rw [pcn]
      by_cases e : k = 0
      · subst e; simp [pcn]
      · have := ih (by omega); split <;> omega
  have := h2 (2 ^ nF q) (pow_pos2 _)
  unfold nC; omega
theorem SI_C (hw : WF q) {K : Nat} (hK : K ≤ nF q + 1) : SI (nF q) (K + nC q) K (K + nC q) 0 K (gvC (nF q) (hadF q)) (NmC q) 1 1 eV (V0C (nF q) K (sC q) (hadF q)) (T0C (nF q) K (sC q) (hadF q)) (fun c => c) (fun r => 7 + sC q (r - K)) := by
  have hn := hw.n
  refine ⟨T0C_SX (nF q) K (nC q) (sC q) (hadF q) hK, Nat.le_refl _, fun c hc => ?_, fun r h1 h2 => ⟨?_, ?_⟩, fun k hk => ⟨by omega, .inl (by omega), ?_⟩, fun x => ?_, fun c c' _ _ e => e, fun r r' h1 h2 h3 h4 e => ?_, fun c r hc _ _ => by show c ≠ 7 + sC q (r - K); omega⟩
  · show eV c = gvC (nF q) (hadF q) c; unfold gvC; rw [if_pos (by omega)]
  · show V0C (nF q) K (sC q) (hadF q) r = gvC (nF q) (hadF q) (7 + sC q (r - K))
    unfold V0C gvC; rw [if_neg (by omega), if_neg (by omega), show 7 + sC q (r - K) - 7 = sC q (r - K) by omega]
  · have hs := sC_ok (q := q) (j := r - K) (by omega)
    unfold T0C; rw [if_neg (by omega), if_neg (by omega)]
    exact had_cst hw (by omega) hs.2.1 hs.2.2.1
  · unfold V0C; rw [if_pos (by omega), Nat.zero_add]
  · unfold NmC
    constructor
    · rintro (h | ⟨h1, h2, h3, h4⟩)
      · exact .inl ⟨x, h, rfl⟩
      · have hp := pcn_lt (show 1 ≤ x - 7 by omega) h3 h4
        refine .inr ⟨K + pcn (cstF q) (x - 7), by omega, by show _ < K + nC q; unfold nC; omega, ?_⟩
        show 7 + sC q (K + pcn (cstF q) (x - 7) - K) = x
        rw [show K + pcn (cstF q) (x - 7) - K = pcn (cstF q) (x - 7) by omega, show sC q (pcn (cstF q) (x - 7)) = x - 7 from sel_pcn (by omega) h3 h4]; omega
    · rintro (⟨c, hc, rfl⟩ | ⟨r, h1, h2, rfl⟩)
      · exact .inl hc
      · have hs := sC_ok (q := q) (j := r - K) (by omega)
        refine .inr ?_
        show 7 ≤ 7 + sC q (r - K) ∧ 7 + sC q (r - K) - 7 ≠ 0 ∧ 7 + sC q (r - K) - 7 < 2 ^ nF q ∧ 0 ≤ cstF q (7 + sC q (r - K) - 7)
        rw [show 7 + sC q (r - K) - 7 = sC q (r - K) by omega]
        exact ⟨by omega, by omega, hs.2.1, hs.2.2.1⟩
  · have e' : 7 + sC q (r - K) = 7 + sC q (r' - K) := e
    have a := (sC_ok (q := q) (j := r - K) (by omega)).2.2.2
    have b := (sC_ok (q := q) (j := r' - K) (by omega)).2.2.2
    rw [show sC q (r - K) = sC q (r' - K) by omega, b] at a
    omega
theorem feasN_C (hw : WF q) (φ : Nat → Int) : feasN (nF q) (gvC (nF q) (hadF q)) (NmC q) φ ↔ feasP q φ := by
  have hn := hw.n
  rw [← feasC_P hw φ]
  constructor
  · rintro ⟨h1, h2⟩
    refine ⟨h1, fun f hf => ?_, fun s h0 hs hc => ?_⟩
    · have := h2 f (.inl hf)
      unfold gvC at this; rw [if_pos (by omega), ev_unit φ (by omega)] at this; exact this
    · have := h2 (7 + s) (.inr (by rw [show 7 + s - 7 = s by omega]; exact ⟨by omega, h0, hs, hc⟩))
      unfold gvC at this
      rw [if_neg (by omega), show 7 + s - 7 = s by omega, ev_slv] at this
      omega
  · rintro ⟨h1, h2, h3⟩
    refine ⟨h1, fun x hx => ?_⟩
    unfold gvC
    rcases hx with hx | ⟨hx, hx2, hx3, hx4⟩
    · rw [if_pos (by omega), ev_unit φ (by omega)]; exact h2 x hx
    · rw [if_neg (by omega), ev_slv]
      have := h3 (x - 7) hx2 hx3 hx4
      omega
theorem NmC_bd (hw : WF q) : ∀ x, NmC q x → (∀ i, i < nF q → -1 ≤ gvC (nF q) (hadF q) x i ∧ gvC (nF q) (hadF q) x i ≤ 1) ∧ -4893 ≤ gvC (nF q) (hadF q) x (nF q) ∧ gvC (nF q) (hadF q) x (nF q) ≤ 4893 := by
  have hn := hw.n
  intro x hx
  unfold gvC
  rcases hx with hx | ⟨hx, hx2, hx3, hx4⟩
  · rw [if_pos (by omega)]
    have := eV_bd x (nF q)
    exact ⟨fun i _ => eV_bd x i, by omega, by omega⟩
  · rw [if_neg (by omega)]
    have hb := hadF_bd hw (s := x - 7) hx2
    have h0 := had_cst hw hx2 hx3 hx4
    exact slv_bd (by omega)
theorem bounded_C (hw : WF q) (hb : bndB q = true) : ∀ φ : Nat → Int, φ (nF q) = 0 → (∀ x, NmC q x → 0 ≤ ev (nF q) φ (gvC (nF q) (hadF q) x)) → ∀ f, f < nF q → φ f = 0 := by
  have hn := hw.n
  intro φ hz h f hf
  obtain ⟨s, h0, hs, hbit, hh⟩ := (bndB_iff hw).mp hb f hf
  obtain ⟨p, -, p2, p3, p4, -⟩ := had_val hw h0 hh
  have hbp := sub_bit p2 f hbit
  have hp0 : p ≠ 0 := fun z => by subst z; rw [Nat.zero_testBit] at hbp; cases hbp
  have h1 := h (7 + p) (.inr (by rw [show 7 + p - 7 = p by omega]; exact ⟨by omega, hp0, p3, p4⟩))
  unfold gvC at h1
  rw [if_neg (by omega), show 7 + p - 7 = p by omega, ev_slv, hz] at h1
  have h2 : ∀ i, i < nF q → 0 ≤ φ i := fun i hi => by
    have := h i (.inl hi)
    unfold gvC at this; rw [if_pos (by omega), ev_unit φ (by omega)] at this; exact this
  have h3 : ∀ i, i < nF q → 0 ≤ bitI p i * φ i := fun i hi => by
    have := h2 i hi
    unfold bitI; split <;> omega
  have h4 := sumT_nn h3
  have h5 := sumT_nz h3 (by omega) f hf
  unfold bitI at h5; rw [if_pos hbp] at h5; omega
/-- names, as places -/
def kaC (q : Nat → Int) (x : Nat) : Nat := if x < 7 then x else nF q + pcn (cstF q) (x - 7)
theorem kaC_lt (hw : WF q) (h25 : nC q ≤ 25) : ∀ x, NmC q x → kaC q x < nF q + 25 := by
  have hn := hw.n
  intro x hx
  unfold kaC
  rcases hx with hx | ⟨hx, hx2, hx3, hx4⟩
  · rw [if_pos (by omega)]; omega
  · rw [if_neg (by omega)]
    have := pcn_lt (show 1 ≤ x - 7 by omega) hx3 hx4
    unfold nC at h25; omega
theorem kaC_inj (hw : WF q) : ∀ x y, NmC q x → NmC q y → kaC q x = kaC q y → x = y := by
  have hn := hw.n
  intro x y hx hy e
  unfold kaC at e
  rcases hx with hx | ⟨hx, hx2, hx3, hx4⟩
  · rw [if_pos (by omega)] at e
    rcases hy with hy | ⟨hy, hy2, hy3, hy4⟩
    · rw [if_pos (by omega)] at e; exact e
    · rw [if_neg (by omega)] at e; omega
  · rw [if_neg (by omega)] at e
    rcases hy with hy | ⟨hy, hy2, hy3, hy4⟩
    · rw [if_pos (by omega)] at e; omega
    · rw [if_neg (by omega)] at e
      have a := sel_pcn (show 1 ≤ x - 7 by omega) hx3 hx4
      have b := sel_pcn (show 1 ≤ y - 7 by omega) hy3 hy4
      rw [show pcn (cstF q) (x - 7) = pcn (cstF q) (y - 7) by omega, b] at a
      omega
def bdC (n H : Nat) (d : Int) (T : Nat → Nat → Int) : Prop := (0 < d ∧ d ≤ BND) ∧ ∀ r c, r < H → c ≤ n → -BND ≤ T r c ∧ T r c ≤ BND
theorem bdC_of {n K R : Nat} {gv : Nat → Nat → Int} {Nm : Nat → Prop} {σ d : Int} {N V T : Nat → Nat → Int} {C Rn : Nat → Nat} (hn : n ≤ 7) (hK : K ≤ n + 1) (I : SI n (K + R) K (K + R) 0 K gv Nm σ d N V T C Rn) (hv : ∀ x, Nm x → (∀ i, i < n → -1 ≤ gv x i ∧ gv x i ≤ 1) ∧ -4893 ≤ gv x n ∧ gv x n ≤ 4893) : bdC n (K + R) d T := by
  have h := I.bd 4893 (by decide) hv hK
  have hb := bnd_le n hn
  have hB : BND = 197285760 := rfl
  refine ⟨⟨I.1.2.1, by omega⟩, fun r c hr hc => ?_⟩
  have := h.2 r (by omega) c hc
  omega
end PC
