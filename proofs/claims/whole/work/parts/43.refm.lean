/-! rows of a table: the sets that have a cost, in order; where it begins -/
theorem pcn_mono (c : Nat → Int) : ∀ {a b : Nat}, a ≤ b → pcn c a ≤ pcn c b := by
  intro a b h
  induction b with
  | zero => have : a = 0 := by omega
            subst this; exact Nat.le_refl _
  | succ b ih =>
    by_cases e : a = b + 1
    · subst e; exact Nat.le_refl _
    · have := ih (by omega); rw [pcn]; omega
theorem pcn_lt {c : Nat → Int} {s N : Nat} (h1 : 1 ≤ s) (hs : s < N) (hc : 0 ≤ c s) : pcn c s < pcn c N := by
  have := pcn_mono c (show s + 1 ≤ N by omega)
  rw [pcn, if_pos ⟨h1, hc⟩] at this; omega
theorem pcn_sel {c : Nat → Int} {j : Nat} : ∀ {N : Nat}, j < pcn c N → ∃ s, 1 ≤ s ∧ s < N ∧ 0 ≤ c s ∧ pcn c s = j ∧ pfd c (j : Int) N = some s := by
  intro N
  induction N with
  | zero => intro h; exact absurd h (Nat.not_lt_zero _)
  | succ N ih =>
    intro h
    by_cases h2 : j < pcn c N
    · obtain ⟨s, h3, h4, h5, h6, h7⟩ := ih h2
      exact ⟨s, h3, by omega, h5, h6, pfd_some h7 _ (by omega)⟩
    · rw [pcn] at h
      have h3 : 1 ≤ N ∧ 0 ≤ c N := Classical.byContradiction (fun hn => by rw [if_neg hn] at h; omega)
      rw [if_pos h3] at h
      have h4 : pcn c N = j := by omega
      refine ⟨N, h3.1, by omega, h3.2, h4, ?_⟩
      have h5 : ∀ m, m ≤ N → pfd c (j : Int) m = none := by
        intro m
        induction m with
        | zero => intro _; rfl
        | succ m ihm =>
          intro hm
          rw [pfd, ihm (by omega)]
          simp only
          rw [if_neg]
          rintro ⟨a, b, e⟩
          have := pcn_lt a (show m < N by omega) b
          omega
      rw [pfd, h5 N (Nat.le_refl _)]
      simp only
      rw [if_pos ⟨h3.1, h3.2, by omega⟩]
def selN (c : Nat → Int) (N j : Nat) : Nat := (pfd c (j : Int) N).getD 0
theorem sel_ok {c : Nat → Int} {N j : Nat} (h : j < pcn c N) : 1 ≤ selN c N j ∧ selN c N j < N ∧ 0 ≤ c (selN c N j) ∧ pcn c (selN c N j) = j := by
  obtain ⟨s, h1, h2, h3, h4, h5⟩ := pcn_sel h
  have : selN c N j = s := by unfold selN; rw [h5]; rfl
  rw [this]; exact ⟨h1, h2, h3, h4⟩
theorem sel_pcn {c : Nat → Int} {N s : Nat} (h1 : 1 ≤ s) (hs : s < N) (hc : 0 ≤ c s) : selN c N (pcn c s) = s := by
  have h := sel_ok (pcn_lt h1 hs hc)
  rcases Nat.lt_trichotomy (selN c N (pcn c s)) s with e | e | e
  · have := pcn_lt h.1 e h.2.2.1; omega
  · exact e
  · have := pcn_lt h1 e hc; omega
/-- the table at first: rows by sel, what they cost -/
def T0 (n R : Nat) (sel : Nat → Nat) (cost : Nat → Int) : Nat → Nat → Int := fun q c => if q < R then (if c < n then bitI (sel q) c else cost (sel q)) else if c < n ∧ (q = R ∨ q = R + 1 + c) then -1 else 0
def V0 (n R : Nat) (sel : Nat → Nat) (cost : Nat → Int) : Nat → Nat → Int := fun q => if q < R then slv n (cost (sel q)) (sel q) else gm n (q - R)
theorem T0_SX (n R : Nat) (sel : Nat → Nat) (cost : Nat → Int) : SX n 1 1 eV (R + 1 + n) (V0 n R sel cost) (T0 n R sel cost) := by
  refine SX_init (fun r hr => ⟨fun c hc => ?_, ?_⟩)
  · unfold T0 V0
    by_cases h : r < R
    · rw [if_pos h, if_pos h, if_pos hc]; unfold slv bitI; rw [if_pos hc]; split <;> omega
    · rw [if_neg h, if_neg h]
      cases hk : r - R with
      | zero =>
        have : r = R := by omega
        subst this; rw [if_pos ⟨hc, .inl rfl⟩]; unfold gm; simp only; rw [if_pos hc]
      | succ k =>
        unfold gm eV; simp only
        by_cases e : c = k
        · subst e; rw [if_pos ⟨hc, .inr (by omega)⟩, if_pos rfl]
        · rw [if_neg (by omega), if_neg e]; rfl
  · unfold T0 V0
    by_cases h : r < R
    · rw [if_pos h, if_pos h, if_neg (by omega)]; unfold slv; rw [if_neg (by omega), if_pos rfl]
    · rw [if_neg h, if_neg h, if_neg (by omega)]
      cases hk : r - R with
      | zero => unfold gm; simp only; rw [if_neg (by omega)]
      | succ k => unfold gm eV; simp only; rw [if_neg (by omega)]
/-- the reference's names: 7 and the row -/
def gvR (n : Nat) (sel : Nat → Nat) (cost : Nat → Int) : Nat → Nat → Int := fun x => if x < 7 then eV x else slv n (cost (sel (x - 7))) (sel (x - 7))
def NmR (n R : Nat) (x : Nat) : Prop := x < n ∨ (7 ≤ x ∧ x < 7 + R)
theorem SI_R {n R : Nat} (sel : Nat → Nat) (cost : Nat → Int) (hn : n ≤ 7) (hc : ∀ r, r < R → 0 ≤ cost (sel r)) : SI n (R + 1 + n) 0 R R (n + 1) (gvR n sel cost) (NmR n R) 1 1 eV (V0 n R sel cost) (T0 n R sel cost) (fun c => c) (fun r => 7 + r) := by
  refine ⟨T0_SX n R sel cost, by omega, fun c hc => ?_, fun r _ h => ⟨?_, ?_⟩, fun k hk => ⟨by omega, .inr (by omega), ?_⟩, fun x => ?_, fun c c' _ _ e => e, fun r r' _ _ _ _ e => by have e' : 7 + r = 7 + r' := e; omega, fun c r hc _ _ => by show c ≠ 7 + r; omega⟩
  · show eV c = gvR n sel cost c; unfold gvR; rw [if_pos (by omega)]
  · show V0 n R sel cost r = gvR n sel cost (7 + r); unfold V0 gvR; rw [if_pos h, if_neg (by omega), show 7 + r - 7 = r by omega]
  · unfold T0; rw [if_pos h, if_neg (by omega)]; exact hc r h
  · unfold V0; rw [if_neg (by omega), show R + k - R = k by omega]
  · unfold NmR
    constructor
    · rintro (h | h)
      · exact .inl ⟨x, h, rfl⟩
      · exact .inr ⟨x - 7, by omega, by omega, by show 7 + (x - 7) = x; omega⟩
    · rintro (⟨c, hc, rfl⟩ | ⟨r, _, h, rfl⟩)
      · exact .inl hc
      · exact .inr ⟨by show 7 ≤ 7 + r; omega, by show 7 + r < 7 + R; omega⟩
theorem eV_bd (f i : Nat) : -1 ≤ eV f i ∧ eV f i ≤ 1 := by unfold eV; split <;> omega
theorem slv_bd {n s : Nat} {cost : Int} (hc : 0 ≤ cost ∧ cost ≤ 4893) : (∀ i, i < n → -1 ≤ slv n cost s i ∧ slv n cost s i ≤ 1) ∧ -4893 ≤ slv n cost s n ∧ slv n cost s n ≤ 4893 := by
  refine ⟨fun i hi => ?_, ?_⟩
  · unfold slv; rw [if_pos hi]; split <;> omega
  · unfold slv; rw [if_neg (by omega), if_pos rfl]; omega
theorem bdT_of {n R : Nat} {gv : Nat → Nat → Int} {Nm : Nat → Prop} {σ d : Int} {N V T : Nat → Nat → Int} {C Rn : Nat → Nat} (hn : n ≤ 7) (I : SI n (R + 1 + n) 0 R R (n + 1) gv Nm σ d N V T C Rn) (hv : ∀ x, Nm x → (∀ i, i < n → -1 ≤ gv x i ∧ gv x i ≤ 1) ∧ -4893 ≤ gv x n ∧ gv x n ≤ 4893) : bdT n R d T := by
  have h := I.bd 4893 (by decide) hv (Nat.le_refl _)
  have hb := bnd_le n hn
  have hB : BND = 197285760 := rfl
  refine ⟨⟨I.1.2.1, by omega⟩, fun q c hq hc => ?_⟩
  have := h.2 q (by omega) c hc
  omega
section PR
variable {g : Nat → Int}
def sR (g : Nat → Int) : Nat → Nat := selN (hadF g) (2 ^ nF g)
def nR (g : Nat → Int) : Nat := pcn (hadF g) (2 ^ nF g)
theorem nR_lt (hw : WF g) : nR g < 128 := by
  have h1 := pow_le7 hw.n.2
  have h2 : ∀ k, 1 ≤ k → pcn (hadF g) k < k := by
    intro k
    induction k with
    | zero => intro h; omega
    | succ k ih =>
      intro _
      rw [pcn]
      by_cases e : k = 0
      · subst e; simp [pcn]
      · have := ih (by omega); split <;> omega
  have := h2 (2 ^ nF g) (pow_pos2 _)
  unfold nR; omega
theorem feasN_R (hw : WF g) (φ : Nat → Int) : feasN (nF g) (gvR (nF g) (sR g) (hadF g)) (NmR (nF g) (nR g)) φ ↔ feasP g φ := by
  have hn := hw.n
  constructor
  · rintro ⟨h1, h2⟩
    refine ⟨h1, fun f hf => ?_, fun s h0 hs hh => ?_⟩
    · have := h2 f (.inl hf)
      unfold gvR at this; rw [if_pos (by omega), ev_unit φ (by omega)] at this; exact this
    · have hp := pcn_lt (show 1 ≤ s by omega) hs hh
      have := h2 (7 + pcn (hadF g) s) (.inr ⟨by omega, by unfold nR; omega⟩)
      unfold gvR at this
      rw [if_neg (by omega), show 7 + pcn (hadF g) s - 7 = pcn (hadF g) s by omega, show sR g (pcn (hadF g) s) = s from sel_pcn (by omega) hs hh, ev_slv] at this
      omega
  · rintro ⟨h1, h2, h3⟩
    refine ⟨h1, fun x hx => ?_⟩
    unfold gvR
    rcases hx with hx | ⟨hx, hx2⟩
    · rw [if_pos (by omega), ev_unit φ (by omega)]; exact h2 x hx
    · rw [if_neg (by omega), ev_slv]
      have hs := sel_ok (c := hadF g) (N := 2 ^ nF g) (j := x - 7) (by unfold nR at hx2; omega)
      have := h3 (sR g (x - 7)) (by unfold sR; omega) hs.2.1 hs.2.2.1
      omega
theorem NmR_bd (hw : WF g) : ∀ x, NmR (nF g) (nR g) x → (∀ i, i < nF g → -1 ≤ gvR (nF g) (sR g) (hadF g) x i ∧ gvR (nF g) (sR g) (hadF g) x i ≤ 1) ∧ -4893 ≤ gvR (nF g) (sR g) (hadF g) x (nF g) ∧ gvR (nF g) (sR g) (hadF g) x (nF g) ≤ 4893 := by
  have hn := hw.n
  intro x hx
  unfold gvR
  rcases hx with hx | ⟨hx, hx2⟩
  · rw [if_pos (by omega)]
    have := eV_bd x (nF g)
    exact ⟨fun i _ => eV_bd x i, by omega, by omega⟩
  · rw [if_neg (by omega)]
    have hs := sel_ok (c := hadF g) (N := 2 ^ nF g) (j := x - 7) (by unfold nR at hx2; omega)
    have hb := hadF_bd hw (s := sR g (x - 7)) (by unfold sR; omega)
    have h0 : 0 ≤ hadF g (sR g (x - 7)) := hs.2.2.1
    exact slv_bd (by omega)
theorem bounded_R (hw : WF g) (hb : bndB g = true) : ∀ φ : Nat → Int, φ (nF g) = 0 → (∀ x, NmR (nF g) (nR g) x → 0 ≤ ev (nF g) φ (gvR (nF g) (sR g) (hadF g) x)) → ∀ f, f < nF g → φ f = 0 := by
  have hn := hw.n
  intro φ hz h f hf
  obtain ⟨s, h0, hs, hbit, hh⟩ := (bndB_iff hw).mp hb f hf
  have hp := pcn_lt (show 1 ≤ s by omega) hs hh
  have h1 := h (7 + pcn (hadF g) s) (.inr ⟨by omega, by unfold nR; omega⟩)
  unfold gvR at h1
  rw [if_neg (by omega), show 7 + pcn (hadF g) s - 7 = pcn (hadF g) s by omega, show sR g (pcn (hadF g) s) = s from sel_pcn (by omega) hs hh, ev_slv, hz] at h1
  have h2 : ∀ i, i < nF g → 0 ≤ φ i := fun i hi => by
    have := h i (.inl hi)
    unfold gvR at this; rw [if_pos (by omega), ev_unit φ (by omega)] at this; exact this
  have h3 : ∀ i, i < nF g → 0 ≤ bitI s i * φ i := fun i hi => by
    have := h2 i hi
    unfold bitI; split <;> omega
  have h4 := sumT_nn h3
  have h5 := sumT_nz h3 (by omega) f hf
  unfold bitI at h5; rw [if_pos hbit] at h5; omega
end PR
