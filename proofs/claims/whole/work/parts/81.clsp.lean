/-! the class: the table in memory, pivots -/
def cix (n c : Nat) : Nat := if c < n then c else 7
theorem cix_lt {n c : Nat} (h : c < n) : cix n c = c := if_pos h
theorem cix_n (n : Nat) : cix n n = 7 := if_neg (Nat.lt_irrefl n)
theorem cix_le {n c : Nat} (hn : n ≤ 7) : cix n c ≤ 7 := by unfold cix; split <;> omega
theorem cix_inj {n c c' : Nat} (hn : n ≤ 7) (h : c ≤ n) (h' : c' ≤ n) (e : cix n c = cix n c') : c = c' := by
  unfold cix at e; split at e <;> split at e <;> omega
def TbC (n K R : Nat) (M : Mem) (d : Int) (T : Nat → Nat → Int) (C Rn : Nat → Nat) : Prop :=
  (M 34 4 = d ∧ M 34 5 = (K : Int) ∧ M 34 6 = ((K + R : Nat) : Int)) ∧ (∀ r c, r < K + R → c ≤ n → M 35 (8 * r + cix n c) = T r c) ∧ (∀ c, c < n → M 37 c = (C c : Int)) ∧ ∀ r, K ≤ r → r < K + R → M 36 r = (Rn r : Int)
def imC (K : Nat) (T : Nat → Nat → Int) (p : Nat) : Prop := lxn (fun k => T (0 + k) p) K
/-- the row that goes -/
def gOC (n K : Nat) (T : Nat → Nat → Int) (Rn : Nat → Nat) (f k r0 : Nat) : Prop := (K ≤ r0 ∧ r0 < k) ∧ 0 < T r0 f ∧ ∀ r, K ≤ r → r < k → 0 < T r f → T r0 n * T r f ≤ T r n * T r0 f ∧ (T r0 n * T r f = T r n * T r0 f → Rn r0 ≤ Rn r)
/-- row r goes before row o -/
def tgC (n : Nat) (T : Nat → Nat → Int) (Rn : Nat → Nat) (f r o : Nat) : Bool := decide (T r n * T o f < T o n * T r f ∨ (T r n * T o f = T o n * T r f ∧ Rn r < Rn o))
section CLSP
variable {G : GE} {d : Nat} {M : Mem} {n k R : Nat} {dv : Int} {T : Nat → Nat → Int} {C Rn : Nat → Nat}
theorem TbC.cell (hT : TbC n k R M dv T C Rn) {q c : Nat} (hq : q < k + R) (hc : c < n) : M 35 (((q : Int) * 8) + (c : Int)).toNat = T q c := by
  have h := hT.2.1 q c hq (by omega)
  rw [cix_lt hc] at h
  rw [show (((q : Int) * 8) + (c : Int)).toNat = 8 * q + c by omega]; exact h
theorem TbC.last (hT : TbC n k R M dv T C Rn) {q : Nat} (hq : q < k + R) : M 35 (((q : Int) * 8) + 7).toNat = T q n := by
  have h := hT.2.1 q n hq (Nat.le_refl _)
  rw [cix_n] at h
  rw [show (((q : Int) * 8) + 7).toNat = 8 * q + 7 by omega]; exact h
theorem c8_improves {K : Int → Mem → Prop} {v : Int} {p : Nat} (hn : n ≤ 7) (hk : k ≤ 8) (hT : TbC n k R M dv T C Rn) (e : v = (p : Int)) (hp : p < n) (h1 : imC k T p → K 1 M) (h0 : ¬ imC k T p → K 0 M) : CalI G miX8_improves d [.inr (.inr (some 34)), .inl v] M K := by
  subst e
  have a5 := hT.1.2.1
  refine Cal.of (by decide) (Nat.le_of_ble_eq_true rfl) rfl (gX8_improves_0 ?_)
  have key := dn (P := fun j => (∀ i, i < j → T i p = 0) → OkI G miX8_improves d K 2 [some (.inr (.inr (some 34))), some (.inl (p : Int)), some (.inl (j : Int)), none, none] [] M) k ?_ (fun j hj ih => ?_) 0 (Nat.zero_le _)
  · exact key (fun i hi => absurd hi (Nat.not_lt_zero _))
  · intro hz
    refine gX8_improves_2 ⟨fun _ => h0 ?_, fun c => absurd c (by rw [a5]; omega)⟩
    rintro ⟨j, hj, hneg, -⟩
    have hneg' : T (0 + j) p < 0 := hneg
    rw [Nat.zero_add, hz j hj] at hneg'; omega
  · intro hz
    refine gX8_improves_2 ⟨fun c => absurd c (by rw [a5]; omega), fun _ => ⟨by omega, ?_⟩⟩
    rw [hT.cell (by omega) hp, w32n (by omega)]
    refine ⟨fun c => ih (fun i hi => ?_), fun c => ⟨fun c2 => h0 ?_, fun c2 => h1 ⟨j, hj, by show T (0 + j) p < 0; rw [Nat.zero_add]; exact c2, fun i hi => by show T (0 + i) p = 0; rw [Nat.zero_add]; exact hz i hi⟩⟩⟩
    · by_cases e : i = j
      · subst e; exact c
      · exact hz i (by omega)
    · rintro ⟨i, hi, hneg, hz2⟩
      have hneg' : T (0 + i) p < 0 := hneg
      rw [Nat.zero_add] at hneg'
      rcases Nat.lt_trichotomy i j with e | e | e
      · have := hz i e; omega
      · subst e; omega
      · have : T (0 + j) p = 0 := hz2 j e
        rw [Nat.zero_add] at this; omega
theorem c8_entering {K : Int → Mem → Prop} {g : Nat → Int} (hP : Pl g M) (hw : WF g) (hk : k ≤ 8) (hT : TbC (nF g) k R M dv T C Rn) (h1 : ∀ p, p < nF g → imC k T p → (∀ c, c < nF g → imC k T c → C p ≤ C c) → K (p : Int) M) (h0 : (∀ c, c < nF g → ¬ imC k T c) → K (-1) M) : CalI G miX8_entering (d + 1) [.inr (.inr (some 34))] M K := by
  have hn := hw.n
  have e8 := hP.n hw
  have a37 := hT.2.2.1
  refine Cal.of (by decide) (Nat.le_of_ble_eq_true rfl) rfl (gX8_entering_0 ?_)
  have key := dn (P := fun j => ∀ v : Int, ((v = -1 ∧ ∀ c, c < j → ¬ imC k T c) ∨ ∃ p : Nat, v = (p : Int) ∧ p < j ∧ imC k T p ∧ ∀ c, c < j → imC k T c → C p ≤ C c) → OkI G miX8_entering (d + 1) K 4 [some (.inr (.inr (some 34))), some (.inl v), some (.inl (j : Int)), none] [] M) (nF g) ?_ (fun j hj ih => ?_) 0 (Nat.zero_le _)
  · exact key (-1) (.inl ⟨rfl, fun c hc => absurd hc (Nat.not_lt_zero _)⟩)
  · intro v hv
    refine gX8_entering_4 ⟨fun _ => ?_, fun c => absurd c (by rw [e8]; omega)⟩
    rcases hv with ⟨e, h⟩ | ⟨p, e, h2, h3, h4⟩
    · subst e; exact h0 h
    · subst e; exact h1 p h2 h3 h4
  · intro v hv
    refine gX8_entering_4 ⟨fun c => absurd c (by rw [e8]; omega), fun _ => ?_⟩
    rw [w32n (by omega)]
    rcases hv with ⟨e, h⟩ | ⟨p, e, h2, h3, h4⟩
    · subst e
      refine ⟨fun _ => gX8_entering_35 ⟨fun c => absurd c (by decide), fun _ => ?_⟩, fun c => absurd rfl c⟩
      rw [w32n (by omega)]
      refine c8_improves hn.2 hk hT rfl hj (fun hi => b1 (ih _ (.inr ⟨j, rfl, by omega, hi, fun c hc hci => ?_⟩))) (fun hi => b0 (ih _ (.inl ⟨rfl, fun c hc => ?_⟩)))
      · by_cases e : c = j
        · subst e; exact Nat.le_refl _
        · exact absurd hci (h c (by omega))
      · by_cases e : c = j
        · subst e; exact hi
        · exact h c (by omega)
    · subst e
      refine ⟨fun c => absurd c (by omega), fun _ => ⟨by omega, by omega, ?_⟩⟩
      rw [Int.toNat_natCast, Int.toNat_natCast, a37 j hj, a37 p (by omega)]
      have stay : (imC k T j → C p ≤ C j) → OkI G miX8_entering (d + 1) K 4 [some (.inr (.inr (some 34))), some (.inl (p : Int)), some (.inl ((j + 1 : Nat) : Int)), none] [] M := fun hs => ih _ (.inr ⟨p, rfl, by omega, h3, fun c hc hci => by
        by_cases e : c = j
        · subst e; exact hs hci
        · exact h4 c (by omega) hci⟩)
      refine ⟨fun c => stay (fun _ => by omega), fun c => ?_⟩
      refine c8_improves hn.2 hk hT rfl hj (fun hi => b1 (ih _ (.inr ⟨j, rfl, by omega, hi, fun c' hc hci => ?_⟩))) (fun hi => b0 (stay (fun z => absurd z hi)))
      by_cases e : c' = j
      · subst e; exact Nat.le_refl _
      · have := h4 c' (by omega) hci; omega
theorem c8_isTighter {K : Int → Mem → Prop} {v w x : Int} {r o f : Nat} (hn : n ≤ 7) (hk : k ≤ 8) (hR : R < 128) (hT : TbC n k R M dv T C Rn) (hb : bdC n (k + R) dv T) (e : v = (r : Int)) (e' : w = (o : Int)) (e2 : x = (f : Int)) (hf : f < n) (hr : k ≤ r ∧ r < k + R) (ho : k ≤ o ∧ o < k + R) (h : K (bI (tgC n T Rn f r o)) M) : CalI G miX8_isTighter d [.inr (.inr (some 34)), .inl v, .inl w, .inl x] M K := by
  subst e; subst e'; subst e2
  have p1 := pr_bd (hb.2 r n hr.2 (Nat.le_refl _)) (hb.2 o f ho.2 (by omega))
  have p2 := pr_bd (hb.2 o n ho.2 (Nat.le_refl _)) (hb.2 r f hr.2 (by omega))
  have a36 := hT.2.2.2
  refine Cal.of (by decide) (Nat.le_of_ble_eq_true rfl) rfl (gX8_isTighter_0 ⟨by omega, by omega, by omega, by omega, ?_⟩)
  rw [hT.last hr.2, hT.last ho.2, hT.cell hr.2 hf, hT.cell ho.2 hf, w64_eq (by omega) (by omega), w64_eq (by omega) (by omega)]
  unfold tgC at h
  refine ⟨fun c => ?_, fun c => ⟨fun c2 => ?_, fun c2 => ⟨by omega, by omega, ?_⟩⟩⟩
  · rw [decide_eq_true (.inl c)] at h; exact h
  · rw [decide_eq_false (by omega)] at h; exact h
  · rw [Int.toNat_natCast, Int.toNat_natCast, a36 r hr.1 hr.2, a36 o ho.1 ho.2]
    refine ⟨fun c3 => ?_, fun c3 => ?_⟩
    · rw [decide_eq_false (by omega)] at h; exact h
    · rw [decide_eq_true (.inr ⟨c2, by omega⟩)] at h; exact h
theorem c8_leaving {K : Int → Mem → Prop} {v : Int} {f : Nat} (hn : n ≤ 7) (hk : k ≤ 8) (hR : R < 128) (hT : TbC n k R M dv T C Rn) (hb : bdC n (k + R) dv T) (e : v = (f : Int)) (hf : f < n) (h : ∀ r0, gOC n k T Rn f (k + R) r0 → K (r0 : Int) M) (h0 : (∀ r, k ≤ r → r < k + R → ¬ 0 < T r f) → K (-1) M) : CalI G miX8_leaving (d + 1) [.inr (.inr (some 34)), .inl v] M K := by
  subst e
  have a5 := hT.1.2.1
  have a6 := hT.1.2.2
  refine Cal.of (by decide) (Nat.le_of_ble_eq_true rfl) rfl (gX8_leaving_0 ?_)
  rw [a5]
  have key := dn (P := fun j => k ≤ j → ∀ v : Int, ((v = -1 ∧ ∀ r, k ≤ r → r < j → ¬ 0 < T r f) ∨ ∃ r0 : Nat, v = (r0 : Int) ∧ gOC n k T Rn f j r0) → OkI G miX8_leaving (d + 1) K 7 [some (.inr (.inr (some 34))), some (.inl (f : Int)), some (.inl v), some (.inl (j : Int))] [] M) (k + R) ?_ (fun j hj ih => ?_) k (Nat.le_add_right _ _) (Nat.le_refl _)
  · exact key (-1) (.inl ⟨rfl, fun r h1 h2 => by omega⟩)
  · intro _ v hv
    refine gX8_leaving_7 ⟨fun _ => ?_, fun c => absurd c (by rw [a6]; omega)⟩
    rcases hv with ⟨e, h2⟩ | ⟨r0, e, h2⟩
    · subst e; exact h0 h2
    · subst e; exact h r0 h2
  · intro hkj v hv
    refine gX8_leaving_7 ⟨fun c => absurd c (by rw [a6]; omega), fun _ => ⟨by omega, ?_⟩⟩
    rw [hT.cell hj hf, w32n (by omega)]
    refine ⟨fun c => ih (by omega) v ?_, fun c => ⟨fun c2 => ih (by omega) _ ?_, fun c2 => ?_⟩⟩
    · rcases hv with ⟨e, h2⟩ | ⟨r0, e, h2, h3, h4⟩
      · refine .inl ⟨e, fun r hr1 hr => ?_⟩
        by_cases e2 : r = j
        · subst e2; omega
        · exact h2 r hr1 (by omega)
      · refine .inr ⟨r0, e, ⟨h2.1, by omega⟩, h3, fun r hr1 hr hr2 => ?_⟩
        by_cases e2 : r = j
        · subst e2; omega
        · exact h4 r hr1 (by omega) hr2
    · rcases hv with ⟨e, h2⟩ | ⟨r0, e, h2, h3, h4⟩
      · refine .inr ⟨j, rfl, ⟨hkj, by omega⟩, c, fun r hr1 hr hr2 => ?_⟩
        by_cases e2 : r = j
        · subst e2; exact ⟨Int.le_refl _, fun _ => Nat.le_refl _⟩
        · exact absurd hr2 (h2 r hr1 (by omega))
      · omega
    · rcases hv with ⟨e, h2⟩ | ⟨r0, e, h2, h3, h4⟩
      · omega
      · subst e
        have hr0 : k ≤ r0 ∧ r0 < k + R := by omega
        refine c8_isTighter hn hk hR hT hb rfl rfl rfl hf ⟨hkj, hj⟩ hr0 ?_
        have keep : T r0 n * T j f ≤ T j n * T r0 f → (T r0 n * T j f = T j n * T r0 f → Rn r0 ≤ Rn j) → OkI G miX8_leaving (d + 1) K 7 [some (.inr (.inr (some 34))), some (.inl (f : Int)), some (.inl (r0 : Int)), some (.inl ((j + 1 : Nat) : Int))] [] M := fun q1 q2 => ih (by omega) _ (.inr ⟨r0, rfl, ⟨hr0.1, by omega⟩, h3, fun r hr1 hr hr2 => by
          by_cases e2 : r = j
          · subst e2; exact ⟨q1, q2⟩
          · exact h4 r hr1 (by omega) hr2⟩)
        have take : T j n * T r0 f ≤ T r0 n * T j f → (T j n * T r0 f = T r0 n * T j f → Rn j ≤ Rn r0) → OkI G miX8_leaving (d + 1) K 7 [some (.inr (.inr (some 34))), some (.inl (f : Int)), some (.inl (j : Int)), some (.inl ((j + 1 : Nat) : Int))] [] M := fun q1 q2 => ih (by omega) _ (.inr ⟨j, rfl, ⟨hkj, by omega⟩, c, fun r hr1 hr hr2 => by
          by_cases e2 : r = j
          · subst e2; exact ⟨Int.le_refl _, fun _ => Nat.le_refl _⟩
          · have h5 := h4 r hr1 (by omega) hr2
            refine ⟨rt1 c h3 hr2 q1 h5.1, fun q3 => ?_⟩
            have q4 : T j n * T r0 f = T r0 n * T j f := by
              refine Int.le_antisymm q1 (Int.not_lt.mp (fun hlt => ?_))
              have := rt2 c h3 hr2 hlt h5.1
              omega
            have q5 := rt3 c q4 q3
            exact Nat.le_trans (q2 q4) (h5.2 q5)⟩)
        by_cases ct : T j n * T r0 f < T r0 n * T j f ∨ (T j n * T r0 f = T r0 n * T j f ∧ Rn j < Rn r0)
        · have e : tgC n T Rn f j r0 = true := decide_eq_true ct
          rw [e]; exact b1 (take (by omega) (fun q => by omega))
        · have e : tgC n T Rn f j r0 = false := decide_eq_false ct
          rw [e]; exact b0 (keep (by omega) (fun q => by omega))
def SQ8 (r : Nat) : Nat → Nat → Bool := fun c i => c == 35 && (decide (8 * r ≤ i) && decide (i < 8 * r + 8))
theorem SQ8_no {r c i : Nat} (h : c ≠ 35 ∨ i < 8 * r ∨ 8 * r + 8 ≤ i) : SQ8 r c i = false := by unfold SQ8; simp; omega
theorem SQ8_yes {r i : Nat} (h : 8 * r ≤ i ∧ i < 8 * r + 8) : SQ8 r 35 i = true := by unfold SQ8; simp; omega
theorem c8_sweep {K : Mem → Prop} {g : Nat → Int} {v w x : Int} {r r0 p : Nat} (hP : Pl g M) (hw : WF g) (hk : k ≤ 8) (hR : R < 128) (h4 : M 34 4 = dv) (hd : 0 < dv) (e : v = (r : Int)) (e' : w = (r0 : Int)) (e2 : x = (p : Int)) (hr : r < k + R) (hr0 : r0 < k + R) (hne : r ≠ r0) (hp : p < nF g) (hrow : ∀ c, c ≤ nF g → M 35 (8 * r + cix (nF g) c) = T r c) (hrow0 : ∀ c, c ≤ nF g → M 35 (8 * r0 + cix (nF g) c) = T r0 c) (hb : bdC (nF g) (k + R) dv T) (hpv : ∀ q c, q < k + R → c ≤ nF g → -BND ≤ piv T dv r0 p q c ∧ piv T dv r0 p q c ≤ BND) (hex : ∀ q c, q < k + R → q ≠ r0 → c ≤ nF g → c ≠ p → dv * piv T dv r0 p q c = T q c * T r0 p - T q p * T r0 c) (h : ∀ M', Fr (SQ8 r) M M' → (∀ c, c ≤ nF g → M' 35 (8 * r + cix (nF g) c) = piv T dv r0 p r c) → K M') : CalV G miX8_sweep d [.inr (.inr (some 34)), .inl v, .inl w, .inl x] M K := by
  have hn := hw.n
  subst e; subst e'; subst e2
  have hBN : BND = 197285760 := rfl
  have ix : ∀ q c : Nat, (((q : Int) * 8) + (c : Int)).toNat = 8 * q + c := fun q c => by omega
  have pvp : piv T dv r0 p r p = -T r p := by unfold piv; rw [if_neg hne, if_pos rfl]
  have v1 := hrow p (by omega)
  have v2 := hrow0 p (by omega)
  rw [cix_lt hp] at v1 v2
  refine Cal.of (by decide) (Nat.le_of_ble_eq_true rfl) rfl (gX8_sweep_0 ⟨fun _ => ⟨by omega, by omega, ?_⟩, fun c => absurd c (by omega)⟩)
  rw [ix, ix, v1, v2]
  have key := dn (P := fun j => ∀ M' : Mem, Fr (SQ8 r) M M' → (∀ c, c ≤ nF g → M' 35 (8 * r + cix (nF g) c) = if cix (nF g) c < j ∧ c ≠ p then piv T dv r0 p r c else T r c) → OkV G miX8_sweep d K 39 [some (.inr (.inr (some 34))), some (.inl (r : Int)), some (.inl (r0 : Int)), some (.inl (p : Int)), some (.inr (.inl (T r0 p))), none, some (.inr (.inl (T r p))), none, some (.inl (j : Int)), none, none] [] M') 8 ?_ (fun j hj ih => ?_) 0 (Nat.zero_le _) M Fr.rf (fun c hc => by rw [if_neg (by omega)]; exact hrow c hc)
  · exact key
  · intro M' hf hc'
    refine gX8_sweep_39 ⟨fun _ => ⟨by omega, ?_⟩, fun c => absurd c (by omega)⟩
    have bk := hb.2 r p hr (by omega)
    rw [ix, w64_eq (by omega) (by omega)]
    refine h _ (hf.up (SQ8_yes (by omega))) (fun c hc => ?_)
    by_cases e : c = p
    · subst e; rw [cix_lt hp, mup_at, pvp]
    · have h1 := cix_le (n := nF g) (c := c) hn.2
      rw [mup_at_ne (fun z => e (cix_inj hn.2 hc (show p ≤ nF g by omega) (by rw [cix_lt hp]; omega))), hc' c hc, if_pos ⟨by omega, e⟩]
  · intro M' hf hc'
    have e8 : M' 1 8 = (nF g : Int) := by rw [hf 1 8 (SQ8_no (by omega))]; exact hP.n hw
    have d4 : M' 34 4 = dv := by rw [hf 34 4 (SQ8_no (by omega))]; exact h4
    have skip : (∀ c, c ≤ nF g → c ≠ p → cix (nF g) c ≠ j) → OkV G miX8_sweep d K 39 [some (.inr (.inr (some 34))), some (.inl (r : Int)), some (.inl (r0 : Int)), some (.inl (p : Int)), some (.inr (.inl (T r0 p))), none, some (.inr (.inl (T r p))), none, some (.inl ((j + 1 : Nat) : Int)), none, none] [] M' := fun hs => ih M' hf (fun c hc => by
      rw [hc' c hc]
      by_cases e : cix (nF g) c < j ∧ c ≠ p
      · rw [if_pos e, if_pos ⟨by omega, e.2⟩]
      · rw [if_neg e, if_neg (fun z => by have := hs c hc z.2; omega)])
    have work : ∀ c0, c0 ≤ nF g → c0 ≠ p → cix (nF g) c0 = j → OkV G miX8_sweep d K 71 [some (.inr (.inr (some 34))), some (.inl (r : Int)), some (.inl (r0 : Int)), some (.inl (p : Int)), some (.inr (.inl (T r0 p))), none, some (.inr (.inl (T r p))), none, some (.inl (j : Int)), none, none] [] M' := fun c0 hc0 hcp hj0 => by
      have u1 := hc' c0 hc0
      rw [hj0, if_neg (by omega)] at u1
      have u2 : M' 35 (8 * r0 + j) = T r0 c0 := by
        rw [← hj0, hf 35 _ (SQ8_no (by rw [hj0]; omega))]; exact hrow0 c0 hc0
      have q1 := pr_bd (hb.2 r c0 hr hc0) (hb.2 r0 p hr0 (by omega))
      have q2 := pr_bd (hb.2 r p hr (by omega)) (hb.2 r0 c0 hr0 hc0)
      have hx := hex r c0 hr hne hc0 hcp
      have hpb := hpv r c0 hr hc0
      refine gX8_sweep_71 ⟨by omega, by omega, by rw [d4]; omega, by omega, ?_⟩
      rw [ix, ix, u1, u2, d4, w32n (by omega), w64_eq (by omega) (by omega)]
      have e : ldiv (T r c0 * T r0 p - T r p * T r0 c0) dv = piv T dv r0 p r c0 := by
        unfold ldiv
        rw [← hx, Int.mul_tdiv_cancel_left _ (by omega), w64_eq (by omega) (by omega)]
      rw [e]
      refine ih _ (hf.up (SQ8_yes (by omega))) (fun c hc => ?_)
      by_cases e2 : c = c0
      · subst e2; rw [hj0, mup_at, if_pos ⟨by omega, hcp⟩]
      · have e3 : cix (nF g) c ≠ j := fun z => e2 (cix_inj hn.2 hc hc0 (by omega))
        rw [mup_at_ne (by omega), hc' c hc]
        by_cases e : cix (nF g) c < j ∧ c ≠ p
        · rw [if_pos e, if_pos ⟨by omega, e.2⟩]
        · rw [if_neg e, if_neg (by omega)]
    refine gX8_sweep_39 ⟨fun c => absurd c (by omega), fun _ => ⟨fun c => ?_, fun c => ⟨fun c2 => ?_, fun c2 => ⟨fun c3 => ?_, fun c3 => ?_⟩⟩⟩⟩
    · rw [w32n (by omega)]
      refine skip (fun c1 h1 h2 z => h2 (cix_inj hn.2 h1 (show p ≤ nF g by omega) (by rw [cix_lt hp]; omega)))
    · exact work j (by omega) (by omega) (cix_lt (by omega))
    · rw [w32n (by omega)]
      refine skip (fun c1 h1 h2 z => ?_)
      unfold cix at z; split at z <;> omega
    · exact work (nF g) (Nat.le_refl _) (by omega) (by rw [cix_n]; omega)
def ST8 : Nat → Nat → Bool := fun c i => c == 35 || (c == 36 || (c == 37 || (c == 34 && (i == 4 || (i == 5 || i == 6)))))
theorem ST8_rg {M M' : Mem} (h : Fr ST8 M M') : Fr (rg 34 37) M M' := h.mo fun c i hc => by
  have := rg_of hc
  unfold ST8; simp; omega
theorem SQ8_ST8 {r : Nat} : ∀ c i, ST8 c i = false → SQ8 r c i = false := fun c i h => by unfold ST8 at h; unfold SQ8; simp at h ⊢; omega
theorem c8_pivot {K : Mem → Prop} {g : Nat → Int} {v w : Int} {r0 p : Nat} (hP : Pl g M) (hw : WF g) (hk : k ≤ 8) (hR : R < 128) (hT : TbC (nF g) k R M dv T C Rn) (hb : bdC (nF g) (k + R) dv T) (e : v = (r0 : Int)) (e' : w = (p : Int)) (hr0 : k ≤ r0 ∧ r0 < k + R) (hp : p < nF g) (hpv : ∀ q c, q < k + R → c ≤ nF g → -BND ≤ piv T dv r0 p q c ∧ piv T dv r0 p q c ≤ BND) (hex : ∀ q c, q < k + R → q ≠ r0 → c ≤ nF g → c ≠ p → dv * piv T dv r0 p q c = T q c * T r0 p - T q p * T r0 c) (h : ∀ M', Fr ST8 M M' → TbC (nF g) k R M' (T r0 p) (piv T dv r0 p) (nup C p (Rn r0)) (nup Rn r0 (C p)) → K M') : CalV G miX8_pivot (d + 1) [.inr (.inr (some 34)), .inl v, .inl w] M K := by
  have hn := hw.n
  subst e; subst e'
  obtain ⟨⟨a4, a5, a6⟩, a35, a37, a36⟩ := hT
  have pvr : ∀ c, c ≠ p → piv T dv r0 p r0 c = T r0 c := fun c hc => by unfold piv; rw [if_pos rfl, if_neg hc]
  have pvrp : piv T dv r0 p r0 p = dv := by unfold piv; rw [if_pos rfl, if_pos rfl]
  have ix : (((r0 : Int) * 8) + (p : Int)).toNat = 8 * r0 + p := by omega
  refine Cal.of (by decide) (Nat.le_of_ble_eq_true rfl) rfl (gX8_pivot_0 ?_)
  have S35 : ∀ c i, (fun c _ => c == 35 : Nat → Nat → Bool) c i = false → ∀ r, SQ8 r c i = false := fun c i hc r => SQ8_no (.inl (by simpa using hc))
  have key := dn (P := fun j => ∀ M' : Mem, Fr (fun c _ => c == 35) M M' → (∀ q c, q < k + R → c ≤ nF g → M' 35 (8 * q + cix (nF g) c) = if q < j ∧ q ≠ r0 then piv T dv r0 p q c else T q c) → OkV G miX8_pivot (d + 1) K 2 [some (.inr (.inr (some 34))), some (.inl (r0 : Int)), some (.inl (p : Int)), some (.inl (j : Int)), none, none] [] M') (k + R) ?_ (fun j hj ih => ?_) 0 (Nat.zero_le _) M Fr.rf (fun q c hq hc => by rw [if_neg (by omega)]; exact a35 q c hq hc)
  · exact key
  · intro M' hf h35
    have b : ∀ c i, c ≠ 35 → M' c i = M c i := fun c i hc => hf c i (by simpa using hc)
    refine gX8_pivot_2 ⟨fun _ => ⟨by omega, by omega, by omega, by omega, by omega, by omega, ?_⟩, fun c => absurd c (by rw [b 34 6 (by decide), a6]; omega)⟩
    rw [ix, Int.toNat_natCast, Int.toNat_natCast]
    have v1 := h35 r0 p hr0.2 (by omega)
    rw [cix_lt hp, if_neg (by omega)] at v1
    have hf' : Fr ST8 M M' := hf.mo (fun c i hc => by unfold ST8 at hc; simp at hc ⊢; exact hc.1)
    rw [v1, b 34 4 (by decide), a4]
    refine h _ ((((hf'.up rfl).up rfl).up rfl).up rfl) ⟨⟨?_, ?_, ?_⟩, fun q c hq hc => ?_, fun c hc => ?_, fun r hr1 hr => ?_⟩
    · rw [mup_ne (by decide), mup_ne (by decide), mup_at]
    · rw [mup_ne (by decide), mup_ne (by decide), mup_at_ne (by decide), mup_ne (by decide), b 34 5 (by decide), a5]
    · rw [mup_ne (by decide), mup_ne (by decide), mup_at_ne (by decide), mup_ne (by decide), b 34 6 (by decide), a6]
    · rw [mup_ne (by decide), mup_ne (by decide), mup_ne (by decide)]
      by_cases e : q = r0 ∧ c = p
      · rw [e.1, e.2, cix_lt hp, mup_at, pvrp]
      · have h1 := cix_le (n := nF g) (c := c) hn.2
        have e3 : 8 * q + cix (nF g) c ≠ 8 * r0 + p := fun z => e ⟨by omega, cix_inj hn.2 hc (show p ≤ nF g by omega) (by rw [cix_lt hp]; omega)⟩
        rw [mup_at_ne e3, h35 q c hq hc]
        by_cases e4 : q = r0
        · subst e4; rw [if_neg (by omega), pvr c (fun z => e ⟨rfl, z⟩)]
        · rw [if_pos ⟨hq, e4⟩]
    · by_cases e : c = p
      · subst e; rw [mup_at, mup_ne (by decide), mup_ne (by decide), b 36 r0 (by decide), a36 r0 hr0.1 hr0.2, nup_at]
      · rw [mup_at_ne e, mup_ne (by decide), mup_ne (by decide), mup_ne (by decide), b 37 c (by decide), a37 c hc, nup_ne _ e]
    · rw [mup_ne (by decide)]
      by_cases e : r = r0
      · subst e; rw [mup_at, mup_ne (by decide), mup_ne (by decide), b 37 p (by decide), a37 p hp, nup_at]
      · rw [mup_at_ne e, mup_ne (by decide), mup_ne (by decide), b 36 r (by decide), a36 r hr1 hr, nup_ne _ e]
  · intro M' hf h35
    have b : ∀ c i, c ≠ 35 → M' c i = M c i := fun c i hc => hf c i (by simpa using hc)
    have hP' : Pl g M' := hP.fr hf (fun c i h1 h2 => by simp; omega)
    refine gX8_pivot_2 ⟨fun c => absurd c (by rw [b 34 6 (by decide), a6]; omega), fun _ => ⟨fun c => ?_, fun c => ?_⟩⟩
    · rw [w32n (by omega)]
      refine ih M' hf (fun q c1 hq hc => ?_)
      rw [h35 q c1 hq hc]
      by_cases e : q < j ∧ q ≠ r0
      · rw [if_pos e, if_pos (by omega)]
      · rw [if_neg e, if_neg (by omega)]
    · have hjr : j ≠ r0 := by omega
      refine c8_sweep (r := j) (r0 := r0) (p := p) hP' hw hk hR (by rw [b 34 4 (by decide), a4]) hb.1.1 rfl rfl rfl hj hr0.2 hjr hp (fun c1 hc => by rw [h35 j c1 hj hc, if_neg (by omega)]) (fun c1 hc => by rw [h35 r0 c1 hr0.2 hc, if_neg (by omega)]) hb hpv hex (fun M2 f2 hrow => ?_)
      rw [w32n (by omega)]
      refine ih M2 (hf.tr (f2.mo (fun c i hc => SQ8_no (.inl (by simpa using hc))))) (fun q c1 hq hc => ?_)
      by_cases e : q = j
      · subst e; rw [hrow c1 hc, if_pos ⟨by omega, hjr⟩]
      · have h1 := cix_le (n := nF g) (c := c1) hn.2
        rw [f2 35 _ (SQ8_no (by omega)), h35 q c1 hq hc]
        by_cases e3 : q < j ∧ q ≠ r0
        · rw [if_pos e3, if_pos (by omega)]
        · rw [if_neg e3, if_neg (by omega)]
end CLSP
