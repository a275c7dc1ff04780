/-! the reference: the table, pivots -/
def BND : Int := 197285760
/-- a table in memory -/
def TbM (n R : Nat) (M : Mem) (d : Int) (T : Nat → Nat → Int) (C Rn : Nat → Nat) : Prop :=
  M 66 18 = (R : Int) ∧ M 66 19 = ((R + 1 + n : Nat) : Int) ∧ M 66 20 = d ∧ (∀ q c, q < R + 1 + n → c ≤ n → M 77 (8 * q + c) = T q c) ∧ (∀ c, c < n → M 78 c = (C c : Int)) ∧ ∀ r, r < R → M 79 r = (Rn r : Int)
def bdT (n R : Nat) (d : Int) (T : Nat → Nat → Int) : Prop := (0 < d ∧ d ≤ BND) ∧ ∀ q c, q < R + 1 + n → c ≤ n → -BND ≤ T q c ∧ T q c ≤ BND
def SB : Nat → Nat → Bool := fun c i => c == 77 || (c == 78 || (c == 79 || (c == 66 && (i == 18 || (i == 19 || i == 20)))))
def impr (n R : Nat) (T : Nat → Nat → Int) (f : Nat) : Prop := lxn (fun k => T (R + k) f) (n + 1)
section REFK
variable {G : GE} {d : Nat} {M : Mem}
theorem c11_mayCome {K : Int → Mem → Prop} {n R : Nat} {dv : Int} {T : Nat → Nat → Int} {C Rn : Nat → Nat} {v : Int} {f : Nat} (hn : n ≤ 7) (hR : R < 128) (hT : TbM n R M dv T C Rn) (e : v = (f : Int)) (hf : f < n) (h1 : impr n R T f → K 1 M) (h0 : ¬ impr n R T f → K 0 M) : CalI G miX11_mayCome d [.inr (.inr (some 66)), .inl v] M K := by
  subst e
  obtain ⟨a18, a19, a20, a77, a78, a79⟩ := hT
  refine Cal.of (by decide) (Nat.le_of_ble_eq_true rfl) rfl (gX11_mayCome_0 ?_)
  rw [a18]
  have cell : ∀ q : Nat, q < R + 1 + n → M 77 ((8 * (q : Int)) + (f : Int)).toNat = T q f := fun q hq => by
    rw [show ((8 * (q : Int)) + (f : Int)).toNat = 8 * q + f by omega]; exact a77 q f hq (by omega)
  have key := dn (P := fun k => R ≤ k → (∀ j, j < k - R → T (R + j) f = 0) → OkI G miX11_mayCome d K 5 [some (.inr (.inr (some 66))), some (.inl (f : Int)), some (.inl (k : Int))] [] M) (R + 1 + n) ?_ (fun k hk ih => ?_) R (by omega)
  · exact key (Nat.le_refl _) (fun j hj => by omega)
  · intro hk hz
    refine gX11_mayCome_5 ⟨fun _ => gX11_mayCome_35 ⟨fun _ => h0 ?_, fun c => absurd c (by rw [a19]; omega)⟩, fun c => absurd c (by rw [a19]; omega)⟩
    rintro ⟨k, hk, hneg, -⟩
    have := hz k (by omega)
    have hneg' : T (R + k) f < 0 := hneg
    omega
  · intro hRk hz
    refine gX11_mayCome_5 ⟨fun c => absurd c (by rw [a19]; omega), fun _ => ⟨by omega, ?_⟩⟩
    rw [cell k hk]
    refine ⟨fun c => gX11_mayCome_35 ⟨fun c => absurd c (by rw [a19]; omega), fun _ => ⟨by omega, ?_⟩⟩, fun c => ?_⟩
    · rw [cell k hk]
      refine ⟨fun c2 => h0 ?_, fun c2 => h1 ⟨k - R, by omega, by show T (R + (k - R)) f < 0; rw [show R + (k - R) = k by omega]; exact c2, fun j hj => hz j hj⟩⟩
      rintro ⟨j, hj, hneg, hz2⟩
      have hneg' : T (R + j) f < 0 := hneg
      rcases Nat.lt_trichotomy j (k - R) with e | e | e
      · have := hz j e; omega
      · subst e; rw [show R + (k - R) = k by omega] at hneg'; omega
      · have : T (R + (k - R)) f = 0 := hz2 (k - R) e
        rw [show R + (k - R) = k by omega] at this; omega
    · rw [w32n (by omega)]
      refine ih (by omega) (fun j hj => ?_)
      by_cases e : j = k - R
      · subst e; rw [show R + (k - R) = k by omega]; exact c
      · exact hz j (by omega)
theorem c11_comes {K : Int → Mem → Prop} {g : Nat → Int} {R : Nat} {dv : Int} {T : Nat → Nat → Int} {C Rn : Nat → Nat} (hg : M 67 = g) (hw : WF g) (hR : R < 128) (hT : TbM (nF g) R M dv T C Rn) (h1 : ∀ p, p < nF g → impr (nF g) R T p → (∀ c, c < nF g → impr (nF g) R T c → C p ≤ C c) → K (p : Int) M) (h0 : (∀ c, c < nF g → ¬ impr (nF g) R T c) → K (-1) M) : CalI G miX11_comes (d + 1) [.inr (.inr (some 66))] M K := by
  have hn := hw.n
  have a78 := hT.2.2.2.2.1
  refine Cal.of (by decide) (Nat.le_of_ble_eq_true rfl) rfl (gX11_comes_0 ?_)
  have key := dn (P := fun k => ∀ v : Int, ((v = -1 ∧ ∀ c, c < k → ¬ impr (nF g) R T c) ∨ ∃ p : Nat, v = (p : Int) ∧ p < k ∧ impr (nF g) R T p ∧ ∀ c, c < k → impr (nF g) R T c → C p ≤ C c) → OkI G miX11_comes (d + 1) K 4 [some (.inr (.inr (some 66))), some (.inl v), some (.inl (k : Int))] [] M) (nF g) ?_ (fun k hk ih => ?_) 0 (Nat.zero_le _)
  · exact key (-1) (.inl ⟨rfl, fun c hc => absurd hc (Nat.not_lt_zero _)⟩)
  · intro v hv
    refine gX11_comes_4 ⟨fun _ => ?_, fun c => absurd c (by rw [hg]; omega)⟩
    rcases hv with ⟨e, h⟩ | ⟨p, e, h2, h3, h4⟩
    · subst e; exact h0 h
    · subst e; exact h1 p h2 h3 h4
  · intro v hv
    refine gX11_comes_4 ⟨fun c => absurd c (by rw [hg]; omega), fun _ => ?_⟩
    rw [w32n (by omega)]
    refine c11_mayCome hn.2 hR hT rfl hk (fun hi => b1 ?_) (fun hi => b0 (ih v ?_))
    · rcases hv with ⟨e, h⟩ | ⟨p, e, h2, h3, h4⟩
      · subst e
        refine ⟨fun _ => ih _ (.inr ⟨k, rfl, by omega, hi, fun c hc hci => ?_⟩), fun c => absurd c (by decide)⟩
        by_cases e : c = k
        · subst e; exact Nat.le_refl _
        · exact absurd hci (h c (by omega))
      · subst e
        refine ⟨fun c => absurd c (by omega), fun _ => ⟨by omega, by omega, ?_⟩⟩
        rw [Int.toNat_natCast, Int.toNat_natCast, a78 k hk, a78 p (by omega)]
        by_cases hlt : (C k : Int) < (C p : Int)
        · rw [if_pos hlt]
          refine ih _ (.inr ⟨k, rfl, by omega, hi, fun c hc hci => ?_⟩)
          by_cases e : c = k
          · subst e; exact Nat.le_refl _
          · have := h4 c (by omega) hci; omega
        · rw [if_neg hlt]
          refine ih _ (.inr ⟨p, rfl, by omega, h3, fun c hc hci => ?_⟩)
          by_cases e : c = k
          · subst e; omega
          · exact h4 c (by omega) hci
    · rcases hv with ⟨e, h⟩ | ⟨p, e, h2, h3, h4⟩
      · refine .inl ⟨e, fun c hc => ?_⟩
        by_cases e2 : c = k
        · subst e2; exact hi
        · exact h c (by omega)
      · refine .inr ⟨p, e, by omega, h3, fun c hc hci => ?_⟩
        by_cases e2 : c = k
        · subst e2; exact absurd hci hi
        · exact h4 c (by omega) hci
theorem pr_bd {x y : Int} (hx : -BND ≤ x ∧ x ≤ BND) (hy : -BND ≤ y ∧ y ≤ BND) : -38921671098777600 ≤ x * y ∧ x * y ≤ 38921671098777600 := by
  have h := bd_mul hx hy
  have e : BND * BND = 38921671098777600 := by decide
  rw [e] at h; exact h
/-- the row that goes -/
def gOK (n R : Nat) (T : Nat → Nat → Int) (Rn : Nat → Nat) (f k r0 : Nat) : Prop := r0 < k ∧ 0 < T r0 f ∧ ∀ r, r < k → 0 < T r f → T r0 n * T r f ≤ T r n * T r0 f ∧ (T r0 n * T r f = T r n * T r0 f → Rn r0 ≤ Rn r)
theorem c11_goes {K : Int → Mem → Prop} {g : Nat → Int} {R : Nat} {dv : Int} {T : Nat → Nat → Int} {C Rn : Nat → Nat} {v : Int} {f : Nat} (hg : M 67 = g) (hw : WF g) (hR : R < 128) (hT : TbM (nF g) R M dv T C Rn) (hb : bdT (nF g) R dv T) (e : v = (f : Int)) (hf : f < nF g) (hex : ∃ q, q < R ∧ 0 < T q f) (h : ∀ r0, gOK (nF g) R T Rn f R r0 → K (r0 : Int) M) : CalI G miX11_goes d [.inr (.inr (some 66)), .inl v] M K := by
  have hn := hw.n
  subst e
  obtain ⟨a18, a19, a20, a77, a78, a79⟩ := hT
  have cell : ∀ q c : Nat, q < R → c ≤ nF g → M 77 ((8 * (q : Int)) + (c : Int)).toNat = T q c := fun q c hq hc => by
    rw [show ((8 * (q : Int)) + (c : Int)).toNat = 8 * q + c by omega]; exact a77 q c (by omega) hc
  refine Cal.of (by decide) (Nat.le_of_ble_eq_true rfl) rfl (gX11_goes_0 ?_)
  have key := dn (P := fun k => ∀ v : Int, ((v = -1 ∧ ∀ r, r < k → ¬ 0 < T r f) ∨ ∃ r0 : Nat, v = (r0 : Int) ∧ gOK (nF g) R T Rn f k r0) → OkI G miX11_goes d K 4 [some (.inr (.inr (some 66))), some (.inl (f : Int)), some (.inl v), some (.inl (k : Int)), none, none, none, none] [] M) R ?_ (fun k hk ih => ?_) 0 (Nat.zero_le _)
  · exact key (-1) (.inl ⟨rfl, fun c hc => absurd hc (Nat.not_lt_zero _)⟩)
  · intro v hv
    refine gX11_goes_4 ⟨fun _ => ?_, fun c => absurd c (by rw [a18]; omega)⟩
    rcases hv with ⟨e, h2⟩ | ⟨r0, e, h2⟩
    · obtain ⟨q, q1, q2⟩ := hex
      exact absurd q2 (h2 q q1)
    · subst e; exact h r0 h2
  · intro v hv
    refine gX11_goes_4 ⟨fun c => absurd c (by rw [a18]; omega), fun _ => ⟨by omega, ?_⟩⟩
    rw [cell k f hk (by omega), w32n (by omega)]
    refine ⟨fun c => ih v ?_, fun c => ⟨fun c2 => ?_, fun c2 => ?_⟩⟩
    · rcases hv with ⟨e, h2⟩ | ⟨r0, e, h2, h3, h4⟩
      · refine .inl ⟨e, fun r hr => ?_⟩
        by_cases e2 : r = k
        · subst e2; omega
        · exact h2 r (by omega)
      · refine .inr ⟨r0, e, by omega, h3, fun r hr hr2 => ?_⟩
        by_cases e2 : r = k
        · subst e2; omega
        · exact h4 r (by omega) hr2
    · rcases hv with ⟨e, h2⟩ | ⟨r0, e, h2, h3, h4⟩
      · omega
      · subst e
        have hr0 : r0 < R := by omega
        have b1' := hb.2 k (nF g) (by omega) (Nat.le_refl _)
        have b2' := hb.2 r0 f (by omega) (by omega)
        have b3' := hb.2 r0 (nF g) (by omega) (Nat.le_refl _)
        have b4' := hb.2 k f (by omega) (by omega)
        have p1 := pr_bd b1' b2'
        have p2 := pr_bd b3' b4'
        have en : M 67 0 = (nF g : Int) := by rw [hg]; exact hn.1
        rw [en]
        refine ⟨by omega, by omega, by omega, ?_⟩
        rw [cell k (nF g) hk (Nat.le_refl _), cell r0 f hr0 (by omega), cell r0 (nF g) hr0 (Nat.le_refl _), w64_eq (by omega) (by omega)]
        have keep : T r0 (nF g) * T k f ≤ T k (nF g) * T r0 f → (T r0 (nF g) * T k f = T k (nF g) * T r0 f → Rn r0 ≤ Rn k) → OkI G miX11_goes d K 4 [some (.inr (.inr (some 66))), some (.inl (f : Int)), some (.inl (r0 : Int)), some (.inl ((k + 1 : Nat) : Int)), none, none, none, none] [] M := fun q1 q2 => ih _ (.inr ⟨r0, rfl, by omega, h3, fun r hr hr2 => by
          by_cases e2 : r = k
          · subst e2; exact ⟨q1, q2⟩
          · exact h4 r (by omega) hr2⟩)
        have take : T k (nF g) * T r0 f ≤ T r0 (nF g) * T k f → (T k (nF g) * T r0 f = T r0 (nF g) * T k f → Rn k ≤ Rn r0) → OkI G miX11_goes d K 4 [some (.inr (.inr (some 66))), some (.inl (f : Int)), some (.inl (k : Int)), some (.inl ((k + 1 : Nat) : Int)), none, none, none, none] [] M := fun q1 q2 => ih _ (.inr ⟨k, rfl, by omega, c, fun r hr hr2 => by
          by_cases e2 : r = k
          · subst e2; exact ⟨Int.le_refl _, fun _ => Nat.le_refl _⟩
          · have h5 := h4 r (by omega) hr2
            refine ⟨rt1 c h3 hr2 q1 h5.1, fun q3 => ?_⟩
            have q4 : T k (nF g) * T r0 f = T r0 (nF g) * T k f := by
              refine Int.le_antisymm q1 (Int.not_lt.mp (fun hlt => ?_))
              have := rt2 c h3 hr2 hlt h5.1
              omega
            have q5 := rt3 c q4 q3
            exact Nat.le_trans (q2 q4) (h5.2 q5)⟩)
        refine gX11_goes_90 ⟨fun c3 => ?_, fun c3 => ⟨fun c4 => ?_, fun c4 => ⟨by omega, by omega, ?_⟩⟩⟩
        · rw [w32n (by omega)]; exact take (by omega) (fun q => by omega)
        · rw [w32n (by omega)]; exact keep (by omega) (fun q => by omega)
        · rw [w32n (by omega), Int.toNat_natCast, Int.toNat_natCast, a79 k hk, a79 r0 hr0]
          by_cases hlt : (Rn k : Int) < (Rn r0 : Int)
          · rw [if_pos hlt]; exact take (by omega) (fun q => by omega)
          · rw [if_neg hlt]; exact keep (by omega) (fun q => by omega)
    · rcases hv with ⟨e, h2⟩ | ⟨r0, e, h2, h3, h4⟩
      · subst e
        refine gX11_goes_90 ⟨fun _ => ?_, fun c => absurd c (by decide)⟩
        rw [w32n (by omega)]
        refine ih _ (.inr ⟨k, rfl, by omega, c, fun r hr hr2 => ?_⟩)
        by_cases e2 : r = k
        · subst e2; exact ⟨Int.le_refl _, fun _ => Nat.le_refl _⟩
        · exact absurd hr2 (h2 r (by omega))
      · omega
end REFK
