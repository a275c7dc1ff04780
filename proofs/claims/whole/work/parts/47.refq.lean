/-! the reference: calls that change the plan, or read it -/
section REFQ
variable {G : GE} {d : Nat} {M : Mem} {K : Int → Mem → Prop}
def ofR (g : Nat → Int) (v w : Int) : Int := if v < 0 ∨ g 0 ≤ v ∨ w < 0 ∨ 6 < w then -2 else if w ≤ 3 then g (1 + 7 * w.toNat + v.toNat) else (folT g v.toNat w (nF g) : Int)
theorem c11_of {g : Nat → Int} {v w : Int} (hg : M 67 = g) (hw : WF g) (h : K (ofR g v w) M) : CalI G miX11_of (d + 5) [.inr (.inr (some 66)), .inl v, .inl w] M K := by
  have hn := hw.n
  refine Cal.of (by decide) (Nat.le_of_ble_eq_true rfl) rfl (gX11_of_0 ?_)
  refine c11_isFlight (by rw [hg]; exact hw.1) (fun a b => b1 ?_) (fun a => b0 (kv h (by rw [hg] at a; unfold ofR; rw [if_pos (by omega)])))
  rw [hg] at b
  refine c11_in (fun a2 b2 => n1 ?_) (fun a2 => n0 (kv h (by unfold ofR; rw [if_pos (by omega)])))
  unfold ofR at h
  rw [if_neg (by omega)] at h
  refine ⟨fun c => ⟨by omega, ?_⟩, fun c => ?_⟩
  · rw [if_pos c] at h
    rw [show ((1 + (7 * w)) + v).toNat = 1 + 7 * w.toNat + v.toNat by omega, hg]; exact h
  · rw [if_neg (by omega)] at h
    exact c11_followers (f := v.toNat) hg hw (by omega) (by omega) h
def shiR (g : Nat → Int) (v a b : Int) : Int := if v < 0 ∨ g 0 ≤ v ∨ a < 0 ∨ 299 < b ∨ b ≤ a then -2 else g (15 + v.toNat)
def shiN (g : Nat → Int) (v a b : Int) : Nat → Int := if v < 0 ∨ g 0 ≤ v ∨ a < 0 ∨ 299 < b ∨ b ≤ a then g else fup (fup g (22 + v.toNat) b) (15 + v.toNat) a
theorem c11_shift {g : Nat → Int} {v a b : Int} (hg : M 67 = g) (hw : WF g) (h : K (shiR g v a b) (mset M 67 (shiN g v a b))) : CalI G miX11_shift (d + 3) [.inr (.inr (some 66)), .inl v, .inl a, .inl b] M K := by
  have hn := hw.n
  have bad : (v < 0 ∨ g 0 ≤ v ∨ a < 0 ∨ 299 < b ∨ b ≤ a) → K (-2) M := fun hb => by
    simp only [shiR, shiN, if_pos hb] at h; rw [← hg, mset_self] at h; exact h
  refine Cal.of (by decide) (Nat.le_of_ble_eq_true rfl) rfl (gX11_shift_0 ?_)
  refine c11_isFlight (by rw [hg]; exact hw.1) (fun p q => b1 ?_) (fun p => b0 (bad (by rw [hg] at p; omega)))
  rw [hg] at q
  refine c11_areTimes (fun p2 q2 r2 => n1 ⟨by omega, ?_⟩) (fun p2 => n0 (bad (by omega)))
  have hb : ¬ (v < 0 ∨ g 0 ≤ v ∨ a < 0 ∨ 299 < b ∨ b ≤ a) := by omega
  simp only [shiR, shiN, if_neg hb] at h
  rw [w32_eq (by omega) (by omega)]
  refine c11_becomes (by omega) ?_
  rw [show (22 + v).toNat = 22 + v.toNat by omega, show (15 + v).toNat = 15 + v.toNat by omega]
  rw [mup_mset, mset_at, mset_mset, hg, fup_ne _ (by omega)]
  exact h
def kindR (g : Nat → Int) (a k f : Int) : Int := if a < 0 ∨ 3 < a ∨ k < 0 ∨ 5 < k ∨ f < 0 ∨ 9 < f then -2 else 10 * g (78 + a.toNat) + g (82 + a.toNat)
def kindN (g : Nat → Int) (a k f : Int) : Nat → Int := if a < 0 ∨ 3 < a ∨ k < 0 ∨ 5 < k ∨ f < 0 ∨ 9 < f then g else fup (fup g (78 + a.toNat) k) (82 + a.toNat) f
theorem c11_kind {g : Nat → Int} {a k f : Int} (hg : M 67 = g) (hw : WF g) (h : K (kindR g a k f) (mset M 67 (kindN g a k f))) : CalI G miX11_kind (d + 2) [.inr (.inr (some 66)), .inl a, .inl k, .inl f] M K := by
  have bad : (a < 0 ∨ 3 < a ∨ k < 0 ∨ 5 < k ∨ f < 0 ∨ 9 < f) → K (-2) M := fun hb => by
    simp only [kindR, kindN, if_pos hb] at h; rw [← hg, mset_self] at h; exact h
  refine Cal.of (by decide) (Nat.le_of_ble_eq_true rfl) rfl (gX11_kind_0 ?_)
  refine c11_isAirport (fun p q => b1 ?_) (fun p => b0 (bad (by omega)))
  refine c11_in (fun p2 q2 => b1 ?_) (fun p2 => b0 (bad (by omega)))
  refine c11_in (fun p3 q3 => n1 ?_) (fun p3 => n0 (bad (by omega)))
  have hb : ¬ (a < 0 ∨ 3 < a ∨ k < 0 ∨ 5 < k ∨ f < 0 ∨ 9 < f) := by omega
  simp only [kindR, kindN, if_neg hb] at h
  have hk := hw.kd (a := a.toNat) (by omega)
  rw [w32_eq (by omega) (by omega), w32_eq (by omega) (by omega)]
  refine c11_becomes (by omega) (c11_becomes (by omega) ?_)
  rw [show (78 + a).toNat = 78 + a.toNat by omega, show (82 + a).toNat = 82 + a.toNat by omega]
  rw [mset_at, mset_mset, hg, fup_ne _ (by omega), w32_eq (by omega) (by omega)]
  exact h
def toldR (g : Nat → Int) (a w : Int) : Int := if a < 0 ∨ 3 < a then -2 else if w = 0 then g (78 + a.toNat) else if w = 1 then g (82 + a.toNat) else if w = 2 then sitF g a.toNat else if w = 3 then restF g a.toNat else if w = 4 then legsF g a.toNat else if w = 5 then spanF g a.toNat else if w = 6 then dutF g a.toNat else -2
theorem c11_told {g : Nat → Int} {a w : Int} (hg : M 67 = g) (hw : WF g) (h : K (toldR g a w) M) : CalI G miX11_told (d + 2) [.inr (.inr (some 66)), .inl a, .inl w] M K := by
  refine Cal.of (by decide) (Nat.le_of_ble_eq_true rfl) rfl (gX11_told_0 ?_)
  refine c11_isAirport (fun p q => n1 ?_) (fun p => n0 (kv h (by unfold toldR; rw [if_pos (by omega)])))
  unfold toldR at h
  rw [if_neg (by omega)] at h
  rw [show (78 + a).toNat = 78 + a.toNat by omega, show (82 + a).toNat = 82 + a.toNat by omega, hg]
  refine ⟨fun c => ⟨by omega, ?_⟩, fun c => ⟨by omega, ?_⟩, fun c => ?_, fun c => ?_, fun c => ?_, fun c => ?_, fun c => ?_, fun c => ?_⟩
  · subst c; exact h
  · subst c; exact h
  · subst c; exact c11_sit (a := a.toNat) hg hw (by omega) (by omega) h
  · subst c; exact c11_rest (a := a.toNat) hg hw (by omega) (by omega) h
  · subst c; exact c11_legs (a := a.toNat) hg (by omega) (by omega) h
  · subst c; exact c11_span (a := a.toNat) hg hw (by omega) (by omega) h
  · subst c; exact c11_duties (a := a.toNat) hg (by omega) (by omega) h
  · exact kv h (by (repeat' split) <;> omega)
def undB (is k : Int) : Bool := decide (k = 0) || (decide (k = is) || ((decide (k = 1) && decide (is = 3)) || (decide (k = 2) && decide (is = 4))))
def takR (g : Nat → Int) (a k : Int) : Int := if a < 0 ∨ 3 < a ∨ k < 0 ∨ 5 < k then -2 else if undB (g (78 + a.toNat)) k = true then spanF g a.toNat else -13
theorem c11_taken {g : Nat → Int} {a k : Int} (hg : M 67 = g) (hw : WF g) (h : K (takR g a k) M) : CalI G miX11_taken (d + 2) [.inr (.inr (some 66)), .inl a, .inl k] M K := by
  refine Cal.of (by decide) (Nat.le_of_ble_eq_true rfl) rfl (gX11_taken_0 ?_)
  refine c11_isAirport (fun p q => b1 ?_) (fun p => b0 (kv h (by unfold takR; rw [if_pos (by omega)])))
  refine c11_in (fun p2 q2 => n1 ?_) (fun p2 => n0 (kv h (by unfold takR; rw [if_pos (by omega)])))
  unfold takR at h
  rw [if_neg (by omega)] at h
  rw [show (78 + a).toNat = 78 + a.toNat by omega, hg]
  refine ⟨by omega, ?_⟩
  have hE : ∀ is : Int, (if k = 0 then (1 : Int) else (if k = is then (1 : Int) else (if k = 1 then (if is = 3 then (1 : Int) else (if k = 2 then (if is = 4 then (1 : Int) else 0) else 0)) else (if k = 2 then (if is = 4 then (1 : Int) else 0) else 0)))) = bI (undB is k) := by
    intro is
    unfold undB bI
    by_cases c0 : k = 0
    · simp [c0]
    · by_cases c1 : k = is
      · subst c1; simp [c0]
      · by_cases c2 : k = 1
        · subst c2; by_cases c3 : is = 3 <;> simp [c3, c1]
        · by_cases c4 : k = 2
          · subst c4; by_cases c5 : is = 4 <;> simp [c5, c1]
          · simp [c0, c1, c2, c4]
  rw [hE]
  cases hu : undB (g (78 + a.toNat)) k with
  | false => rw [hu] at h; exact b0 h
  | true => rw [hu] at h; exact b1 (c11_span (a := a.toNat) hg hw (by omega) (by omega) h)
def baseR (g : Nat → Int) (b : Int) : Int := if b < 0 ∨ 15 < b then -2 else g 86
def baseN (g : Nat → Int) (b : Int) : Nat → Int := if b < 0 ∨ 15 < b then g else fup g 86 b
theorem c11_base {g : Nat → Int} {b : Int} (hg : M 67 = g) (h : K (baseR g b) (mset M 67 (baseN g b))) : CalI G miX11_base (d + 1) [.inr (.inr (some 66)), .inl b] M K := by
  refine Cal.of (by decide) (Nat.le_of_ble_eq_true rfl) rfl (gX11_base_0 ?_)
  refine c11_in (fun p q => b1 ?_) (fun p => b0 ?_)
  · have hb : ¬ (b < 0 ∨ 15 < b) := by omega
    simp only [baseR, baseN, if_neg hb] at h
    refine c11_becomes ⟨by decide, by decide⟩ ?_
    rw [hg]; exact h
  · have hb : b < 0 ∨ 15 < b := by omega
    simp only [baseR, baseN, if_pos hb] at h; rw [← hg, mset_self] at h; exact h
def feeTop (w : Int) : Int := if w = 1 then 9 else if w = 4 then 20 else 99
def feeR (g : Nat → Int) (w v : Int) : Int := if w < 0 ∨ 4 < w ∨ v < 0 ∨ feeTop w < v then -2 else g (87 + w.toNat)
def feeN (g : Nat → Int) (w v : Int) : Nat → Int := if w < 0 ∨ 4 < w ∨ v < 0 ∨ feeTop w < v then g else fup g (87 + w.toNat) v
theorem c11_fee {g : Nat → Int} {w v : Int} (hg : M 67 = g) (h : K (feeR g w v) (mset M 67 (feeN g w v))) : CalI G miX11_fee (d + 1) [.inr (.inr (some 66)), .inl w, .inl v] M K := by
  have bad : (w < 0 ∨ 4 < w ∨ v < 0 ∨ feeTop w < v) → K (-2) M := fun hb => by
    simp only [feeR, feeN, if_pos hb] at h; rw [← hg, mset_self] at h; exact h
  refine Cal.of (by decide) (Nat.le_of_ble_eq_true rfl) rfl (gX11_fee_0 ?_)
  refine c11_in (fun p q => b1 ?_) (fun p => b0 (bad (by omega)))
  show CalI G miX11_in d [.inr (.inl v), .inr (.inl 0), .inr (.inl (feeTop w))] M _
  refine c11_in (fun p2 q2 => n1 ?_) (fun p2 => n0 (bad (by omega)))
  have hb : ¬ (w < 0 ∨ 4 < w ∨ v < 0 ∨ feeTop w < v) := by omega
  simp only [feeR, feeN, if_neg hb] at h
  rw [w32_eq (by omega) (by omega)]
  refine c11_becomes (by omega) ?_
  rw [show (87 + w).toNat = 87 + w.toNat by omega, hg]; exact h
def markR (g : Nat → Int) (v w m : Int) : Int := if v < 0 ∨ g 0 ≤ v ∨ w < 0 ∨ g 0 ≤ w ∨ v = w ∨ m < 0 ∨ 2 < m then -2 else g (29 + (7 * v.toNat + w.toNat))
def markN (g : Nat → Int) (v w m : Int) : Nat → Int := if v < 0 ∨ g 0 ≤ v ∨ w < 0 ∨ g 0 ≤ w ∨ v = w ∨ m < 0 ∨ 2 < m then g else fup g (29 + (7 * v.toNat + w.toNat)) m
theorem c11_mark {g : Nat → Int} {v w m : Int} (hg : M 67 = g) (hw : WF g) (h : K (markR g v w m) (mset M 67 (markN g v w m))) : CalI G miX11_mark (d + 3) [.inr (.inr (some 66)), .inl v, .inl w, .inl m] M K := by
  have hn := hw.n
  have bad : (v < 0 ∨ g 0 ≤ v ∨ w < 0 ∨ g 0 ≤ w ∨ v = w ∨ m < 0 ∨ 2 < m) → K (-2) M := fun hb => by
    simp only [markR, markN, if_pos hb] at h; rw [← hg, mset_self] at h; exact h
  refine Cal.of (by decide) (Nat.le_of_ble_eq_true rfl) rfl (gX11_mark_0 ?_)
  refine c11_areTwo (by rw [hg]; exact hw.1) (fun a b a' b' c => b1 ?_) (fun a => b0 (bad (by rw [hg] at a; omega)))
  rw [hg] at b b'
  refine c11_in (fun a2 b2 => b1 ?_) (fun a2 => b0 (bad (by omega)))
  have hb : ¬ (v < 0 ∨ g 0 ≤ v ∨ w < 0 ∨ g 0 ≤ w ∨ v = w ∨ m < 0 ∨ 2 < m) := by omega
  simp only [markR, markN, if_neg hb] at h
  rw [w32_eq (by omega) (by omega)]
  refine c11_becomes (by omega) ?_
  rw [show ((29 + (7 * v)) + w).toNat = 29 + (7 * v.toNat + w.toNat) by omega, hg]; exact h
/-- the latest is none any more -/
def drT (g : Nat → Int) (n : Nat) : Nat → Nat → Int
  | 0 => fup g 0 (n : Int)
  | k + 1 => fup (fup (drT g n k) (29 + (7 * k + n)) 0) (29 + (7 * n + k)) 0
def dropR (g : Nat → Int) : Int := if g 0 = 0 then -3 else g 0 - 1
def dropN (g : Nat → Int) : Nat → Int := if g 0 = 0 then g else drT g (nF g - 1) 7
theorem drT_0 (g : Nat → Int) (n : Nat) : ∀ k, drT g n k 0 = (n : Int) := by
  intro k
  induction k with
  | zero => exact fup_at _ _ _
  | succ k ih => rw [drT, fup_ne _ (by omega), fup_ne _ (by omega), ih]
theorem c11_drop {g : Nat → Int} (hg : M 67 = g) (hw : WF g) (h : K (dropR g) (mset M 67 (dropN g))) : CalI G miX11_drop d [.inr (.inr (some 66))] M K := by
  have hn := hw.n
  refine Cal.of (by decide) (Nat.le_of_ble_eq_true rfl) rfl (gX11_drop_0 ?_)
  rw [hg]
  refine ⟨fun c => ?_, fun c => ?_⟩
  · simp only [dropR, dropN, if_neg c] at h
    have e : w32 (g 0 - 1) = ((nF g - 1 : Nat) : Int) := by rw [w32_eq (by omega) (by omega)]; omega
    rw [e]
    have hlt : nF g - 1 < 7 := by omega
    have er : g 0 - 1 = ((nF g - 1 : Nat) : Int) := by omega
    rw [er] at h
    generalize nF g - 1 = n at *
    have key := dn (P := fun k => OkI G miX11_drop d K 24 [some (.inr (.inr (some 66))), some (.inl (k : Int))] [] (mset M 67 (drT g n k))) 7 ?_ (fun k hk ih => ?_) 0 (by omega)
    · rw [mup_mset, hg]; exact key
    · refine gX11_drop_24 ⟨fun _ => ?_, fun c => absurd c (by omega)⟩
      rw [mset_at, drT_0]; exact h
    · have e1 : (mset M 67 (drT g n k)) 67 0 = (n : Int) := by rw [mset_at, drT_0]
      refine gX11_drop_24 ⟨fun c => absurd c (by omega), fun _ => ?_⟩
      rw [e1, show ((29 + (7 * (k : Int))) + (n : Int)).toNat = 29 + (7 * k + n) by omega]
      have e2 : (mup (mset M 67 (drT g n k)) 67 (29 + (7 * k + n)) 0) 67 0 = (n : Int) := by rw [mup_at_ne (by omega), e1]
      rw [e2, show ((29 + (7 * (n : Int))) + (k : Int)).toNat = 29 + (7 * n + k) by omega, w32n (by omega)]
      refine ⟨by omega, by omega, ?_⟩
      rw [mup_mset, mup_mset (mset M 67 (drT g n k)), mset_at, mset_mset, mset_mset, mset_at]
      exact ih
  · simp only [dropR, dropN, if_pos c] at h
    rw [← hg, mset_self] at h; exact h
end REFQ
