/-! the reference: sheets -/
def shBad (v s n : Int) : Prop := v < 0 ∨ 3 < v ∨ s < -1 ∨ 1 < s ∨ (0 ≤ s ∧ 40 < n)
def sheR (v s n : Int) : Int := if v < 0 ∨ 3 < v ∨ s < -1 ∨ 1 < s ∨ (0 ≤ s ∧ 40 < n) then -2 else if 0 ≤ s ∧ n < 0 then -14 else 1
def sheB (v s n : Int) : Bool := decide (sheR v s n = 1)
/-- a sheet's items all 0 -/
def clr (it : Nat → Int) (v : Nat) : Nat → Int := fun i => if 40 * v ≤ i ∧ i < 40 * v + 40 then 0 else it i
def clrT (it : Nat → Int) (v k : Nat) : Nat → Int := fun i => if 40 * v ≤ i ∧ i < 40 * v + k then 0 else it i
def shW (so sz : Nat → Int) : Prop := ∀ v, v < 4 → (so v = -1 ∨ so v = 0 ∨ so v = 1) ∧ (0 ≤ sz v ∧ sz v ≤ 40) ∧ (so v = -1 → sz v = 0)
def m3 (M : Mem) (so sz it : Nat → Int) : Mem := mset (mset (mset M 80 so) 81 sz) 82 it
theorem m3_self (M : Mem) : m3 M (M 80) (M 81) (M 82) = M := by unfold m3; rw [mset_self, mset_self, mset_self]
section REFR
variable {G : GE} {d : Nat} {M : Mem} {K : Int → Mem → Prop}
theorem c11_isSheet {v : Int} (h1 : 0 ≤ v → v ≤ 3 → K 1 M) (h0 : v < 0 ∨ 3 < v → K 0 M) : CalI G miX11_isSheet (d + 1) [.inl v] M K := by
  refine Cal.of (by decide) (Nat.le_of_ble_eq_true rfl) rfl (gX11_isSheet_0 ?_)
  exact c11_in (fun a b => ⟨.inr rfl, h1 a b⟩) (fun a => ⟨.inl rfl, h0 a⟩)
theorem c11_itemOf {v w : Int} {s i : Nat} (e : v = (s : Int)) (e' : w = (i : Int)) (hs : s < 4) (hi : i < 40) (h : K (M 82 (40 * s + i)) M) : CalL G miX11_itemOf d [.inr (.inr (some 66)), .inl v, .inl w] M K := by
  subst e; subst e'
  refine Cal.of (by decide) (Nat.le_of_ble_eq_true rfl) rfl (gX11_itemOf_0 ?_)
  rw [show ((40 * (s : Int)) + (i : Int)).toNat = 40 * s + i by omega]
  exact ⟨by omega, h⟩
theorem c11_sheet {v s n : Int} (h : K (sheR v s n) (if sheR v s n = 1 then m3 M (fup (M 80) v.toNat s) (fup (M 81) v.toNat (if s < 0 then 0 else n)) (clr (M 82) v.toNat) else M)) : CalI G miX11_sheet (d + 2) [.inr (.inr (some 66)), .inl v, .inl s, .inl n] M K := by
  have bad : (v < 0 ∨ 3 < v ∨ s < -1 ∨ 1 < s ∨ (0 ≤ s ∧ 40 < n)) → K (-2) M := fun hb => by
    have e : sheR v s n = -2 := by unfold sheR; rw [if_pos hb]
    rw [e, if_neg (by decide)] at h; exact h
  have good : ¬ (v < 0 ∨ 3 < v ∨ s < -1 ∨ 1 < s ∨ (0 ≤ s ∧ 40 < n)) → ¬ (0 ≤ s ∧ n < 0) → OkI G miX11_sheet (d + 2) K 43 [some (.inr (.inr (some 66))), some (.inl v), some (.inl s), some (.inl n), none] [] M := by
    intro hb hb2
    have e : sheR v s n = 1 := by unfold sheR; rw [if_neg hb, if_neg hb2]
    rw [e, if_pos rfl] at h
    refine gX11_sheet_43 ⟨by omega, by omega, ?_⟩
    have key := dn (P := fun k => OkI G miX11_sheet (d + 2) K 68 [some (.inr (.inr (some 66))), some (.inl v), none, none, some (.inl (k : Int))] [] (m3 M (fup (M 80) v.toNat s) (fup (M 81) v.toNat (if s < 0 then 0 else n)) (clrT (M 82) v.toNat k))) 40 ?_ (fun k hk ih => ?_) 0 (by omega)
    · have e0 : clrT (M 82) v.toNat 0 = M 82 := by funext i; unfold clrT; rw [if_neg (by omega)]
      rw [e0] at key
      have e1 : mup (mup M 80 v.toNat s) 81 v.toNat (if s < 0 then (0 : Int) else n) = m3 M (fup (M 80) v.toNat s) (fup (M 81) v.toNat (if s < 0 then 0 else n)) (M 82) := by
        unfold m3
        have : M 82 = (mset (mset M 80 (fup (M 80) v.toNat s)) 81 (fup (M 81) v.toNat (if s < 0 then 0 else n))) 82 := by rw [mset_ne _ (by decide), mset_ne _ (by decide)]
        rw [this, mset_self, mup_mset, mup_mset M 80, mset_ne _ (by decide)]
      rw [e1]; exact key
    · refine gX11_sheet_68 ⟨fun _ => h, fun c => absurd c (by omega)⟩
    · refine gX11_sheet_68 ⟨fun c => absurd c (by omega), fun _ => ⟨by omega, ?_⟩⟩
      rw [w32n (by omega), show ((40 * v) + (k : Int)).toNat = 40 * v.toNat + k by omega]
      have e2 : mup (m3 M (fup (M 80) v.toNat s) (fup (M 81) v.toNat (if s < 0 then 0 else n)) (clrT (M 82) v.toNat k)) 82 (40 * v.toNat + k) 0 = m3 M (fup (M 80) v.toNat s) (fup (M 81) v.toNat (if s < 0 then 0 else n)) (clrT (M 82) v.toNat (k + 1)) := by
        unfold m3
        rw [mup_mset, mset_at, mset_mset]
        congr 1
        funext i; unfold fup clrT
        by_cases q : i = 40 * v.toNat + k
        · rw [if_pos q, if_pos (by omega)]
        · rw [if_neg q]
          by_cases q2 : 40 * v.toNat ≤ i ∧ i < 40 * v.toNat + k
          · rw [if_pos q2, if_pos (by omega)]
          · rw [if_neg q2, if_neg (by omega)]
      rw [e2]; exact ih
  have g32 : ¬ (v < 0 ∨ 3 < v ∨ s < -1 ∨ 1 < s ∨ (0 ≤ s ∧ 40 < n)) → OkI G miX11_sheet (d + 2) K 32 [some (.inr (.inr (some 66))), some (.inl v), some (.inl s), some (.inl n), none] [] M := by
    intro hb
    refine gX11_sheet_32 ⟨fun c => good hb (by omega), fun c => ⟨fun c2 => good hb (by omega), fun c2 => ?_⟩⟩
    have e : sheR v s n = -14 := by unfold sheR; rw [if_neg hb, if_pos ⟨c, c2⟩]
    rw [e, if_neg (by decide)] at h; exact h
  refine Cal.of (by decide) (Nat.le_of_ble_eq_true rfl) rfl (gX11_sheet_0 ?_)
  refine c11_isSheet (fun p q => b1 ?_) (fun p => b0 (bad (by omega)))
  refine c11_in (fun p2 q2 => b1 ?_) (fun p2 => b0 (bad (by omega)))
  exact ⟨fun c => g32 (by omega), fun c => ⟨fun c2 => g32 (by omega), fun c2 => bad (by omega)⟩⟩
def putR (so sz : Nat → Int) (v i : Int) : Int := if v < 0 ∨ 3 < v then -2 else if so v.toNat < 0 then -11 else if i < 0 ∨ sz v.toNat ≤ i then -12 else 1
theorem c11_put {v i x : Int} (hs : shW (M 80) (M 81)) (h : K (putR (M 80) (M 81) v i) (if putR (M 80) (M 81) v i = 1 then mset M 82 (fup (M 82) (40 * v.toNat + i.toNat) (if M 80 v.toNat = 1 then w32 x else x)) else M)) : CalI G miX11_put (d + 2) [.inr (.inr (some 66)), .inl v, .inl i, .inr (.inl x)] M K := by
  refine Cal.of (by decide) (Nat.le_of_ble_eq_true rfl) rfl (gX11_put_0 ?_)
  refine c11_isSheet (fun p q => n1 ?_) (fun p => n0 ?_)
  · have hv := hs v.toNat (by omega)
    refine ⟨by omega, fun c => ⟨by omega, ?_⟩, fun c => ?_⟩
    · rw [w32_eq (by omega) (by omega)]
      refine c11_in (fun p2 q2 => n1 ⟨by omega, by omega, ?_⟩) (fun p2 => n0 ?_)
      · have e : putR (M 80) (M 81) v i = 1 := by unfold putR; rw [if_neg (by omega), if_neg (by omega), if_neg (by omega)]
        rw [e, if_pos rfl] at h
        rw [show ((40 * v) + i).toNat = 40 * v.toNat + i.toNat by omega, mup_mset]; exact h
      · have e : putR (M 80) (M 81) v i = -12 := by unfold putR; rw [if_neg (by omega), if_neg (by omega), if_pos (by omega)]
        rw [e, if_neg (by decide)] at h; exact h
    · have e : putR (M 80) (M 81) v i = -11 := by unfold putR; rw [if_neg (by omega), if_pos c]
      rw [e, if_neg (by decide)] at h; exact h
  · have e : putR (M 80) (M 81) v i = -2 := by unfold putR; rw [if_pos (by omega)]
    rw [e, if_neg (by decide)] at h; exact h
def itemR (sz it : Nat → Int) (v i : Int) : Int := if v < 0 ∨ 3 < v ∨ i < 0 ∨ sz v.toNat ≤ i then NO else it (40 * v.toNat + i.toNat)
theorem c11_item {v i : Int} (hs : shW (M 80) (M 81)) (h : K (itemR (M 81) (M 82) v i) M) : CalL G miX11_item (d + 2) [.inr (.inr (some 66)), .inl v, .inl i] M K := by
  refine Cal.of (by decide) (Nat.le_of_ble_eq_true rfl) rfl (gX11_item_0 ?_)
  refine c11_isSheet (fun p q => b1 ?_) (fun p => b0 (kv h (by unfold itemR; rw [if_pos (by omega)]; rfl)))
  have hv := hs v.toNat (by omega)
  refine ⟨by omega, ?_⟩
  rw [w32_eq (by omega) (by omega)]
  refine c11_in (fun p2 q2 => b1 ?_) (fun p2 => b0 (kv h (by unfold itemR; rw [if_pos (by omega)]; rfl)))
  refine c11_itemOf (s := v.toNat) (i := i.toNat) (by omega) (by omega) (by omega) (by omega) ?_
  exact kv h (by unfold itemR; rw [if_neg (by omega)])
def copR (so sz : Nat → Int) (v i w j n : Int) : Int := if v < 0 ∨ 3 < v ∨ w < 0 ∨ 3 < w then -2 else if so v.toNat < 0 ∨ so w.toNat < 0 then -11 else if so v.toNat ≠ so w.toNat then -13 else if n < 0 ∨ i < 0 ∨ j < 0 ∨ sz v.toNat - n < i ∨ sz w.toNat - n < j then -12 else n
def copB (so sz : Nat → Int) (v i w j n : Int) : Prop := ¬ (v < 0 ∨ 3 < v ∨ w < 0 ∨ 3 < w) ∧ ¬ (so v.toNat < 0 ∨ so w.toNat < 0) ∧ so v.toNat = so w.toNat ∧ ¬ (n < 0 ∨ i < 0 ∨ j < 0 ∨ sz v.toNat - n < i ∨ sz w.toNat - n < j)
/-- n items from place a on come to place b -/
def mvT (it : Nat → Int) (a b n : Nat) : Nat → Int := fun k => if b ≤ k ∧ k < b + n then it (a + (k - b)) else it k
theorem c11_copy {v i w j n : Int} (hs : shW (M 80) (M 81)) (h1 : copB (M 80) (M 81) v i w j n → ∀ M', Fr (fun c _ => c == 83) (mset M 82 (mvT (M 82) (40 * v.toNat + i.toNat) (40 * w.toNat + j.toNat) n.toNat)) M' → K n M') (h0 : copR (M 80) (M 81) v i w j n < 0 → K (copR (M 80) (M 81) v i w j n) M) : CalI G miX11_copy (d + 2) [.inr (.inr (some 66)), .inl v, .inl i, .inl w, .inl j, .inl n] M K := by
  have bad2 : (v < 0 ∨ 3 < v ∨ w < 0 ∨ 3 < w) → K (-2) M := fun hb => by
    have e : copR (M 80) (M 81) v i w j n = -2 := by unfold copR; rw [if_pos hb]
    rw [e] at h0; exact h0 (by decide)
  refine Cal.rng (fun hok _ => ?_)
  have hI : -2147483648 ≤ n ∧ n ≤ 2147483647 := hok (.inl n) (by simp)
  refine Cal.of (by decide) (Nat.le_of_ble_eq_true rfl) rfl (gX11_copy_0 ?_)
  refine c11_isSheet (fun p q => b1 ?_) (fun p => b0 (bad2 (by omega)))
  refine c11_isSheet (fun p2 q2 => n1 ?_) (fun p2 => n0 (bad2 (by omega)))
  have hb1 : ¬ (v < 0 ∨ 3 < v ∨ w < 0 ∨ 3 < w) := by omega
  have hv := hs v.toNat (by omega)
  have hv2 := hs w.toNat (by omega)
  have bad11 : (M 80 v.toNat < 0 ∨ M 80 w.toNat < 0) → K (-11) M := fun hb => by
    have e : copR (M 80) (M 81) v i w j n = -11 := by unfold copR; rw [if_neg hb1, if_pos hb]
    rw [e] at h0; exact h0 (by decide)
  refine ⟨by omega, fun c => bad11 (.inl c), fun c => ⟨by omega, fun c2 => ⟨by omega, by omega, fun c3 => ?_, fun c3 => ?_⟩, fun c2 => bad11 (.inr c2)⟩⟩
  · have bad12 : (n < 0 ∨ i < 0 ∨ j < 0 ∨ M 81 v.toNat - n < i ∨ M 81 w.toNat - n < j) → K (-12) M := fun hb => by
      have e : copR (M 80) (M 81) v i w j n = -12 := by unfold copR; rw [if_neg hb1, if_neg (by omega), if_neg (by omega), if_pos hb]
      rw [e] at h0; exact h0 (by decide)
    refine ⟨fun c4 => bad12 (.inl c4), fun c4 => ⟨fun c5 => bad12 (by omega), fun c5 => ⟨fun c6 => bad12 (by omega), fun c6 => ⟨by omega, fun c7 => ?_, fun c7 => ⟨by omega, fun c8 => ?_, fun c8 => ?_⟩⟩⟩⟩⟩
    · by_cases hn : n ≤ 1000
      · rw [w32_eq (by omega) (by omega)] at c7; exact bad12 (by omega)
      · exact bad12 (by omega)
    · by_cases hn : n ≤ 1000
      · rw [w32_eq (by omega) (by omega)] at c7 c8
        have hok : copB (M 80) (M 81) v i w j n := ⟨hb1, by omega, c3, by omega⟩
        have h1' := h1 hok
        obtain ⟨nn, hnn⟩ : ∃ nn : Nat, n = (nn : Int) := ⟨n.toNat, by omega⟩
        subst hnn
        rw [Int.toNat_natCast] at h1'
        refine dn (P := fun k => ∀ M' : Mem, Fr (fun c _ => c == 83) M M' → (∀ q, q < k → M' 83 q = M 82 (40 * v.toNat + i.toNat + q)) → OkI G miX11_copy (d + 2) K 103 [some (.inr (.inr (some 66))), some (.inl v), some (.inl i), some (.inl w), some (.inl j), some (.inl (nn : Int)), some (.inl (k : Int))] [] M') nn ?_ (fun k hk ih => ?_) 0 (Nat.zero_le _) M Fr.rf (fun q hq => absurd hq (Nat.not_lt_zero _))
        · intro M' hf h83
          refine gX11_copy_103 ⟨fun _ => ?_, fun c => absurd c (by omega)⟩
          have key := dn (P := fun k => OkI G miX11_copy (d + 2) K 135 [some (.inr (.inr (some 66))), none, none, some (.inl w), some (.inl j), some (.inl (nn : Int)), some (.inl (k : Int))] [] (mset M' 82 (mvT (M 82) (40 * v.toNat + i.toNat) (40 * w.toNat + j.toNat) k))) nn ?_ (fun k hk ih2 => ?_) 0 (Nat.zero_le _)
          · have e0 : mvT (M 82) (40 * v.toNat + i.toNat) (40 * w.toNat + j.toNat) 0 = M' 82 := by
              funext q; unfold mvT; rw [if_neg (by omega), hf 82 q rfl]
            rw [e0, mset_self] at key; exact key
          · refine gX11_copy_135 ⟨fun _ => h1' _ (fun c q hc => ?_), fun c => absurd c (by omega)⟩
            unfold mset; split
            · rfl
            · exact hf c q hc
          · refine gX11_copy_135 ⟨fun c => absurd c (by omega), fun _ => ⟨by omega, by omega, ?_⟩⟩
            rw [w32n (by omega), Int.toNat_natCast, mset_ne _ (by decide), h83 k hk, show (((40 * w) + j) + (k : Int)).toNat = 40 * w.toNat + j.toNat + k by omega, mup_mset, mset_at, mset_mset]
            have e2 : fup (mvT (M 82) (40 * v.toNat + i.toNat) (40 * w.toNat + j.toNat) k) (40 * w.toNat + j.toNat + k) (M 82 (40 * v.toNat + i.toNat + k)) = mvT (M 82) (40 * v.toNat + i.toNat) (40 * w.toNat + j.toNat) (k + 1) := by
              funext q; unfold fup mvT
              by_cases q1 : q = 40 * w.toNat + j.toNat + k
              · rw [if_pos q1, if_pos (by omega)]; congr 1; omega
              · rw [if_neg q1]
                by_cases q2 : 40 * w.toNat + j.toNat ≤ q ∧ q < 40 * w.toNat + j.toNat + k
                · rw [if_pos q2, if_pos (by omega)]
                · rw [if_neg q2, if_neg (by omega)]
            rw [e2]; exact ih2
        · intro M' hf h83
          refine gX11_copy_103 ⟨fun c => absurd c (by omega), fun _ => ?_⟩
          rw [w32_eq (x := i + (k : Int)) (by omega) (by omega)]
          refine c11_itemOf (s := v.toNat) (i := i.toNat + k) (by omega) (by omega) (by omega) (by omega) ⟨by omega, ?_⟩
          rw [w32n (by omega), Int.toNat_natCast]
          refine ih _ (hf.up rfl) (fun q hq => ?_)
          by_cases e : q = k
          · subst e; rw [mup_at, hf 82 _ rfl, Nat.add_assoc]
          · rw [mup_at_ne e]; exact h83 q (by omega)
      · exfalso
        rw [w32_eq (by omega) (by omega)] at c7
        omega
    · by_cases hn : n ≤ 1000
      · rw [w32_eq (by omega) (by omega)] at c8; exact bad12 (by omega)
      · exact bad12 (by omega)
  · have e : copR (M 80) (M 81) v i w j n = -13 := by unfold copR; rw [if_neg hb1, if_neg (by omega), if_pos c3]
    rw [e] at h0; exact h0 (by decide)
end REFR
