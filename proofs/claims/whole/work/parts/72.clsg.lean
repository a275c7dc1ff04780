/-! the class: the best cover, read -/
theorem sumT_front (f : Nat → Int) : ∀ n, sumT f (n + 1) = f 0 + sumT (fun i => f (i + 1)) n := by
  intro n
  induction n with
  | zero => show 0 + f 0 = f 0 + 0; omega
  | succ n ih =>
    have e1 : sumT f (n + 1 + 1) = sumT f (n + 1) + f (n + 1) := rfl
    have e2 : sumT (fun i => f (i + 1)) (n + 1) = sumT (fun i => f (i + 1)) n + f (n + 1) := rfl
    rw [e1, e2, ih]; omega
def lsum (φ : Nat → Int) : List Nat → Int
  | [] => 0
  | a :: L => φ a + lsum φ L
theorem lsum_T (φ : Nat → Int) : ∀ L : List Nat, sumT (fun i => φ (L.getD i 0)) L.length = lsum φ L := by
  intro L
  induction L with
  | nil => rfl
  | cons a L ih =>
    rw [List.length_cons, sumT_front, lsum, ← ih]
    rfl
theorem tot_none {q : Nat → Int} (hw : WF q) (hc : ¬ covB q) : (totF (hadF q) (allF q)).2 = 0 ∧ allF q ≠ 0 := by
  have h0 : allF q ≠ 0 := fun z => hc (by unfold covB totG; rw [z, totF_0]; decide)
  refine ⟨?_, h0⟩
  rcases totF_inv (hadF_ok hw) (pow_le7 hw.n.2) (allF q) allF_lt h0 with h | ⟨h, -⟩
  · rw [h]
  · exfalso; apply hc
    have := cnt_le (allF q)
    unfold covB totG; omega
section CLSG
variable {G : GE} {d : Nat} {M : Mem} {K : Int → Mem → Prop}
theorem c1_leastTotal {t : Nat} {g q : Nat → Int} (ht : t = 28 ∨ t = 39) (hC : Cq t g q M) (h : K (enT (totG q)) M) : CalI G miX1_leastTotal (d + 1) [.inr (.inr (some t))] M K := by
  have hN := pow_le7 hC.2.2.1.n.2
  have hl := allF_lt (g := q)
  refine Cal.of (by decide) (Nat.le_of_ble_eq_true rfl) rfl (gX1_leastTotal_0 ht (cq_all hC ⟨by omega, ?_⟩))
  rw [Int.toNat_natCast, (hC.1.2.2 (allF q) hl).2]; exact h
theorem c1_hasCover {t : Nat} {g q : Nat → Int} (ht : t = 28 ∨ t = 39) (hC : Cq t g q M) (h1 : covB q → K 1 M) (h0 : ¬ covB q → K 0 M) : CalI G miX1_hasCover (d + 2) [.inr (.inr (some t))] M K := by
  refine Cal.of (by decide) (Nat.le_of_ble_eq_true rfl) rfl (gX1_hasCover_0 ht (c1_leastTotal ht hC ?_))
  by_cases c : covB q
  · have := totG_nn hC.2.2.1 c
    have e : enT (totG q) = totG q := if_pos c
    rw [e]
    exact ⟨fun z => absurd z (by omega), fun _ => h1 c⟩
  · have e : enT (totG q) = -1 := if_neg c
    rw [e]
    exact ⟨fun _ => h0 c, fun z => absurd rfl z⟩
/-- a step along the chain -/
theorem ch_step {t : Nat} {g q : Nat → Int} (hC : Cq t g q M) {F : Nat} (hF : F < 2 ^ nF q) (ht : (totF (hadF q) F).1 < 1000000) : M (t + 4) F = (if F = 0 then (0 : Int) else (fsF (hadF q) F : Int)) ∧ (F ≠ 0 → fsF (hadF q) F ≠ 0 ∧ fsF (hadF q) F < 2 ^ nF q ∧ 0 ≤ hadF q (fsF (hadF q) F) ∧ sdf F (fsF (hadF q) F) < F ∧ (totF (hadF q) (sdf F (fsF (hadF q) F))).1 < 1000000 ∧ ∀ f, chL (fsF (hadF q)) (f + 1) F = fsF (hadF q) F :: chL (fsF (hadF q)) f (sdf F (fsF (hadF q) F))) := by
  have a := (hC.1.2.2 F hF).1
  by_cases h0 : F = 0
  · subst h0
    rw [if_pos rfl, a, totF_0]
    exact ⟨rfl, fun z => absurd rfl z⟩
  · obtain ⟨s0, s1, s2, s3, s4, s5, s6⟩ := fs_ok (hadF_ok hC.2.2.1) (pow_le7 hC.2.2.1.n.2) hF h0 ht
    rw [if_neg h0, a, s6]
    exact ⟨rfl, fun _ => ⟨s0, by omega, s3, sdf_lt s2 s0, s5, fun f => by rw [chL, if_neg h0]⟩⟩
theorem chL_0 (fst : Nat → Nat) (f : Nat) : chL fst f 0 = [] := by
  cases f with
  | zero => rfl
  | succ f => rw [chL, if_pos rfl]
theorem c1_bestSets {t : Nat} {g q : Nat → Int} (ht : t = 28 ∨ t = 39) (hC : Cq t g q M) (hc : covB q) (h : K ((bestL q).length : Int) M) : CalI G miX1_bestSets (d + 1) [.inr (.inr (some t))] M K := by
  have hN := pow_le7 hC.2.2.1.n.2
  have hl := allF_lt (g := q)
  refine Cal.of (by decide) (Nat.le_of_ble_eq_true rfl) rfl (gX1_bestSets_0 ht (cq_all hC ?_))
  have go : ∀ f, f ≤ 7 → ∀ F c : Nat, F < 2 ^ nF q → (totF (hadF q) F).1 < 1000000 → c + f ≤ 7 → K ((c + (chL (fsF (hadF q)) f F).length : Nat) : Int) M → OkI G miX1_bestSets (d + 1) K 12 [some (.inr (.inr (some t))), some (.inl (c : Int)), some (.inl (F : Int)), some (.inl ((7 - f : Nat) : Int))] [] M := by
    intro f
    induction f with
    | zero => intro _ F c hF htt hcf hk
              exact gX1_bestSets_12 ht ⟨fun _ => hk, fun c => absurd c (by decide)⟩
    | succ f ih =>
      intro hf7 F c hF htt hcf hk
      obtain ⟨a, b⟩ := ch_step hC hF htt
      refine gX1_bestSets_12 ht ⟨fun z => absurd z (by omega), fun _ => ⟨by omega, ?_⟩⟩
      rw [Int.toNat_natCast, a]
      by_cases h0 : F = 0
      · subst h0
        rw [chL_0] at hk
        rw [if_pos rfl]
        exact ⟨fun _ => hk, fun z => absurd rfl z⟩
      · obtain ⟨b1', b2', b3', b4', b5', b6'⟩ := b h0
        rw [if_neg h0]
        refine ⟨fun z => absurd z (by omega), fun _ => ⟨by omega, ?_⟩⟩
        rw [iandnN F (by omega) _ (by omega), w32n (k := c) (by omega), show (((7 - (f + 1) : Nat) : Int)) = ((7 - (f + 1) : Nat) : Int) from rfl, w32n (k := 7 - (f + 1)) (by omega), show 7 - (f + 1) + 1 = 7 - f by omega]
        refine ih (by omega) _ (c + 1) (by omega) b5' (by omega) ?_
        rw [b6', List.length_cons] at hk
        rw [show c + 1 + (chL (fsF (hadF q)) f (sdf F (fsF (hadF q) F))).length = c + ((chL (fsF (hadF q)) f (sdf F (fsF (hadF q) F))).length + 1) by omega]
        exact hk
  refine go 7 (Nat.le_refl _) (allF q) 0 hl hc (by omega) ?_
  rw [Nat.zero_add]; exact h
theorem c1_isHad {t : Nat} {g q : Nat → Int} {v : Int} (ht : t = 28 ∨ t = 39) (hC : Cq t g q M) (h1 : ∀ s : Nat, v = (s : Int) → s ≠ 0 → s < 2 ^ nF q → 0 ≤ hadF q s → K 1 M) (h0 : ¬ (1 ≤ v ∧ v < ((2 ^ nF q : Nat) : Int) ∧ 0 ≤ hadF q v.toNat) → K 0 M) : CalI G miX1_isHad (d + 1) [.inr (.inr (some t)), .inr (.inl v)] M K := by
  have hN := pow_le7 hC.2.2.1.n.2
  have hac := allF_cast q
  refine Cal.of (by decide) (Nat.le_of_ble_eq_true rfl) rfl (gX1_isHad_0 ht ⟨fun c => h0 (by omega), fun c => cq_all hC ⟨fun c2 => h0 (by omega), fun c2 => ?_⟩⟩)
  obtain ⟨s, rfl⟩ : ∃ s : Nat, v = (s : Int) := ⟨v.toNat, by omega⟩
  have hs : s < 2 ^ nF q := by omega
  have hs0 : s ≠ 0 := by omega
  have hb := hadF_bd hC.2.2.1 hs0
  rw [w32_eq (by omega) (by omega), Int.toNat_natCast, (hC.1.2.1 s hs0 hs).2.1]
  refine ⟨by omega, fun c3 => h0 (fun z => ?_), fun c3 => h1 s rfl hs0 hs (by omega)⟩
  have := z.2.2
  rw [Int.toNat_natCast] at this; omega
theorem c1_costOf {t : Nat} {g q : Nat → Int} {v : Int} {s : Nat} (ht : t = 28 ∨ t = 39) (hC : Cq t g q M) (e : v = (s : Int)) (h0 : s ≠ 0) (hs : s < 2 ^ nF q) (hh : 0 ≤ hadF q s) (h : K (hadF q s) M) : CalI G miX1_costOf (d + 2) [.inr (.inr (some t)), .inr (.inl v)] M K := by
  subst e
  have hN := pow_le7 hC.2.2.1.n.2
  refine Cal.of (by decide) (Nat.le_of_ble_eq_true rfl) rfl (gX1_costOf_0 ht (c1_isHad ht hC (fun x ex x0 xs xh => b1 ?_) (fun c => absurd (show 1 ≤ (s : Int) ∧ (s : Int) < ((2 ^ nF q : Nat) : Int) ∧ 0 ≤ hadF q ((s : Int)).toNat from ⟨by omega, by omega, by rw [Int.toNat_natCast]; exact hh⟩) c)))
  rw [w32_eq (by omega) (by omega), Int.toNat_natCast, (hC.1.2.1 s h0 hs).2.1]
  exact ⟨by omega, h⟩
theorem c1_alongWith {t : Nat} {g q : Nat → Int} {v : Int} {s : Nat} (ht : t = 28 ∨ t = 39) (hC : Cq t g q M) (e : v = (s : Int)) (h0 : s ≠ 0) (hs : s < 2 ^ nF q) (hh : 0 ≤ hadF q s) (h : K (alF q s) M) : CalI G miX1_alongWith (d + 2) [.inr (.inr (some t)), .inr (.inl v)] M K := by
  subst e
  have hN := pow_le7 hC.2.2.1.n.2
  refine Cal.of (by decide) (Nat.le_of_ble_eq_true rfl) rfl (gX1_alongWith_0 ht (c1_isHad ht hC (fun x ex x0 xs xh => b1 ?_) (fun c => absurd (show 1 ≤ (s : Int) ∧ (s : Int) < ((2 ^ nF q : Nat) : Int) ∧ 0 ≤ hadF q ((s : Int)).toNat from ⟨by omega, by omega, by rw [Int.toNat_natCast]; exact hh⟩) c)))
  obtain ⟨p, p1, p2, p3, p4⟩ := byF_ok hC.2.2.1 h0 hh
  rw [w32_eq (by omega) (by omega), Int.toNat_natCast, (hC.1.2.1 s h0 hs).2.2, p1, iandnN p (by omega) s (by omega)]
  have hsd := sdf_of_sub p2
  have hcs := cnt_sdf hsd
  refine ⟨by omega, cJ_bitCount rfl (by have := sdf_lt hsd h0; omega) ?_⟩
  unfold alF at h
  rw [p1, Int.toNat_natCast] at h
  rw [show (cnt (sdf p s) : Int) = (cnt p : Int) - cnt s by omega]; exact h
theorem c1_bestAlong {t : Nat} {g q : Nat → Int} (ht : t = 28 ∨ t = 39) (hC : Cq t g q M) (hc : covB q) (h : K (sumT (fun i => alF q (bsI q i)) (bestL q).length) M) : CalI G miX1_bestAlong (d + 3) [.inr (.inr (some t))] M K := by
  have hN := pow_le7 hC.2.2.1.n.2
  have hl := allF_lt (g := q)
  have e0 : sumT (fun i => alF q (bsI q i)) (bestL q).length = lsum (alF q) (bestL q) := lsum_T (alF q) (bestL q)
  rw [e0] at h
  refine Cal.of (by decide) (Nat.le_of_ble_eq_true rfl) rfl (gX1_bestAlong_0 ht (cq_all hC ?_))
  have go : ∀ f : Nat, f ≤ 7 → ∀ (F : Nat) (c : Int), F < 2 ^ nF q → (totF (hadF q) F).1 < 1000000 → (0 ≤ c ∧ c ≤ 7 * (7 - (f : Int))) → K (c + lsum (alF q) (chL (fsF (hadF q)) f F)) M → OkI G miX1_bestAlong (d + 3) K 12 [some (.inr (.inr (some t))), some (.inl c), some (.inl (F : Int)), some (.inl ((7 - f : Nat) : Int))] [] M := by
    intro f
    induction f with
    | zero => intro _ F c hF htt hcf hk
              refine gX1_bestAlong_12 ht ⟨fun _ => ?_, fun c => absurd c (by decide)⟩
              have e : c + lsum (alF q) (chL (fsF (hadF q)) 0 F) = c := by show c + 0 = c; omega
              rw [e] at hk; exact hk
    | succ f ih =>
      intro hf7 F c hF htt hcf hk
      obtain ⟨a, b⟩ := ch_step hC hF htt
      refine gX1_bestAlong_12 ht ⟨fun z => absurd z (by omega), fun _ => ⟨by omega, ?_⟩⟩
      rw [Int.toNat_natCast, a]
      by_cases h0 : F = 0
      · subst h0
        rw [chL_0] at hk
        have e : c + lsum (alF q) [] = c := by show c + 0 = c; omega
        rw [e] at hk
        rw [if_pos rfl]
        exact ⟨fun _ => hk, fun z => absurd rfl z⟩
      · obtain ⟨b1', b2', b3', b4', b5', b6'⟩ := b h0
        rw [if_neg h0]
        refine ⟨fun z => absurd z (by omega), fun _ => ⟨by omega, ?_⟩⟩
        refine c1_alongWith ht hC rfl b1' b2' b3' ⟨by omega, ?_⟩
        have hab := alF_bd hC.2.2.1 b1' b3'
        rw [a, if_neg h0, iandnN F (by omega) _ (by omega), w32_eq (x := c + alF q (fsF (hadF q) F)) (by omega) (by omega), w32n (k := 7 - (f + 1)) (by omega), show 7 - (f + 1) + 1 = 7 - f by omega]
        refine ih (by omega) _ _ (by omega) b5' (by omega) ?_
        rw [b6', lsum, ← Int.add_assoc] at hk
        exact hk
  refine go 7 (Nat.le_refl _) (allF q) 0 hl hc (by omega) ?_
  rw [Int.zero_add]; exact h
theorem c1_bestSetWith {t : Nat} {g q : Nat → Int} {v : Int} {x : Nat} (ht : t = 28 ∨ t = 39) (hC : Cq t g q M) (e : v = (x : Int)) (hx : x < 7) (h1 : covB q → K (fdI ((bestL q).find? (fun s => s.testBit x))) M) (h0 : ¬ covB q → K (-1) M) : CalI G miX1_bestSetWith (d + 1) [.inr (.inr (some t)), .inl v] M K := by
  subst e
  have hN := pow_le7 hC.2.2.1.n.2
  have hl := allF_lt (g := q)
  refine Cal.of (by decide) (Nat.le_of_ble_eq_true rfl) rfl (gX1_bestSetWith_0 ht (cq_all hC ?_))
  by_cases hc : covB q
  · have go : ∀ f, f ≤ 7 → ∀ F : Nat, F < 2 ^ nF q → (totF (hadF q) F).1 < 1000000 → K (fdI ((chL (fsF (hadF q)) f F).find? (fun s => s.testBit x))) M → OkI G miX1_bestSetWith (d + 1) K 10 [some (.inr (.inr (some t))), some (.inl (x : Int)), some (.inl (F : Int)), some (.inl ((7 - f : Nat) : Int)), none] [] M := by
      intro f
      induction f with
      | zero => intro _ F hF htt hk
                exact gX1_bestSetWith_10 ht ⟨fun _ => hk, fun c => absurd c (by decide)⟩
      | succ f ih =>
        intro hf7 F hF htt hk
        obtain ⟨a, b⟩ := ch_step hC hF htt
        refine gX1_bestSetWith_10 ht ⟨fun z => absurd z (by omega), fun _ => ⟨by omega, ?_⟩⟩
        rw [Int.toNat_natCast, a]
        by_cases h0 : F = 0
        · subst h0
          rw [chL_0] at hk
          rw [if_pos rfl]
          exact ⟨fun _ => hk, fun z => absurd rfl z⟩
        · obtain ⟨b1', b2', b3', b4', b5', b6'⟩ := b h0
          rw [if_neg h0]
          rw [b6', List.find?_cons] at hk
          refine ⟨fun z => absurd z (by omega), fun _ => ⟨by omega, fun c => ?_, fun c => ?_⟩⟩
          · have hb := (bit0 (by omega) (by omega)).mp c
            rw [hb] at hk
            rw [iandnN F (by omega) _ (by omega), w32n (k := 7 - (f + 1)) (by omega), show 7 - (f + 1) + 1 = 7 - f by omega]
            exact ih (by omega) _ (by omega) b5' hk
          · have hb : (fsF (hadF q) F).testBit x = true := by
              cases hq : (fsF (hadF q) F).testBit x with
              | true => rfl
              | false => exact absurd ((bit0 (by omega) (by omega)).mpr hq) c
            rw [hb] at hk
            exact hk
    exact go 7 (Nat.le_refl _) (allF q) hl hc (h1 hc)
  · have hz := (tot_none hC.2.2.1 hc).1
    refine gX1_bestSetWith_10 ht ⟨fun z => absurd z (by decide), fun _ => ⟨by omega, ?_⟩⟩
    rw [Int.toNat_natCast, (hC.1.2.2 _ hl).1, hz]
    exact ⟨fun _ => h0 hc, fun z => absurd rfl z⟩
/-- prices told, as a sum over a set -/
def psF (p : Nat → Int) (s : Nat) : Nat → Int := sumT (fun f => bitI s f * p f)
def unfB2 (q p : Nat → Int) (n : Int) (s : Nat) : Bool := decide (1 ≤ s) && (decide (0 ≤ hadF q s) && decide (n * hadF q s < psF p s (nF q)))
theorem psF_bd {p : Nat → Int} {s : Nat} : ∀ k, (∀ f, f < k → -999999 ≤ p f ∧ p f ≤ 999999) → -999999 * (k : Int) ≤ psF p s k ∧ psF p s k ≤ 999999 * (k : Int) := by
  intro k
  induction k with
  | zero => intro _; exact ⟨by show (-999999 : Int) * 0 ≤ 0; decide, by show (0 : Int) ≤ 999999 * 0; decide⟩
  | succ k ih =>
    intro h
    have a := ih (fun f hf => h f (by omega))
    have b := h k (by omega)
    have e : psF p s (k + 1) = psF p s k + bitI s k * p k := rfl
    rw [e]
    unfold bitI
    split <;> omega
theorem c1_firstUnfair {t : Nat} {g q p : Nat → Int} {n : Int} (ht : t = 28 ∨ t = 39) (hC : Cq t g q M) (h65 : ∀ f, f < nF q → M 65 f = p f) (hp : ∀ f, f < nF q → -999999 ≤ p f ∧ p f ≤ 999999) (hn1 : 1 ≤ n ∧ n ≤ 99) (h : K (fdI ((List.range (2 ^ nF q)).find? (unfB2 q p n))) M) : CalI G miX1_firstUnfair (d + 1) [.inr (.inr (some t)), .inr (.inr (some 65)), .inl n] M K := by
  have hwq := hC.2.2.1
  have hn := hwq.n
  have hN := pow_le7 hn.2
  have hac := allF_cast q
  have h8 : M 1 8 = (nF q : Int) := by rw [ag_nF hC.2.2.2]; exact hC.1.1.n hC.2.1
  refine Cal.of (by decide) (Nat.le_of_ble_eq_true rfl) rfl (gX1_firstUnfair_0 ht ?_)
  have key := dn (P := fun s => 1 ≤ s → (∀ x, x < s → unfB2 q p n x = false) → OkI G miX1_firstUnfair (d + 1) K 2 [some (.inr (.inr (some t))), some (.inr (.inr (some 65))), some (.inl n), some (.inl (s : Int)), none, none, none] [] M) (2 ^ nF q) ?_ (fun s hs ih => ?_) 1 (pow_pos2 _) (Nat.le_refl _) (fun x hx => by rw [show x = 0 by omega]; unfold unfB2; simp)
  · exact key
  · intro _ hno
    refine gX1_firstUnfair_2 ht (cq_all hC ⟨fun _ => ?_, fun c => absurd c (by omega)⟩)
    have : (List.range (2 ^ nF q)).find? (unfB2 q p n) = none := List.find?_eq_none.mpr (fun x hx => by rw [hno x (List.mem_range.mp hx)]; decide)
    rw [this] at h; exact h
  · intro hs1 hno
    have hb := hadF_bd hwq (s := s) (by omega)
    have nx : unfB2 q p n s = false → OkI G miX1_firstUnfair (d + 1) K 2 [some (.inr (.inr (some t))), some (.inr (.inr (some 65))), some (.inl n), some (.inl (w32 ((s : Int) + 1))), none, none, none] [] M := fun hf => by
      rw [w32n (by omega)]
      refine ih (by omega) (fun x hx => ?_)
      by_cases e : x = s
      · subst e; exact hf
      · exact hno x (by omega)
    refine gX1_firstUnfair_2 ht (cq_all hC ⟨fun c => absurd c (by omega), fun _ => ?_⟩)
    have key := dn (P := fun k => OkI G miX1_firstUnfair (d + 1) K 19 [some (.inr (.inr (some t))), some (.inr (.inr (some 65))), some (.inl n), some (.inl (s : Int)), some (.inr (.inl (psF p s k))), none, some (.inl (k : Int))] [] M) (nF q) ?_ (fun k hk ih2 => ?_) 0 (Nat.zero_le _)
    · exact key
    · have pb := psF_bd (s := s) (nF q) hp
      refine gX1_firstUnfair_19 ht ⟨fun _ => ⟨by omega, ?_⟩, fun c => absurd c (by rw [h8]; omega)⟩
      rw [Int.toNat_natCast, (hC.1.2.1 s (by omega) hs).2.1]
      refine ⟨fun c => nx ?_, fun c => ⟨by omega, ?_⟩⟩
      · unfold unfB2; rw [c]; simp
      · have hm := mul_bd (A := 99) (B := 4893) (a := n) (b := hadF q s) (by omega) (by omega)
        rw [w64_eq (x := n * hadF q s) (by omega) (by omega)]
        refine ⟨fun c2 => nx ?_, fun c2 => ?_⟩
        · unfold unfB2
          rw [decide_eq_false (p := n * hadF q s < psF p s (nF q)) (by omega)]; simp
        · have hu : unfB2 q p n s = true := by
            unfold unfB2
            rw [decide_eq_true hs1, decide_eq_true (p := 0 ≤ hadF q s) (by omega), decide_eq_true c2]; rfl
          have : (List.range (2 ^ nF q)).find? (unfB2 q p n) = some s := by
            rw [List.find?_range_eq_some]
            exact ⟨hu, List.mem_range.mpr hs, fun j hj => by rw [hno j hj]; rfl⟩
          rw [this] at h; exact h
    · have pb := psF_bd (s := s) k (fun f hf => hp f (by omega))
      have pk := hp k hk
      refine gX1_firstUnfair_19 ht ⟨fun c => absurd c (by rw [h8]; omega), fun _ => ⟨by omega, ?_⟩⟩
      rw [Int.toNat_natCast, h65 k hk, bitN (by omega) (by omega), w32n (k := k) (by omega)]
      have e : psF p s (k + 1) = psF p s k + (if s.testBit k = true then 1 else 0) * p k := rfl
      rw [← e]
      have pb2 := psF_bd (s := s) (k + 1) (fun f hf => hp f (by omega))
      rw [w64_eq (by omega) (by omega)]
      exact ih2
end CLSG
