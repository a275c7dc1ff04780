/-! the class: film, count, image, back -/
theorem n3_c (M : Mem) (so sz it : Nat → Int) : (n3 M so sz it) 62 = so ∧ (n3 M so sz it) 63 = sz ∧ (n3 M so sz it) 64 = it := by
  unfold n3
  exact ⟨by rw [mset_ne _ (by decide), mset_ne _ (by decide), mset_at], by rw [mset_ne _ (by decide), mset_at], by rw [mset_at]⟩
theorem n3_ne (M : Mem) (so sz it : Nat → Int) {c : Nat} (h : c < 62 ∨ 64 < c) : (n3 M so sz it) c = M c := by
  unfold n3; rw [mset_ne _ (by omega), mset_ne _ (by omega), mset_ne _ (by omega)]
theorem n3_rg (M : Mem) (so sz it : Nat → Int) : Fr (rg 62 64) M (n3 M so sz it) := fun c i hc => by rw [n3_ne M so sz it (by have := rg_of hc; omega)]
theorem sumT_app (f : Nat → Int) (a : Nat) : ∀ b, sumT f (a + b) = sumT f a + sumT (fun i => f (a + i)) b := by
  intro b
  induction b with
  | zero => show sumT f a = sumT f a + 0; omega
  | succ b ih =>
    have e1 : sumT f (a + (b + 1)) = sumT f (a + b) + f (a + b) := rfl
    have e2 : sumT (fun i => f (a + i)) (b + 1) = sumT (fun i => f (a + i)) b + f (a + b) := rfl
    rw [e1, e2, ih]; omega
theorem sumT_grid (f : Nat → Int) : ∀ m, sumT f (7 * m) = sumT (fun a => sumT (fun b => f (7 * a + b)) 7) m := by
  intro m
  induction m with
  | zero => rfl
  | succ m ih =>
    rw [show 7 * (m + 1) = 7 * m + 7 by omega, sumT_app, ih]; rfl
theorem sumT_cut {f : Nat → Int} {n : Nat} : ∀ m, n ≤ m → (∀ j, n ≤ j → j < m → f j = 0) → sumT f m = sumT f n := by
  intro m
  induction m with
  | zero => intro h _; have : n = 0 := by omega
            subst this; rfl
  | succ m ih =>
    intro h hz
    by_cases e : n = m + 1
    · subst e; rfl
    · have e1 : sumT f (m + 1) = sumT f m + f m := rfl
      rw [e1, ih (by omega) (fun j h1 h2 => hz j h1 (by omega)), hz m (by omega) (by omega)]; omega
def mk1 (g : Nat → Int) (i : Nat) : Int := if g (29 + i) = 0 then 0 else 1
theorem mk_two {g : Nat → Int} (hw : WF g) : sumT (mk1 g) 49 = twoS g true := by
  have hn := hw.n
  have z := hw.2.2.2.2.2.2.2
  have nn := hw.2.2.2.2.2.2.1
  have e0 : sumT (mk1 g) 49 = sumT (fun a => sumT (fun b => mk1 g (7 * a + b)) 7) 7 := sumT_grid (mk1 g) 7
  have zero : ∀ a b, a < 7 → b < 7 → (nF g ≤ a ∨ nF g ≤ b) → mk1 g (7 * a + b) = 0 := fun a b ha hb hab => by
    unfold mk1; rw [z a b ha hb (by omega), if_pos rfl]
  have s0 : ∀ n, sumT (fun _ => (0 : Int)) n = 0 := fun n => by
    induction n with
    | zero => rfl
    | succ n ih => simp only [sumT, ih]; rfl
  rw [e0, sumT_cut (n := nF g) 7 hn.2 (fun a h1 h2 => by
    rw [sumT_congr (h := fun _ => 0) (fun b hb => zero a b h2 hb (.inl h1)), s0])]
  unfold twoS
  refine sumT_congr (fun a ha => ?_)
  rw [sumT_cut (n := nF g) 7 hn.2 (fun b h1 h2 => zero a b (by omega) h2 (.inr h1))]
  refine sumT_congr (fun b hb => ?_)
  have q := nn (7 * a + b) (by omega)
  unfold mk1 two1
  rw [if_pos rfl]
  by_cases c : g (29 + (7 * a + b)) = 0
  · rw [if_pos c, if_neg (by omega)]
  · rw [if_neg c, if_pos (by omega)]
theorem folT_bit (g : Nat → Int) (f : Nat) (w : Int) (j : Nat) : ∀ k, (folT g f w k).testBit j = (decide (j < k) && fol1 g f w j) := by
  intro k
  induction k with
  | zero => simp [folT]
  | succ k ih =>
    have e : folT g f w (k + 1) = if fol1 g f w k = true then folT g f w k ||| 2 ^ k else folT g f w k := rfl
    rw [e]
    by_cases ej : j = k
    · subst ej
      cases hf : fol1 g f w j with
      | true => rw [if_pos rfl, Nat.testBit_or, ih, Nat.testBit_two_pow]; simp
      | false => rw [if_neg (by decide), ih]; simp
    · have : decide (j < k + 1) = decide (j < k) := by simp; omega
      rw [this]
      split
      · rw [Nat.testBit_or, ih, Nat.testBit_two_pow]; simp; intro z; omega
      · exact ih
theorem cntTo_sum (s : Nat) : ∀ k, (cntTo s k : Int) = sumT (bitI s) k := by
  intro k
  induction k with
  | zero => rfl
  | succ k ih =>
    have e : cntTo s (k + 1) = cntTo s k + (if s.testBit k = true then 1 else 0) := rfl
    have e2 : sumT (bitI s) (k + 1) = sumT (bitI s) k + bitI s k := rfl
    rw [e, e2, ← ih]
    unfold bitI; split <;> omega
theorem fol_cnt {g : Nat → Int} (hw : WF g) (f : Nat) : (cnt (folT g f 4 (nF g) ||| folT g f 5 (nF g)) : Int) = sumT (fun k => two1 g false f k) (nF g) := by
  have hn := hw.n
  unfold cnt
  have bit : ∀ j, bitI (folT g f 4 (nF g) ||| folT g f 5 (nF g)) j = if j < nF g ∧ 0 < howF g f j then 1 else 0 := fun j => by
    have hb := howF_bd g f j
    unfold bitI
    rw [Nat.testBit_or, folT_bit, folT_bit]
    have e4 : fol1 g f 4 j = decide (howF g f j = 1) := by unfold fol1; rw [if_neg (by decide), if_pos rfl]
    have e5 : fol1 g f 5 j = decide (howF g f j = 2) := by unfold fol1; rw [if_neg (by decide), if_neg (by decide)]
    rw [e4, e5]
    by_cases c : j < nF g ∧ 0 < howF g f j
    · rw [if_pos c]
      have : howF g f j = 1 ∨ howF g f j = 2 := by omega
      rcases this with q | q <;> simp [q, c.1]
    · rw [if_neg c, if_neg]
      simp
      omega
  rw [cntTo_sum, sumT_cut (n := nF g) 7 hn.2 (fun j h1 h2 => by rw [bit, if_neg (by omega)])]
  refine sumT_congr (fun j hj => ?_)
  rw [bit]
  unfold two1
  simp [hj]
section CLTC
variable {G : GE} {d : Nat} {M : Mem} {K : Int → Mem → Prop}
theorem c10_film {g : Nat → Int} {v : Int} (hC : Cs g M) (hS : ShC M) (h1 : 0 ≤ v → v ≤ 3 → covB g → ∀ M', Fr SFc (n3 M (fup (M 62) v.toNat 0) (fup (M 63) v.toNat ((bestL g).length : Int)) (filT g (M 64) v.toNat (bestL g).length)) M' → Cs g M' → K ((bestL g).length : Int) M') (h0 : filR g v < 0 → AskI g M (filR g v) K) : CalI G miX10_film (d + 6) [.inr (.inr (some 0)), .inl v] M K := by
  have hw := hC.1.2
  have hn := hw.n
  have hp7 := pow_le7 hn.2
  refine Cal.of (by decide) (Nat.le_of_ble_eq_true rfl) rfl (gX10_film_0 ?_)
  refine c7_isSheet (fun a b => n1 ?_) (fun a => n0 ?_)
  · obtain ⟨s, hs⟩ : ∃ s : Nat, v = (s : Int) := ⟨v.toNat, by omega⟩
    subst hs
    refine c10_refresh hC (fun M1 f1 hC1 wk => ?_)
    obtain ⟨e62, e63, e64⟩ := shc_same f1
    have hCq : Cq 28 g g M1 := ⟨⟨hC1.1.1, wk.2.1⟩, hw, hw, ag_rf⟩
    refine c1_hasCover (.inl rfl) hCq (fun hc => n1 ?_) (fun hc => n0 ?_)
    · have hl := bestL_len g
      have h1' := h1 a b hc
      rw [Int.toNat_natCast] at h1'
      refine c1_bestSets (.inl rfl) hCq hc ?_
      refine c7_become rfl (by omega) ?_
      rw [e62, e63, e64]
      generalize hN : (bestL g).length = N at *
      have mem : ∀ it, ∀ c i, c < 62 ∨ 64 < c → (n3 M1 (fup (M 62) s 0) (fup (M 63) s (N : Int)) it) c i = M1 c i := fun it c i hc => by rw [n3_ne _ _ _ _ hc]
      have hCn : ∀ it, Cs g (n3 M1 (fup (M 62) s 0) (fup (M 63) s (N : Int)) it) := fun it => cs_rg hC1 (n3_rg _ _ _ _) (by omega)
      have hSn : ∀ it, shW ((n3 M1 (fup (M 62) s 0) (fup (M 63) s (N : Int)) it) 62) ((n3 M1 (fup (M 62) s 0) (fup (M 63) s (N : Int)) it) 63) := fun it => by
        obtain ⟨q1, q2, -⟩ := n3_c M1 (fup (M 62) s 0) (fup (M 63) s (N : Int)) it
        rw [q1, q2]
        intro y hy
        unfold fup
        by_cases e : y = s
        · rw [if_pos e, if_pos e]; omega
        · rw [if_neg e, if_neg e]; exact hS y hy
      refine c5_allFlights (hCn _).1.1 hw ?_
      have wkn : ∀ it F, (n3 M1 (fup (M 62) s 0) (fup (M 63) s (N : Int)) it) 32 F = M1 32 F := fun it F => mem it 32 F (by omega)
      have last : ∀ it, it = filT g (M 64) s N → K (N : Int) (n3 M1 (fup (M 62) s 0) (fup (M 63) s (N : Int)) it) := fun it hit => by
        refine h1' _ (fun c i hci => ?_) (hCn it)
        rw [hit]
        by_cases c3 : c < 62 ∨ 64 < c
        · rw [n3_ne _ _ _ _ c3, n3_ne _ _ _ _ c3]; exact f1 c i hci
        · obtain ⟨q1, q2, q3⟩ := n3_c M1 (fup (M 62) s 0) (fup (M 63) s (N : Int)) (filT g (M 64) s N)
          obtain ⟨r1, r2, r3⟩ := n3_c M (fup (M 62) s 0) (fup (M 63) s (N : Int)) (filT g (M 64) s N)
          have : c = 62 ∨ c = 63 ∨ c = 64 := by omega
          rcases this with rfl | rfl | rfl
          · rw [q1, r1]
          · rw [q2, r2]
          · rw [q3, r3]
      have go : ∀ f k F : Nat, k + f = 7 → k ≤ N → F < 2 ^ nF g → (totF (hadF g) F).1 < 1000000 → chL (fsF (hadF g)) f F = (bestL g).drop k → OkI G miX10_film (d + 6) K 59 [some (.inr (.inr (some 0))), some (.inl (s : Int)), some (.inl (N : Int)), some (.inl (F : Int)), some (.inl (k : Int)), none] [] (n3 M1 (fup (M 62) s 0) (fup (M 63) s (N : Int)) (filT g (M 64) s k)) := by
        intro f
        induction f with
        | zero =>
          intro k F hk hkN _ _ _
          have e : k = N := by omega
          subst e
          exact gX10_film_59 ⟨fun _ => last _ rfl, fun z => absurd z (by omega)⟩
        | succ f ih =>
          intro k F hk hkN hF ht hch
          by_cases hlast : k = N
          · subst hlast
            exact gX10_film_59 ⟨fun _ => last _ rfl, fun z => absurd z (by omega)⟩
          · have hF0 : F ≠ 0 := by
              intro z
              rw [z, chL_0] at hch
              have := congrArg List.length hch
              rw [List.length_nil, List.length_drop, hN] at this; omega
            obtain ⟨a', b'⟩ := ch_step hCq hF ht
            obtain ⟨p1, p2, p3, p4, p5, p6⟩ := b' hF0
            rw [if_neg hF0] at a'
            rw [p6] at hch
            have hkl : k < (bestL g).length := by omega
            rw [List.drop_eq_getElem_cons hkl] at hch
            have eb : bsI g k = fsF (hadF g) F := by
              unfold bsI
              have : (bestL g).getD k 0 = (bestL g)[k] := by simp [hkl]
              rw [this]; exact (List.cons.inj hch).1.symm
            have et := (List.cons.inj hch).2
            refine gX10_film_59 ⟨fun z => absurd z (by omega), fun _ => ⟨by omega, ?_⟩⟩
            rw [Int.toNat_natCast, wkn, a']
            refine c7_write (hSn _) rfl (by omega) ?_
            obtain ⟨q1, q2, q3⟩ := n3_c M1 (fup (M 62) s 0) (fup (M 63) s (N : Int)) (filT g (M 64) s k)
            rw [q1, q2, q3]
            have g1 : fup (M 63) s (N : Int) s = N := by unfold fup; rw [if_pos rfl]
            have g2 : fup (M 62) s 0 s = 0 := by unfold fup; rw [if_pos rfl]
            rw [g1, g2, if_pos (by omega), if_neg (by decide), Int.toNat_natCast, iandnN F (by omega) _ (by omega), w32n (by omega)]
            have em : mset (n3 M1 (fup (M 62) s 0) (fup (M 63) s (N : Int)) (filT g (M 64) s k)) 64 (fup (filT g (M 64) s k) (40 * s + k) (fsF (hadF g) F : Int)) = n3 M1 (fup (M 62) s 0) (fup (M 63) s (N : Int)) (filT g (M 64) s (k + 1)) := by
              unfold n3
              rw [mset_mset]
              congr 1
              funext i; unfold fup filT
              by_cases c1 : i = 40 * s + k
              · rw [if_pos c1, if_pos (by omega), show i - 40 * s = k by omega, eb]
              · rw [if_neg c1]
                by_cases c2 : 40 * s ≤ i ∧ i < 40 * s + k
                · rw [if_pos c2, if_pos (by omega)]
                · rw [if_neg c2, if_neg (by omega)]
            rw [em]
            exact ih (k + 1) _ (by omega) (by omega) (by omega) p5 et
      have e0 : filT g (M 64) s 0 = clr (M 64) s := by funext i; unfold filT; rw [if_neg (by omega)]
      have := go 7 0 (allF g) rfl (Nat.zero_le _) allF_lt hc rfl
      rw [e0] at this; exact this
    · have hc' : ¬ totG g < 1000000 := hc
      have e : filR g (s : Int) = -1 := by unfold filR; rw [if_neg (by omega), if_neg hc']
      rw [e] at h0; exact h0 (by decide) M1 f1 hC1
  · have e : filR g v = -2 := by unfold filR; rw [if_pos (by omega)]
    rw [e] at h0; exact h0 (by decide) M Fr.rf hC
theorem c5_markCount {g : Nat → Int} (hP : Pl g M) (hw : WF g) (h : K (twoS g true) M) : CalI G miX5_markCount d [.inr (.inr (some 1))] M K := by
  rw [← mk_two hw] at h
  have bd : ∀ k : Nat, 0 ≤ sumT (mk1 g) k ∧ sumT (mk1 g) k ≤ (k : Int) * 1 := fun k => sumT_bd (fun i _ => by unfold mk1; split <;> omega)
  refine Cal.of (by decide) (Nat.le_of_ble_eq_true rfl) rfl (gX5_markCount_0 ?_)
  have key := dn (P := fun k => OkI G miX5_markCount d K 4 [some (.inr (.inr (some 1))), some (.inl (sumT (mk1 g) k)), some (.inl (k : Int))] [] M) 49 ?_ (fun k hk ih => ?_) 0 (Nat.zero_le _)
  · exact key
  · exact gX5_markCount_4 ⟨fun _ => h, fun c => absurd c (by omega)⟩
  · have b := bd k
    have e : sumT (mk1 g) (k + 1) = sumT (mk1 g) k + mk1 g k := rfl
    refine gX5_markCount_4 ⟨fun c => absurd c (by omega), fun _ => ⟨by omega, ?_⟩⟩
    rw [Int.toNat_natCast, hP.mk hk, w32n (k := k) (by omega)]
    unfold mk1 at e
    refine ⟨fun c => ?_, fun c => ?_⟩
    · rw [if_pos c] at e
      have ih' := ih
      unfold mk1 at ih' b ⊢
      rw [e, Int.add_zero] at ih'; exact ih'
    · rw [if_neg c] at e
      have ih' := ih
      unfold mk1 at ih' b ⊢
      rw [e] at ih'
      rw [w32_eq (by omega) (by omega)]; exact ih'
theorem c4_followCount {g : Nat → Int} (hP : Pl g M) (hw : WF g) (hN : NetM g M) (h : K (twoS g false) M) : CalI G miX4_followCount (d + 1) [.inr (.inr (some 19))] M K := by
  have hn := hw.n
  have e8 := hP.n hw
  have b1' : ∀ f k, 0 ≤ two1 g false f k ∧ two1 g false f k ≤ 1 := fun f k => by unfold two1; split <;> omega
  have b2' : ∀ f, 0 ≤ sumT (fun k => two1 g false f k) (nF g) ∧ sumT (fun k => two1 g false f k) (nF g) ≤ (nF g : Int) * 1 := fun f => sumT_bd (fun i _ => b1' f i)
  have b3' : ∀ f, f ≤ nF g → 0 ≤ sumT (fun f => sumT (fun k => two1 g false f k) (nF g)) f ∧ sumT (fun f => sumT (fun k => two1 g false f k) (nF g)) f ≤ (f : Int) * 7 := fun f hf => sumT_bd (fun i _ => by have := b2' i; omega)
  refine Cal.of (by decide) (Nat.le_of_ble_eq_true rfl) rfl (gX4_followCount_0 ?_)
  have key := dn (P := fun f => OkI G miX4_followCount (d + 1) K 4 [some (.inr (.inr (some 19))), some (.inl (sumT (fun f => sumT (fun k => two1 g false f k) (nF g)) f)), some (.inl (f : Int))] [] M) (nF g) ?_ (fun f hf ih => ?_) 0 (Nat.zero_le _)
  · exact key
  · exact gX4_followCount_4 ⟨fun _ => h, fun c => absurd c (by omega)⟩
  · have b := b3' f (by omega)
    have b2 := b2' f
    have p4 := folT_lt g f 4 (nF g) hn.2
    have p5 := folT_lt g f 5 (nF g) hn.2
    have pw := pow_le7 hn.2
    have por := Nat.or_lt_two_pow p4 p5
    refine gX4_followCount_4 ⟨fun c => absurd c (by omega), fun _ => ?_⟩
    refine c4_followers hP hw hN rfl hf (.inl ⟨rfl, rfl⟩) (c4_followers hP hw hN rfl hf (.inr ⟨rfl, rfl⟩) ?_)
    refine cJ_bitCount (s := folT g f 4 (nF g) ||| folT g f 5 (nF g)) (iorN (by omega) (by omega)) (by omega) ?_
    rw [fol_cnt hw, w32_eq (by omega) (by omega), w32n (by omega)]
    exact ih
theorem c10_count {g : Nat → Int} {x : Int} (hC : Cs g M) (h : AskI g M (cntR g (M 58 2) x) K) : CalI G miX10_count (d + 6) [.inr (.inr (some 0)), .inl x] M K := by
  have hw := hC.1.2
  have hn := hw.n
  have rest : (x < 10 ∨ 15 ≤ x) → OkI G miX10_count (d + 6) K 25 [some (.inr (.inr (some 0))), some (.inl x)] [] M := fun hx => by
    refine gX10_count_25 (c10_refresh hC (fun M1 f1 hC1 wk => ?_))
    have hCq : Cq 28 g g M1 := ⟨⟨hC1.1.1, wk.2.1⟩, hw, hw, ag_rf⟩
    have hK := h M1 f1 hC1
    have e58 : M1 58 2 = M 58 2 := f1 58 2 (SFc_no (by omega))
    unfold cntR at hK
    refine ⟨fun c => ?_, fun c => ?_, fun c => ?_, fun c => ?_, fun c => ?_, fun c => ?_, fun c => ?_⟩
    · rw [if_pos c] at hK; rw [hC1.1.1.1.1]; exact hK
    · rw [if_neg (by omega), if_pos c] at hK; exact c5_markCount hC1.1.1 hw hK
    · rw [if_neg (by omega), if_neg (by omega), if_pos c] at hK; rw [e58]; exact hK
    · rw [if_neg (by omega), if_neg (by omega), if_neg (by omega), if_pos c] at hK; exact c4_followCount hC1.1.1 hw wk.1 hK
    · rw [if_neg (by omega), if_neg (by omega), if_neg (by omega), if_neg (by omega), if_pos c] at hK; exact c1_hadCount (.inl rfl) hCq hK
    · rw [if_neg (by omega), if_neg (by omega), if_neg (by omega), if_neg (by omega), if_neg (by omega), if_pos c] at hK; rw [hC1.1.1.1.2]; exact hK
    · rw [if_neg (by omega), if_neg (by omega), if_neg (by omega), if_neg (by omega), if_neg (by omega), if_neg (by omega), if_pos (by omega)] at hK; exact hK
  refine Cal.of (by decide) (Nat.le_of_ble_eq_true rfl) rfl (gX10_count_0 ⟨fun c => rest (.inl c), fun c => ⟨fun c2 => rest (.inr c2), fun c2 => ⟨by omega, ?_⟩⟩⟩)
  have hK := h M Fr.rf hC
  unfold cntR at hK
  rw [if_neg (by omega), if_neg (by omega), if_neg (by omega), if_neg (by omega), if_neg (by omega), if_neg (by omega), if_neg (by omega)] at hK
  have hf := hC.1.1.fe (i := (x - 10).toNat) (by omega)
  rw [hf]
  exact kv hK (by congr 1; omega)
end CLTC
