/-! the reference: best, bestOf, hasCover -/
theorem chL_in {had : Nat → Int} {m : Nat} (hh : hOK had m) (hm : m ≤ 128) : ∀ f F, F < m → (totF had F).1 < 1000000 → (∀ s ∈ chL (fsF had) f F, s ≠ 0 ∧ s ≤ F ∧ sdf s F = 0 ∧ 0 ≤ had s) ∧ (chL (fsF had) f F).Pairwise (fun a b => ∀ k, ¬ (a.testBit k = true ∧ b.testBit k = true)) := by
  intro f
  induction f with
  | zero => intro F _ _; exact ⟨fun s hs => absurd hs List.not_mem_nil, List.Pairwise.nil⟩
  | succ f ih =>
    intro F hF ht
    rw [chL]
    split
    · exact ⟨fun s hs => absurd hs List.not_mem_nil, List.Pairwise.nil⟩
    · rename_i h0
      obtain ⟨s0, s1, s2, s3, s4, s5, s6⟩ := fs_ok hh hm hF h0 ht
      generalize fsF had F = s at *
      have hlt := sdf_lt s2 s0
      have := ih (sdf F s) (by omega) s5
      refine ⟨fun x hx => ?_, List.pairwise_cons.mpr ⟨fun x hx k hk => ?_, this.2⟩⟩
      · rcases List.mem_cons.mp hx with e | hx
        · subst e; exact ⟨s0, s1, s2, s3⟩
        · have a := this.1 x hx
          refine ⟨a.1, by omega, ?_, a.2.2.2⟩
          refine Nat.eq_of_testBit_eq (fun k => ?_)
          have b := congrArg (fun y => y.testBit k) a.2.2.1
          simp only [sdf_bit, Nat.zero_testBit] at b ⊢
          cases h1 : x.testBit k <;> cases h2 : F.testBit k <;> simp_all
      · have a := (this.1 x hx).2.2.1
        have b := congrArg (fun y => y.testBit k) a
        simp only [sdf_bit, Nat.zero_testBit] at b
        rw [hk.1, hk.2] at b
        simp at b
theorem allF_lt {g : Nat → Int} : allF g < 2 ^ nF g := by have := pow_pos2 (nF g); unfold allF; omega
theorem bestL_in {g : Nat → Int} (hw : WF g) (hc : covB g) : ∀ s ∈ bestL g, s ≠ 0 ∧ s < 2 ^ nF g ∧ 0 ≤ hadF g s := by
  intro s hs
  have := (chL_in (hadF_ok hw) (pow_le7 hw.n.2) 7 (allF g) allF_lt hc).1 s hs
  have h := allF_lt (g := g)
  exact ⟨this.1, by omega, this.2.2.2⟩
theorem bestL_dis {g : Nat → Int} (hw : WF g) (hc : covB g) : (bestL g).Pairwise (fun a b => ∀ k, ¬ (a.testBit k = true ∧ b.testBit k = true)) :=
  (chL_in (hadF_ok hw) (pow_le7 hw.n.2) 7 (allF g) allF_lt hc).2
theorem bestL_len (g : Nat → Int) : (bestL g).length ≤ 7 := chL_len _ 7 _
theorem byF_ok {g : Nat → Int} (hw : WF g) {s : Nat} (h0 : s ≠ 0) (hh : 0 ≤ hadF g s) : ∃ q : Nat, byF g s = (q : Int) ∧ s &&& q = s ∧ q < 2 ^ nF g ∧ 0 ≤ cstF g q := by
  have := hfold_bd (cstF_ok hw) hw.fe.2.2.2.1 h0 (2 ^ nF g) (Nat.le_refl _)
  unfold hadF at hh; unfold byF
  rcases this with h | h
  · rw [h] at hh; exact absurd hh (by decide)
  · exact h.2
def alF (g : Nat → Int) (s : Nat) : Int := (cnt (byF g s).toNat : Int) - cnt s
def bsI (g : Nat → Int) (i : Nat) : Nat := (bestL g).getD i 0
theorem bsI_in {g : Nat → Int} (hw : WF g) (hc : covB g) {i : Nat} (hi : i < (bestL g).length) : bsI g i ≠ 0 ∧ bsI g i < 2 ^ nF g ∧ 0 ≤ hadF g (bsI g i) := by
  have : bsI g i = (bestL g)[i] := by unfold bsI; simp [hi]
  rw [this]; exact bestL_in hw hc _ (List.getElem_mem hi)
def bestR (g : Nat → Int) (x : Int) : Int := if x < 0 ∨ 2 < x then -2 else if totG g < 1000000 then (if x = 0 then totG g else if x = 1 then ((bestL g).length : Int) else sumT (fun i => alF g (bsI g i)) (bestL g).length) else -1
def bofR (g : Nat → Int) (f x : Int) : Int := if f < 0 ∨ g 0 ≤ f ∨ x < 0 ∨ 1 < x then -2 else if totG g < 1000000 then (match (bestL g).find? (fun s => s.testBit f.toNat) with
  | some s => if x = 0 then (s : Int) else byF g s
  | none => -1) else -1
section REFH
variable {G : GE} {d : Nat} {M : Mem} {K : Int → Mem → Prop}
theorem totG_nn {g : Nat → Int} (hw : WF g) (hc : covB g) : 0 ≤ totG g := by
  by_cases h0 : allF g = 0
  · unfold totG; rw [h0, totF_0]; exact Int.le_refl _
  · rcases totF_inv (hadF_ok hw) (pow_le7 hw.n.2) (allF g) allF_lt h0 with h | ⟨h, -⟩
    · unfold covB totG at hc; rw [h] at hc; exact absurd hc (by decide)
    · exact h.1
theorem c11_along {g : Nat → Int} {v : Int} {s : Nat} (hw : WF g) (e : v = (s : Int)) (h0 : s ≠ 0) (hs : s < 2 ^ nF g) (hh : 0 ≤ hadF g s) (h73 : M 73 s = byF g s) (h : K (alF g s) M) : CalI G miX11_along (d + 1) [.inr (.inr (some 66)), .inl v] M K := by
  subst e
  have hN := pow_le7 hw.n.2
  obtain ⟨q, hq, -, hq2, -⟩ := byF_ok hw h0 hh
  refine Cal.of (by decide) (Nat.le_of_ble_eq_true rfl) rfl (gX11_along_0 ?_)
  refine ⟨by omega, c11_ones (s := q) (by rw [Int.toNat_natCast, h73, hq]) (by omega) (c11_ones rfl (by omega) ?_)⟩
  have h1 := cnt_le q
  have h2 := cnt_le s
  rw [w32_eq (by omega) (by omega)]
  exact kv h (by unfold alF; rw [hq, Int.toNat_natCast])
theorem alF_bd {g : Nat → Int} (hw : WF g) {s : Nat} (h0 : s ≠ 0) (hh : 0 ≤ hadF g s) : 0 ≤ alF g s ∧ alF g s ≤ 7 := by
  obtain ⟨q, hq, hs, -⟩ := byF_ok hw h0 hh
  have h1 := cnt_le q
  have := cnt_sub hs
  unfold alF; rw [hq, Int.toNat_natCast]; omega
theorem sumT_bd {f : Nat → Int} {n : Nat} {B : Int} (h : ∀ i, i < n → 0 ≤ f i ∧ f i ≤ B) : 0 ≤ sumT f n ∧ sumT f n ≤ n * B := by
  refine ⟨sumT_nn (fun i hi => (h i hi).1), ?_⟩
  have := sumT_le (f := f) (h := fun _ => B) (k := n) (fun i hi => (h i hi).2)
  rw [sumT_const] at this; exact this
/-- reckons, then covers -/
theorem l11_rc {y : MI} {K : Int → Mem → Prop} {g : Nat → Int} (hg : M 67 = g) (hw : WF g) (h1 : ∀ M', Fr SV M M' → Rk g M' → Cv g M' → covB g → K (totG g) M') (h0 : ∀ M', Fr SV M M' → Rk g M' → M' 66 14 = 0 → ¬ covB g → K (-1) M') : CalV G miX11_reckons (d + 5) [.inr (.inr (some 66))] M (fun M1 => CalI G miX11_covers (d + 5) [.inr (.inr (some 66))] M1 K) := by
  refine c11_reckons hg hw (fun M1 f1 rk => ?_)
  have keep : ∀ M2, Fr SF M1 M2 → Rk g M2 := fun M2 f2 => ⟨fun i hi => by rw [f2 69 i rfl]; exact rk.1 i hi, fun s q1 q2 => by rw [f2 71 s rfl, f2 72 s rfl, f2 73 s rfl]; exact rk.2 s q1 q2⟩
  refine c11_covers (SR67 hg f1) hw (fun s q1 q2 => (rk.2 s q1 q2).2.1) (fun M2 f2 cv hc => h1 M2 ((f1.mo SR_SV).tr (f2.mo SF_SV)) (keep M2 f2) cv hc) (fun M2 f2 z hc => h0 M2 ((f1.mo SR_SV).tr (f2.mo SF_SV)) (keep M2 f2) z hc)
theorem c11_hasCover {g : Nat → Int} (hg : M 67 = g) (hw : WF g) (h1 : ∀ M', Fr SV M M' → Rk g M' → Cv g M' → covB g → K 1 M') (h0 : ∀ M', Fr SV M M' → ¬ covB g → K 0 M') : CalI G miX11_hasCover (d + 6) [.inr (.inr (some 66))] M K := by
  refine Cal.of (by decide) (Nat.le_of_ble_eq_true rfl) rfl (gX11_hasCover_0 ?_)
  refine l11_rc (y := miX11_covers) hg hw (fun M' f rk cv hc => ⟨fun c => absurd c (by have := totG_nn hw hc; omega), fun _ => h1 M' f rk cv hc⟩) (fun M' f rk z hc => ⟨fun _ => h0 M' f hc, fun c => absurd c (by decide)⟩)
theorem c11_best {g : Nat → Int} {x : Int} (hg : M 67 = g) (hw : WF g) (h : ∀ M', Fr SV M M' → K (bestR g x) M') : CalI G miX11_best (d + 6) [.inr (.inr (some 66)), .inl x] M K := by
  have hN := pow_le7 hw.n.2
  refine Cal.of (by decide) (Nat.le_of_ble_eq_true rfl) rfl (gX11_best_0 ?_)
  refine c11_in (fun a b => n1 ?_) (fun a => n0 (kv (h M Fr.rf) (by unfold bestR; rw [if_pos (by omega)])))
  have hbad : ¬ (x < 0 ∨ 2 < x) := by omega
  simp only [bestR, if_neg hbad] at h
  refine l11_rc (y := miX11_covers) hg hw (fun M' f rk cv hc => ?_) (fun M' f rk z hc => ?_)
  · have hK := h M' f
    have hc' : totG g < 1000000 := hc
    rw [if_pos hc'] at hK
    have ht := totG_nn hw hc
    have hl := bestL_len g
    have sb : ∀ k, k ≤ (bestL g).length → 0 ≤ sumT (fun i => alF g (bsI g i)) k ∧ sumT (fun i => alF g (bsI g i)) k ≤ 49 := fun k hk => by
      have := sumT_bd (f := fun i => alF g (bsI g i)) (n := k) (B := 7) (fun i hi => by have := bsI_in hw hc (i := i) (by omega); exact alF_bd hw this.1 this.2.2)
      omega
    refine dn (P := fun k => OkI G miX11_best (d + 6) K 29 [some (.inr (.inr (some 66))), some (.inl x), some (.inl (totG g)), some (.inl (sumT (fun i => alF g (bsI g i)) k)), some (.inl (k : Int))] [] M') (bestL g).length ?_ (fun k hk ih => ?_) 0 (Nat.zero_le _)
    · refine gX11_best_29 ⟨fun _ => ⟨fun c => absurd c (by omega), fun _ => ⟨fun c0 => ⟨fun c1 => ?_, fun c1 => ?_⟩, fun c0 => ?_⟩⟩, fun c => absurd c (by rw [cv.1]; omega)⟩
      · rw [if_neg c0, if_neg c1] at hK; exact hK
      · rw [if_neg c0, if_pos c1] at hK; rw [cv.1]; exact hK
      · rw [if_pos c0] at hK; exact hK
    · have hb := bsI_in hw hc hk
      have ab := alF_bd hw hb.1 hb.2.2
      have s1 := sb k (by omega)
      refine gX11_best_29 ⟨fun c => absurd c (by rw [cv.1]; omega), fun _ => ⟨by omega, ?_⟩⟩
      refine c11_along (s := bsI g k) hw (by rw [Int.toNat_natCast, cv.2 k hk]; rfl) hb.1 hb.2.1 hb.2.2 (rk.2 _ hb.1 hb.2.1).2.2 ?_
      rw [w32n (by omega), w32_eq (by omega) (by omega)]
      exact ih
  · have hK := h M' f
    have hc' : ¬ totG g < 1000000 := hc
    rw [if_neg hc'] at hK
    refine gX11_best_29 ⟨fun _ => ⟨fun _ => hK, fun c => absurd c (by decide)⟩, fun c => absurd c (by rw [z]; decide)⟩
theorem find_take {L : List Nat} {p : Nat → Bool} {k : Nat} (hk : k < L.length) : (L.take (k + 1)).find? p = match (L.take k).find? p with
    | some s => some s
    | none => if p (L.getD k 0) then some (L.getD k 0) else none := by
  rw [List.take_succ, List.find?_append]
  have : L.getD k 0 = L[k] := by simp [hk]
  rw [this, List.getElem?_eq_getElem hk]
  cases (L.take k).find? p with
  | some s => rfl
  | none => simp only [Option.none_or, Option.toList_some, List.find?_cons, List.find?_nil]; cases p L[k] <;> rfl
theorem dis_take {L : List Nat} (hd : L.Pairwise (fun a b => ∀ k, ¬ (a.testBit k = true ∧ b.testBit k = true))) {f k s : Nat} (hk : k < L.length) (hs : (L.take k).find? (fun s => s.testBit f) = some s) : (L.getD k 0).testBit f = false := by
  have h1 := List.find?_some hs
  have h2 := List.mem_of_find?_eq_some hs
  obtain ⟨i, hi, e⟩ := List.mem_iff_getElem.mp h2
  rw [List.length_take] at hi
  rw [List.getElem_take] at e
  have h3 := List.pairwise_iff_getElem.mp hd i k (by omega) hk (by omega) f
  have : L.getD k 0 = L[k] := by simp [hk]
  rw [this]
  cases hb : L[k].testBit f with
  | false => rfl
  | true => exact absurd ⟨by rw [e]; exact h1, hb⟩ h3
def fdI (o : Option Nat) : Int := match o with
  | some s => (s : Int)
  | none => -1
theorem c11_bestOf {g : Nat → Int} {v x : Int} (hg : M 67 = g) (hw : WF g) (h : ∀ M', Fr SV M M' → K (bofR g v x) M') : CalI G miX11_bestOf (d + 6) [.inr (.inr (some 66)), .inl v, .inl x] M K := by
  have hn := hw.n
  have hN := pow_le7 hn.2
  refine Cal.of (by decide) (Nat.le_of_ble_eq_true rfl) rfl (gX11_bestOf_0 ?_)
  refine c11_isFlight (by rw [hg]; exact hw.1) (fun a b => b1 ?_) (fun a => b0 (kv (h M Fr.rf) (by rw [hg] at a; unfold bofR; rw [if_pos (by omega)])))
  refine c11_in (fun a2 b2 => n1 ?_) (fun a2 => n0 (kv (h M Fr.rf) (by unfold bofR; rw [if_pos (by omega)])))
  rw [hg] at b
  have hbad : ¬ (v < 0 ∨ g 0 ≤ v ∨ x < 0 ∨ 1 < x) := by omega
  simp only [bofR, if_neg hbad] at h
  refine l11_rc (y := miX11_covers) hg hw (fun M' fr rk cv hc => ?_) (fun M' fr rk z hc => ?_)
  · have hK := h M' fr
    have hc' : totG g < 1000000 := hc
    rw [if_pos hc'] at hK
    have ht := totG_nn hw hc
    have hl := bestL_len g
    refine dn (P := fun k => OkI G miX11_bestOf (d + 6) K 36 [some (.inr (.inr (some 66))), some (.inl v), some (.inl x), some (.inl (fdI (((bestL g).take k).find? (fun s => s.testBit v.toNat)))), some (.inl (totG g)), some (.inl (k : Int))] [] M') (bestL g).length ?_ (fun k hk ih => ?_) 0 (Nat.zero_le _)
    · rw [List.take_length]
      refine gX11_bestOf_36 ⟨fun _ => ?_, fun c => absurd c (by rw [cv.1]; omega)⟩
      cases hf : (bestL g).find? (fun s => s.testBit v.toNat) with
      | none =>
        rw [hf] at hK
        exact gX11_bestOf_82 ⟨fun _ => hK, fun c => absurd c (by decide)⟩
      | some s =>
        rw [hf] at hK
        have hs := bestL_in hw hc s (List.mem_of_find?_eq_some hf)
        refine gX11_bestOf_82 ⟨fun c => absurd c (by simp only [fdI]; omega), fun _ => ⟨fun c => ⟨by simp only [fdI]; omega, ?_⟩, fun c => ?_⟩⟩
        · simp only [fdI, Int.toNat_natCast] at hK ⊢
          rw [(rk.2 s hs.1 hs.2.1).2.2]; rw [if_neg c] at hK; exact hK
        · simp only [fdI] at hK ⊢; rw [if_pos c] at hK; exact hK
    · have hb := bsI_in hw hc hk
      have e76 : M' 76 (k : Int).toNat = (bsI g k : Int) := by rw [Int.toNat_natCast, cv.2 k hk]; rfl
      rw [find_take hk] at ih
      refine gX11_bestOf_36 ⟨fun c => absurd c (by rw [cv.1]; omega), fun _ => ⟨fun c => absurd c (by omega), fun _ => ⟨by omega, ?_⟩⟩⟩
      rw [w32n (by omega)]
      refine c11_has (s := bsI g k) (k := v.toNat) e76 (by omega) (by omega) (by omega) (fun b => b1 ⟨by omega, ?_⟩) (fun b => b0 ?_)
      · rw [e76]
        cases hfd : ((bestL g).take k).find? (fun s => s.testBit v.toNat) with
        | some s =>
          have := dis_take (bestL_dis hw hc) hk hfd
          exact absurd b (by unfold bsI; rw [this]; decide)
        | none =>
          rw [hfd] at ih
          have : (bestL g).getD k 0 = bsI g k := rfl
          simp only [this, b, if_pos] at ih
          exact ih
      · cases hfd : ((bestL g).take k).find? (fun s => s.testBit v.toNat) with
        | some s => rw [hfd] at ih; exact ih
        | none =>
          rw [hfd] at ih
          have : (bestL g).getD k 0 = bsI g k := rfl
          simp only [this, b] at ih
          exact ih
  · have hK := h M' fr
    have hc' : ¬ totG g < 1000000 := hc
    rw [if_neg hc'] at hK
    refine gX11_bestOf_36 ⟨fun _ => gX11_bestOf_82 ⟨fun _ => hK, fun c => absurd c (by decide)⟩, fun c => absurd c (by rw [z]; decide)⟩
end REFH
