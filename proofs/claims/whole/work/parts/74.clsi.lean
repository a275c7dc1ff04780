/-! the class: delays -/
def addL (a : Nat) (x : Int) : Nat := if x < 0 then a else a ||| 2 ^ x.toNat
def ahT (g : Nat → Int) (k : Nat) : List Nat → Nat → Nat
  | [], a => a
  | s :: L, a => ahT g k L (addL a (linF g (byF g s).toNat k))
theorem addL_lt {a : Nat} {x : Int} (ha : a < 128) (hx : x < 7) : addL a x < 128 := by
  unfold addL; split
  · exact ha
  · exact or_pow_lt ha (by omega)
theorem addL_bit {a : Nat} {x : Int} (e : Nat) (hx : -1 ≤ x) : (addL a x).testBit e = true ↔ a.testBit e = true ∨ x = (e : Int) := by
  unfold addL; split
  · constructor
    · intro h; exact .inl h
    · rintro (h | h)
      · exact h
      · omega
  · rw [Nat.testBit_or, Nat.testBit_two_pow, Bool.or_eq_true, decide_eq_true_eq]
    constructor
    · rintro (h | h)
      · exact .inl h
      · exact .inr (by omega)
    · rintro (h | h)
      · exact .inl h
      · exact .inr (by omega)
theorem linF_lt {g : Nat → Int} (hn : nF g ≤ 7) {s k : Nat} (hk : k ≤ nF g) : -1 ≤ linF g s k ∧ linF g s k < 7 := by
  rcases linF_bd (g := g) (s := s) hk with h | ⟨j, hj, h, -⟩
  · omega
  · have := oN_lt g (i := j) (by omega); omega
theorem ahT_bit {g : Nat → Int} (hn : nF g ≤ 7) {k : Nat} (hk : k ≤ nF g) (e : Nat) : ∀ (L : List Nat) (a : Nat), (ahT g k L a).testBit e = true ↔ a.testBit e = true ∨ ∃ s ∈ L, linF g (byF g s).toNat k = (e : Int) := by
  intro L
  induction L with
  | nil => intro a; simp [ahT]
  | cons s L ih =>
    intro a
    rw [ahT, ih, addL_bit e (linF_lt hn hk).1]
    simp only [List.mem_cons, exists_eq_or_imp]
    constructor
    · rintro ((h | h) | h)
      · exact .inl h
      · exact .inr (.inl h)
      · exact .inr (.inr h)
    · rintro (h | h | h)
      · exact .inl (.inl h)
      · exact .inl (.inr h)
      · exact .inr h
theorem ahT_lt {g : Nat → Int} (hn : nF g ≤ 7) {k : Nat} (hk : k ≤ nF g) : ∀ (L : List Nat) (a : Nat), a < 128 → ahT g k L a < 128 := by
  intro L
  induction L with
  | nil => intro a ha; exact ha
  | cons s L ih => intro a ha; rw [ahT]; exact ih _ (addL_lt ha (linF_lt hn hk).2)
/-- who is ahead of whom in the best cover -/
def AhM (g : Nat → Int) (M : Mem) : Prop := covB g → ∀ k, k < nF g → M 55 (oN g k) = (ahT g k (bestL g) 0 : Int)
theorem mxF_max {g lt : Nat → Int} {k : Nat} {v0 : Int} (hv : 0 ≤ v0) : ∀ m, v0 ≤ mxF g lt k v0 m ∧ (∀ i, i < m → mxT g lt k i ≤ mxF g lt k v0 m) ∧ (mxF g lt k v0 m = v0 ∨ ∃ i, i < m ∧ 0 ≤ linF g (byI g i) k ∧ mxF g lt k v0 m = mxT g lt k i) := by
  intro m
  induction m with
  | zero => exact ⟨Int.le_refl _, fun i hi => absurd hi (Nat.not_lt_zero _), .inl rfl⟩
  | succ m ih =>
    obtain ⟨a, b, c⟩ := ih
    rw [mxF]
    by_cases h : mxF g lt k v0 m < mxT g lt k m
    · rw [if_pos h]
      refine ⟨by omega, fun i hi => ?_, .inr ⟨m, by omega, ?_, rfl⟩⟩
      · by_cases e : i = m
        · subst e; exact Int.le_refl _
        · have := b i (by omega); omega
      · rcases Int.lt_or_le (linF g (byI g m) k) 0 with z | z
        · have : mxT g lt k m = 0 := if_pos z
          omega
        · exact z
    · rw [if_neg h]
      refine ⟨a, fun i hi => ?_, ?_⟩
      · by_cases e : i = m
        · subst e; omega
        · exact b i (by omega)
      · rcases c with c | ⟨i, h1, h2, h3⟩
        · exact .inl c
        · exact .inr ⟨i, by omega, h2, h3⟩
theorem ltT_keep (g own : Nat → Int) {k : Nat} (hk : k < nF g) : ∀ m, k + 1 ≤ m → m ≤ nF g → ltT g own m (oN g k) = latV g own k := by
  intro m hm
  induction m with
  | zero => omega
  | succ m ih =>
    intro hmn
    by_cases e : k = m
    · subst e; rfl
    · rw [ltT, fup_ne _ (fun z => e (oN_inj g hk (by omega) z))]; exact ih (by omega) (by omega)
theorem latB_bit {g own : Nat → Int} : ∀ m, m ≤ nF g → ∀ k, k < nF g → ((latB g own m).testBit (oN g k) = true ↔ k < m ∧ 0 < latV g own k) := by
  intro m
  induction m with
  | zero => intro _ k _; rw [latB, Nat.zero_testBit]; constructor
            · intro h; cases h
            · intro h; omega
  | succ m ih =>
    intro hm k hk
    rw [latB]
    by_cases h : 0 < latV g own m
    · rw [if_pos h, Nat.testBit_or, Nat.testBit_two_pow, Bool.or_eq_true, decide_eq_true_eq, ih (by omega) k hk]
      constructor
      · rintro (z | z)
        · exact ⟨by omega, z.2⟩
        · have := oN_inj g (by omega) hk z; subst this; exact ⟨by omega, h⟩
      · rintro ⟨z1, z2⟩
        by_cases e : k = m
        · subst e; exact .inr rfl
        · exact .inl ⟨by omega, z2⟩
    · rw [if_neg h, ih (by omega) k hk]
      constructor
      · rintro ⟨z1, z2⟩; exact ⟨by omega, z2⟩
      · rintro ⟨z1, z2⟩
        refine ⟨?_, z2⟩
        by_cases e : k = m
        · subst e; exact absurd z2 h
        · omega
theorem latB_hi {g own : Nat → Int} : ∀ m, m ≤ nF g → ∀ f, nF g ≤ f → (latB g own m).testBit f = false := by
  intro m
  induction m with
  | zero => intro _ f _; rw [latB, Nat.zero_testBit]
  | succ m ih =>
    intro hm f hf
    have := oN_lt g (i := m) (by omega)
    rw [latB]; split
    · rw [Nat.testBit_or, ih (by omega) f hf, Nat.testBit_two_pow]; simp; omega
    · exact ih (by omega) f hf
section CLSI
variable {G : GE} {d : Nat} {M : Mem}
theorem c2_learnPairing {K : Mem → Prop} {g : Nat → Int} {v : Int} {p : Nat} {A : Nat → Nat} (hP : Pl g M) (hw : WF g) (hO : OrM g M) (e : v = (p : Int)) (hp : p < 128) (hA : ∀ k, k < nF g → A k < 128 ∧ M 55 (oN g k) = (A k : Int)) (h : ∀ q : Nat → Int, (∀ k, k < nF g → q (oN g k) = (addL (A k) (linF g p k) : Int)) → K (mset M 55 q)) : CalV G miX2_learnPairing d [.inr (.inr (some 54)), .inl v] M K := by
  subst e
  have hn := hw.n
  refine Cal.of (by decide) (Nat.le_of_ble_eq_true rfl) rfl (gX2_learnPairing_0 ?_)
  have hP' : ∀ q : Nat → Int, Pl g (mset M 55 q) := fun q => pl_mset hP (by decide) q
  have key := dn (P := fun k => ∀ q : Nat → Int, (∀ j, j < nF g → q (oN g j) = if j < k then (addL (A j) (linF g p j) : Int) else (A j : Int)) → OkV G miX2_learnPairing d K 4 [some (.inr (.inr (some 54))), some (.inl (p : Int)), some (.inl (lastP g p k)), some (.inl (k : Int)), none] [] (mset M 55 q)) (nF g) ?_ (fun k hk ih q hq => ?_) 0 (Nat.zero_le _) (M 55) (fun j hj => by rw [if_neg (by omega)]; exact (hA j hj).2)
  · rw [mset_self] at key; exact key
  · intro q hq
    refine gX2_learnPairing_4 ⟨fun _ => h q (fun k hk => by rw [hq k hk, if_pos hk]), fun c => absurd c (by rw [(hP' q).n hw]; omega)⟩
  · have hlt := oN_lt g hk
    have ek : (mset M 55 q) 20 (k : Int).toNat = (oN g k : Int) := by rw [mset_ne _ (by decide), Int.toNat_natCast]; exact hO k hk
    have hqk := hq k hk
    rw [if_neg (by omega)] at hqk
    refine gX2_learnPairing_4 ⟨fun c => absurd c (by rw [(hP' q).n hw]; omega), fun _ => ⟨by omega, ?_⟩⟩
    rw [ek, w32n (k := k) (by omega)]
    have same : linF g p k < 0 → ∀ y : Int, y = lastP g p (k + 1) → OkV G miX2_learnPairing d K 4 [some (.inr (.inr (some 54))), some (.inl (p : Int)), some (.inl y), some (.inl ((k + 1 : Nat) : Int)), none] [] (mset M 55 q) := fun hz y hy => by
      rw [hy]
      refine ih q (fun j hj => ?_)
      rw [hq j hj]
      by_cases e : j = k
      · subst e
        rw [if_neg (by omega), if_pos (by omega)]
        unfold addL; rw [if_pos hz]
      · by_cases e2 : j < k
        · rw [if_pos e2, if_pos (by omega)]
        · rw [if_neg e2, if_neg (by omega)]
    refine ⟨fun c => ?_, fun c => ?_⟩
    · have hb : p.testBit (oN g k) = true := by
        cases hz : p.testBit (oN g k) with
        | true => rfl
        | false => exact absurd ((bit0 hp (by omega)).mpr hz) c
      have hl : linF g p k = lastP g p k := by unfold linF; rw [if_pos hb]
      have hl1 : (oN g k : Int) = lastP g p (k + 1) := by rw [lastP, if_pos hb]
      refine ⟨fun c2 => same (by omega) _ hl1, fun c2 => ⟨by omega, by omega, ?_⟩⟩
      rcases lastP_bd g p k (by omega) with z | ⟨f, hf, z⟩
      · exact absurd z c2
      · rw [Int.toNat_natCast, mset_at, hqk, z, ior_bw (hA k hk).1 (by omega), mup_mset, mset_mset, mset_at, hl1]
        refine ih _ (fun j hj => ?_)
        by_cases e : j = k
        · subst e
          rw [fup_at, if_pos (by omega)]
          unfold addL; rw [hl, z, if_neg (by omega), Int.toNat_natCast]
        · rw [fup_ne _ (fun y => e (oN_inj g hj hk y)), hq j hj]
          by_cases e2 : j < k
          · rw [if_pos e2, if_pos (by omega)]
          · rw [if_neg e2, if_neg (by omega)]
    · have hb := (bit0 hp (by omega)).mp c
      have hl : linF g p k = -1 := by unfold linF; rw [if_neg (by rw [hb]; decide)]
      exact same (by omega) _ (by rw [lastP, if_neg (by rw [hb]; decide)])
theorem c2_learn {K : Mem → Prop} {g : Nat → Int} (hC : Cq 28 g g M) (hN : NetM g M) (h : ∀ q : Nat → Int, AhM g (mset M 55 q) → K (mset M 55 q)) : CalV G miX2_learn (d + 1) [.inr (.inr (some 54)), .inr (.inr (some 28))] M K := by
  have hw := hC.2.1
  have hn := hw.n
  have hN7 := pow_le7 hn.2
  have hl := allF_lt (g := g)
  refine Cal.of (by decide) (Nat.le_of_ble_eq_true rfl) rfl (gX2_learn_0 ?_)
  refine cJ_fill ly_55 (by decide) (fun q0 hq0 => ?_)
  have hC' : ∀ q : Nat → Int, Cq 28 g g (mset M 55 q) := fun q => ⟨⟨pl_mset hC.1.1 (by decide) q, hC.1.2.fr (S := fun c _ => c == 55) (Fr.rf.ms (fun _ => by simp)) (fun c i h1 h2 => by simp; omega)⟩, hC.2⟩
  have hO' : ∀ q : Nat → Int, OrM g (mset M 55 q) := fun q i hi => by rw [mset_ne _ (by decide)]; exact hN.1 i hi
  refine cq_all (hC' q0) ?_
  by_cases hc : covB g
  · have go : ∀ f, f ≤ 7 → ∀ (F : Nat) (q : Nat → Int) (A : Nat → Nat), F < 2 ^ nF g → (totF (hadF g) F).1 < 1000000 → (∀ k, k < nF g → A k < 128 ∧ q (oN g k) = (A k : Int)) → (∀ k, k < nF g → ahT g k (bestL g) 0 = ahT g k (chL (fsF (hadF g)) f F) (A k)) → OkV G miX2_learn (d + 1) K 18 [some (.inr (.inr (some 54))), some (.inr (.inr (some 28))), some (.inl (F : Int)), some (.inl ((7 - f : Nat) : Int)), none] [] (mset M 55 q) := by
      intro f
      induction f with
      | zero => intro _ F q A hF htt hA hk
                refine gX2_learn_18 ⟨fun _ => h q (fun _ k hkn => ?_), fun c => absurd c (by decide)⟩
                rw [mset_at, (hA k hkn).2, hk k hkn]; rfl
      | succ f ih =>
        intro hf7 F q A hF htt hA hk
        obtain ⟨a, b⟩ := ch_step (hC' q) hF htt
        have hcv := (hC' q).1.2
        refine gX2_learn_18 ⟨fun z => absurd z (by omega), fun _ => ⟨by omega, ?_⟩⟩
        rw [Int.toNat_natCast, a]
        by_cases h0 : F = 0
        · subst h0
          rw [if_pos rfl]
          refine ⟨fun _ => h q (fun _ k hkn => ?_), fun z => absurd rfl z⟩
          rw [mset_at, (hA k hkn).2, hk k hkn, chL_0]; rfl
        · obtain ⟨b1', b2', b3', b4', b5', b6'⟩ := b h0
          rw [if_neg h0]
          refine ⟨fun z => absurd z (by omega), fun _ => ⟨by omega, by omega, ?_⟩⟩
          rw [Int.toNat_natCast, (hcv.1 _ b1' b2').2.2]
          obtain ⟨p, p1, p2, p3, p4⟩ := byF_ok hw b1' b3'
          refine c2_learnPairing (hC' q).1.1 hw (hO' q) p1 (by omega) (fun k hkn => ⟨(hA k hkn).1, by rw [mset_at]; exact (hA k hkn).2⟩) (fun q2 hq2 => ?_)
          rw [mset_mset, iandnN F (by omega) _ (by omega), w32n (k := 7 - (f + 1)) (by omega), show 7 - (f + 1) + 1 = 7 - f by omega]
          exact ih (by omega) _ q2 (fun k => addL (A k) (linF g p k)) (by omega) b5' (fun k hkn => ⟨addL_lt (hA k hkn).1 (linF_lt hn.2 (by omega)).2, hq2 k hkn⟩) (fun k hkn => by rw [hk k hkn, b6', ahT, p1, Int.toNat_natCast])
    exact go 7 (Nat.le_refl _) (allF g) q0 (fun _ => 0) hl hc (fun k hk => ⟨by decide, by have := oN_lt g hk; rw [hq0 _ (by omega)]; rfl⟩) (fun k _ => rfl)
  · have hz := (tot_none hC.2.2.1 hc).1
    refine gX2_learn_18 ⟨fun z => absurd z (by decide), fun _ => ⟨by omega, ?_⟩⟩
    rw [Int.toNat_natCast, ((hC' q0).1.2.2 _ hl).1, hz]
    exact ⟨fun _ => h q0 (fun z => absurd z hc), fun z => absurd rfl z⟩
end CLSI
