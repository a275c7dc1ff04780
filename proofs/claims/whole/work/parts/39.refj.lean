/-! the reference: late, worst, drawn, chance; lowest terms -/
def SW : Nat → Nat → Bool := fun c i => SV c i || (c == 90 || SL c i)
theorem SV_SW : ∀ c i, SW c i = false → SV c i = false := fun c i h => by unfold SW at h; simp only [Bool.or_eq_false_iff] at h; exact h.1
theorem SL_SW : ∀ c i, SW c i = false → SL c i = false := fun c i h => by unfold SW at h; simp only [Bool.or_eq_false_iff] at h; exact h.2.2
def ownD (f : Nat) (x : Int) : Nat → Int := fun i => if i = f then x else 0
def lateR (g : Nat → Int) (v x w : Int) : Int := if v < 0 ∨ g 0 ≤ v ∨ x < 0 ∨ 99 < x ∨ w < 0 ∨ 1 < w then -2 else if totG g < 1000000 then (if w = 0 then (latB g (ownD v.toNat x) (nF g) : Int) else latS g (ownD v.toNat x)) else -3
def wrT (g : Nat → Int) (x : Int) : Nat → Int × Int
  | 0 => (-1, -1)
  | k + 1 => if (wrT g x k).2 < latS g (ownD k x) then ((k : Int), latS g (ownD k x)) else wrT g x k
def worstR (g : Nat → Int) (x : Int) : Int := if x < 0 ∨ 99 < x then -2 else if totG g < 1000000 then (wrT g x (nF g)).1 else -3
def zF (s : Int) : Nat → Int
  | 0 => s
  | k + 1 => w32 (zF s k * 1103515245 + 12345)
def ownZ (s n : Int) : Nat → Int := fun f => irem (iushr (zF s (f + 1)) 9) n
def drawnR (g : Nat → Int) (s n : Int) : Int := if n < 1 ∨ 99 < n then -2 else if totG g < 1000000 then latS g (ownZ s n) else -3
def inT (g : Nat → Int) (s n w : Int) : Nat → Nat
  | 0 => 0
  | k + 1 => inT g s n w k + (if latS g (ownZ (w32 (s + k)) n) ≤ w then 1 else 0)
def lowR (a b : Nat) (x : Int) : Int := ((if x = 0 then a / Nat.gcd a b else b / Nat.gcd a b : Nat) : Int)
def chanR (g : Nat → Int) (s m n w x : Int) : Int := if m < 1 ∨ 20 < m ∨ n < 1 ∨ 99 < n ∨ w < 0 ∨ 9999 < w ∨ x < 0 ∨ 1 < x then -2 else if totG g < 1000000 then lowR (inT g s n w m.toNat) m.toNat x else -3
theorem w64N {q : Nat} (h : q < 4611686018427387904) : w64 (q : Int) = (q : Int) := w64_eq (by omega) (by omega)
theorem lowR_le {a b B : Nat} (x : Int) (ha : a ≤ B) (hb : b ≤ B) : 0 ≤ lowR a b x ∧ lowR a b x ≤ B := by
  unfold lowR
  have h1 : a / Nat.gcd a b ≤ a := Nat.div_le_self _ _
  have h2 : b / Nat.gcd a b ≤ b := Nat.div_le_self _ _
  have : (if x = 0 then a / Nat.gcd a b else b / Nat.gcd a b) ≤ B := by split <;> omega
  generalize (if x = 0 then a / Nat.gcd a b else b / Nat.gcd a b) = q at *
  omega
theorem ushr9 (x : Int) : 0 ≤ iushr x 9 := by
  unfold iushr
  have h := pk_ushr (Int32.ofInt x) 9 9 (by decide)
  have h2 : (Int32.ofInt x).toBitVec.toNat < 4294967296 := (Int32.ofInt x).toBitVec.isLt
  have h3 : (Int32.ofInt (9 : Int)) = 9 := rfl
  rw [h3]
  show 0 ≤ BitVec.toInt _
  rw [BitVec.toInt_eq_toNat_of_lt (by rw [h]; omega)]
  omega
theorem ownZ_ok {g : Nat → Int} {s n : Int} (hn : 1 ≤ n ∧ n ≤ 99) : ownOK g (ownZ s n) := by
  intro f _
  have h := ushr9 (zF s (f + 1))
  unfold ownZ irem
  have h1 := Int.tmod_nonneg n h
  have h2 := Int.tmod_lt_of_pos (iushr (zF s (f + 1)) 9) (show 0 < n by omega)
  omega
theorem ownD_ok {g : Nat → Int} {f : Nat} {x : Int} (hx : 0 ≤ x ∧ x ≤ 99) : ownOK g (ownD f x) := by
  intro i _; unfold ownD; split <;> omega
theorem inT_le (g : Nat → Int) (s n w : Int) (k : Nat) : inT g s n w k ≤ k := by
  induction k with
  | zero => exact Nat.le_refl _
  | succ k ih => unfold inT; split <;> omega
theorem latS_bd {g own : Nat → Int} (hw : WF g) (hc : covB g) (ho : ownOK g own) : 0 ≤ latS g own ∧ latS g own ≤ 693 := by
  have hn := hw.n
  have := sumT_bd (f := latV g own) (n := nF g) (B := 99) (fun i hi => ltT_bd hw hc ho (i + 1) (by omega) (oN g i) (oN_lt g (by omega)))
  unfold latS; omega
section REFJ
variable {G : GE} {d : Nat} {M : Mem}
theorem SW67 {g : Nat → Int} (hg : M 67 = g) : ∀ {M' : Mem}, Fr SW M M' → M' 67 = g := fun hf => by rw [← hg]; funext i; exact hf 67 i rfl
/-- the cover found: kept by what comes after -/
def LK (g : Nat → Int) (M : Mem) : Prop := (∀ i, i < nF g → M 69 i = (oN g i : Int)) ∧ (∀ s, s ≠ 0 → s < 2 ^ nF g → M 73 s = byF g s) ∧ Cv g M
theorem LK.fr {g : Nat → Int} {M M' : Mem} (h : LK g M) (hf : Fr (fun c i => c == 90 || SL c i) M M') : LK g M' :=
  ⟨fun i hi => by rw [hf 69 i rfl]; exact h.1 i hi, fun s a b => by rw [hf 73 s rfl]; exact h.2.1 s a b, by rw [hf 66 14 rfl]; exact h.2.2.1, fun i hi => by rw [hf 76 i rfl]; exact h.2.2.2 i hi⟩
theorem c11_lowest {K : Int → Mem → Prop} {a b : Nat} {x : Int} (ha : a < 4611686018427387904) (hb : b < 4611686018427387904) (hb0 : 0 < b) (h : K (lowR a b x) M) : CalL G miX11_lowest d [.inr (.inl (a : Int)), .inr (.inl (b : Int)), .inl x] M K := by
  refine Cal.of (by decide) (Nat.le_of_ble_eq_true rfl) rfl (gX11_lowest_0 ?_)
  have loop : ∀ (v u : Nat), Nat.gcd u v = Nat.gcd a b → OkL G miX11_lowest d K 6 [some (.inr (.inl (a : Int))), none, some (.inr (.inl (b : Int))), none, some (.inl x), some (.inr (.inl (u : Int))), none, some (.inr (.inl (v : Int))), none, none, none] [] M := by
    intro v
    induction v using Nat.strongRecOn with
    | ind v ih =>
      intro u hg
      refine gX11_lowest_6 ⟨fun c => ?_, fun c => ⟨c, ?_⟩⟩
      · have hv : v = 0 := by omega
        subst hv
        rw [Nat.gcd_zero_right] at hg
        have hpos : 0 < Nat.gcd a b := Nat.gcd_pos_of_pos_right _ hb0
        refine ⟨by omega, ?_⟩
        have e : ldiv (if x = 0 then (a : Int) else (b : Int)) (u : Int) = lowR a b x := by
          unfold ldiv lowR
          rw [hg]
          have h1 : a / Nat.gcd a b ≤ a := Nat.div_le_self _ _
          have h2 : b / Nat.gcd a b ≤ b := Nat.div_le_self _ _
          split
          · rw [← Int.ofNat_tdiv]; exact w64N (Nat.lt_of_le_of_lt h1 ha)
          · rw [← Int.ofNat_tdiv]; exact w64N (Nat.lt_of_le_of_lt h2 hb)
        rw [e]; exact h
      · have e : lrem (u : Int) (v : Int) = ((u % v : Nat) : Int) := by unfold lrem; rw [Int.ofNat_tmod]
        rw [e]
        refine ih (u % v) (Nat.mod_lt _ (by omega)) v ?_
        rw [← hg, Nat.gcd_comm u v, Nat.gcd_rec v u, Nat.gcd_comm]
  exact loop b a rfl
theorem c11_late {K : Int → Mem → Prop} {g : Nat → Int} {v x w : Int} (hg : M 67 = g) (hw : WF g) (h : ∀ M', Fr SW M M' → K (lateR g v x w) M') : CalI G miX11_late (d + 7) [.inr (.inr (some 66)), .inl v, .inl x, .inl w] M K := by
  have hn := hw.n
  refine Cal.of (by decide) (Nat.le_of_ble_eq_true rfl) rfl (gX11_late_0 ?_)
  refine c11_isFlight (by rw [hg]; exact hw.1) (fun a b => b1 ?_) (fun a => b0 (kv (h M Fr.rf) (by rw [hg] at a; unfold lateR; rw [if_pos (by omega)])))
  refine c11_in (fun a2 b2 => b1 ?_) (fun a2 => b0 (kv (h M Fr.rf) (by unfold lateR; rw [if_pos (by omega)])))
  refine c11_in (fun a3 b3 => n1 ?_) (fun a3 => n0 (kv (h M Fr.rf) (by unfold lateR; rw [if_pos (by omega)])))
  rw [hg] at b
  have hbad : ¬ (v < 0 ∨ g 0 ≤ v ∨ x < 0 ∨ 99 < x ∨ w < 0 ∨ 1 < w) := by omega
  simp only [lateR, if_neg hbad] at h
  refine c11_hasCover hg hw (fun M' fr rk cv hc => n1 ?_) (fun M' fr hc => n0 ?_)
  · have hc' : totG g < 1000000 := hc
    refine c11_noDelays (fun o ho => ⟨by omega, ?_⟩)
    have lk : LK g M' := ⟨rk.1, fun s a b => (rk.2 s a b).2.2, cv⟩
    have f2 : Fr (fun c i => c == 90 || SL c i) M' (mup (mset M' 90 o) 90 v.toNat x) := (Fr.rf.ms (fun _ => rfl)).up rfl
    have lk2 := lk.fr f2
    have f3 : Fr SW M (mup (mset M' 90 o) 90 v.toNat x) := ((fr.mo SV_SW).ms (fun _ => rfl)).up rfl
    refine c11_allLate (own := ownD v.toNat x) (SW67 hg f3) hw hc (ownD_ok ⟨by omega, by omega⟩) lk2.1 lk2.2.1 lk2.2.2 (fun f hf => ?_) (fun M3 f4 hB => ?_)
    · unfold ownD
      by_cases e : f = v.toNat
      · subst e; rw [mup_at, if_pos rfl]
      · rw [mup_at_ne e, mset_at, if_neg e]; exact ho f (by omega)
    · have hK := h M3 (f3.tr (f4.mo SL_SW))
      rw [if_pos hc'] at hK
      refine ⟨fun c => ?_, fun c => ?_⟩
      · rw [if_neg c] at hK; exact hK
      · rw [if_pos c] at hK; rw [hB]; exact hK
  · have hK := h M' (fr.mo SV_SW)
    have hc' : ¬ totG g < 1000000 := hc
    rw [if_neg hc'] at hK; exact hK
theorem c11_worst {K : Int → Mem → Prop} {g : Nat → Int} {x : Int} (hg : M 67 = g) (hw : WF g) (h : ∀ M', Fr SW M M' → K (worstR g x) M') : CalI G miX11_worst (d + 7) [.inr (.inr (some 66)), .inl x] M K := by
  have hn := hw.n
  refine Cal.of (by decide) (Nat.le_of_ble_eq_true rfl) rfl (gX11_worst_0 ?_)
  refine c11_in (fun a2 b2 => n1 ?_) (fun a2 => n0 (kv (h M Fr.rf) (by unfold worstR; rw [if_pos (by omega)])))
  have hbad : ¬ (x < 0 ∨ 99 < x) := by omega
  simp only [worstR, if_neg hbad] at h
  refine c11_hasCover hg hw (fun M' fr rk cv hc => n1 ?_) (fun M' fr hc => n0 ?_)
  · have hc' : totG g < 1000000 := hc
    have lk : LK g M' := ⟨rk.1, fun s a b => (rk.2 s a b).2.2, cv⟩
    refine dn (P := fun k => ∀ M2, Fr SW M M2 → LK g M2 → OkI G miX11_worst (d + 7) K 32 [some (.inr (.inr (some 66))), some (.inl x), some (.inl (wrT g x k).1), some (.inl (wrT g x k).2), some (.inl (k : Int)), none] [] M2) (nF g) ?_ (fun k hk ih => ?_) 0 (Nat.zero_le _) M' (fr.mo SV_SW) lk
    · intro M2 f2 lk2
      have hK := h M2 f2
      rw [if_pos hc'] at hK
      exact gX11_worst_32 ⟨fun _ => hK, fun c => absurd c (by rw [SW67 hg f2]; omega)⟩
    · intro M2 f2 lk2
      refine gX11_worst_32 ⟨fun c => absurd c (by rw [SW67 hg f2]; omega), fun _ => ?_⟩
      refine c11_noDelays (fun o ho => ⟨by omega, ?_⟩)
      rw [Int.toNat_natCast]
      have f3 : Fr (fun c i => c == 90 || SL c i) M2 (mup (mset M2 90 o) 90 k x) := (Fr.rf.ms (fun _ => rfl)).up rfl
      have lk3 := lk2.fr f3
      have f4 : Fr SW M (mup (mset M2 90 o) 90 k x) := (f2.ms (fun _ => rfl)).up rfl
      refine c11_allLate (own := ownD k x) (SW67 hg f4) hw hc (ownD_ok ⟨by omega, by omega⟩) lk3.1 lk3.2.1 lk3.2.2 (fun f hf => ?_) (fun M3 f5 hB => ?_)
      · unfold ownD
        by_cases e : f = k
        · subst e; rw [mup_at, if_pos rfl]
        · rw [mup_at_ne e, mset_at, if_neg e]; exact ho f (by omega)
      · rw [w32n (by omega)]
        have := ih M3 (f4.tr (f5.mo SL_SW)) (lk3.fr (f5.mo (fun c i hc => by simp only [Bool.or_eq_false_iff] at hc; exact hc.2)))
        rw [wrT] at this
        by_cases e : (wrT g x k).2 < latS g (ownD k x)
        · rw [if_pos e] at this; rw [if_pos e, if_pos e]; exact this
        · rw [if_neg e] at this; rw [if_neg e, if_neg e]; exact this
  · have hK := h M' (fr.mo SV_SW)
    have hc' : ¬ totG g < 1000000 := hc
    rw [if_neg hc'] at hK; exact hK
theorem c11_lateBy {K : Int → Mem → Prop} {g : Nat → Int} {s n : Int} (hg : M 67 = g) (hw : WF g) (hc : covB g) (lk : LK g M) (hn1 : 1 ≤ n ∧ n ≤ 99) (h : ∀ M', Fr (fun c i => c == 90 || SL c i) M M' → K (latS g (ownZ s n)) M') : CalI G miX11_lateBy (d + 4) [.inr (.inr (some 66)), .inl s, .inl n] M K := by
  have hn := hw.n
  refine Cal.of (by decide) (Nat.le_of_ble_eq_true rfl) rfl (gX11_lateBy_0 ?_)
  refine c11_noDelays (fun o ho => ?_)
  have key := dn (P := fun k => ∀ M2, Fr (fun c i => c == 90 || SL c i) M M2 → (∀ f, f < k → M2 90 f = ownZ s n f) → OkI G miX11_lateBy (d + 4) K 9 [some (.inr (.inr (some 66))), none, some (.inl n), some (.inl (zF s k)), some (.inl (k : Int))] [] M2) (nF g) ?_ (fun k hk ih => ?_) 0 (Nat.zero_le _)
  · exact key _ (Fr.rf.ms (fun _ => rfl)) (fun f hf => absurd hf (Nat.not_lt_zero _))
  · intro M2 f2 h90
    have e67 : M2 67 = g := by rw [← hg]; funext i; exact f2 67 i rfl
    have lk2 := lk.fr f2
    refine gX11_lateBy_9 ⟨fun _ => ?_, fun c => absurd c (by rw [e67]; omega)⟩
    exact c11_allLate e67 hw hc (ownZ_ok hn1) lk2.1 lk2.2.1 lk2.2.2 h90 (fun M3 f3 _ => h M3 (f2.tr (f3.mo (fun c i hc => by simp only [Bool.or_eq_false_iff] at hc; exact hc.2))))
  · intro M2 f2 h90
    have e67 : M2 67 = g := by rw [← hg]; funext i; exact f2 67 i rfl
    refine gX11_lateBy_9 ⟨fun c => absurd c (by rw [e67]; omega), fun _ => ⟨by omega, by omega, ?_⟩⟩
    rw [w32n (by omega), Int.toNat_natCast]
    refine ih _ (f2.up rfl) (fun f hf => ?_)
    by_cases e : f = k
    · subst e; rw [mup_at]; rfl
    · rw [mup_at_ne e]; exact h90 f (by omega)
theorem c11_drawn {K : Int → Mem → Prop} {g : Nat → Int} {s n : Int} (hg : M 67 = g) (hw : WF g) (h : ∀ M', Fr SW M M' → K (drawnR g s n) M') : CalI G miX11_drawn (d + 7) [.inr (.inr (some 66)), .inl s, .inl n] M K := by
  refine Cal.of (by decide) (Nat.le_of_ble_eq_true rfl) rfl (gX11_drawn_0 ?_)
  refine c11_in (fun a2 b2 => n1 ?_) (fun a2 => n0 (kv (h M Fr.rf) (by unfold drawnR; rw [if_pos (by omega)])))
  have hbad : ¬ (n < 1 ∨ 99 < n) := by omega
  simp only [drawnR, if_neg hbad] at h
  refine c11_hasCover hg hw (fun M' fr rk cv hc => b1 ?_) (fun M' fr hc => b0 ?_)
  · have hc' : totG g < 1000000 := hc
    have lk : LK g M' := ⟨rk.1, fun s a b => (rk.2 s a b).2.2, cv⟩
    refine c11_lateBy (SV67 hg fr) hw hc lk ⟨a2, b2⟩ (fun M2 f2 => ?_)
    have hK := h M2 ((fr.mo SV_SW).tr (f2.mo (fun c i hc => by unfold SW at hc; simp only [Bool.or_eq_false_iff] at hc ⊢; exact hc.2)))
    rw [if_pos hc'] at hK; exact hK
  · have hK := h M' (fr.mo SV_SW)
    have hc' : ¬ totG g < 1000000 := hc
    rw [if_neg hc'] at hK; exact hK
theorem c11_chance {K : Int → Mem → Prop} {g : Nat → Int} {s m n w x : Int} (hg : M 67 = g) (hw : WF g) (h : ∀ M', Fr SW M M' → K (chanR g s m n w x) M') : CalI G miX11_chance (d + 7) [.inr (.inr (some 66)), .inl s, .inl m, .inl n, .inl w, .inl x] M K := by
  refine Cal.of (by decide) (Nat.le_of_ble_eq_true rfl) rfl (gX11_chance_0 ?_)
  refine c11_in (fun a b => b1 ?_) (fun a => b0 (kv (h M Fr.rf) (by unfold chanR; rw [if_pos (by omega)])))
  refine c11_in (fun a2 b2 => b1 ?_) (fun a2 => b0 (kv (h M Fr.rf) (by unfold chanR; rw [if_pos (by omega)])))
  refine c11_in (fun a3 b3 => b1 ?_) (fun a3 => b0 (kv (h M Fr.rf) (by unfold chanR; rw [if_pos (by omega)])))
  refine c11_in (fun a4 b4 => n1 ?_) (fun a4 => n0 (kv (h M Fr.rf) (by unfold chanR; rw [if_pos (by omega)])))
  have hbad : ¬ (m < 1 ∨ 20 < m ∨ n < 1 ∨ 99 < n ∨ w < 0 ∨ 9999 < w ∨ x < 0 ∨ 1 < x) := by omega
  simp only [chanR, if_neg hbad] at h
  refine c11_hasCover hg hw (fun M' fr rk cv hc => n1 ?_) (fun M' fr hc => n0 ?_)
  · have hc' : totG g < 1000000 := hc
    have lk : LK g M' := ⟨rk.1, fun s a b => (rk.2 s a b).2.2, cv⟩
    obtain ⟨mm, hmm⟩ : ∃ mm : Nat, m = (mm : Int) := ⟨m.toNat, by omega⟩
    subst hmm
    rw [Int.toNat_natCast] at h
    refine dn (P := fun k => ∀ M2, Fr SW M M2 → LK g M2 → OkI G miX11_chance (d + 7) K 67 [some (.inr (.inr (some 66))), some (.inl s), some (.inl (mm : Int)), some (.inl n), some (.inl w), some (.inl x), some (.inl (inT g s n w k : Int)), some (.inl (k : Int))] [] M2) mm ?_ (fun k hk ih => ?_) 0 (Nat.zero_le _) M' (fr.mo SV_SW) lk
    · intro M2 f2 lk2
      have hle := inT_le g s n w mm
      refine gX11_chance_67 ⟨fun _ => ?_, fun c => absurd c (by omega)⟩
      refine c11_lowest (by omega) (by omega) (by omega) ?_
      have hK := h M2 f2
      rw [if_pos hc'] at hK
      have h1 := lowR_le (a := inT g s n w mm) (b := mm) (B := 20) x (by omega) (by omega)
      rw [w32_eq (by omega) (by omega)]
      exact hK
    · intro M2 f2 lk2
      have hle := inT_le g s n w k
      refine gX11_chance_67 ⟨fun c => absurd c (by omega), fun _ => ?_⟩
      refine c11_lateBy (SW67 hg f2) hw hc lk2 ⟨a2, b2⟩ (fun M3 f3 => ?_)
      rw [w32n (by omega)]
      have e : w32 ((inT g s n w k : Int) + (if ¬ (w < latS g (ownZ (w32 (s + (k : Int))) n)) then (1 : Int) else 0)) = (inT g s n w (k + 1) : Int) := by
        conv => rhs; unfold inT
        rw [w32_eq (by split <;> omega) (by split <;> omega)]
        by_cases hq : latS g (ownZ (w32 (s + (k : Int))) n) ≤ w
        · rw [if_pos (by omega), if_pos hq]; omega
        · rw [if_neg (by omega), if_neg hq]; omega
      rw [e]
      exact ih M3 (f2.tr (f3.mo (fun c i hc => by unfold SW at hc; simp only [Bool.or_eq_false_iff] at hc ⊢; exact hc.2))) (lk2.fr f3)
  · have hK := h M' (fr.mo SV_SW)
    have hc' : ¬ totG g < 1000000 := hc
    rw [if_neg hc'] at hK; exact hK
end REFJ
