/-! the reference: labels -/
section REFX
variable {G : GE} {d : Nat} {M : Mem}
theorem SS67 {f : Nat} {g : Nat → Int} (hg : M 67 = g) : ∀ {M' : Mem}, Fr (SS f) M M' → M' 67 = g := fun hf => by rw [← hg]; funext i; exact hf 67 i (by unfold SS; simp)
theorem lbM_set {f : Nat} {K : List Lb} (h : LbM M f K) {b : Nat} (l : Lb) (hb : 128 * f + K.length ≤ b) : LbM (setL M b l) f K := ⟨by rw [setL_cell _ (by omega)]; exact h.1, fun i hi => by rw [setL_ne _ (by omega)]; exact h.2 i hi⟩
theorem c11_begins {K0 : Mem → Prop} {g p : Nat → Int} {v : Int} {f dr : Nat} {K : List Lb} (hg : M 67 = g) (hw : WF g) (hp : prOK g p) (e : v = (f : Int)) (hf : f < nF g) (hK : LbM M f K) (hlen : K.length ≤ 120) (hdr : dr ≤ 100000) (h34 : M 66 34 = (dr : Int)) (h : ∀ M', Fr (SS f) M M' → LbM M' f (if (g 86).toNat.testBit (g (1 + f)).toNat = true then stepK g f (K, dr) (begL g p f) else (K, dr)).1 → M' 66 34 = ((if (g 86).toNat.testBit (g (1 + f)).toNat = true then stepK g f (K, dr) (begL g p f) else (K, dr)).2 : Int) → K0 M') : CalV G miX11_begins (d + 2) [.inr (.inr (some 66)), .inl v, .inr (.inl (p f))] M K0 := by
  have hn := hw.n
  subst e
  have hbl := begL_ok hw hp hf
  have h1 := hw.fl (show f < 7 by omega)
  have h2 := hw.ft hf
  have h3 := hp f hf
  have h4 := hw.fe
  have h5 := hw.bs
  have m := mul_bd h4.2.1 (show 0 ≤ g (22 + f) - g (15 + f) ∧ g (22 + f) - g (15 + f) ≤ 299 by omega)
  have ix : ((128 * (f : Int)) + (K.length : Int)).toNat = 128 * f + K.length := by omega
  have e1 : (1 + (f : Int)).toNat = 1 + f := by omega
  have e2 : (22 + (f : Int)).toNat = 22 + f := by omega
  have e3 : (15 + (f : Int)).toNat = 15 + f := by omega
  refine Cal.of (d := d + 2) (by decide) (Nat.le_of_ble_eq_true rfl) rfl (gX11_begins_0 ?_)
  rw [Int.toNat_natCast, hK.1, ix, e1, e2, e3]
  rw [mup_ne (show (67 : Nat) ≠ 85 by decide)]
  rw [mup_ne (show (67 : Nat) ≠ 87 by decide), mup_ne (show (67 : Nat) ≠ 86 by decide), mup_ne (show (67 : Nat) ≠ 89 by decide), mup_ne (show (67 : Nat) ≠ 85 by decide)]
  rw [hg, w32_eq (by omega) (by omega), w64_eq (by omega) (by omega)]
  change (0 ≤ (f : Int) ∧ (f : Int) < 7) ∧ _ ∧ _ ∧ _ ∧ _ ∧ _ ∧ _ ∧ _ ∧ _ ∧ _ ∧ _ ∧ CalI G miX11_has (d + 1) [.inl ((setL M (128 * f + K.length) (begL g p f)) 67 86), .inl ((setL M (128 * f + K.length) (begL g p f)) 85 (128 * f + K.length))] (setL M (128 * f + K.length) (begL g p f)) _
  have fr : Fr (SS f) M (setL M (128 * f + K.length) (begL g p f)) := Fr_setL Fr.rf _ ⟨by omega, by omega⟩
  have e67 := SS67 hg fr
  have eat := setL_at M (128 * f + K.length) (begL g p f)
  have e85 : (setL M (128 * f + K.length) (begL g p f)) 85 (128 * f + K.length) = g (1 + f) := congrArg (fun l : Lb => l.1) eat
  have lbm := lbM_set hK (begL g p f) (Nat.le_refl _)
  have e34 : (setL M (128 * f + K.length) (begL g p f)) 66 34 = (dr : Int) := by rw [setL_cell _ (by omega)]; exact h34
  rw [e67, e85]
  refine ⟨by omega, by omega, by omega, by omega, by omega, by omega, by omega, by omega, by omega, by omega, by omega, ?_⟩
  refine c11_has (s := (g 86).toNat) (k := (g (1 + f)).toNat) (by omega) (by omega) (by omega) (by omega) (fun b => b1 ?_) (fun b => b0 ?_)
  · rw [if_pos b] at h
    refine c11_settles (K := K) (c := begL g p f) e67 hw rfl hf lbm hlen hdr eat (lbOK_mono (by omega) hbl) e34 (fun M' f' l' d' => h M' (fr.tr f') l' d')
  · rw [if_neg (by rw [b]; decide)] at h
    exact h _ fr lbm e34
theorem c11_goesOn {K0 : Mem → Prop} {g p : Nat → Int} {v w x : Int} {e f q dr : Nat} {K : List Lb} {l : Lb} (hg : M 67 = g) (hw : WF g) (hp : prOK g p) (ev : v = (e : Int)) (ew : w = (f : Int)) (eq : x = (q : Int)) (he : e < nF g) (hf : f < nF g) (hhow : 0 < howF g e f) (hq : q < 896) (hq2 : q < 128 * f ∨ 128 * f + 128 ≤ q) (hl : labAt M q = l) (hlb : lbOK 6 l) (hK : LbM M f K) (hlen : K.length ≤ 120) (hdr : dr ≤ 100000) (h34 : M 66 34 = (dr : Int)) (h : ∀ M', Fr (SS f) M M' → LbM M' f (stepK g f (K, dr) (extL g p e f l)).1 → M' 66 34 = ((stepK g f (K, dr) (extL g p e f l)).2 : Int) → K0 M') : CalV G miX11_goesOn (d + 4) [.inr (.inr (some 66)), .inl v, .inl x, .inl w, .inr (.inl (p f))] M K0 := by
  have hn := hw.n
  subst ev; subst ew; subst eq
  have hel := extL_ok hw hp he hf hlb
  have heb := extL_bd hw hp he hf
  have h1 := hw.fl (show f < 7 by omega)
  have h1e := hw.fl (show e < 7 by omega)
  have h4 := hw.fe
  have hhb := howF_bd g e f
  have ix : ((128 * (f : Int)) + (K.length : Int)).toNat = 128 * f + K.length := by omega
  have eown : w32 ((128 * (f : Int)) + (K.length : Int)) = ((128 * f + K.length : Nat) : Int) := by rw [w32_eq (by omega) (by omega)]; omega
  generalize hO : 128 * f + K.length = own at *
  refine Cal.of (d := d + 4) (by decide) (Nat.le_of_ble_eq_true rfl) rfl (gX11_goesOn_0 ?_)
  rw [Int.toNat_natCast, hK.1, eown, ix]
  clear eown
  refine ⟨by omega, c11_followsBy hg hw rfl rfl he (by omega) ?_⟩
  refine c11_movesLabel rfl rfl (by omega) (by omega) ?_
  rw [hl]
  have fr1 : Fr (SS f) M (setL M own l) := Fr_setL Fr.rf _ ⟨by omega, by omega⟩
  have e67 := SS67 hg fr1
  have eat := setL_at M own l
  have e89 : (setL M own l) 89 own = l.2.1 := congrArg (fun l : Lb => l.2.1) eat
  have e86 : (setL M own l) 86 own = l.2.2.1 := congrArg (fun l : Lb => l.2.2.1) eat
  have e87 : (setL M own l) 87 own = l.2.2.2.1 := congrArg (fun l : Lb => l.2.2.2.1) eat
  have e88 : (setL M own l) 88 own = l.2.2.2.2 := congrArg (fun l : Lb => l.2.2.2.2) eat
  have e85 : (setL M own l) 85 own = l.1 := congrArg (fun l : Lb => l.1) eat
  rw [show (22 + (f : Int)).toNat = 22 + f by omega, show (22 + (e : Int)).toNat = 22 + e by omega, e67, e89, w32_eq (by omega) (by omega)]
  rw [w64_eq (by omega) (by omega)]
  unfold lbOK at hlb
  -- the rest, with what is added told
  have fin : ∀ z : Int, z = (if howF g e f = 2 then g 87 else if tgtB g e f = true then g 89 else 0) → (0 ≤ z ∧ z ≤ 99) → OkV G miX11_goesOn (d + 4) K0 105 [some (.inr (.inr (some 66))), none, none, some (.inl (f : Int)), none, none, some (.inl (own : Int)), some (.inl (howF g e f))] [.inl z, .inr (.inl (g 88 * (g (22 + f) - g (22 + e)) - p f)), .inr (.inl l.2.1), .inl (own : Int), .inr (.inr (some 89))] (setL M own l) := by
    intro z hz hzb
    generalize hy : g 88 * (g (22 + f) - g (22 + e)) = y at *
    -- the label that is made
    have fin2 : ∀ le bg : Int, le = (if howF g e f = 2 then 1 else l.2.2.2.1 + 1) → bg = (if howF g e f = 2 then g (15 + f) else l.2.2.2.2) → CalV G miX11_settles (d + 3) [.inr (.inr (some 66)), .inl (f : Int)] (mup (mup (mup (mup (setL M own l) 89 own (l.2.1 + (y - p f + z))) 86 own (if howF g e f = 2 then l.2.2.1 + 1 else l.2.2.1)) 87 own le) 88 own bg) K0 := by
      intro le bg hle hbg
      have em : mup (mup (mup (mup (setL M own l) 89 own (l.2.1 + (y - p f + z))) 86 own (if howF g e f = 2 then l.2.2.1 + 1 else l.2.2.1)) 87 own le) 88 own bg = setL M own (extL g p e f l) := by
        unfold extL
        rw [hy, ← hz, ← hle, ← hbg]
        unfold setL
        funext a b
        unfold mup
        by_cases hb : b = own
        · by_cases a88 : a = 88
          · simp [a88, hb]
          · by_cases a87 : a = 87
            · simp [a87, hb]
            · by_cases a86 : a = 86
              · simp [a86, hb]
              · by_cases a89 : a = 89
                · simp [a89, hb]
                · simp [a88, a87, a86, a89]
        · simp [hb]
      rw [em]
      have fr2 : Fr (SS f) M (setL M own (extL g p e f l)) := Fr_setL Fr.rf _ ⟨by omega, by omega⟩
      refine c11_settles (K := K) (c := extL g p e f l) (SS67 hg fr2) hw rfl hf (lbM_set hK _ (by omega)) hlen hdr (by rw [hO]; exact setL_at _ _ _) (lbOK_mono (by omega) hel) (by rw [setL_cell _ (by omega)]; exact h34) (fun M' f' l' d' => h M' (fr2.tr f') l' d')
    refine gX11_goesOn_105 ?_
    rw [Int.toNat_natCast, mup_ne (show (86 : Nat) ≠ 89 by decide), e86, mup_ne (show (87 : Nat) ≠ 86 by decide), mup_ne (show (87 : Nat) ≠ 89 by decide), e87, w64_eq (by omega) (by omega)]
    have edu : w32 (l.2.2.1 + (if howF g e f = 2 then (1 : Int) else 0)) = (if howF g e f = 2 then l.2.2.1 + 1 else l.2.2.1) := by
      split
      · rw [w32_eq (by omega) (by omega)]
      · rw [w32_eq (by omega) (by omega), Int.add_zero]
    rw [edu, w32_eq (by omega) (by omega)]
    clear edu
    refine ⟨by omega, by omega, by omega, fun c => ⟨by omega, ?_⟩, fun c => ?_⟩
    · refine gX11_goesOn_155 ⟨by omega, fun _ => ⟨by omega, ?_⟩, fun q => absurd q c⟩
      rw [Int.toNat_natCast, mup_ne (show (88 : Nat) ≠ 87 by decide), mup_ne (show (88 : Nat) ≠ 86 by decide), mup_ne (show (88 : Nat) ≠ 89 by decide), e88]
      refine gX11_goesOn_187 ⟨by omega, ?_⟩
      rw [Int.toNat_natCast]
      exact fin2 _ _ (by rw [if_neg c]) (by rw [if_neg c])
    · refine gX11_goesOn_155 ⟨by omega, fun q => absurd c q, fun _ => ⟨by omega, ?_⟩⟩
      rw [Int.toNat_natCast, mup_ne (show (67 : Nat) ≠ 87 by decide), mup_ne (show (67 : Nat) ≠ 86 by decide), mup_ne (show (67 : Nat) ≠ 89 by decide), e67, show (15 + (f : Int)).toNat = 15 + f by omega]
      refine gX11_goesOn_187 ⟨by omega, ?_⟩
      rw [Int.toNat_natCast]
      exact fin2 _ _ (by rw [if_pos c]) (by rw [if_pos c])
  refine ⟨by omega, by omega, by omega, fun c => ?_, fun c => ?_⟩
  · refine c11_isTight e67 hw rfl rfl he (by omega) (fun b => b1 ?_) (fun b => b0 ?_)
    · rw [e67]; exact fin _ (by rw [if_neg c, if_pos b]) (by omega)
    · exact fin _ (by rw [if_neg c, if_neg (by rw [b]; decide)]) (by omega)
  · exact fin _ (by rw [if_pos c]) (by omega)
end REFX
