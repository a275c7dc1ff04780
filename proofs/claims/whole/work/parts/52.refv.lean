/-! the reference: film, image, back, count, feed -/
section REFT
variable {G : GE} {d : Nat} {M : Mem} {K : Int → Mem → Prop}
def filR (g : Nat → Int) (v : Int) : Int := if v < 0 ∨ 3 < v then -2 else if totG g < 1000000 then ((bestL g).length : Int) else -1
def filT (g it : Nat → Int) (v k : Nat) : Nat → Int := fun i => if 40 * v ≤ i ∧ i < 40 * v + k then (bsI g (i - 40 * v) : Int) else clr it v i
theorem c11_film {g : Nat → Int} {v : Int} (hg : M 67 = g) (hw : WF g) (h1 : 0 ≤ v → v ≤ 3 → covB g → ∀ M', Fr SV (m3 M (fup (M 80) v.toNat 0) (fup (M 81) v.toNat ((bestL g).length : Int)) (filT g (M 82) v.toNat (bestL g).length)) M' → K ((bestL g).length : Int) M') (h0 : filR g v < 0 → ∀ M', Fr SV M M' → K (filR g v) M') : CalI G miX11_film (d + 7) [.inr (.inr (some 66)), .inl v] M K := by
  refine Cal.of (by decide) (Nat.le_of_ble_eq_true rfl) rfl (gX11_film_0 ?_)
  refine c11_isSheet (fun p q => n1 ?_) (fun p => n0 ?_)
  · refine c11_hasCover hg hw (fun M1 f1 rk cv hc => n1 ?_) (fun M1 f1 hc => n0 ?_)
    · have h1' := h1 p q hc
      have hl := bestL_len g
      have e1 : sheR v 0 ((bestL g).length : Int) = 1 := by unfold sheR; rw [if_neg (by omega), if_neg (by omega)]
      have e80 : M1 80 = M 80 := by funext i; exact f1 80 i rfl
      have e81 : M1 81 = M 81 := by funext i; exact f1 81 i rfl
      have e82 : M1 82 = M 82 := by funext i; exact f1 82 i rfl
      rw [cv.1]
      refine c11_sheet ?_
      rw [e1, if_pos rfl, if_neg (by decide), e80, e81, e82]
      have key := dn (P := fun k => OkI G miX11_film (d + 7) K 32 [some (.inr (.inr (some 66))), some (.inl v), none, some (.inl (k : Int))] [] (m3 M1 (fup (M 80) v.toNat 0) (fup (M 81) v.toNat ((bestL g).length : Int)) (filT g (M 82) v.toNat k))) (bestL g).length ?_ (fun k hk ih => ?_) 0 (Nat.zero_le _)
      · have e0 : filT g (M 82) v.toNat 0 = clr (M 82) v.toNat := by funext i; unfold filT; rw [if_neg (by omega)]
        rw [e0] at key; exact key
      · have e14 : (m3 M1 (fup (M 80) v.toNat 0) (fup (M 81) v.toNat ((bestL g).length : Int)) (filT g (M 82) v.toNat (bestL g).length)) 66 14 = ((bestL g).length : Int) := by
          unfold m3; rw [mset_ne _ (by decide), mset_ne _ (by decide), mset_ne _ (by decide), cv.1]
        refine gX11_film_32 ⟨fun _ => ?_, fun c => absurd c (by rw [e14]; omega)⟩
        rw [e14]
        refine h1' _ (fun c i hc => ?_)
        unfold m3 mset
        split
        · rfl
        · split
          · rfl
          · split
            · rfl
            · exact f1 c i hc
      · have e14 : (m3 M1 (fup (M 80) v.toNat 0) (fup (M 81) v.toNat ((bestL g).length : Int)) (filT g (M 82) v.toNat k)) 66 14 = ((bestL g).length : Int) := by
          unfold m3; rw [mset_ne _ (by decide), mset_ne _ (by decide), mset_ne _ (by decide), cv.1]
        have e76 : (m3 M1 (fup (M 80) v.toNat 0) (fup (M 81) v.toNat ((bestL g).length : Int)) (filT g (M 82) v.toNat k)) 76 k = (bsI g k : Int) := by
          unfold m3; rw [mset_ne _ (by decide), mset_ne _ (by decide), mset_ne _ (by decide), cv.2 k hk]; rfl
        refine gX11_film_32 ⟨fun c => absurd c (by rw [e14]; omega), fun _ => ⟨by omega, by omega, ?_⟩⟩
        rw [w32n (by omega), Int.toNat_natCast, e76, show ((40 * v) + (k : Int)).toNat = 40 * v.toNat + k by omega]
        have e2 : mup (m3 M1 (fup (M 80) v.toNat 0) (fup (M 81) v.toNat ((bestL g).length : Int)) (filT g (M 82) v.toNat k)) 82 (40 * v.toNat + k) (bsI g k : Int) = m3 M1 (fup (M 80) v.toNat 0) (fup (M 81) v.toNat ((bestL g).length : Int)) (filT g (M 82) v.toNat (k + 1)) := by
          unfold m3
          rw [mup_mset, mset_at, mset_mset]
          congr 1
          funext i; unfold fup filT
          by_cases q1 : i = 40 * v.toNat + k
          · rw [if_pos q1, if_pos (by omega)]; congr 2; omega
          · rw [if_neg q1]
            by_cases q2 : 40 * v.toNat ≤ i ∧ i < 40 * v.toNat + k
            · rw [if_pos q2, if_pos (by omega)]
            · rw [if_neg q2, if_neg (by omega)]
        rw [e2]; exact ih
    · have hc' : ¬ totG g < 1000000 := hc
      have e : filR g v = -1 := by unfold filR; rw [if_neg (by omega), if_neg hc']
      rw [e] at h0; exact h0 (by decide) M1 f1
  · have e : filR g v = -2 := by unfold filR; rw [if_pos (by omega)]
    rw [e] at h0; exact h0 (by decide) M Fr.rf
def cpy (a b : Nat → Int) : Nat → Int := fun i => if i < 92 then a i else b i
theorem c11_copies {K : Mem → Prop} {a b : Nat} (ha : a = 67 ∨ a = 68) (hb : b = 67 ∨ b = 68) (hab : a ≠ b) (h : K (mset M b (cpy (M a) (M b)))) : CalV G miX11_copies d [.inr (.inr (some a)), .inr (.inr (some b))] M K := by
  refine Cal.of (by decide) (Nat.le_of_ble_eq_true rfl) rfl (gX11_copies_0 ha hb ?_)
  have key := dn (P := fun k => OkV G miX11_copies d K 2 [some (.inr (.inr (some a))), some (.inr (.inr (some b))), some (.inl (k : Int))] [] (mset M b (fun i => if i < k then M a i else M b i))) 92 ?_ (fun k hk ih => ?_) 0 (Nat.zero_le _)
  · have e0 : (fun i => if i < 0 then M a i else M b i) = M b := by funext i; rw [if_neg (by omega)]
    rw [e0, mset_self] at key; exact key
  · exact gX11_copies_2 ha hb ⟨fun _ => h, fun c => absurd c (by omega)⟩
  · refine gX11_copies_2 ha hb ⟨fun c => absurd c (by omega), fun _ => ⟨by omega, by omega, ?_⟩⟩
    rw [w32n (by omega), Int.toNat_natCast, mset_ne _ hab, mup_mset, mset_at, mset_mset]
    have e2 : fup (fun i => if i < k then M a i else M b i) k (M a k) = (fun i => if i < k + 1 then M a i else M b i) := by
      funext i; unfold fup
      by_cases q : i = k
      · rw [if_pos q, if_pos (by omega), q]
      · rw [if_neg q]
        show (if i < k then M a i else M b i) = _
        by_cases q2 : i < k
        · rw [if_pos q2, if_pos (by omega)]
        · rw [if_neg q2, if_neg (by omega)]
    rw [e2]; exact ih
theorem c11_image (h : K (M 67 0) (mup (mset M 68 (cpy (M 67) (M 68))) 66 2 1)) : CalI G miX11_image (d + 1) [.inr (.inr (some 66))] M K := by
  refine Cal.of (by decide) (Nat.le_of_ble_eq_true rfl) rfl (gX11_image_0 ?_)
  refine c11_copies (.inl rfl) (.inr rfl) (by decide) ?_
  rw [mup_ne (by decide), mset_ne _ (by decide)]; exact h
theorem c11_back (h1 : ¬ M 66 2 = 0 → K (M 68 0) (mset M 67 (cpy (M 68) (M 67)))) (h0 : M 66 2 = 0 → K (-3) M) : CalI G miX11_back (d + 1) [.inr (.inr (some 66))] M K := by
  refine Cal.of (by decide) (Nat.le_of_ble_eq_true rfl) rfl (gX11_back_0 ?_)
  refine ⟨fun c => c11_copies (.inr rfl) (.inl rfl) (by decide) ?_, fun c => h0 c⟩
  rw [mset_at]
  exact h1 c
def two1 (g : Nat → Int) (m : Bool) (f k : Nat) : Int := if 0 < (if m then g (29 + (7 * f + k)) else howF g f k) then 1 else 0
def twoS (g : Nat → Int) (m : Bool) : Int := sumT (fun f => sumT (fun k => two1 g m f k) (nF g)) (nF g)
theorem c11_twos {g : Nat → Int} {v : Int} (m : Bool) (hg : M 67 = g) (hw : WF g) (e : v = bI m) (h : K (twoS g m) M) : CalI G miX11_twos (d + 3) [.inr (.inr (some 66)), .inl v] M K := by
  have hn := hw.n
  subst e
  have b1' : ∀ f k, 0 ≤ two1 g m f k ∧ two1 g m f k ≤ 1 := fun f k => by unfold two1; split <;> omega
  have b2' : ∀ f k, 0 ≤ sumT (fun k => two1 g m f k) k ∧ sumT (fun k => two1 g m f k) k ≤ (k : Int) * 1 := fun f k => sumT_bd (fun i _ => b1' f i)
  have b3' : ∀ f, f ≤ nF g → 0 ≤ sumT (fun f => sumT (fun k => two1 g m f k) (nF g)) f ∧ sumT (fun f => sumT (fun k => two1 g m f k) (nF g)) f ≤ (f : Int) * 7 := fun f hf => sumT_bd (fun i _ => by have := b2' i (nF g); omega)
  refine Cal.of (by decide) (Nat.le_of_ble_eq_true rfl) rfl (gX11_twos_0 ?_)
  refine dn (P := fun f => OkI G miX11_twos (d + 3) K 4 [some (.inr (.inr (some 66))), some (.inl (bI m)), some (.inl (sumT (fun f => sumT (fun k => two1 g m f k) (nF g)) f)), some (.inl (f : Int)), none] [] M) (nF g) ?_ (fun f hf ih => ?_) 0 (Nat.zero_le _)
  · exact gX11_twos_4 ⟨fun _ => h, fun c => absurd c (by rw [hg]; omega)⟩
  · refine gX11_twos_4 ⟨fun c => absurd c (by rw [hg]; omega), fun _ => ?_⟩
    have inner := dn (P := fun k => OkI G miX11_twos (d + 3) K 17 [some (.inr (.inr (some 66))), some (.inl (bI m)), some (.inl (sumT (fun f => sumT (fun k => two1 g m f k) (nF g)) f + sumT (fun k => two1 g m f k) k)), some (.inl (f : Int)), some (.inl (k : Int))] [] M) (nF g) ?_ (fun k hk ih2 => ?_) 0 (Nat.zero_le _)
    · simp only [sumT, Int.add_zero] at inner; exact inner
    · refine gX11_twos_17 ⟨fun _ => ?_, fun c => absurd c (by rw [hg]; omega)⟩
      rw [w32n (by omega)]; exact ih
    · have a1 := b3' f (by omega)
      have a2 := b2' f k
      have a3 := b1' f k
      have stp : ∀ y : Int, y = two1 g m f k → OkI G miX11_twos (d + 3) K 17 [some (.inr (.inr (some 66))), some (.inl (bI m)), some (.inl (w32 (sumT (fun f => sumT (fun k => two1 g m f k) (nF g)) f + sumT (fun k => two1 g m f k) k + y))), some (.inl (f : Int)), some (.inl (w32 ((k : Int) + 1)))] [] M := fun y hy => by
        rw [hy, w32n (by omega), w32_eq (by omega) (by omega)]
        simp only [sumT] at ih2
        rw [← Int.add_assoc] at ih2; exact ih2
      refine gX11_twos_17 ⟨fun c => absurd c (by rw [hg]; omega), fun _ => ⟨fun c => ?_, fun c => ?_⟩⟩
      · have hm : m = false := by cases m <;> simp_all [bI]
        refine c11_followsBy hg hw rfl rfl hf (by omega) (stp _ ?_)
        rw [hm]; rfl
      · have hm : m = true := by cases m <;> simp_all [bI]
        refine c11_markOf rfl rfl (by omega) (by omega) (stp _ ?_)
        rw [hm, hg]; rfl
theorem c11_hadMany {g : Nat → Int} (hg : M 67 = g) (hw : WF g) (h : ∀ M', Fr SR M M' → K (pcn (hadF g) (2 ^ nF g) : Int) M') : CalI G miX11_hadMany (d + 6) [.inr (.inr (some 66))] M K := by
  have hn := hw.n
  have hN := pow_le7 hn.2
  refine Cal.of (by decide) (Nat.le_of_ble_eq_true rfl) rfl (gX11_hadMany_0 ?_)
  refine c11_reckons hg hw (fun M1 f1 rk => ?_)
  have e67 := SR67 hg f1
  have eN : ishl 1 (M1 67 0) = ((2 ^ nF g : Nat) : Int) := by rw [e67, hn.1, ishl1 _ (by omega)]
  refine dn (P := fun k => 1 ≤ k → OkI G miX11_hadMany (d + 6) K 8 [some (.inr (.inr (some 66))), some (.inl (pcn (hadF g) k : Int)), some (.inl (k : Int))] [] M1) (2 ^ nF g) ?_ (fun k hk ih => ?_) 1 (pow_pos2 _) (Nat.le_refl _)
  · intro _; exact gX11_hadMany_8 ⟨fun _ => h M1 f1, fun c => absurd c (by rw [eN]; omega)⟩
  · intro hk1
    have hle := pcn_le (hadF g) k
    refine gX11_hadMany_8 ⟨fun c => absurd c (by rw [eN]; omega), fun _ => ⟨by omega, ?_⟩⟩
    rw [Int.toNat_natCast, (rk.2 k (by omega) hk).2.1, w32n (by omega)]
    have e : w32 ((pcn (hadF g) k : Int) + (if ¬ (hadF g k < 0) then (1 : Int) else 0)) = (pcn (hadF g) (k + 1) : Int) := by
      rw [pcn]
      by_cases c : hadF g k < 0
      · rw [if_neg (show ¬ ¬ _ from fun q => q c), if_neg (by omega), w32_eq (by omega) (by omega)]; omega
      · rw [if_pos c, if_pos (by omega), w32_eq (by omega) (by omega)]; omega
    rw [e]; exact ih (by omega)
def cntR (g : Nat → Int) (fed x : Int) : Int := if x = 0 then g 0 else if x = 1 then twoS g true else if x = 2 then fed else if x = 3 then twoS g false else if x = 4 then (pcn (hadF g) (2 ^ nF g) : Int) else if x = 5 then g 86 else if x < 10 ∨ 14 < x then -2 else g (77 + x.toNat)
theorem c11_count {g : Nat → Int} {x : Int} (hg : M 67 = g) (hw : WF g) (h : ∀ M', Fr SR M M' → K (cntR g (M 66 39) x) M') : CalI G miX11_count (d + 7) [.inr (.inr (some 66)), .inl x] M K := by
  have hK := h M Fr.rf
  refine Cal.of (by decide) (Nat.le_of_ble_eq_true rfl) rfl (gX11_count_0 ?_)
  refine ⟨fun c => ?_, fun c => ?_, fun c => ?_, fun c => ?_, fun c => ?_, fun c => ?_, fun c => ?_⟩
  · subst c; rw [hg]; exact hK
  · subst c; exact c11_twos true hg hw rfl hK
  · subst c; exact hK
  · subst c; exact c11_twos false hg hw rfl hK
  · subst c; exact c11_hadMany hg hw h
  · subst c; rw [hg]; exact hK
  · have q0 : ¬ x = 0 := by omega
    have q1 : ¬ x = 1 := by omega
    have q2 : ¬ x = 2 := by omega
    have q3 : ¬ x = 3 := by omega
    have q4 : ¬ x = 4 := by omega
    have q5 : ¬ x = 5 := by omega
    unfold cntR at hK
    rw [if_neg q0, if_neg q1, if_neg q2, if_neg q3, if_neg q4, if_neg q5] at hK
    refine c11_in (fun a b => b1 ⟨by omega, ?_⟩) (fun a => b0 ?_)
    · rw [if_neg (by omega)] at hK
      rw [show ((87 + x) - 10).toNat = 77 + x.toNat by omega, hg]; exact hK
    · rw [if_pos (by omega)] at hK; exact hK
def feV (a b c e f : Int) (k : Nat) : Int := if k = 0 then a else if k = 1 then b else if k = 2 then c else if k = 3 then e else f
def feBad (n a b c e f : Int) : Prop := n < 1 ∨ 5 < n ∨ a < 0 ∨ 255 < a ∨ b < 0 ∨ 255 < b ∨ c < 0 ∨ 255 < c ∨ e < 0 ∨ 255 < e ∨ f < 0 ∨ 255 < f
/-- the tape after k of the bytes -/
def feT (t : Nat → Int) (m : Nat) (a b c e f : Int) : Nat → Nat → Int
  | 0 => t
  | k + 1 => fup (feT t m a b c e f k) (m + k) (feV a b c e f k)
theorem c11_feed {n a b c e f : Int} {m : Nat} (hm : M 66 39 = (m : Int)) (hm6 : m ≤ 60) (h2 : feBad n a b c e f → K (-2) M) (h4 : ¬ feBad n a b c e f → 60 < (m : Int) + n → K (-4) M) (h1 : ¬ feBad n a b c e f → (m : Int) + n ≤ 60 → K ((m : Int) + n) (mup (mset M 92 (feT (M 92) m a b c e f n.toNat)) 66 39 ((m : Int) + n))) : CalI G miX11_feed (d + 1) [.inr (.inr (some 66)), .inl n, .inl a, .inl b, .inl c, .inl e, .inl f] M K := by
  unfold feBad at *
  refine Cal.of (by decide) (Nat.le_of_ble_eq_true rfl) rfl (gX11_feed_0 ?_)
  refine c11_in (fun p1 q1 => b1 ?_) (fun p => b0 (h2 (by omega)))
  refine c11_in (fun p2 q2 => b1 ?_) (fun p => b0 (h2 (by omega)))
  refine c11_in (fun p3 q3 => b1 ?_) (fun p => b0 (h2 (by omega)))
  refine c11_in (fun p4 q4 => b1 ?_) (fun p => b0 (h2 (by omega)))
  refine c11_in (fun p5 q5 => b1 ?_) (fun p => b0 (h2 (by omega)))
  refine c11_in (fun p6 q6 => n1 ?_) (fun p => n0 (h2 (by omega)))
  rw [hm, w32_eq (by omega) (by omega)]
  refine ⟨fun c1 => ?_, fun c1 => h4 (by omega) c1⟩
  have h1' := h1 (by omega) c1
  obtain ⟨nn, hnn⟩ : ∃ nn : Nat, n = (nn : Int) := ⟨n.toNat, by omega⟩
  subst hnn
  rw [Int.toNat_natCast] at h1'
  have key := dn (P := fun k => OkI G miX11_feed (d + 1) K 95 [some (.inr (.inr (some 66))), some (.inl (nn : Int)), some (.inl a), some (.inl b), some (.inl c), some (.inl e), some (.inl f), some (.inl (k : Int))] [] (mup (mset M 92 (feT (M 92) m a b c e f k)) 66 39 ((m : Int) + (k : Int)))) nn ?_ (fun k hk ih => ?_) 0 (Nat.zero_le _)
  · have e0 : mup (mset M 92 (feT (M 92) m a b c e f 0)) 66 39 ((m : Int) + ((0 : Nat) : Int)) = M := by
      rw [show feT (M 92) m a b c e f 0 = M 92 from rfl, mset_self, show ((m : Int) + ((0 : Nat) : Int)) = M 66 39 by rw [hm]; omega, mup_mset]
      have : fup (M 66) 39 (M 66 39) = M 66 := by
        funext i; unfold fup; split
        · subst_vars; rfl
        · rfl
      rw [this, mset_self]
    rw [e0] at key; exact key
  · refine gX11_feed_95 ⟨fun _ => ?_, fun c => absurd c (by omega)⟩
    rw [mup_at]; exact h1'
  · refine gX11_feed_95 ⟨fun c => absurd c (by omega), fun _ => ?_⟩
    rw [mup_at]
    refine ⟨by omega, ?_⟩
    have ev : (if (k : Int) = 0 then a else (if (k : Int) = 1 then b else (if (k : Int) = 2 then c else (if (k : Int) = 3 then e else f)))) = feV a b c e f k := by
      unfold feV
      by_cases c0 : k = 0
      · subst c0; rfl
      · by_cases c1 : k = 1
        · subst c1; rfl
        · by_cases c2 : k = 2
          · subst c2; rfl
          · by_cases c3 : k = 3
            · subst c3; rfl
            · rw [if_neg (by omega), if_neg (by omega), if_neg (by omega), if_neg (by omega), if_neg c0, if_neg c1, if_neg c2, if_neg c3]
    rw [ev, show ((m : Int) + (k : Int)).toNat = m + k by omega, w32n (by omega)]
    have em : ∀ x : Int, mup (mup (mup (mset M 92 (feT (M 92) m a b c e f k)) 66 39 ((m : Int) + (k : Int))) 92 (m + k) (feV a b c e f k)) 66 39 x = mup (mset M 92 (feT (M 92) m a b c e f (k + 1))) 66 39 x := by
      intro x
      funext p q
      unfold mup mset
      by_cases hp : p = 66
      · subst hp
        by_cases hq : q = 39
        · simp [hq]
        · simp [hq]
      · by_cases hp2 : p = 92
        · subst hp2
          simp only [feT]
          simp
          rfl
        · simp [hp, hp2]
    have e39 : (mup (mup (mset M 92 (feT (M 92) m a b c e f k)) 66 39 ((m : Int) + (k : Int))) 92 (m + k) (feV a b c e f k)) 66 39 = (m : Int) + (k : Int) := by rw [mup_ne (by decide), mup_at]
    rw [e39, em, w32_eq (by omega) (by omega), show (m : Int) + (k : Int) + 1 = (m : Int) + ((k + 1 : Nat) : Int) by omega]
    exact ih
end REFT
