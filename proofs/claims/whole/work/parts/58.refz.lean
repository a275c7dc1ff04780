/-! the reference: tokens -/
def SK : Nat → Nat → Bool := fun c i => c == 66 && (i == 45 || (i == 46 || (i == 47 || i == 48)))
section REFZ
variable {G : GE} {d : Nat} {M : Mem}
/-- the tape that is read: m bytes t, place a -/
def TxM (t : Nat → Int) (m a : Nat) (M : Mem) : Prop := M 66 44 = (m : Int) ∧ M 66 45 = (a : Int) ∧ (∀ i, i < m → M 92 i = t i) ∧ m ≤ 60
def wdM (M : Mem) : Prop := (∀ w, w < 7 → ∀ k, k < 4 → M 93 (4 * w + k) = wdT w k)
theorem c11_here {K : Int → Mem → Prop} {t : Nat → Int} {m a : Nat} (hT : TxM t m a M) (h : K (byt t m a) M) : CalI G miX11_here d [.inr (.inr (some 66))] M K := by
  obtain ⟨h44, h45, h92, hm⟩ := hT
  refine Cal.of (by decide) (Nat.le_of_ble_eq_true rfl) rfl (gX11_here_0 ?_)
  rw [h44, h45, Int.toNat_natCast]
  unfold byt at h
  refine ⟨fun c => ?_, fun c => ⟨by omega, ?_⟩⟩
  · rw [if_neg (by omega)] at h; exact h
  · rw [if_pos (by omega)] at h; rw [h92 a (by omega)]; exact h
theorem TxM.at {t : Nat → Int} {m a : Nat} {M' : Mem} (hT : TxM t m a M) (b : Nat) (hf : Fr SK M M') (h45 : M' 66 45 = (b : Int)) : TxM t m b M' :=
  ⟨by rw [hf 66 44 rfl]; exact hT.1, h45, fun i hi => by rw [hf 92 i rfl]; exact hT.2.2.1 i hi, hT.2.2.2⟩
theorem c11_readsNumber {K : Mem → Prop} {t : Nat → Int} {m b : Nat} (hT : TxM t m b M) (hbm : b ≤ m) (h47 : M 66 47 = (b : Int)) (h : ∀ M', Fr SK M M' → M' 66 45 = (diE t m b : Int) → M' 66 47 = (b : Int) → M' 66 46 = (if diE t m b - b ≤ 3 then 2 else 4) → (diE t m b - b ≤ 3 → M' 66 48 = numV t b (diE t m b - b)) → K M') : CalV G miX11_readsNumber (d + 1) [.inr (.inr (some 66))] M K := by
  have hm := hT.2.2.2
  refine Cal.of (by decide) (Nat.le_of_ble_eq_true rfl) rfl (gX11_readsNumber_0 ?_)
  have hall : ∀ j, b ≤ j → j < diE t m b → isDb (byt t m j) = true := fun j h1 h2 => runE_all _ _ j h1 h2
  have hle : b ≤ diE t m b ∧ diE t m b ≤ m := runE_le (q := isDb) (t := t) hbm
  have dig : ∀ j, b ≤ j → j < diE t m b → 48 ≤ t j ∧ t j ≤ 57 := fun j h1 h2 => by
    have a := hall j h1 h2
    have hj : j < m := Nat.lt_of_lt_of_le h2 hle.2
    unfold isDb byt at a
    rw [if_pos hj] at a
    simp only [Bool.and_eq_true, decide_eq_true_eq] at a
    exact a
  refine dn (P := fun i => ∀ M' : Mem, Fr SK M M' → M' 66 45 = ((b + i : Nat) : Int) → M' 66 47 = (b : Int) → M' 66 48 = numV t b (if i ≤ 3 then i else 3) → OkV G miX11_readsNumber (d + 1) K 5 [some (.inr (.inr (some 66)))] [] M') (diE t m b - b) ?_ (fun i hi ih => ?_) 0 (Nat.zero_le _) _ (Fr.up1 rfl) (by rw [mup_at_ne (by decide)]; exact hT.2.1) (by rw [mup_at_ne (by decide)]; exact h47) (by rw [mup_at]; rfl)
  · intro M' hf h45 h47' h48
    have ee : b + (diE t m b - b) = diE t m b := by unfold diE at *; omega
    have hT' := hT.at (b + (diE t m b - b)) hf h45
    have hno : isDb (byt t m (diE t m b)) = false := by
      cases hq : isDb (byt t m (diE t m b)) with
      | false => rfl
      | true =>
        have hfix : ∀ f a, m ≤ a + f → isDb (byt t m (runE isDb t m f a)) = false := by
          intro f
          induction f with
          | zero => intro a ha; rw [runE, byt_end (by omega)]; rfl
          | succ f ihf =>
            intro a ha
            rw [runE]; split
            · exact ihf (a + 1) (by omega)
            · rename_i hn; cases hx : isDb (byt t m a) with
              | false => rfl
              | true => exact absurd hx hn
        have := hfix (m - b) b (by omega)
        unfold diE at hq
        rw [this] at hq; cases hq
    refine gX11_readsNumber_5 (c11_here hT' (c11_in (fun p q => ?_) (fun p => b0 ?_)))
    · exfalso
      rw [ee] at p q
      unfold isDb at hno
      simp only [Bool.and_eq_false_iff, decide_eq_false_iff_not] at hno
      omega
    · rw [h45, h47', w32_eq (by omega) (by omega)]
      refine h _ (hf.up rfl) (by rw [mup_at_ne (by decide), h45, ee]) (by rw [mup_at_ne (by decide), h47']) ?_ (fun hc => ?_)
      · rw [mup_at]
        by_cases hc : diE t m b - b ≤ 3
        · rw [if_pos hc, if_neg (by omega)]
        · rw [if_neg hc, if_pos (by omega)]
      · rw [mup_at_ne (by decide), h48, if_pos hc]
  · intro M' hf h45 h47' h48
    have hlt : b + i < diE t m b := by omega
    have hj : b + i < m := Nat.lt_of_lt_of_le hlt hle.2
    have hd := dig (b + i) (by omega) hlt
    have eb : byt t m (b + i) = t (b + i) := by unfold byt; rw [if_pos hj]
    have hT' := hT.at (b + i) hf h45
    refine gX11_readsNumber_5 (c11_here hT' (c11_in (fun p q => b1 ?_) (fun p => ?_)))
    · rw [h45, h47', w32_eq (x := ((b + i : Nat) : Int) - (b : Int)) (by omega) (by omega)]
      have fin : ∀ x : Int, x = numV t b (if i + 1 ≤ 3 then i + 1 else 3) → OkV G miX11_readsNumber (d + 1) K 58 [some (.inr (.inr (some 66)))] [.inl x, .inr (.inr (some 66))] M' := fun x hx => by
        refine gX11_readsNumber_58 ?_
        rw [mup_at_ne (by decide), h45, w32n (by omega)]
        exact ih _ ((hf.up rfl).up rfl) (by rw [mup_at]; rfl) (by rw [mup_at_ne (by decide), mup_at_ne (by decide), h47']) (by rw [mup_at_ne (by decide), mup_at, hx])
      refine ⟨fun c => fin _ ?_, fun c => c11_here hT' (fin _ ?_)⟩
      · rw [h48]
        by_cases e : i ≤ 3
        · have : i = 3 := by omega
          subst this; rfl
        · rw [if_neg e, if_neg (by omega)]
      · have e1 : i ≤ 3 := by omega
        have e2 : i + 1 ≤ 3 := by omega
        rw [h48, eb, if_pos e1, if_pos e2]
        have nb := numV_bd (t := t) (b := b) i (by omega) (fun j hj2 => dig (b + j) (by omega) (by omega))
        rw [w32_eq (by omega) (by omega)]; rfl
    · exfalso; rw [eb] at p; omega
end REFZ
