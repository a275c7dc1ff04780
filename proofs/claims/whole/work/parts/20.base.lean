/-! numbers of loops, sets as Nat, frames -/
theorem dn {P : Nat → Prop} (n : Nat) (hn : P n) (hs : ∀ k, k < n → P (k + 1) → P k) : ∀ k, k ≤ n → P k := by
  intro k hk
  obtain ⟨j, rfl⟩ : ∃ j, n = k + j := ⟨n - k, by omega⟩
  clear hk
  induction j generalizing k with
  | zero => exact hn
  | succ j ih => exact hs k (by omega) (ih (k + 1) (by rw [show k + 1 + j = k + (j + 1) by omega]; exact hn) (by rw [show k + 1 + j = k + (j + 1) by omega]; exact hs))
theorem w32n {k : Nat} (h : k < 2147483647) : w32 ((k : Int) + 1) = ((k + 1 : Nat) : Int) := by rw [w32_eq] <;> omega
theorem ofI_nat (a : Nat) : Int32.ofInt (a : Int) = Int32.ofNat a := Int32.ofInt_eq_ofNat
theorem nt_toI {a : Nat} (h : a < 2147483648) : (Int32.ofNat a).toInt = (a : Int) := Int32.toInt_ofNat_of_lt (by omega)
theorem nI_and (a b : Nat) : Int32.ofNat a &&& Int32.ofNat b = Int32.ofNat (a &&& b) := Int32.toBitVec_inj.mp (by rw [Int32.toBitVec_and]; exact BitVec.ofNat_and.symm)
theorem nI_or (a b : Nat) : Int32.ofNat a ||| Int32.ofNat b = Int32.ofNat (a ||| b) := Int32.toBitVec_inj.mp (by rw [Int32.toBitVec_or]; exact BitVec.ofNat_or.symm)
theorem iandN {a b : Nat} (h : a < 2147483648) : iand (a : Int) (b : Int) = ((a &&& b : Nat) : Int) := by
  unfold iand; rw [ofI_nat, ofI_nat, nI_and, nt_toI (Nat.lt_of_le_of_lt Nat.and_le_left h)]
theorem iorN {a b : Nat} (h : a < 256) (h2 : b < 256) : ior (a : Int) (b : Int) = ((a ||| b : Nat) : Int) := by
  unfold ior; rw [ofI_nat, ofI_nat, nI_or, nt_toI (Nat.lt_trans (Nat.or_lt_two_pow (n := 8) h h2) (by decide))]
theorem ishrN : ∀ a : Nat, a < 128 → ∀ k : Nat, k < 8 → ishr (a : Int) (k : Int) = ((a >>> k : Nat) : Int) := by decide +kernel
theorem ishl1 : ∀ k : Nat, k < 8 → ishl 1 (k : Int) = ((2 ^ k : Nat) : Int) := by decide +kernel
/-- set difference -/
def sdf (a b : Nat) : Nat := a ^^^ (a &&& b)
theorem iandnN : ∀ a : Nat, a < 128 → ∀ b : Nat, b < 128 → iand (a : Int) (ixor (b : Int) (-1)) = ((sdf a b : Nat) : Int) := by decide +kernel
theorem sdf_bit (a b k : Nat) : (sdf a b).testBit k = (a.testBit k && !b.testBit k) := by
  unfold sdf; rw [Nat.testBit_xor, Nat.testBit_and]; cases a.testBit k <;> cases b.testBit k <;> rfl
theorem shr1 (s k : Nat) : (s >>> k) &&& 1 = if s.testBit k then 1 else 0 := by
  have h : s.testBit k = (1 &&& (s >>> k) != 0) := rfl
  rw [Nat.and_comm] at h
  have h2 : (s >>> k) &&& 1 = (s >>> k) % 2 := Nat.and_one_is_mod _
  rw [h2] at h ⊢
  have h3 : (s >>> k) % 2 = 0 ∨ (s >>> k) % 2 = 1 := by omega
  rcases h3 with h3 | h3 <;> rw [h3] at h ⊢ <;> rw [h] <;> rfl
theorem bitN {s k : Nat} (hs : s < 128) (hk : k < 8) : iand (ishr (s : Int) (k : Int)) 1 = if s.testBit k then 1 else 0 := by
  rw [ishrN s hs k hk]
  have h := iandN (a := s >>> k) (b := 1) (Nat.lt_of_le_of_lt (Nat.shiftRight_le s k) (by omega))
  have h1 : ((1 : Nat) : Int) = 1 := rfl
  rw [h1] at h
  rw [h, shr1]
  split <;> rfl
theorem bit1 {s k : Nat} (hs : s < 128) (hk : k < 8) : iand (ishr (s : Int) (k : Int)) 1 = 1 ↔ s.testBit k = true := by
  rw [bitN hs hk]; split <;> simp_all
theorem bit0 {s k : Nat} (hs : s < 128) (hk : k < 8) : iand (ishr (s : Int) (k : Int)) 1 = 0 ↔ s.testBit k = false := by
  rw [bitN hs hk]; split <;> simp_all
/-- how many of a set -/
def cntTo (s : Nat) : Nat → Nat
  | 0 => 0
  | k + 1 => cntTo s k + (if s.testBit k then 1 else 0)
def cnt (s : Nat) : Nat := cntTo s 7
theorem cntTo_le (s k : Nat) : cntTo s k ≤ k := by
  induction k with
  | zero => exact Nat.le_refl _
  | succ k ih => unfold cntTo; split <;> omega
theorem cnt_le (s : Nat) : cnt s ≤ 7 := cntTo_le s 7
/-- frames: what S names may have changed -/
def Fr (S : Nat → Nat → Bool) (M M' : Mem) : Prop := ∀ c i, S c i = false → M' c i = M c i
theorem Fr.rf {S : Nat → Nat → Bool} {M : Mem} : Fr S M M := fun _ _ _ => rfl
theorem Fr.tr {S : Nat → Nat → Bool} {M M1 M2 : Mem} (h : Fr S M M1) (h2 : Fr S M1 M2) : Fr S M M2 := fun c i hs => (h2 c i hs).trans (h c i hs)
theorem Fr.mo {S S' : Nat → Nat → Bool} {M M' : Mem} (h : Fr S M M') (hs : ∀ c i, S' c i = false → S c i = false) : Fr S' M M' := fun c i h2 => h c i (hs c i h2)
theorem Fr.up {S : Nat → Nat → Bool} {M M' : Mem} {c i : Nat} {v : Int} (h : Fr S M M') (hs : S c i = true) : Fr S M (mup M' c i v) := by
  intro a j haj
  unfold mup
  split
  · split
    · subst_vars; rw [hs] at haj; cases haj
    · exact h _ _ haj
  · exact h _ _ haj
theorem Fr.up1 {S : Nat → Nat → Bool} {M : Mem} {c i : Nat} {v : Int} (hs : S c i = true) : Fr S M (mup M c i v) := Fr.up Fr.rf hs
theorem mup_eq {M : Mem} {c i j : Nat} {v : Int} (h : j = i) : mup M c i v c j = v := by subst h; exact mup_at M c j v
theorem tn_of {x : Int} {k : Nat} (h : x = (k : Int)) : x.toNat = k := by subst h; exact Int.toNat_natCast k
