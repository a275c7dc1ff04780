/-! numbers of the small judgement -/
theorem w32_bmod (x : Int) : w32 x = x.bmod 4294967296 := by unfold w32; rw [Int.bmod_def]; split <;> omega
theorem w64_bmod (x : Int) : w64 x = x.bmod 18446744073709551616 := by unfold w64; rw [Int.bmod_def]; split <;> omega
theorem w32_ok (x : Int) : I32 (w32 x) := by unfold w32 I32; omega
theorem w64_ok (x : Int) : I64 (w64 x) := by unfold w64 I64; omega
theorem w32_id {x : Int} (h : I32 x) : w32 x = x := by unfold I32 at h; unfold w32; omega
theorem w64_id {x : Int} (h : I64 x) : w64 x = x := by unfold I64 at h; unfold w64; omega
theorem w32_eq {x : Int} (h1 : -2147483648 ≤ x) (h2 : x ≤ 2147483647) : w32 x = x := by unfold w32; omega
theorem w64_eq {x : Int} (h1 : -9223372036854775808 ≤ x) (h2 : x ≤ 9223372036854775807) : w64 x = x := by unfold w64; omega
theorem ofI_w32 (x : Int) : Int32.ofInt (w32 x) = Int32.ofInt x := by
  apply Int32.toInt.inj
  rw [Int32.toInt_ofInt, Int32.toInt_ofInt, w32_bmod]
  exact Int.bmod_bmod
theorem ofI_w64 (x : Int) : Int64.ofInt (w64 x) = Int64.ofInt x := by
  apply Int64.toInt.inj
  rw [Int64.toInt_ofInt, Int64.toInt_ofInt, w64_bmod]
  exact Int.bmod_bmod
theorem toI_ofI {x : Int} (h : I32 x) : (Int32.ofInt x).toInt = x := Int32.toInt_ofInt_of_le (by unfold I32 at h; omega) (by unfold I32 at h; omega)
theorem toL_ofL {x : Int} (h : I64 x) : (Int64.ofInt x).toInt = x := Int64.toInt_ofInt_of_le (by unfold I64 at h; omega) (by unfold I64 at h; omega)
theorem I32_toInt (x : Int32) : I32 x.toInt := ⟨by have := x.le_toInt; omega, by have := x.toInt_lt; omega⟩
theorem I64_toInt (x : Int64) : I64 x.toInt := ⟨by have := x.le_toInt; omega, by have := x.toInt_lt; omega⟩
theorem ofI_inj {a b : Int} (ha : I32 a) (hb : I32 b) : Int32.ofInt a = Int32.ofInt b ↔ a = b := ⟨fun h => by rw [← toI_ofI ha, h, toI_ofI hb], fun h => by rw [h]⟩
theorem ofI_lt {a b : Int} (ha : I32 a) (hb : I32 b) : Int32.ofInt a < Int32.ofInt b ↔ a < b := by rw [Int32.lt_iff_toInt_lt, toI_ofI ha, toI_ofI hb]
theorem ofI_le {a b : Int} (ha : I32 a) (hb : I32 b) : Int32.ofInt a ≤ Int32.ofInt b ↔ a ≤ b := by rw [Int32.le_iff_toInt_le, toI_ofI ha, toI_ofI hb]
theorem ofL_lt {a b : Int} (ha : I64 a) (hb : I64 b) : Int64.ofInt a < Int64.ofInt b ↔ a < b := by rw [Int64.lt_iff_toInt_lt, toL_ofL ha, toL_ofL hb]
theorem ofL_inj {a b : Int} (ha : I64 a) (hb : I64 b) : Int64.ofInt a = Int64.ofInt b ↔ a = b := ⟨fun h => by rw [← toL_ofL ha, h, toL_ofL hb], fun h => by rw [h]⟩
theorem I32_0 : I32 0 := ⟨by decide, by decide⟩
theorem ofI_0 : Int32.ofInt 0 = 0 := rfl
theorem ofI_add (a b : Int) : Int32.ofInt a + Int32.ofInt b = Int32.ofInt (w32 (a + b)) := by rw [ofI_w32, Int32.ofInt_add]
theorem ofI_sub (a b : Int) : Int32.ofInt a - Int32.ofInt b = Int32.ofInt (w32 (a - b)) := by rw [ofI_w32, Int32.ofInt_sub]
theorem ofI_mul (a b : Int) : Int32.ofInt a * Int32.ofInt b = Int32.ofInt (w32 (a * b)) := by rw [ofI_w32, Int32.ofInt_mul]
theorem ofI_neg (a : Int) : -Int32.ofInt a = Int32.ofInt (w32 (-a)) := by rw [ofI_w32, Int32.ofInt_neg]
theorem ofL_add (a b : Int) : Int64.ofInt a + Int64.ofInt b = Int64.ofInt (w64 (a + b)) := by rw [ofI_w64, Int64.ofInt_add]
theorem ofL_sub (a b : Int) : Int64.ofInt a - Int64.ofInt b = Int64.ofInt (w64 (a - b)) := by rw [ofI_w64, Int64.ofInt_sub]
theorem ofL_mul (a b : Int) : Int64.ofInt a * Int64.ofInt b = Int64.ofInt (w64 (a * b)) := by rw [ofI_w64, Int64.ofInt_mul]
theorem ofL_neg (a : Int) : -Int64.ofInt a = Int64.ofInt (w64 (-a)) := by rw [ofI_w64, Int64.ofInt_neg]
/-! the other operations: by the machine's own -/
def iand (a b : Int) : Int := (Int32.ofInt a &&& Int32.ofInt b).toInt
def ior (a b : Int) : Int := (Int32.ofInt a ||| Int32.ofInt b).toInt
def ixor (a b : Int) : Int := (Int32.ofInt a ^^^ Int32.ofInt b).toInt
def ishl (a b : Int) : Int := (Int32.ofInt a <<< (Int32.ofInt b &&& 31)).toInt
def ishr (a b : Int) : Int := (Int32.ofInt a >>> (Int32.ofInt b &&& 31)).toInt
def land (a b : Int) : Int := (Int64.ofInt a &&& Int64.ofInt b).toInt
def lor (a b : Int) : Int := (Int64.ofInt a ||| Int64.ofInt b).toInt
def idiv (a b : Int) : Int := w32 (a.tdiv b)
def irem (a b : Int) : Int := a.tmod b
def ldiv (a b : Int) : Int := w64 (a.tdiv b)
def lrem (a b : Int) : Int := a.tmod b
def lcmp (a b : Int) : Int := if b < a then 1 else if a = b then 0 else -1
theorem ofI_toI (x : Int32) : Int32.ofInt x.toInt = x := Int32.ofInt_toInt x
theorem ofL_toL (x : Int64) : Int64.ofInt x.toInt = x := Int64.ofInt_toInt x
theorem ofI_div {a b : Int} (ha : I32 a) (hb : I32 b) : Int32.ofInt a / Int32.ofInt b = Int32.ofInt (idiv a b) := by
  apply Int32.toInt.inj
  rw [Int32.toInt_div, toI_ofI ha, toI_ofI hb, idiv, ofI_w32, Int32.toInt_ofInt]
theorem ofI_rem {a b : Int} (ha : I32 a) (hb : I32 b) : Int32.ofInt a % Int32.ofInt b = Int32.ofInt (irem a b) := by
  have h := Int32.toInt_mod (Int32.ofInt a) (Int32.ofInt b)
  rw [toI_ofI ha, toI_ofI hb] at h
  rw [irem, ← h, ofI_toI]
theorem irem_ok {a b : Int} (ha : I32 a) (hb : I32 b) : I32 (irem a b) := by
  have h := Int32.toInt_mod (Int32.ofInt a) (Int32.ofInt b)
  rw [toI_ofI ha, toI_ofI hb] at h
  rw [irem, ← h]; exact I32_toInt _
theorem ofL_div {a b : Int} (ha : I64 a) (hb : I64 b) : Int64.ofInt a / Int64.ofInt b = Int64.ofInt (ldiv a b) := by
  apply Int64.toInt.inj
  rw [Int64.toInt_div, toL_ofL ha, toL_ofL hb, ldiv, ofI_w64, Int64.toInt_ofInt]
theorem ofL_rem {a b : Int} (ha : I64 a) (hb : I64 b) : Int64.ofInt a % Int64.ofInt b = Int64.ofInt (lrem a b) := by
  have h := Int64.toInt_mod (Int64.ofInt a) (Int64.ofInt b)
  rw [toL_ofL ha, toL_ofL hb] at h
  rw [lrem, ← h, ofL_toL]
theorem lrem_ok {a b : Int} (ha : I64 a) (hb : I64 b) : I64 (lrem a b) := by
  have h := Int64.toInt_mod (Int64.ofInt a) (Int64.ofInt b)
  rw [toL_ofL ha, toL_ofL hb] at h
  rw [lrem, ← h]; exact I64_toInt _
theorem i2l_of {a : Int} (ha : I32 a) : (Int32.ofInt a).toInt64 = Int64.ofInt a := by
  apply Int64.toInt.inj
  rw [Int32.toInt_toInt64, toI_ofI ha, toL_ofL]
  unfold I32 at ha; unfold I64; omega
theorem l2i_of {a : Int} (ha : I64 a) : (Int64.ofInt a).toInt32 = Int32.ofInt (w32 a) := by
  apply Int32.toInt.inj
  rw [Int64.toInt_toInt32, toL_ofL ha, ofI_w32, Int32.toInt_ofInt]
theorem I32_64 {a : Int} (ha : I32 a) : I64 a := by unfold I32 at ha; unfold I64; omega
theorem mm_in {i : Int} {n : Nat} (h : I32 i) (h0 : 0 ≤ i) (h1 : i < n) : vp_in (Int32.ofInt i) n := by
  unfold vp_in
  have e : (Int32.ofInt i).toNatClampNeg = i.toNat := Int32.toNatClampNeg_ofInt_of_le (by unfold I32 at h; omega) (by unfold I32 at h; omega)
  rw [e, Int32.lt_iff_toInt_lt, toI_ofI h, Int32.toInt_zero]
  omega
theorem mm_clamp {i : Int} (h : I32 i) : (Int32.ofInt i).toNatClampNeg = i.toNat := Int32.toNatClampNeg_ofInt_of_le (by unfold I32 at h; omega) (by unfold I32 at h; omega)
