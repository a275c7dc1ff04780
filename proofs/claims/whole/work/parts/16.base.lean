/-! from contracts with K to contracts with Q -/
section BASE
variable {G : GE} {y : MI} {d : Nat} {Q : Option MV → Lay → Mem → Prop} {M : Mem} {as : List MV}
theorem CalI.toQ (h : CalI G y d as M (fun x M' => Q (some (.inl x)) lay0 M')) : Cal G y d 0 0 as lay0 M Q := Cal.mono h (by rintro _ _ _ ⟨x, rfl, rfl, h⟩; exact h)
theorem CalL.toQ (h : CalL G y d as M (fun x M' => Q (some (.inr (.inl x))) lay0 M')) : Cal G y d 0 0 as lay0 M Q := Cal.mono h (by rintro _ _ _ ⟨x, rfl, rfl, h⟩; exact h)
theorem CalV.toQ (h : CalV G y d as M (fun M' => Q none lay0 M')) : Cal G y d 0 0 as lay0 M Q := Cal.mono h (by rintro _ _ _ ⟨rfl, rfl, h⟩; exact h)
/-- bits of sets -/
def bit (s k : Int) : Prop := iand (ishr s k) 1 = 1
end BASE
