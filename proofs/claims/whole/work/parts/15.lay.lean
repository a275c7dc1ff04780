/-! the layout of both worlds behind the constructors (by wip/gen/layout.py) -/
def lay0 : Lay := [(12, 0, [some 1, some 10, some 19, some 28, some 34, some 38, some 46, some 54, some 58, some 61, some 65, none, none, none, none, none]), (8, 0, [some 2, some 3, some 4, some 5, some 6, some 7, some 8, some 9, none, none, none]), (0, 7, []), (0, 7, []), (0, 7, []), (0, 7, []), (0, 4, []), (0, 4, []), (0, 5, []), (0, 49, []), (8, 0, [some 11, some 12, some 13, some 14, some 15, some 16, some 17, some 18, none, none, none]), (0, 7, []), (0, 7, []), (0, 7, []), (0, 7, []), (0, 4, []), (0, 4, []), (0, 5, []), (0, 49, []), (7, 0, [some 1, some 20, some 21, some 22, some 23, some 24, some 25, some 26, some 27]), (0, 7, []), (0, 49, []), (0, 49, []), (0, 49, []), (0, 128, []), (0, 128, []), (0, 128, []), (0, 128, []), (4, 0, [some 1, some 19, some 29, some 30, some 31, some 32, some 33]), (2, 128, []), (0, 128, []), (0, 128, []), (0, 128, []), (0, 128, []), (10, 0, [some 1, some 35, some 36, some 37, none, none, none]), (1, 1088, []), (0, 136, []), (0, 7, []), (3, 0, [some 1, some 39, some 34, some 45, none, none]), (4, 0, [some 1, some 19, some 40, some 41, some 42, some 43, some 44]), (2, 128, []), (0, 128, []), (0, 128, []), (0, 128, []), (0, 128, []), (0, 49, []), (6, 0, [some 1, some 19, some 47, some 48, some 49, some 50, some 51, some 52, some 53, none, none]), (0, 128, []), (0, 128, []), (0, 128, []), (0, 128, []), (0, 128, []), (1, 128, []), (2, 128, []), (5, 0, [some 1, some 19, some 55, some 56, some 57]), (0, 7, []), (0, 7, []), (0, 7, []), (11, 0, [some 59, some 60, none, none, none]), (0, 60, []), (0, 60, []), (9, 0, [some 62, some 63, some 64]), (0, 4, []), (0, 4, []), (1, 160, []), (1, 7, []), (13, 0, [some 67, some 68, none, some 69, some 70, none, none, none, some 71, some 72, some 73, some 74, some 75, some 76, none, some 77, some 78, some 79, none, none, none, none, none, some 80, some 81, some 82, some 83, some 84, some 85, some 86, some 87, some 88, some 89, none, none, some 90, some 91, none, some 92, none, some 93, some 94, some 95, some 96, none, none, none, none, none]), (0, 92, []), (0, 92, []), (0, 7, []), (0, 7, []), (0, 128, []), (0, 128, []), (0, 128, []), (0, 128, []), (0, 128, []), (0, 7, []), (1, 1088, []), (0, 7, []), (0, 128, []), (0, 4, []), (0, 4, []), (1, 160, []), (1, 40, []), (0, 7, []), (0, 896, []), (0, 896, []), (0, 896, []), (0, 896, []), (1, 896, []), (0, 7, []), (0, 7, []), (0, 60, []), (0, 28, []), (0, 7, []), (0, 60, []), (0, 240, [])]
theorem ly_0 : lay0[0]? = some (9 + 3, 0, [some 1, some 10, some 19, some 28, some 34, some 38, some 46, some 54, some 58, some 61, some 65, none, none, none, none, none]) := rfl
theorem ly_1 : lay0[1]? = some (5 + 3, 0, [some 2, some 3, some 4, some 5, some 6, some 7, some 8, some 9, none, none, none]) := rfl
theorem ly_2 : lay0[2]? = some (0, 7, []) := rfl
theorem ly_3 : lay0[3]? = some (0, 7, []) := rfl
theorem ly_4 : lay0[4]? = some (0, 7, []) := rfl
theorem ly_5 : lay0[5]? = some (0, 7, []) := rfl
theorem ly_6 : lay0[6]? = some (0, 4, []) := rfl
theorem ly_7 : lay0[7]? = some (0, 4, []) := rfl
theorem ly_8 : lay0[8]? = some (0, 5, []) := rfl
theorem ly_9 : lay0[9]? = some (0, 49, []) := rfl
theorem ly_10 : lay0[10]? = some (5 + 3, 0, [some 11, some 12, some 13, some 14, some 15, some 16, some 17, some 18, none, none, none]) := rfl
theorem ly_11 : lay0[11]? = some (0, 7, []) := rfl
theorem ly_12 : lay0[12]? = some (0, 7, []) := rfl
theorem ly_13 : lay0[13]? = some (0, 7, []) := rfl
theorem ly_14 : lay0[14]? = some (0, 7, []) := rfl
theorem ly_15 : lay0[15]? = some (0, 4, []) := rfl
theorem ly_16 : lay0[16]? = some (0, 4, []) := rfl
theorem ly_17 : lay0[17]? = some (0, 5, []) := rfl
theorem ly_18 : lay0[18]? = some (0, 49, []) := rfl
theorem ly_19 : lay0[19]? = some (4 + 3, 0, [some 1, some 20, some 21, some 22, some 23, some 24, some 25, some 26, some 27]) := rfl
theorem ly_20 : lay0[20]? = some (0, 7, []) := rfl
theorem ly_21 : lay0[21]? = some (0, 49, []) := rfl
theorem ly_22 : lay0[22]? = some (0, 49, []) := rfl
theorem ly_23 : lay0[23]? = some (0, 49, []) := rfl
theorem ly_24 : lay0[24]? = some (0, 128, []) := rfl
theorem ly_25 : lay0[25]? = some (0, 128, []) := rfl
theorem ly_26 : lay0[26]? = some (0, 128, []) := rfl
theorem ly_27 : lay0[27]? = some (0, 128, []) := rfl
theorem ly_28 : lay0[28]? = some (1 + 3, 0, [some 1, some 19, some 29, some 30, some 31, some 32, some 33]) := rfl
theorem ly_29 : lay0[29]? = some (2, 128, []) := rfl
theorem ly_30 : lay0[30]? = some (0, 128, []) := rfl
theorem ly_31 : lay0[31]? = some (0, 128, []) := rfl
theorem ly_32 : lay0[32]? = some (0, 128, []) := rfl
theorem ly_33 : lay0[33]? = some (0, 128, []) := rfl
theorem ly_34 : lay0[34]? = some (7 + 3, 0, [some 1, some 35, some 36, some 37, none, none, none]) := rfl
theorem ly_35 : lay0[35]? = some (1, 1088, []) := rfl
theorem ly_36 : lay0[36]? = some (0, 136, []) := rfl
theorem ly_37 : lay0[37]? = some (0, 7, []) := rfl
theorem ly_38 : lay0[38]? = some (0 + 3, 0, [some 1, some 39, some 34, some 45, none, none]) := rfl
theorem ly_39 : lay0[39]? = some (1 + 3, 0, [some 1, some 19, some 40, some 41, some 42, some 43, some 44]) := rfl
theorem ly_40 : lay0[40]? = some (2, 128, []) := rfl
theorem ly_41 : lay0[41]? = some (0, 128, []) := rfl
theorem ly_42 : lay0[42]? = some (0, 128, []) := rfl
theorem ly_43 : lay0[43]? = some (0, 128, []) := rfl
theorem ly_44 : lay0[44]? = some (0, 128, []) := rfl
theorem ly_45 : lay0[45]? = some (0, 49, []) := rfl
theorem ly_46 : lay0[46]? = some (3 + 3, 0, [some 1, some 19, some 47, some 48, some 49, some 50, some 51, some 52, some 53, none, none]) := rfl
theorem ly_47 : lay0[47]? = some (0, 128, []) := rfl
theorem ly_48 : lay0[48]? = some (0, 128, []) := rfl
theorem ly_49 : lay0[49]? = some (0, 128, []) := rfl
theorem ly_50 : lay0[50]? = some (0, 128, []) := rfl
theorem ly_51 : lay0[51]? = some (0, 128, []) := rfl
theorem ly_52 : lay0[52]? = some (1, 128, []) := rfl
theorem ly_53 : lay0[53]? = some (2, 128, []) := rfl
theorem ly_54 : lay0[54]? = some (2 + 3, 0, [some 1, some 19, some 55, some 56, some 57]) := rfl
theorem ly_55 : lay0[55]? = some (0, 7, []) := rfl
theorem ly_56 : lay0[56]? = some (0, 7, []) := rfl
theorem ly_57 : lay0[57]? = some (0, 7, []) := rfl
theorem ly_58 : lay0[58]? = some (8 + 3, 0, [some 59, some 60, none, none, none]) := rfl
theorem ly_59 : lay0[59]? = some (0, 60, []) := rfl
theorem ly_60 : lay0[60]? = some (0, 60, []) := rfl
theorem ly_61 : lay0[61]? = some (6 + 3, 0, [some 62, some 63, some 64]) := rfl
theorem ly_62 : lay0[62]? = some (0, 4, []) := rfl
theorem ly_63 : lay0[63]? = some (0, 4, []) := rfl
theorem ly_64 : lay0[64]? = some (1, 160, []) := rfl
theorem ly_65 : lay0[65]? = some (1, 7, []) := rfl
theorem ly_66 : lay0[66]? = some (10 + 3, 0, [some 67, some 68, none, some 69, some 70, none, none, none, some 71, some 72, some 73, some 74, some 75, some 76, none, some 77, some 78, some 79, none, none, none, none, none, some 80, some 81, some 82, some 83, some 84, some 85, some 86, some 87, some 88, some 89, none, none, some 90, some 91, none, some 92, none, some 93, some 94, some 95, some 96, none, none, none, none, none]) := rfl
theorem ly_67 : lay0[67]? = some (0, 92, []) := rfl
theorem ly_68 : lay0[68]? = some (0, 92, []) := rfl
theorem ly_69 : lay0[69]? = some (0, 7, []) := rfl
theorem ly_70 : lay0[70]? = some (0, 7, []) := rfl
theorem ly_71 : lay0[71]? = some (0, 128, []) := rfl
theorem ly_72 : lay0[72]? = some (0, 128, []) := rfl
theorem ly_73 : lay0[73]? = some (0, 128, []) := rfl
theorem ly_74 : lay0[74]? = some (0, 128, []) := rfl
theorem ly_75 : lay0[75]? = some (0, 128, []) := rfl
theorem ly_76 : lay0[76]? = some (0, 7, []) := rfl
theorem ly_77 : lay0[77]? = some (1, 1088, []) := rfl
theorem ly_78 : lay0[78]? = some (0, 7, []) := rfl
theorem ly_79 : lay0[79]? = some (0, 128, []) := rfl
theorem ly_80 : lay0[80]? = some (0, 4, []) := rfl
theorem ly_81 : lay0[81]? = some (0, 4, []) := rfl
theorem ly_82 : lay0[82]? = some (1, 160, []) := rfl
theorem ly_83 : lay0[83]? = some (1, 40, []) := rfl
theorem ly_84 : lay0[84]? = some (0, 7, []) := rfl
theorem ly_85 : lay0[85]? = some (0, 896, []) := rfl
theorem ly_86 : lay0[86]? = some (0, 896, []) := rfl
theorem ly_87 : lay0[87]? = some (0, 896, []) := rfl
theorem ly_88 : lay0[88]? = some (0, 896, []) := rfl
theorem ly_89 : lay0[89]? = some (1, 896, []) := rfl
theorem ly_90 : lay0[90]? = some (0, 7, []) := rfl
theorem ly_91 : lay0[91]? = some (0, 7, []) := rfl
theorem ly_92 : lay0[92]? = some (0, 60, []) := rfl
theorem ly_93 : lay0[93]? = some (0, 28, []) := rfl
theorem ly_94 : lay0[94]? = some (0, 7, []) := rfl
theorem ly_95 : lay0[95]? = some (0, 60, []) := rfl
theorem ly_96 : lay0[96]? = some (0, 240, []) := rfl
theorem lyT0 {t : Nat} (ht : t = 28 ∨ t = 39) : lay0[t]? = some (1 + 3, 0, [some 1, some 19, some (t + 1), some (t + 2), some (t + 3), some (t + 4), some (t + 5)]) := by rcases ht with rfl | rfl <;> rfl
theorem lyT1 {t : Nat} (ht : t = 28 ∨ t = 39) : lay0[t + 1]? = some (2, 128, []) := by rcases ht with rfl | rfl <;> rfl
theorem lyT2 {t : Nat} (ht : t = 28 ∨ t = 39) : lay0[t + 2]? = some (0, 128, []) := by rcases ht with rfl | rfl <;> rfl
theorem lyT3 {t : Nat} (ht : t = 28 ∨ t = 39) : lay0[t + 3]? = some (0, 128, []) := by rcases ht with rfl | rfl <;> rfl
theorem lyT4 {t : Nat} (ht : t = 28 ∨ t = 39) : lay0[t + 4]? = some (0, 128, []) := by rcases ht with rfl | rfl <;> rfl
theorem lyT5 {t : Nat} (ht : t = 28 ∨ t = 39) : lay0[t + 5]? = some (0, 128, []) := by rcases ht with rfl | rfl <;> rfl
theorem lyMk {mk : Nat} (hm : mk = 9 ∨ mk = 45) : lay0[mk]? = some (0, 49, []) := by rcases hm with rfl | rfl <;> rfl
theorem lyG {a : Nat} (ha : a = 67 ∨ a = 68) : lay0[a]? = some (0, 92, []) := by rcases ha with rfl | rfl <;> rfl
theorem lyP0 {a : Nat} (ha : a = 1 ∨ a = 10) : lay0[a]? = some (5 + 3, 0, [some (a + 1), some (a + 2), some (a + 3), some (a + 4), some (a + 5), some (a + 6), some (a + 7), some (a + 8), none, none, none]) := by rcases ha with rfl | rfl <;> rfl
theorem lyP1 {a : Nat} (ha : a = 1 ∨ a = 10) : lay0[a + 1]? = some (0, 7, []) := by rcases ha with rfl | rfl <;> rfl
theorem lyP2 {a : Nat} (ha : a = 1 ∨ a = 10) : lay0[a + 2]? = some (0, 7, []) := by rcases ha with rfl | rfl <;> rfl
theorem lyP3 {a : Nat} (ha : a = 1 ∨ a = 10) : lay0[a + 3]? = some (0, 7, []) := by rcases ha with rfl | rfl <;> rfl
theorem lyP4 {a : Nat} (ha : a = 1 ∨ a = 10) : lay0[a + 4]? = some (0, 7, []) := by rcases ha with rfl | rfl <;> rfl
theorem lyP5 {a : Nat} (ha : a = 1 ∨ a = 10) : lay0[a + 5]? = some (0, 4, []) := by rcases ha with rfl | rfl <;> rfl
theorem lyP6 {a : Nat} (ha : a = 1 ∨ a = 10) : lay0[a + 6]? = some (0, 4, []) := by rcases ha with rfl | rfl <;> rfl
theorem lyP7 {a : Nat} (ha : a = 1 ∨ a = 10) : lay0[a + 7]? = some (0, 5, []) := by rcases ha with rfl | rfl <;> rfl
theorem lyP8 {a : Nat} (ha : a = 1 ∨ a = 10) : lay0[a + 8]? = some (0, 49, []) := by rcases ha with rfl | rfl <;> rfl
def QI (K : Int → Mem → Prop) : Option MV → Lay → Mem → Prop := fun r lay M => ∃ x, r = some (.inl x) ∧ lay = lay0 ∧ K x M
def QL (K : Int → Mem → Prop) : Option MV → Lay → Mem → Prop := fun r lay M => ∃ x, r = some (.inr (.inl x)) ∧ lay = lay0 ∧ K x M
def QV (K : Mem → Prop) : Option MV → Lay → Mem → Prop := fun r lay M => r = none ∧ lay = lay0 ∧ K M
abbrev OkI (G : GE) (y : MI) (d : Nat) (K : Int → Mem → Prop) (pc : Nat) (L : List (Option MV)) (S : List MV) (M : Mem) : Prop := Ok G y d 0 0 (QI K) pc L S lay0 M 0 0
abbrev OkL (G : GE) (y : MI) (d : Nat) (K : Int → Mem → Prop) (pc : Nat) (L : List (Option MV)) (S : List MV) (M : Mem) : Prop := Ok G y d 0 0 (QL K) pc L S lay0 M 0 0
abbrev OkV (G : GE) (y : MI) (d : Nat) (K : Mem → Prop) (pc : Nat) (L : List (Option MV)) (S : List MV) (M : Mem) : Prop := Ok G y d 0 0 (QV K) pc L S lay0 M 0 0
abbrev CalI (G : GE) (y : MI) (d : Nat) (as : List MV) (M : Mem) (K : Int → Mem → Prop) : Prop := Cal G y d 0 0 as lay0 M (QI K)
abbrev CalL (G : GE) (y : MI) (d : Nat) (as : List MV) (M : Mem) (K : Int → Mem → Prop) : Prop := Cal G y d 0 0 as lay0 M (QL K)
abbrev CalV (G : GE) (y : MI) (d : Nat) (as : List MV) (M : Mem) (K : Mem → Prop) : Prop := Cal G y d 0 0 as lay0 M (QV K)
theorem CalI.mono {G : GE} {y : MI} {d : Nat} {as : List MV} {M : Mem} {K K' : Int → Mem → Prop} (h : CalI G y d as M K) (hk : ∀ x M', K x M' → K' x M') : CalI G y d as M K' := Cal.mono h (fun r lay' M' ⟨x, h1, h2, h3⟩ => ⟨x, h1, h2, hk _ _ h3⟩)
theorem CalL.mono {G : GE} {y : MI} {d : Nat} {as : List MV} {M : Mem} {K K' : Int → Mem → Prop} (h : CalL G y d as M K) (hk : ∀ x M', K x M' → K' x M') : CalL G y d as M K' := Cal.mono h (fun r lay' M' ⟨x, h1, h2, h3⟩ => ⟨x, h1, h2, hk _ _ h3⟩)
theorem CalV.mono {G : GE} {y : MI} {d : Nat} {as : List MV} {M : Mem} {K K' : Mem → Prop} (h : CalV G y d as M K) (hk : ∀ M', K M' → K' M') : CalV G y d as M K' := Cal.mono h (fun r lay' M' ⟨h1, h2, h3⟩ => ⟨h1, h2, hk _ h3⟩)
def subL : List (Option MV) → List (Option MV) → Prop
  | [], _ => True
  | none :: a, _ :: b => subL a b
  | some v :: a, x :: b => x = some v ∧ subL a b
  | _ :: _, [] => False
theorem subL_get : ∀ {L L' : List (Option MV)}, subL L L' → ∀ (i : Nat) (v : MV), L[i]? = some (some v) → L'[i]? = some (some v) := by
  intro L
  induction L with
  | nil => intro L' _ i v h; simp at h
  | cons x a ih =>
    intro L' hs i v h
    cases L' with
    | nil => cases x <;> exact absurd hs (by simp [subL])
    | cons w b =>
      cases x with
      | none =>
        cases i with
        | zero => simp at h
        | succ i => exact ih hs i v (by simpa using h)
      | some u =>
        cases i with
        | zero => simp at h; subst h; simp [hs.1]
        | succ i => exact ih hs.2 i v (by simpa using h)
theorem Ok.forget {G : GE} {y : MI} {d mc ms : Nat} {Q : Option MV → Lay → Mem → Prop} {pc : Nat} {L L' : List (Option MV)} {S : List MV} {lay : Lay} {M : Mem} {kc ks : Nat} (k : Ok G y d mc ms Q pc L S lay M kc ks) (h : subL L L') : Ok G y d mc ms Q pc L' S lay M kc ks := by
  intro p l e s m args below meth c H locs ls X hS hP hl hL hs hM
  exact k p l e s m args below meth c H locs ls X hS hP ⟨hl.1, hl.2.1, fun i v hi => hl.2.2 i v (subL_get h i v hi)⟩ (fun i v hi => hL i v (subL_get h i v hi)) hs hM
