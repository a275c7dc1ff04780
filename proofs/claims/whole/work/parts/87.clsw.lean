/-! the class: labels worked out -/
def setC (M : Mem) (m : Nat) (f : Int) (c : Lb) : Mem := mup (mup (mup (mup (mup (mup (mup (mup M 47 m f) 48 m c.1) 52 m c.2.1) 49 m c.2.2.1) 50 m c.2.2.2.1) 51 m c.2.2.2.2) 53 m 0) 46 9 ((m + 1 : Nat) : Int)
theorem setC_ne (M : Mem) {m : Nat} (f : Int) (c : Lb) {a i : Nat} (h : a ≠ 46) (hi : i ≠ m) : setC M m f c a i = M a i := by
  unfold setC
  rw [mup_ne h]
  unfold mup; simp [hi]
theorem setC_lab (M : Mem) (m : Nat) (f : Int) (c : Lb) : labC (setC M m f c) m = c := by
  unfold labC setC mup; simp
theorem setC_fl (M : Mem) (m : Nat) (f : Int) (c : Lb) : setC M m f c 47 m = f ∧ setC M m f c 53 m = 0 ∧ setC M m f c 46 9 = ((m + 1 : Nat) : Int) ∧ setC M m f c 46 10 = M 46 10 := by
  unfold setC mup; simp
theorem setC_rg (M : Mem) (m : Nat) (f : Int) (c : Lb) : Fr (rg 46 53) M (setC M m f c) := by
  unfold setC
  exact ((((((((Fr.rf.up (rg_yes (by omega))).up (rg_yes (by omega))).up (rg_yes (by omega))).up (rg_yes (by omega))).up (rg_yes (by omega))).up (rg_yes (by omega))).up (rg_yes (by omega))).up (rg_yes (by omega)))
section CLSW
variable {G : GE} {d : Nat} {M : Mem}
theorem c3_arrive {K : Mem → Prop} {g : Nat → Int} {S : Ls} {f : Nat} {c : Lb} {v x2 x3 x5 x6 x7 : Int} (hP : Pl g M) (hw : WF g) (hL : LcM S M) (hR : RC S) (hlen : (lsV g S f c).length ≤ 127) (e : v = (f : Int)) (hf : f < nF g) (hc : lbOK 7 c) (e2 : x2 = c.1) (e3 : x3 = c.2.1) (e5 : x5 = c.2.2.1) (e6 : x6 = c.2.2.2.1) (e7 : x7 = c.2.2.2.2) (h : ∀ M', Fr (rg 46 53) M M' → LcM (lsV g S f c) M' → K M') : CalV G miX3_arrive (d + 3) [.inr (.inr (some 46)), .inl v, .inl x2, .inr (.inl x3), .inl x5, .inl x6, .inl x7] M K := by
  have hn := hw.n
  subst e e2 e3 e5 e6 e7
  have hfl := hw.fl (show f < 7 by omega)
  have h5 : M 5 f = g (22 + f) := (hP.fl (by omega)).2.2.2
  have hm := lsV_len g S f c
  have hc' := hc
  unfold lbOK at hc'
  refine Cal.of (by decide) (Nat.le_of_ble_eq_true rfl) rfl (gX3_arrive_0 ⟨fun z => absurd z (by rw [hL.1]; omega), fun _ => ⟨by omega, ?_⟩⟩)
  rw [Int.toNat_natCast, h5, w32_eq (x := g (22 + f) - c.2.2.2.2) (by omega) (by omega)]
  refine c4_isLawful hP hw (a := c.1.toNat) (by omega) (by omega) (fun l1 l2 l3 l4 => ?_) (fun hno => n0 ?_)
  · have hlaw : lawC g f c = true := by
      unfold lawC lawB; rw [l1, decide_eq_true l3, decide_eq_true l2, decide_eq_true l4]; rfl
    have el : lsV g S f c = lsC S f c := if_pos hlaw
    rw [el] at h hlen
    rw [lsC_len] at hlen
    refine ⟨fun _ => ?_, fun z => absurd z (by decide)⟩
    simp only [mup_ne (show (46 : Nat) ≠ 47 by decide), mup_ne (show (46 : Nat) ≠ 48 by decide), mup_ne (show (46 : Nat) ≠ 49 by decide), mup_ne (show (46 : Nat) ≠ 50 by decide), mup_ne (show (46 : Nat) ≠ 51 by decide), mup_ne (show (46 : Nat) ≠ 52 by decide), mup_ne (show (46 : Nat) ≠ 53 by decide), hL.1, Int.toNat_natCast]
    rw [w32n (by omega)]
    refine ⟨by omega, by omega, by omega, by omega, by omega, by omega, by omega, ?_⟩
    have st := setC_fl M S.length (f : Int) c
    have sr := setC_rg M S.length (f : Int) c
    refine c3_compareLatest (M := setC M S.length (f : Int) c) (S := S) (f := f) (c := c) hR (by omega) st.2.2.1 (by rw [st.2.2.2]; exact hL.2.1) (fun i s hs => ?_) ⟨st.1, st.2.1, setC_lab _ _ _ _⟩ (fun M' f' l' => h M' (sr.tr (S53_rg f')) l')
    have hi := (List.getElem?_eq_some_iff.mp hs).1
    obtain ⟨a1, a2, a3⟩ := hL.2.2 i s hs
    refine ⟨by rw [setC_ne _ _ _ (by decide) (by omega)]; exact a1, by rw [setC_ne _ _ _ (by decide) (by omega)]; exact a2, ?_⟩
    rw [← a3]; unfold labC
    rw [setC_ne _ _ _ (by decide) (by omega), setC_ne _ _ _ (by decide) (by omega), setC_ne _ _ _ (by decide) (by omega), setC_ne _ _ _ (by decide) (by omega), setC_ne _ _ _ (by decide) (by omega)]
  · have hlaw : lawC g f c = false := by
      unfold lawC lawB
      rcases hno with q | q | q | q
      · rw [q]; rfl
      · rw [decide_eq_false (p := c.2.2.1 ≤ dutF g c.1.toNat) (by omega)]; simp
      · rw [decide_eq_false (p := c.2.2.2.1 ≤ legsF g c.1.toNat) (by omega)]; simp
      · rw [decide_eq_false (p := g (22 + f) - c.2.2.2.2 ≤ spanF g c.1.toNat) (by omega)]; simp
    have el : lsV g S f c = S := if_neg (by rw [hlaw]; decide)
    rw [el] at h
    exact h M Fr.rf hL
theorem c3_begin {K : Mem → Prop} {g p : Nat → Int} {S : Ls} {f : Nat} {v : Int} (hP : Pl g M) (hw : WF g) (hp : prOK g p) (hL : LcM S M) (hR : RC S) (hlen : (begS g p f S).length ≤ 127) (e : v = (f : Int)) (hf : f < nF g) (h : ∀ M', Fr (rg 46 53) M M' → LcM (begS g p f S) M' → K M') : CalV G miX3_begin (d + 4) [.inr (.inr (some 46)), .inl v, .inr (.inl (p f))] M K := by
  have hn := hw.n
  subst e
  have h7 : f < 7 := by omega
  have hfl := hP.fl h7
  have hbl := begL_ok hw hp hf
  have h1 := hw.fl h7
  have h2 := hw.ft hf
  have h3 := hp f hf
  have h4 := hw.fe
  have m := mul_bd h4.2.1 (show 0 ≤ g (22 + f) - g (15 + f) ∧ g (22 + f) - g (15 + f) ≤ 299 by omega)
  refine Cal.of (by decide) (Nat.le_of_ble_eq_true rfl) rfl (gX3_begin_0 ⟨by omega, by omega, by omega, by omega, ?_⟩)
  have e8 : M 8 0 = g 87 ∧ M 8 1 = g 88 := ⟨hP.fe (i := 0) (by decide), hP.fe (i := 1) (by decide)⟩
  rw [Int.toNat_natCast, hfl.1, hfl.2.2.1, hfl.2.2.2, e8.1, e8.2, w32_eq (by omega) (by omega), w64_eq (by omega) (by omega)]
  exact c3_arrive (c := begL g p f) hP hw hL hR hlen rfl hf (lbOK_mono (by omega) hbl) rfl rfl rfl rfl rfl h
theorem c3_goOn {K : Mem → Prop} {g p : Nat → Int} {S : Ls} {f j : Nat} {l : Lb} {b : Bool} {v : Int} (hP : Pl g M) (hN : NetM g M) (hw : WF g) (hp : prOK g p) (hpr : ∀ h, h < nF g → M 65 h = p h) (hL : LcM S M) (hR : RC S) (hlen : (goS g p f l S (nF g)).length ≤ 127) (e : v = (j : Int)) (hf : f < nF g) (hj : S[j]? = some (b, f, l)) (hlb : lbOK 6 l) (h : ∀ M', Fr (rg 46 53) M M' → LcM (goS g p f l S (nF g)) M' → K M') : CalV G miX3_goOn (d + 4) [.inr (.inr (some 46)), .inl v, .inr (.inr (some 65))] M K := by
  have hn := hw.n
  subst e
  have hjl : j < S.length := (List.getElem?_eq_some_iff.mp hj).1
  have hsl : S.length ≤ 127 := Nat.le_trans (goS_len (h := 0) (h' := nF g) (Nat.zero_le _)) hlen
  have e47 : M 47 j = (f : Int) := (hL.2.2 j _ hj).1
  refine Cal.of (by decide) (Nat.le_of_ble_eq_true rfl) rfl (gX3_goOn_0 ⟨by omega, ?_⟩)
  rw [Int.toNat_natCast, e47]
  refine dn (P := fun k => ∀ M' : Mem, Fr (rg 46 53) M M' → LcM (goS g p f l S k) M' → OkV G miX3_goOn (d + 4) K 10 [some (.inr (.inr (some 46))), some (.inl (j : Int)), some (.inr (.inr (some 65))), some (.inl (f : Int)), some (.inl (k : Int)), none, none, none] [] M') (nF g) ?_ (fun k hk ih => ?_) 0 (Nat.zero_le _) M Fr.rf hL
  · intro M' f' l'
    have e8 := (pl_rg hP f' (by omega)).n hw
    exact gX3_goOn_10 ⟨fun _ => h M' f' l', fun z => absurd z (by omega)⟩
  · intro M' f' l'
    have hP' := pl_rg hP f' (by omega)
    have hN' := net_rg hN f' (by omega)
    have e8 := hP'.n hw
    have ei : (((f : Int) * 7) + (k : Int)).toNat = 7 * f + k := by omega
    have hlk := goS_len (g := g) (p := p) (f := f) (l := l) (S := S) (h := k + 1) (h' := nF g) (by omega)
    have hlk0 := goS_len1 (g := g) (p := p) (f := f) (l := l) (S := S) k
    have hRk := RC_go (g := g) (p := p) (f := f) (l := l) hR k
    obtain ⟨b', hj', -⟩ := Kp_go (g := g) (p := p) (l := l) (S := S) (howF_self hw hf) k j _ hj
    have en := l'.2.2 j _ hj'
    have la : labC M' j = l := en.2.2
    have l48 : M' 48 j = l.1 := congrArg (fun l : Lb => l.1) la
    have l52 : M' 52 j = l.2.1 := congrArg (fun l : Lb => l.2.1) la
    have l49 : M' 49 j = l.2.2.1 := congrArg (fun l : Lb => l.2.2.1) la
    have l50 : M' 50 j = l.2.2.2.1 := congrArg (fun l : Lb => l.2.2.2.1) la
    have l51 : M' 51 j = l.2.2.2.2 := congrArg (fun l : Lb => l.2.2.2.2) la
    have hpk : M' 65 k = p k := by rw [fr_rg f' (by omega)]; exact hpr k hk
    have f8 : M' 8 0 = g 87 ∧ M' 8 1 = g 88 ∧ M' 8 2 = g 89 := ⟨hP'.fe (i := 0) (by decide), hP'.fe (i := 1) (by decide), hP'.fe (i := 2) (by decide)⟩
    have flk := hP'.fl (i := k) (by omega)
    have flf := hP'.fl (i := f) (by omega)
    have hfk := hw.fl (show k < 7 by omega)
    have hff := hw.fl (show f < 7 by omega)
    have hel := extL_ok hw hp hf hk hlb
    have heb := extL_bd hw hp hf hk
    have h4 := hw.fe
    have hhb := howF_bd g f k
    have hlb' := hlb
    unfold lbOK at hlb'
    refine gX3_goOn_10 ⟨fun z => absurd z (by omega), fun _ => ⟨by omega, ?_⟩⟩
    rw [ei, (hN'.2.1 f k hf hk).1, Int.toNat_natCast, Int.toNat_natCast, Int.toNat_natCast, l52, l48, l49, hpk, flk.2.2.2, flf.2.2.2, flk.2.2.1, f8.1, f8.2.1, w32_eq (x := g (22 + k) - g (22 + f)) (by omega) (by omega), w32n (k := k) (by omega)]
    have ih' := ih
    rw [goS] at ih' hlk
    by_cases c0 : howF g f k ≠ 0
    · rw [if_pos c0] at ih' hlk
      have nxt : ∀ M2, Fr (rg 46 53) M' M2 → LcM (lsV g (goS g p f l S k) k (extL g p f k l)) M2 → OkV G miX3_goOn (d + 4) K 10 [some (.inr (.inr (some 46))), some (.inl (j : Int)), some (.inr (.inr (some 65))), some (.inl (f : Int)), some (.inl ((k + 1 : Nat) : Int)), none, none, none] [] M2 := fun M2 f2 l2 => ih' M2 (f'.tr f2) l2
      refine ⟨fun _ => ⟨by omega, by omega, by omega, by omega, fun c2 => ?_, fun c2 => ⟨by omega, by omega, by omega, ?_⟩⟩, fun z => absurd z c0⟩
      · -- a sit
        have fin : ∀ z : Int, z = (if tgtB g f k = true then g 89 else 0) → (0 ≤ z ∧ z ≤ 99) → OkV G miX3_goOn (d + 4) K 179 [some (.inr (.inr (some 46))), some (.inl (j : Int)), some (.inr (.inr (some 65))), some (.inl (f : Int)), some (.inl (k : Int)), none, none, none] [.inr (.inl z), .inr (.inl (w64 (l.2.1 - p k + g 88 * (g (22 + k) - g (22 + f)))))] M' := fun z hz hzb => by
          refine gX3_goOn_179 ⟨by omega, by omega, by omega, by omega, ?_⟩
          rw [Int.toNat_natCast, l48, l49, l50, l51, w32_eq (x := l.2.2.2.1 + 1) (by omega) (by omega), w32n (k := k) (by omega)]
          have ee : extL g p f k l = (l.1, l.2.1 + (g 88 * (g (22 + k) - g (22 + f)) - p k + z), l.2.2.1, l.2.2.2.1 + 1, l.2.2.2.2) := by
            unfold extL; rw [if_neg c2, if_neg c2, if_neg c2, if_neg c2, hz]
          refine c3_arrive (c := extL g p f k l) hP' hw l' hRk (by omega) rfl hk hel (by rw [ee]) ?_ (by rw [ee]) (by rw [ee]) (by rw [ee]) nxt
          rw [ee]
          generalize g 88 * (g (22 + k) - g (22 + f)) = y at *
          rw [w64_eq (x := l.2.1 - p k + y) (by omega) (by omega), w64_eq (by omega) (by omega)]
          show _ = l.2.1 + (y - p k + z)
          omega
        refine c4_isTight hP' hw hN'.2.1 rfl rfl hf hk ?_
        cases ht : tgtB g f k with
        | true => rw [f8.2.2]; exact b1 (fin _ (by rw [ht, if_pos rfl]) (by omega))
        | false => exact b0 (fin _ (by rw [ht, if_neg (by decide)]) (by omega))
      · have ee : extL g p f k l = (l.1, l.2.1 + (g 88 * (g (22 + k) - g (22 + f)) - p k + g 87), l.2.2.1 + 1, 1, g (15 + k)) := by
          unfold extL; rw [if_pos c2, if_pos c2, if_pos c2, if_pos c2]
        refine c3_arrive (c := extL g p f k l) hP' hw l' hRk (by omega) rfl hk hel (by rw [ee]) ?_ (by rw [ee, w32_eq (by omega) (by omega)]) (by rw [ee]) (by rw [ee]) nxt
        rw [ee]
        generalize g 88 * (g (22 + k) - g (22 + f)) = y at *
        rw [w64_eq (by omega) (by omega)]
        show _ = l.2.1 + (y - p k + g 87)
        omega
    · rw [if_neg c0] at ih'
      exact ⟨fun z => absurd z c0, fun _ => ih' M' f' l'⟩
theorem c3_workOut {K : Mem → Prop} {g p : Nat → Int} (hP : Pl g M) (hN : NetM g M) (hw : WF g) (hp : prOK g p) (hpr : ∀ h, h < nF g → M 65 h = p h) (h : ∀ M', Fr (rg 46 53) M M' → LcM (woS g p (nF g)) M' → K M') : CalV G miX3_workOut (d + 5) [.inr (.inr (some 46)), .inr (.inr (some 65))] M K := by
  have hn := hw.n
  refine Cal.of (by decide) (Nat.le_of_ble_eq_true rfl) rfl (gX3_workOut_0 ?_)
  have f0 : Fr (rg 46 53) M (mup (mup M 46 9 0) 46 10 0) := (Fr.rf.up (rg_yes (by omega))).up (rg_yes (by omega))
  have l0 : LcM [] (mup (mup M 46 9 0) 46 10 0) := ⟨by rw [mup_at_ne (by decide), mup_at]; rfl, by rw [mup_at]; rfl, fun i s hs => by cases hs⟩
  generalize mup (mup M 46 9 0) 46 10 0 = M0 at *
  refine dn (P := fun i => ∀ M' : Mem, Fr (rg 46 53) M M' → LcM (woS g p i) M' → OkV G miX3_workOut (d + 5) K 12 [some (.inr (.inr (some 46))), some (.inr (.inr (some 65))), some (.inl (i : Int)), none, none, none] [] M') (nF g) ?_ (fun i hi ih => ?_) 0 (Nat.zero_le _) M0 f0 l0
  · intro M' f' l'
    have e8 := (pl_rg hP f' (by omega)).n hw
    exact gX3_workOut_12 ⟨fun _ => h M' f' l', fun z => absurd z (by omega)⟩
  · intro M1 f1 l1
    have hP1 := pl_rg hP f1 (by omega)
    have e8 := hP1.n hw
    have hfl := oN_lt g hi
    have wi := wo_inv (p := p) hw i (by omega)
    have wj := wo_begin (p := p) hi wi
    have wn := wo_step hw hi wj
    have lenN : (woS g p (i + 1)).length ≤ 127 := wo_len hw (by omega) wn
    have eN : woS g p (i + 1) = wkS g p (oN g i) (begS g p (oN g i) (woS g p i)) (begS g p (oN g i) (woS g p i)).length := rfl
    have lbs : ∀ l ∈ lsK (oN g i) (begS g p (oN g i) (woS g p i)), lbOK 6 l := fun l hl => lbOK_mono (by omega) ((kept_ok hw hp i hi).1 l ((wj.kept (Nat.le_refl _)).mem_iff.mp hl)).1
    have hself := howF_self hw hfl
    rw [eN] at lenN ih
    generalize hS1 : begS g p (oN g i) (woS g p i) = S1 at *
    have len1 : S1.length ≤ 127 := Nat.le_trans (wkS_len (g := g) (p := p) (f := oN g i) (S1 := S1) (a := 0) (a' := S1.length) (Nat.zero_le _)) lenN
    have o20 : M1 20 i = (oN g i : Int) := by rw [fr_rg f1 (by omega)]; exact hN.1 i hi
    refine gX3_workOut_12 ⟨fun z => absurd z (by omega), fun _ => ⟨by omega, ?_⟩⟩
    rw [Int.toNat_natCast, o20, Int.toNat_natCast]
    have hpf : M1 65 (oN g i) = p (oN g i) := by rw [fr_rg f1 (by omega)]; exact hpr _ hfl
    rw [hpf]
    refine ⟨by omega, c3_begin hP1 hw hp l1 wi.1.2 (by rw [hS1]; exact len1) rfl hfl (fun M2 f2 l2 => ?_)⟩
    rw [hS1] at l2
    rw [l2.1]
    refine dn (P := fun a => ∀ M' : Mem, Fr (rg 46 53) M M' → LcM (wkS g p (oN g i) S1 a) M' → OkV G miX3_workOut (d + 5) K 50 [some (.inr (.inr (some 46))), some (.inr (.inr (some 65))), some (.inl (i : Int)), some (.inl (oN g i : Int)), some (.inl (S1.length : Int)), some (.inl (a : Int))] [] M') S1.length ?_ (fun a ha ih2 => ?_) 0 (Nat.zero_le _) M2 (f1.tr f2) l2
    · intro M3 f3 l3
      refine gX3_workOut_50 ⟨fun _ => ?_, fun z => absurd z (by omega)⟩
      rw [w32n (by omega)]
      exact ih M3 f3 l3
    · intro M3 f3 l3
      have hsa := List.getElem?_eq_getElem ha
      generalize S1[a] = s at hsa
      obtain ⟨b', hj', hbb⟩ := Kp_wk (g := g) (p := p) (S1 := S1) hself a a _ hsa
      have en := l3.2.2 a _ hj'
      have la := wkS_len (g := g) (p := p) (f := oN g i) (S1 := S1) (a := a + 1) (a' := S1.length) (by omega)
      have ew : wkS g p (oN g i) S1 (a + 1) = if s.1 = false ∧ s.2.1 = oN g i then goS g p (oN g i) s.2.2 (wkS g p (oN g i) S1 a) (nF g) else wkS g p (oN g i) S1 a := by
        rw [wkS, hsa]; rfl
      have e47 : M3 47 a = (s.2.1 : Int) := en.1
      have e53 : M3 53 a = bI b' := en.2.1
      rw [ew] at ih2 la
      refine gX3_workOut_50 ⟨fun z => absurd z (by omega), fun _ => ⟨by omega, ?_⟩⟩
      rw [Int.toNat_natCast, e47, e53, w32n (k := a) (by omega)]
      refine ⟨fun c => ?_, fun c => ⟨by omega, fun c2 => ?_, fun c2 => ?_⟩⟩
      · rw [if_neg (by omega)] at ih2
        exact ih2 M3 f3 l3
      · rw [hbb (by omega)] at c2
        rw [if_neg (fun z => c2 (by rw [z.1]; rfl))] at ih2
        exact ih2 M3 f3 l3
      · have hb1 : s.1 = false := by
          rw [hbb (by omega)] at c2
          cases hq : s.1 with
          | false => rfl
          | true => rw [hq] at c2; exact absurd c2 (by decide)
        have hcond : s.1 = false ∧ s.2.1 = oN g i := ⟨hb1, by omega⟩
        rw [if_pos hcond] at ih2 la
        have hin : s.2.2 ∈ lsK (oN g i) S1 := lsK_of (List.mem_of_getElem? hsa) hcond.2 hb1
        have hP3 := pl_rg hP f3 (by omega)
        have hN3 := net_rg hN f3 (by omega)
        exact c3_goOn (b := b') hP3 hN3 hw hp (fun x hx => by rw [fr_rg f3 (by omega)]; exact hpr x hx) l3 (RC_wk wj.1.2 a) (by omega) rfl hfl (by rw [hj']; rw [← hcond.2]) (lbs _ hin) (fun M4 f4 l4 => ih2 M4 (f3.tr f4) l4)
/-- what was worked out -/
def LbR (g p : Nat → Int) (M : Mem) : Prop := LcM (woS g p (nF g)) M
theorem c3_keptCount {K : Int → Mem → Prop} {g p : Nat → Int} (hw : WF g) (hL : LbR g p M) (h : K (keptS g p (nF g) : Int) M) : CalI G miX3_keptCount d [.inr (.inr (some 46))] M K := by
  have hi := wo_inv (p := p) hw (nF g) (Nat.le_refl _)
  have hl := wo_len hw (Nat.le_refl _) hi
  obtain ⟨h1, h2, -⟩ := wo_fin hw hi
  refine Cal.of (by decide) (Nat.le_of_ble_eq_true rfl) rfl (gX3_keptCount_0 ?_)
  rw [hL.1, hL.2.1, w32_eq (by omega) (by omega), h2, h1]
  exact kv h (by omega)
theorem lbR_drop {g p : Nat → Int} (hw : WF g) (hL : LbR g p M) : M 46 10 = (dropS g p (nF g) : Int) := by
  rw [hL.2.1, (wo_fin hw (wo_inv (p := p) hw (nF g) (Nat.le_refl _))).2.1]
theorem c3_leastHome {K : Int → Mem → Prop} {g p : Nat → Int} (hP : Pl g M) (hw : WF g) (hp : prOK g p) (hL : LbR g p M) (h : K (minI (homC g p)) M) : CalL G miX3_leastHome d [.inr (.inr (some 46))] M K := by
  have hn := hw.n
  have hi := wo_inv (p := p) hw (nF g) (Nat.le_refl _)
  have hl := wo_len hw (Nat.le_refl _) hi
  have hlb := wo_lb hw hp (Nat.le_refl _) hi
  rw [← lsH_min hi hw] at h
  unfold LbR at hL
  generalize woS g p (nF g) = S at *
  have hsn : ∀ (a : Nat) (s : Bool × Nat × Lb), S[a]? = some s → lsH g (S.take (a + 1)) = lsH g (S.take a) ++ if g (8 + s.2.1) = s.2.2.1 then [s.2.2.2.1] else [] := fun a s hs => by
    unfold lsH
    rw [List.take_succ, hs, List.filter_append, List.map_append]
    congr 1
    simp only [Option.toList_some]
    by_cases c : g (8 + s.2.1) = s.2.2.1
    · rw [if_pos c, List.filter_cons_of_pos (by simpa using c)]; rfl
    · rw [if_neg c, List.filter_cons_of_neg (by simpa using c)]; rfl
  refine Cal.of (by decide) (Nat.le_of_ble_eq_true rfl) rfl (gX3_leastHome_0 ?_)
  have key := dn (P := fun a => ∀ v : Int, ((v = NO ∧ lsH g (S.take a) = []) ∨ (v ≠ NO ∧ v ∈ lsH g (S.take a) ∧ ∀ x ∈ lsH g (S.take a), v ≤ x)) → OkL G miX3_leastHome d K 6 [some (.inr (.inr (some 46))), some (.inr (.inl v)), none, some (.inl (a : Int)), none] [] M) S.length ?_ (fun a ha ih => ?_) 0 (Nat.zero_le _)
  · exact key _ (.inl ⟨rfl, rfl⟩)
  · intro v hv
    refine gX3_leastHome_6 ⟨fun _ => ?_, fun z => absurd z (by rw [hL.1]; omega)⟩
    rw [List.take_length] at hv
    rcases hv with ⟨e, e2⟩ | ⟨_, e1, e2⟩
    · rw [e2] at h; rw [e]; exact h
    · rw [minI_some e1 e2] at h; exact h
  · intro v hv
    have hsa := List.getElem?_eq_getElem ha
    generalize S[a] = s at hsa
    obtain ⟨e47, -, la⟩ := hL.2.2 a s hsa
    have hsm := List.mem_of_getElem? hsa
    have hfl := (hi.1.1 s hsm).1
    have l48 : M 48 a = s.2.2.1 := congrArg (fun l : Lb => l.1) la
    have l52 : M 52 a = s.2.2.2.1 := congrArg (fun l : Lb => l.2.1) la
    have bd := hlb s hsm
    unfold lbOK at bd
    have hNO : NO = -9223372036854775808 := rfl
    have es := hsn a s hsa
    refine gX3_leastHome_6 ⟨fun z => absurd z (by rw [hL.1]; omega), fun _ => ⟨by omega, by rw [Int.toNat_natCast, e47]; omega, by omega, ?_⟩⟩
    rw [Int.toNat_natCast, e47, Int.toNat_natCast, l48, l52, (hP.fl (show s.2.1 < 7 by omega)).2.1, w32n (by omega)]
    have take : g (8 + s.2.1) = s.2.2.1 → (∀ x ∈ lsH g (S.take a), s.2.2.2.1 ≤ x) → OkL G miX3_leastHome d K 68 [some (.inr (.inr (some 46))), none, none, some (.inl (a : Int)), none] [] M := fun c hx => by
      refine gX3_leastHome_68 ⟨by omega, ?_⟩
      rw [Int.toNat_natCast, l52, w32n (by omega)]
      rw [if_pos c] at es
      refine ih _ (.inr ⟨by omega, by rw [es]; simp, fun x hx2 => ?_⟩)
      rw [es] at hx2
      rcases List.mem_append.mp hx2 with q | q
      · exact hx x q
      · rw [List.mem_singleton.mp q]; exact Int.le_refl _
    refine ⟨fun c => ih v ?_, fun c => ⟨fun c2 => take c ?_, fun c2 => ⟨by omega, fun c3 => ih v ?_, fun c3 => take c ?_⟩⟩⟩
    · rw [es, if_neg c, List.append_nil]; exact hv
    · rcases hv with ⟨_, e2⟩ | ⟨e1, _, _⟩
      · rw [e2]; intro x hx; exact absurd hx List.not_mem_nil
      · exact absurd c2 e1
    · rcases hv with ⟨e1, _⟩ | ⟨e1, e2, e3⟩
      · exact absurd e1 c2
      · refine .inr ⟨e1, by rw [es]; exact List.mem_append_left _ e2, fun x hx => ?_⟩
        rw [es, if_pos c] at hx
        rcases List.mem_append.mp hx with q | q
        · exact e3 x q
        · rw [List.mem_singleton.mp q]; exact c3
    · rcases hv with ⟨e1, _⟩ | ⟨e1, e2, e3⟩
      · exact absurd e1 c2
      · intro x hx; have := e3 x hx; omega
end CLSW
