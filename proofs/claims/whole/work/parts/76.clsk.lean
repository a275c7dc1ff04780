/-! the class: sheets -/
def n3 (M : Mem) (so sz it : Nat → Int) : Mem := mset (mset (mset M 62 so) 63 sz) 64 it
theorem n3_self (M : Mem) : n3 M (M 62) (M 63) (M 64) = M := by
  unfold n3; rw [mset_self, mset_self, mset_self]
theorem mcp_mset (M : Mem) (a b n : Nat) : mcp M 64 64 a b n = mset M 64 (mvT (M 64) a b n) := by
  funext c; unfold mcp mset; split
  · rfl
  · rfl
section CLSK
variable {G : GE} {d : Nat} {M : Mem} {K : Int → Mem → Prop}
theorem c7_isSheet {v : Int} (h1 : 0 ≤ v → v ≤ 3 → K 1 M) (h0 : v < 0 ∨ 3 < v → K 0 M) : CalI G miX7_isSheet d [.inr (.inr (some 61)), .inl v] M K := by
  refine Cal.of (by decide) (Nat.le_of_ble_eq_true rfl) rfl (gX7_isSheet_0 ⟨fun c => h0 (by omega), fun c => ⟨fun c2 => h0 (by omega), fun c2 => h1 c (by omega)⟩⟩)
theorem c7_isMissing {v : Int} {s : Nat} (e : v = (s : Int)) (hs : s < 4) (h1 : M 62 s = -1 → K 1 M) (h0 : M 62 s ≠ -1 → K 0 M) : CalI G miX7_isMissing d [.inr (.inr (some 61)), .inl v] M K := by
  subst e
  refine Cal.of (by decide) (Nat.le_of_ble_eq_true rfl) rfl (gX7_isMissing_0 ?_)
  rw [Int.toNat_natCast]
  exact ⟨by omega, h0, h1⟩
theorem c7_hasItems {v i n : Int} {s : Nat} (hs : shW (M 62) (M 63)) (e : v = (s : Int)) (hs4 : s < 4) (hn : 0 ≤ n) (h1 : 0 ≤ i → n ≤ M 63 s → i ≤ M 63 s - n → K 1 M) (h0 : i < 0 ∨ M 63 s < n ∨ M 63 s - n < i → K 0 M) : CalI G miX7_hasItems d [.inr (.inr (some 61)), .inl v, .inl i, .inl n] M K := by
  subst e
  have hv := hs s hs4
  refine Cal.of (by decide) (Nat.le_of_ble_eq_true rfl) rfl (gX7_hasItems_0 ?_)
  rw [Int.toNat_natCast]
  refine ⟨fun c => h0 (.inl c), fun c => ⟨by omega, fun c2 => h0 (.inr (.inl c2)), fun c2 => ⟨by omega, ?_⟩⟩⟩
  rw [w32_eq (by omega) (by omega)]
  exact ⟨fun c3 => h0 (.inr (.inr c3)), fun c3 => h1 c c2 c3⟩
theorem c7_read {v i : Int} {s : Nat} (hs : shW (M 62) (M 63)) (e : v = (s : Int)) (hs4 : s < 4) (h : K (if 0 ≤ i ∧ i < M 63 s then M 64 (40 * s + i.toNat) else 0) M) : CalL G miX7_read (d + 1) [.inr (.inr (some 61)), .inl v, .inl i] M K := by
  have hv := hs s hs4
  refine Cal.of (by decide) (Nat.le_of_ble_eq_true rfl) rfl (gX7_read_0 (c7_hasItems hs e hs4 (by decide) (fun a b c => b1 ⟨by omega, ?_⟩) (fun a => b0 ?_)))
  · rw [if_pos (by omega)] at h
    rw [show (v * 40 + i).toNat = 40 * s + i.toNat by omega]; exact h
  · rw [if_neg (by omega)] at h; exact h
theorem c7_write {K : Mem → Prop} {v i x : Int} {s : Nat} (hs : shW (M 62) (M 63)) (e : v = (s : Int)) (hs4 : s < 4) (h : K (if 0 ≤ i ∧ i < M 63 s then mset M 64 (fup (M 64) (40 * s + i.toNat) (if M 62 s = 1 then w32 x else x)) else M)) : CalV G miX7_write (d + 1) [.inr (.inr (some 61)), .inl v, .inl i, .inr (.inl x)] M K := by
  have hv := hs s hs4
  refine Cal.of (by decide) (Nat.le_of_ble_eq_true rfl) rfl (gX7_write_0 (c7_hasItems hs e hs4 (by decide) (fun a b c => b1 ⟨by omega, by omega, ?_⟩) (fun a => b0 ?_)))
  · rw [if_pos (by omega)] at h
    rw [show (v * 40 + i).toNat = 40 * s + i.toNat by omega, show v.toNat = s by omega, mup_mset]; exact h
  · rw [if_neg (by omega)] at h; exact h
theorem c7_become {K : Mem → Prop} {v so n : Int} {s : Nat} (e : v = (s : Int)) (hs4 : s < 4) (h : K (n3 M (fup (M 62) s so) (fup (M 63) s n) (clr (M 64) s))) : CalV G miX7_become d [.inr (.inr (some 61)), .inl v, .inl so, .inl n] M K := by
  subst e
  refine Cal.of (by decide) (Nat.le_of_ble_eq_true rfl) rfl (gX7_become_0 ?_)
  rw [Int.toNat_natCast]
  refine ⟨by omega, by omega, ?_⟩
  have e0 : mup (mup M 62 s so) 63 s n = mset (mset M 62 (fup (M 62) s so)) 63 (fup (M 63) s n) := by
    rw [mup_mset, mup_ne (show (63 : Nat) ≠ 62 by decide), mup_mset]
  rw [e0]
  unfold n3 at h
  have key := dn (P := fun k => OkV G miX7_become d K 17 [some (.inr (.inr (some 61))), some (.inl (s : Int)), none, none, some (.inl (k : Int))] [] (mset (mset (mset M 62 (fup (M 62) s so)) 63 (fup (M 63) s n)) 64 (clrT (M 64) s k))) 40 ?_ (fun k hk ih => ?_) 0 (Nat.zero_le _)
  · have e1 : mset (mset (mset M 62 (fup (M 62) s so)) 63 (fup (M 63) s n)) 64 (clrT (M 64) s 0) = mset (mset M 62 (fup (M 62) s so)) 63 (fup (M 63) s n) := by
      have e2 : clrT (M 64) s 0 = (mset (mset M 62 (fup (M 62) s so)) 63 (fup (M 63) s n)) 64 := by
        funext i; unfold clrT; rw [if_neg (by omega)]; rfl
      rw [e2, mset_self]
    rw [e1] at key; exact key
  · exact gX7_become_17 ⟨fun _ => h, fun c => absurd c (by decide)⟩
  · refine gX7_become_17 ⟨fun c => absurd c (by omega), fun _ => ⟨by omega, ?_⟩⟩
    rw [w32n (k := k) (by omega), show ((s : Int) * 40 + (k : Int)).toNat = 40 * s + k by omega, mup_mset, mset_at, mset_mset]
    have e1 : fup (clrT (M 64) s k) (40 * s + k) 0 = clrT (M 64) s (k + 1) := by
      funext i; unfold fup clrT
      by_cases c : i = 40 * s + k
      · rw [if_pos c, if_pos (by omega)]
      · rw [if_neg c]
        by_cases c2 : 40 * s ≤ i ∧ i < 40 * s + k
        · rw [if_pos c2, if_pos (by omega)]
        · rw [if_neg c2, if_neg (by omega)]
    rw [e1]; exact ih
theorem c10_sheet {v s n : Int} (h : K (sheR v s n) (if sheR v s n = 1 then n3 M (fup (M 62) v.toNat s) (fup (M 63) v.toNat (if s < 0 then 0 else n)) (clr (M 64) v.toNat) else M)) : CalI G miX10_sheet (d + 1) [.inr (.inr (some 0)), .inl v, .inl s, .inl n] M K := by
  have bad : (v < 0 ∨ 3 < v ∨ s < -1 ∨ 1 < s ∨ (0 ≤ s ∧ 40 < n)) → K (-2) M := fun hb => by
    have e : sheR v s n = -2 := by unfold sheR; rw [if_pos hb]
    rw [e, if_neg (by decide)] at h; exact h
  refine Cal.of (by decide) (Nat.le_of_ble_eq_true rfl) rfl (gX10_sheet_0 ?_)
  refine c7_isSheet (fun a b => b1 ⟨fun c => bad (by omega), fun c => ⟨fun c2 => ⟨fun c3 => ⟨fun c4 => ⟨fun c5 => ?_, fun c5 => ?_⟩, fun c4 => bad (by omega)⟩, fun c3 => ?_⟩, fun c2 => bad (by omega)⟩⟩) (fun a => b0 (bad (by omega)))
  · have e : sheR v s n = 1 := by unfold sheR; rw [if_neg (by omega), if_neg (by omega)]
    rw [e, if_pos rfl, if_neg (by omega)] at h
    exact c7_become (s := v.toNat) (by omega) (by omega) h
  · have e : sheR v s n = -14 := by unfold sheR; rw [if_neg (by omega), if_pos (by omega)]
    rw [e, if_neg (by decide)] at h; exact h
  · subst c3
    have e : sheR v (-1) n = 1 := by unfold sheR; rw [if_neg (by omega), if_neg (by omega)]
    rw [e, if_pos rfl, if_pos (by decide)] at h
    exact c7_become (s := v.toNat) (by omega) (by omega) h
theorem c10_put {v i x : Int} (hs : shW (M 62) (M 63)) (h : K (putR (M 62) (M 63) v i) (if putR (M 62) (M 63) v i = 1 then mset M 64 (fup (M 64) (40 * v.toNat + i.toNat) (if M 62 v.toNat = 1 then w32 x else x)) else M)) : CalI G miX10_put (d + 2) [.inr (.inr (some 0)), .inl v, .inl i, .inr (.inl x)] M K := by
  refine Cal.of (by decide) (Nat.le_of_ble_eq_true rfl) rfl (gX10_put_0 ?_)
  refine c7_isSheet (fun a b => n1 ?_) (fun a => n0 ?_)
  · have hv := hs v.toNat (by omega)
    refine c7_isMissing (s := v.toNat) (by omega) (by omega) (fun c => ⟨fun z => absurd z (by decide), fun _ => ?_⟩) (fun c => ⟨fun _ => ?_, fun z => absurd rfl z⟩)
    · have e : putR (M 62) (M 63) v i = -11 := by unfold putR; rw [if_neg (by omega), if_pos (by omega)]
      rw [e, if_neg (by decide)] at h; exact h
    · refine c7_hasItems (s := v.toNat) hs (by omega) (by omega) (by decide) (fun p q r => n1 ?_) (fun p => n0 ?_)
      · have e : putR (M 62) (M 63) v i = 1 := by unfold putR; rw [if_neg (by omega), if_neg (by omega), if_neg (by omega)]
        rw [e, if_pos rfl] at h
        refine c7_write (s := v.toNat) hs (by omega) (by omega) ?_
        rw [if_pos (by omega)]; exact h
      · have e : putR (M 62) (M 63) v i = -12 := by unfold putR; rw [if_neg (by omega), if_neg (by omega), if_pos (by omega)]
        rw [e, if_neg (by decide)] at h; exact h
  · have e : putR (M 62) (M 63) v i = -2 := by unfold putR; rw [if_pos (by omega)]
    rw [e, if_neg (by decide)] at h; exact h
theorem c10_item {v i : Int} (hs : shW (M 62) (M 63)) (h : K (itemR (M 63) (M 64) v i) M) : CalL G miX10_item (d + 2) [.inr (.inr (some 0)), .inl v, .inl i] M K := by
  refine Cal.of (by decide) (Nat.le_of_ble_eq_true rfl) rfl (gX10_item_0 ?_)
  refine c7_isSheet (fun a b => b1 ?_) (fun a => b0 (kv h (by unfold itemR; rw [if_pos (by omega)]; rfl)))
  have hv := hs v.toNat (by omega)
  refine c7_isMissing (s := v.toNat) (by omega) (by omega) (fun c => ⟨fun _ => kv h (by unfold itemR; rw [if_pos (by omega)]; rfl), fun z => absurd z (by decide)⟩) (fun c => ⟨fun z => absurd rfl z, fun _ => ?_⟩)
  refine c7_hasItems (s := v.toNat) hs (by omega) (by omega) (by decide) (fun p q r => n1 ?_) (fun p => n0 (kv h (by unfold itemR; rw [if_pos (by omega)]; rfl)))
  refine c7_read (s := v.toNat) hs (by omega) (by omega) ?_
  rw [if_pos (by omega)]
  exact kv h (by unfold itemR; rw [if_neg (by omega)])
theorem c7_move {K : Mem → Prop} {v i w j n : Int} {a b x y k : Nat} (ev : v = (a : Int)) (ew : w = (b : Int)) (ei : i = (x : Int)) (ej : j = (y : Int)) (en : n = (k : Int)) (ha : a < 4) (hb : b < 4) (hx : x + k ≤ 40) (hy : y + k ≤ 40) (h : K (mset M 64 (mvT (M 64) (40 * a + x) (40 * b + y) k))) : CalV G miX7_move (d + 1) [.inr (.inr (some 61)), .inl v, .inl i, .inl w, .inl j, .inl n] M K := by
  subst ev; subst ew; subst ei; subst ej; subst en
  refine Cal.of (by decide) (Nat.le_of_ble_eq_true rfl) rfl (gX7_move_0 ?_)
  rw [w32_eq (x := (a : Int) * 40 + (x : Int)) (by omega) (by omega), w32_eq (x := (b : Int) * 40 + (y : Int)) (by omega) (by omega), show ((a : Int) * 40 + (x : Int)).toNat = 40 * a + x by omega, show ((b : Int) * 40 + (y : Int)).toNat = 40 * b + y by omega, Int.toNat_natCast, mcp_mset]
  exact ⟨by omega, h⟩
theorem c10_copy {v i w j n : Int} (hs : shW (M 62) (M 63)) (h1 : copB (M 62) (M 63) v i w j n → K n (mset M 64 (mvT (M 64) (40 * v.toNat + i.toNat) (40 * w.toNat + j.toNat) n.toNat))) (h0 : copR (M 62) (M 63) v i w j n < 0 → K (copR (M 62) (M 63) v i w j n) M) : CalI G miX10_copy (d + 2) [.inr (.inr (some 0)), .inl v, .inl i, .inl w, .inl j, .inl n] M K := by
  have bad2 : (v < 0 ∨ 3 < v ∨ w < 0 ∨ 3 < w) → K (-2) M := fun hb => by
    have e : copR (M 62) (M 63) v i w j n = -2 := by unfold copR; rw [if_pos hb]
    rw [e] at h0; exact h0 (by decide)
  refine Cal.of (by decide) (Nat.le_of_ble_eq_true rfl) rfl (gX10_copy_0 ?_)
  refine c7_isSheet (fun a b => b1 ?_) (fun a => b0 (bad2 (by omega)))
  refine c7_isSheet (fun a' b' => n1 ?_) (fun a => n0 (bad2 (by omega)))
  have hv := hs v.toNat (by omega)
  have hw := hs w.toNat (by omega)
  have nb2 : ¬ (v < 0 ∨ 3 < v ∨ w < 0 ∨ 3 < w) := by omega
  have bad11 : (M 62 v.toNat < 0 ∨ M 62 w.toNat < 0) → K (-11) M := fun hb => by
    have e : copR (M 62) (M 63) v i w j n = -11 := by unfold copR; rw [if_neg nb2, if_pos hb]
    rw [e] at h0; exact h0 (by decide)
  refine c7_isMissing (s := v.toNat) (by omega) (by omega) (fun c => ⟨fun _ => bad11 (by omega), fun z => absurd z (by decide)⟩) (fun c => ⟨fun z => absurd rfl z, fun _ => ?_⟩)
  refine c7_isMissing (s := w.toNat) (by omega) (by omega) (fun c' => ⟨fun z => absurd z (by decide), fun _ => bad11 (by omega)⟩) (fun c' => ⟨fun _ => ⟨by omega, by omega, fun e1 => ?_, fun e1 => ?_⟩, fun z => absurd rfl z⟩)
  · have nb11 : ¬ (M 62 v.toNat < 0 ∨ M 62 w.toNat < 0) := by omega
    have bad12 : (n < 0 ∨ i < 0 ∨ j < 0 ∨ M 63 v.toNat - n < i ∨ M 63 w.toNat - n < j) → K (-12) M := fun hb => by
      have e : copR (M 62) (M 63) v i w j n = -12 := by unfold copR; rw [if_neg nb2, if_neg nb11, if_neg (fun z => z e1), if_pos hb]
      rw [e] at h0; exact h0 (by decide)
    refine ⟨fun c1 => bad12 (by omega), fun c1 => ?_⟩
    refine c7_hasItems (s := v.toNat) hs (by omega) (by omega) c1 (fun p q r => b1 ?_) (fun p => b0 (bad12 (by omega)))
    refine c7_hasItems (s := w.toNat) hs (by omega) (by omega) c1 (fun p' q' r' => n1 ?_) (fun p => n0 (bad12 (by omega)))
    exact c7_move (a := v.toNat) (b := w.toNat) (x := i.toNat) (y := j.toNat) (k := n.toNat) (by omega) (by omega) (by omega) (by omega) (by omega) (by omega) (by omega) (by omega) (by omega) (h1 ⟨nb2, nb11, e1, by omega⟩)
  · have nb11 : ¬ (M 62 v.toNat < 0 ∨ M 62 w.toNat < 0) := by omega
    have e : copR (M 62) (M 63) v i w j n = -13 := by unfold copR; rw [if_neg nb2, if_neg nb11, if_pos e1]
    rw [e] at h0; exact h0 (by decide)
/-- prices are taken from a sheet -/
theorem c10_takePrices {g : Nat → Int} {v least : Int} {s : Nat} (hP : Pl g M) (hw : WF g) (hs : shW (M 62) (M 63)) (e : v = (s : Int)) (hs4 : s < 4) (h : ∀ q : Nat → Int, (twR g (M 62) (M 63) (M 64) s least = 0 → ∀ f, f < nF g → q f = M 64 (40 * s + f)) → K (twR g (M 62) (M 63) (M 64) s least) (mset M 65 q)) : CalI G miX10_takePrices (d + 2) [.inr (.inr (some 0)), .inl v, .inr (.inl least)] M K := by
  have hn := hw.n
  have hv := hs s hs4
  have stay : twR g (M 62) (M 63) (M 64) s least ≠ 0 → K (twR g (M 62) (M 63) (M 64) s least) M := fun hne => by
    have := h (M 65) (fun z => absurd z hne)
    rw [mset_self] at this; exact this
  subst e
  refine Cal.of (by decide) (Nat.le_of_ble_eq_true rfl) rfl (gX10_takePrices_0 ?_)
  refine c7_isMissing rfl hs4 (fun c => ⟨fun z => absurd z (by decide), fun _ => ?_⟩) (fun c => ⟨fun _ => ?_, fun z => absurd rfl z⟩)
  · have e : twR g (M 62) (M 63) (M 64) s least = -11 := by unfold twR; rw [if_pos (by omega)]
    rw [e] at stay; exact stay (by decide)
  · rw [Int.toNat_natCast]
    have hso : ¬ M 62 s < 0 := by omega
    refine ⟨by omega, fun c1 => ?_, fun c1 => ?_⟩
    · rw [hP.1.1] at c1
      have hP' : ∀ q : Nat → Int, Pl g (mset M 65 q) := fun q => pl_mset hP (by decide) q
      have bad : ∀ f, f < nF g → twB (M 64) s least f = false → twR g (M 62) (M 63) (M 64) s least = -3 := fun f hf hb => by
        unfold twR
        rw [if_neg hso, if_neg]
        intro z
        rw [Bool.and_eq_true] at z
        have := List.all_eq_true.mp z.2 f (List.mem_range.mpr hf)
        rw [hb] at this; cases this
      have key := dn (P := fun k => ∀ q : Nat → Int, (∀ f, f < k → q f = M 64 (40 * s + f) ∧ twB (M 64) s least f = true) → OkI G miX10_takePrices (d + 2) K 39 [some (.inr (.inr (some 0))), some (.inl (s : Int)), some (.inr (.inl least)), none, some (.inl (k : Int))] [] (mset M 65 q)) (nF g) ?_ (fun k hk ih q hq => ?_) 0 (Nat.zero_le _) (M 65) (fun f hf => absurd hf (Nat.not_lt_zero _))
      · rw [mset_self] at key; exact key
      · intro q hq
        have e : twR g (M 62) (M 63) (M 64) s least = 0 := by
          unfold twR
          rw [if_neg hso, if_pos]
          rw [decide_eq_true c1, Bool.true_and]
          exact List.all_eq_true.mpr (fun f hf => (hq f (List.mem_range.mp hf)).2)
        rw [e] at h
        exact gX10_takePrices_39 ⟨fun _ => h q (fun _ f hf => (hq f hf).1), fun c => absurd c (by rw [(hP' q).n hw]; omega)⟩
      · refine gX10_takePrices_39 ⟨fun c => absurd c (by rw [(hP' q).n hw]; omega), fun _ => ?_⟩
        have s62 : (mset M 65 q) 62 = M 62 := mset_ne _ (by decide)
        have s63 : (mset M 65 q) 63 = M 63 := mset_ne _ (by decide)
        have s64 : (mset M 65 q) 64 = M 64 := mset_ne _ (by decide)
        refine c7_read (s := s) (by rw [s62, s63]; exact hs) rfl hs4 ?_
        rw [s63, s64, if_pos (by omega), Int.toNat_natCast, mup_at, w32n (k := k) (by omega), mup_mset, mset_at, mset_mset]
        have fin : twB (M 64) s least k = false → K (-3) (mset M 65 (fup q k (M 64 (40 * s + k)))) := fun hb => by
          have e := bad k hk hb
          rw [e] at h
          exact h _ (fun z => absurd z (by decide))
        refine ⟨by omega, by omega, fun c2 => fin ?_, fun c2 => ⟨by omega, fun c3 => ?_, fun c3 => fin ?_⟩⟩
        · unfold twB; rw [decide_eq_false (by omega)]; rfl
        · refine ih _ (fun f hf => ?_)
          by_cases e : f = k
          · subst e
            exact ⟨fup_at _ _ _, by unfold twB; rw [decide_eq_true c2, decide_eq_true c3]; rfl⟩
          · rw [fup_ne _ e]; exact hq f (by omega)
        · unfold twB; rw [decide_eq_false (p := M 64 (40 * s + k) ≤ 999999) (by omega), Bool.and_false]
    · have e : twR g (M 62) (M 63) (M 64) s least = -3 := by
        unfold twR
        rw [if_neg hso, if_neg]
        rw [decide_eq_false (by rw [← hP.1.1]; exact c1)]; simp
      rw [e] at stay; exact stay (by decide)
/-- the plan goes from g to g', its version by B at most -/
def Chn (B : Int) (g g' : Nat → Int) (M M' : Mem) : Prop := Fr (rg 1 9) M M' ∧ Pl g' M' ∧ (M 1 10 ≤ M' 1 10 ∧ M' 1 10 ≤ M 1 10 + B) ∧ (M' 1 10 = M 1 10 → g' = g)
theorem Chn.of {g g' : Nat → Int} {M M' : Mem} (hP : Pl g M) (h : Chs g g' M M') : Chn 1 g g' M M' := by
  rcases h with ⟨h1, h2, h3⟩ | ⟨h1, h2⟩
  · exact ⟨h1, h2, by omega, fun z => by omega⟩
  · subst h1; subst h2; exact ⟨Fr.rf, hP, by omega, fun _ => rfl⟩
theorem Chn.tr {B B' : Int} {g g' g2 : Nat → Int} {M M' M2 : Mem} (h : Chn B g g' M M') (h' : Chn B' g' g2 M' M2) : Chn (B + B') g g2 M M2 := by
  obtain ⟨a1, a2, a3, a4⟩ := h
  obtain ⟨b1', b2', b3', b4'⟩ := h'
  refine ⟨a1.tr b1', b2', by omega, fun z => ?_⟩
  rw [b4' (by omega), a4 (by omega)]
theorem Chn.rf {g : Nat → Int} {M : Mem} (hP : Pl g M) : Chn 0 g g M M := ⟨Fr.rf, hP, by omega, fun _ => rfl⟩
theorem Chn.le {B B' : Int} {g g' : Nat → Int} {M M' : Mem} (h : Chn B g g' M M') (hB : B ≤ B') : Chn B' g g' M M' := ⟨h.1, h.2.1, by have := h.2.2.1; omega, h.2.2.2⟩
theorem c10_load {g : Nat → Int} {v s p n : Int} (hP : Pl g M) (hw : WF g) (hv : 0 ≤ M 1 10 ∧ M 1 10 ≤ 1000000000) (hs : shW (M 62) (M 63)) (h : ∀ M', Chn 7 g (lodN (M 62) (M 63) (M 64) g v s p n) M M' → K (lodR (M 62) (M 63) (M 64) g v s p n) M') : CalI G miX10_load (d + 4) [.inr (.inr (some 0)), .inl v, .inl s, .inl p, .inl n] M K := by
  have st : Chn 7 g g M M := (Chn.rf hP).le (by decide)
  have bad : (v < 0 ∨ 3 < v ∨ s < 0 ∨ 1 < s ∨ n < 0 ∨ 7 < n) → K (-2) M := fun hb => by
    simp only [lodR, lodN, if_pos hb] at h; exact h M st
  refine Cal.rng (fun hok _ => ?_)
  have hI : -2147483648 ≤ p ∧ p ≤ 2147483647 := hok (.inl p) (by simp)
  refine Cal.of (by decide) (Nat.le_of_ble_eq_true rfl) rfl (gX10_load_0 ?_)
  refine c7_isSheet (fun p1 q1 => b1 ?_) (fun p1 => b0 (bad (by omega)))
  have go : 0 ≤ s → s ≤ 1 → OkI G miX10_load (d + 4) K 20 [some (.inr (.inr (some 0))), some (.inl v), some (.inl s), some (.inl p), some (.inl n), none, none, none, none] [] M := fun s0 s1 => by
    refine gX10_load_20 ⟨fun c => bad (by omega), fun c => ⟨fun c2 => ?_, fun c2 => bad (by omega)⟩⟩
    have hb : ¬ (v < 0 ∨ 3 < v ∨ s < 0 ∨ 1 < s ∨ n < 0 ∨ 7 < n) := by omega
    simp only [lodR, lodN, if_neg hb] at h
    have hvv := hs v.toNat (by omega)
    refine c7_isMissing (s := v.toNat) (by omega) (by omega) (fun c3 => ⟨fun z => absurd z (by decide), fun _ => ?_⟩) (fun c3 => ⟨fun _ => ⟨by omega, fun c4 => ?_, fun c4 => ?_⟩, fun z => absurd rfl z⟩)
    · have q1 : M 62 v.toNat < 0 := by omega
      simp only [if_pos q1] at h; exact h M st
    · have q1 : ¬ M 62 v.toNat < 0 := by omega
      have q2 : ¬ M 62 v.toNat ≠ s := fun q => q c4
      simp only [if_neg q1, if_neg q2] at h
      obtain ⟨nn, hnn⟩ : ∃ nn : Nat, n = (nn : Int) := ⟨n.toNat, by omega⟩
      subst hnn
      rw [Int.toNat_natCast] at h
      refine dn (P := fun k => (ldT (M 63) (M 64) v.toNat p g k).2.2 = false → (1 ≤ k → 0 ≤ p) → ∀ M' : Mem, Chn k g (ldT (M 63) (M 64) v.toNat p g k).1 M M' → OkI G miX10_load (d + 4) K 71 [some (.inr (.inr (some 0))), some (.inl v), none, some (.inl p), some (.inl (nn : Int)), some (.inl ((ldT (M 63) (M 64) v.toNat p g k).2.1 : Int)), some (.inl (k : Int)), none, none] [] M') nn ?_ (fun k hk ih => ?_) 0 (Nat.zero_le _) rfl (fun z => absurd z (by decide)) M (Chn.rf hP)
      · intro hf hp0 M' hC
        rw [hf] at h
        exact gX10_load_71 ⟨fun _ => h M' (hC.le (by omega)), fun c => absurd c (by omega)⟩
      · intro hf hp0 M' hC
        have s62 : M' 62 = M 62 := fr_rgf hC.1 (by decide)
        have s63 : M' 63 = M 63 := fr_rgf hC.1 (by decide)
        have s64 : M' 64 = M 64 := fr_rgf hC.1 (by decide)
        have hst : ldT (M 63) (M 64) v.toNat p g (k + 1) = if (ldT (M 63) (M 64) v.toNat p g k).2.2 = true then ldT (M 63) (M 64) v.toNat p g k else if p < 0 ∨ M 63 v.toNat - 4 * (k : Int) - 4 < p then ((ldT (M 63) (M 64) v.toNat p g k).1, (ldT (M 63) (M 64) v.toNat p g k).2.1, true) else (flyN (ldT (M 63) (M 64) v.toNat p g k).1 (ldA (M 64) v.toNat p.toNat k 0) (ldA (M 64) v.toNat p.toNat k 1) (ldA (M 64) v.toNat p.toNat k 2) (ldA (M 64) v.toNat p.toNat k 3), (ldT (M 63) (M 64) v.toNat p g k).2.1 + (if 0 ≤ flyR (ldT (M 63) (M 64) v.toNat p g k).1 (ldA (M 64) v.toNat p.toNat k 0) (ldA (M 64) v.toNat p.toNat k 1) (ldA (M 64) v.toNat p.toNat k 2) (ldA (M 64) v.toNat p.toNat k 3) then 1 else 0), false) := rfl
        rw [if_neg (by rw [hf]; decide)] at hst
        have out : p < 0 ∨ M 63 v.toNat - 4 * (k : Int) - 4 < p → K (-12) M' := fun ho => by
          rw [if_pos ho] at hst
          have e := ldT_stop (sz := M 63) (it := M 64) (g := g) (v := v.toNat) (p := p) (k := k + 1) (by rw [hst]) nn (by omega)
          rw [e, hst] at h
          exact h M' (hC.le (by omega))
        refine gX10_load_71 ⟨fun c => absurd c (by omega), fun _ => ?_⟩
        rw [w64_eq (x := p + 4 * (k : Int)) (by omega) (by omega), w64_eq (x := p + 4 * (k : Int) + 4) (by omega) (by omega), s63]
        refine ⟨fun c5 => out (by omega), fun c5 => ⟨by omega, fun c6 => ?_, fun c6 => out (by omega)⟩⟩
        have hp : 0 ≤ p := by
          rcases Nat.eq_zero_or_pos k with z | z
          · subst z; omega
          · exact hp0 z
        rw [if_neg (by omega)] at hst
        have hwk := ldT_WF (sz := M 63) (it := M 64) (v := v.toNat) (p := p) hw k
        rw [w32_eq (x := p + 4 * (k : Int)) (by omega) (by omega)]
        have rd : ∀ (j : Nat) (x : Int) (K' : Int → Mem → Prop) (d' : Nat), j < 4 → x = p + 4 * (k : Int) + j → K' (M 64 (40 * v.toNat + (p.toNat + 4 * k + j))) M' → CalL G miX7_read (d' + 1) [.inr (.inr (some 61)), .inl v, .inl x] M' K' := fun j x K' d' hj hx hk2 => by
          refine c7_read (s := v.toNat) (by rw [s62, s63]; exact hs) (by omega) (by omega) ?_
          rw [s63, s64, if_pos (by omega), show 40 * v.toNat + x.toNat = 40 * v.toNat + (p.toNat + 4 * k + j) by omega]; exact hk2
        refine Cal.of (by decide) (Nat.le_of_ble_eq_true rfl) rfl (gX10_loadOne_0 ?_)
        refine rd 0 _ _ _ (by decide) (by omega) ?_
        refine rd 1 _ _ _ (by decide) (by rw [w32_eq (by omega) (by omega)]; omega) ?_
        refine rd 2 _ _ _ (by decide) (by rw [w32_eq (by omega) (by omega)]; omega) ?_
        refine rd 3 _ _ _ (by decide) (by rw [w32_eq (by omega) (by omega)]; omega) ?_
        refine c10_fly hC.2.1 hwk (by have := hC.2.2.1; unfold Vs; omega) (fun M2 h2 => ?_)
        have hC2 : Chn ((k + 1 : Nat) : Int) g _ M M2 := (hC.tr (Chn.of hC.2.1 h2)).le (by omega)
        have key := ih (by rw [hst]) (fun _ => hp) M2 (by rw [hst]; exact hC2)
        rw [hst] at key
        have hn := (ldT_n (sz := M 63) (it := M 64) (g := g) (v := v.toNat) (p := p) hw.1 k).2
        have e0 : ∀ i, ldA (M 64) v.toNat p.toNat k i = w32 (M 64 (40 * v.toNat + (p.toNat + 4 * k + i))) := fun i => rfl
        rw [e0, e0, e0, e0] at key
        simp only at key
        rw [w32n (k := k) (by omega)]
        refine ⟨fun c7 => ?_, fun c7 => ?_⟩
        · rw [if_neg (by omega)] at key; exact key
        · rw [if_pos c7] at key
          rw [w32n (by omega)]; exact key
    · have q1 : ¬ M 62 v.toNat < 0 := by omega
      simp only [if_neg q1, if_pos c4] at h; exact h M st
  exact ⟨fun c => go (by omega) (by omega), fun c => ⟨fun c2 => bad (by omega), fun c2 => go (by omega) (by omega)⟩⟩
end CLSK
