/-! the reference: tokens, on (draft, not built) -/
section REFZ2
variable {G : GE} {d : Nat} {M : Mem}
theorem leE_bd {t : Nat → Int} {m b : Nat} (hbm : b ≤ m) : b ≤ leE t m b ∧ leE t m b ≤ m := runE_le (q := isLb) (t := t) hbm
theorem runE_stop {q : Int → Bool} (hq : q (-1) = false) {t : Nat → Int} {m : Nat} : ∀ f a, m ≤ a + f → q (byt t m (runE q t m f a)) = false := by
  intro f
  induction f with
  | zero => intro a ha; rw [runE, byt_end (by omega)]; exact hq
  | succ f ihf =>
    intro a ha
    rw [runE]; split
    · exact ihf (a + 1) (by omega)
    · rename_i hn; cases hx : q (byt t m a) with
      | false => rfl
      | true => exact absurd hx hn
def wsB (t : Nat → Int) (b e w k : Nat) : Bool := decide (e - b ≤ 4) && (List.range k).all fun k => decide (wdT w k = if b + k < e then t (b + k) else 0)
theorem wsB_s (t : Nat → Int) (b e w k : Nat) : wsB t b e w (k + 1) = (wsB t b e w k && decide (wdT w k = if b + k < e then t (b + k) else 0)) := by
  unfold wsB; rw [List.range_succ, List.all_append, Bool.and_assoc]; simp
theorem wsB_no {t : Nat → Int} {b e w k : Nat} (hk : k ≤ 4) (h : wsB t b e w k = false) : isWb t b e w = false := by
  have : isWb t b e w = wsB t b e w 4 := by unfold isWb wsB; rfl
  rw [this]
  have up : ∀ n, wsB t b e w (k + n) = false := by
    intro n
    induction n with
    | zero => exact h
    | succ n ih => rw [← Nat.add_assoc, wsB_s, ih]; rfl
  have h4 := up (4 - k)
  rw [show k + (4 - k) = 4 by omega] at h4
  exact h4
theorem c11_readsWord {K : Mem → Prop} {t : Nat → Int} {m b : Nat} (hT : TxM t m b M) (hwd : wdM M) (hbm : b ≤ m) (h47 : M 66 47 = (b : Int)) (h : ∀ M', Fr SK M M' → M' 66 45 = (leE t m b : Int) → M' 66 47 = (b : Int) → (∀ w, wcode t b (leE t m b) = some w → M' 66 46 = 1 ∧ M' 66 48 = (w : Int)) → (wcode t b (leE t m b) = none → M' 66 46 = 4) → K M') : CalV G miX11_readsWord (d + 1) [.inr (.inr (some 66))] M K := by
  have hm := hT.2.2.2
  refine Cal.of (by decide) (Nat.le_of_ble_eq_true rfl) rfl ?_
  have hle := leE_bd (t := t) hbm
  have hno : isLb (byt t m (leE t m b)) = false := by
    unfold leE; exact runE_stop (q := isLb) (by decide) (m - b) b (by omega)
  have hall : ∀ j, b ≤ j → j < leE t m b → isLb (byt t m j) = true := fun j h1 h2 => by
    unfold leE at h2; exact runE_all (q := isLb) (m - b) b j h1 h2
  generalize leE t m b = e at *
  refine dn (P := fun i => ∀ M' : Mem, Fr SK M M' → M' 66 45 = ((b + i : Nat) : Int) → M' 66 47 = (b : Int) → OkV G miX11_readsWord (d + 1) K 0 [some (.inr (.inr (some 66))), none, none, none] [] M') (e - b) ?_ (fun i hi ih => ?_) 0 (Nat.zero_le _) _ Fr.rf hT.2.1 h47
  · intro M' hf h45 h47'
    have ee : b + (e - b) = e := by omega
    rw [ee] at h45
    have hT' := hT.at e hf h45
    refine gX11_readsWord_0 (c11_here hT' (c11_in (fun p q => ?_) (fun p => ?_)))
    · exfalso
      unfold isLb at hno
      simp only [Bool.and_eq_false_iff, decide_eq_false_iff_not] at hno
      omega
    · refine ⟨fun _ => ?_, fun c => absurd rfl c⟩
      refine dn (P := fun w => ∀ M' : Mem, Fr SK M M' → M' 66 45 = (e : Int) → M' 66 47 = (b : Int) → (∀ x, x < w → isWb t b e x = true → M' 66 46 = 1 ∧ M' 66 48 = (x : Int)) → ((∀ x, x < w → isWb t b e x = false) → M' 66 46 = 4) → OkV G miX11_readsWord (d + 1) K 37 [some (.inr (.inr (some 66))), some (.inl (w : Int)), none, none] [] M') 7 ?_ (fun w hw ih => ?_) 0 (Nat.zero_le _) _ (hf.up rfl) (by rw [mup_at_ne (by decide)]; exact h45) (by rw [mup_at_ne (by decide)]; exact h47') (fun x hx => absurd hx (by omega)) (fun _ => by rw [mup_at])
      · intro M2 hf2 h45 h47 hy hn
        refine gX11_readsWord_37 ⟨fun _ => h _ hf2 h45 h47 (fun w hw => ?_) (fun hw => ?_), fun c => absurd c (by omega)⟩
        · exact hy w (List.mem_range.mp (List.mem_of_find?_eq_some hw)) (List.find?_some hw)
        · refine hn (fun x hx => ?_)
          have := List.find?_eq_none.mp hw x (List.mem_range.mpr hx)
          cases hq : isWb t b e x with
          | false => rfl
          | true => exact absurd hq this
      · intro M2 hf2 h45 h47 hy hn
        have hT2 := hT.at e hf2 h45
        refine gX11_readsWord_37 ⟨fun c => absurd c (by omega), fun _ => ?_⟩
        have lst : ∀ v2 : Int, v2 = (if isWb t b e w = true then 1 else 0) → OkV G miX11_readsWord (d + 1) K 126 [some (.inr (.inr (some 66))), some (.inl (w : Int)), some (.inl v2), none] [] M2 := fun v2 hv => by
          subst hv
          refine gX11_readsWord_126 ?_
          rw [w32n (by omega)]
          cases hq : isWb t b e w with
          | true =>
            rw [if_pos rfl, if_neg (by decide), if_neg (by decide)]
            refine ih _ ((hf2.up rfl).up rfl) (by rw [mup_at_ne (by decide), mup_at_ne (by decide)]; exact h45) (by rw [mup_at_ne (by decide), mup_at_ne (by decide)]; exact h47) (fun x hx he => ?_) (fun hA => ?_)
            · have := isWb_one (by omega) (by omega) he hq
              subst this
              exact ⟨by rw [mup_at_ne (by decide), mup_at], by rw [mup_at]⟩
            · rw [hA w (by omega)] at hq; cases hq
          | false =>
            rw [show (if false = true then (1 : Int) else 0) = 0 from rfl, if_pos rfl, if_pos rfl, mup_at_ne (by decide)]
            refine ih _ ((hf2.up rfl).up rfl) (by rw [mup_at_ne (by decide), mup_at_ne (by decide)]; exact h45) (by rw [mup_at_ne (by decide), mup_at_ne (by decide)]; exact h47) (fun x hx he => ?_) (fun hA => ?_)
            · have hx2 : x < w := by
                rcases Nat.lt_or_ge x w with z | z
                · exact z
                · have : x = w := by omega
                  subst this; rw [hq] at he; cases he
              have := hy x hx2 he
              exact ⟨by rw [mup_at_ne (by decide), mup_at]; exact this.1, by rw [mup_at]; exact this.2⟩
            · rw [mup_at_ne (by decide), mup_at]; exact hn (fun x hx => hA x (by omega))
        have key : OkV G miX11_readsWord (d + 1) K 64 [some (.inr (.inr (some 66))), some (.inl (w : Int)), some (.inl (if wsB t b e w 0 = true then 1 else 0)), some (.inl ((0 : Nat) : Int))] [] M2 := by
          refine dn (P := fun k => OkV G miX11_readsWord (d + 1) K 64 [some (.inr (.inr (some 66))), some (.inl (w : Int)), some (.inl (if wsB t b e w k = true then 1 else 0)), some (.inl (k : Int))] [] M2) 4 ?_ (fun k hk ih => ?_) 0 (Nat.zero_le _)
          · exact gX11_readsWord_64 ⟨fun _ => lst _ rfl, fun c => absurd c (by decide)⟩
          · refine gX11_readsWord_64 ⟨fun c => absurd c (by omega), fun _ => ?_⟩
            cases hq : wsB t b e w k with
            | false => exact ⟨fun _ => lst _ (by rw [wsB_no (by omega) hq]), fun c => absurd rfl c⟩
            | true =>
              refine ⟨fun c => absurd c (by decide), fun _ => ⟨by omega, ?_⟩⟩
              have h93 : M2 93 (4 * w + k) = wdT w k := by rw [hf2 93 _ rfl]; exact hwd w hw k hk
              have nxt : ∀ x : Int, x = (if b + k < e then t (b + k) else 0) → OkV G miX11_readsWord (d + 1) K 111 [some (.inr (.inr (some 66))), some (.inl (w : Int)), none, some (.inl (k : Int))] [.inl x, .inl (wdT w k)] M2 := fun x hx => by
                refine gX11_readsWord_111 ?_
                rw [w32n (by omega)]
                have e1 : (if wdT w k = x then (1 : Int) else 0) = (if wsB t b e w (k + 1) = true then 1 else 0) := by
                  rw [wsB_s, hq, Bool.true_and, hx]
                  by_cases q : wdT w k = if b + k < e then t (b + k) else 0
                  · rw [if_pos q, if_pos (by rw [decide_eq_true_eq]; exact q)]
                  · rw [if_neg q, if_neg (by rw [decide_eq_true_eq]; exact q)]
                rw [e1]
                exact ih
              rw [h45, h47, w32_eq (x := ((b : Nat) : Int) + (k : Int)) (by omega) (by omega), show ((4 * (w : Int)) + (k : Int)).toNat = 4 * w + k by omega, h93]
              refine ⟨fun c => nxt 0 (by rw [if_neg (by omega)]), fun c => ⟨by omega, ?_⟩⟩
              rw [show ((b : Int) + (k : Int)).toNat = b + k by omega, hT2.2.2.1 (b + k) (by omega)]
              exact nxt _ (by rw [if_pos (by omega)])
        have e0 : (if ¬ ((4 : Int) < (e : Int) - (b : Int)) then (1 : Int) else 0) = (if wsB t b e w 0 = true then 1 else 0) := by
          unfold wsB
          rw [show (List.range 0).all (fun k => decide (wdT w k = if b + k < e then t (b + k) else 0)) = true from rfl, Bool.and_true]
          by_cases q : e - b ≤ 4
          · rw [if_pos (by omega), if_pos (by rw [decide_eq_true_eq]; exact q)]
          · rw [if_neg (by omega), if_neg (by rw [decide_eq_true_eq]; exact q)]
        rw [h45, h47, w32_eq (x := ((e : Nat) : Int) - (b : Int)) (by omega) (by omega), e0]
        exact key
  · intro M' hf h45 h47'
    have hlt : b + i < e := by omega
    have hj : b + i < m := by omega
    have hT' := hT.at (b + i) hf h45
    have hs := hall (b + i) (by omega) hlt
    unfold isLb at hs
    simp only [Bool.and_eq_true, decide_eq_true_eq] at hs
    refine gX11_readsWord_0 (c11_here hT' (c11_in (fun p q => ⟨fun c => absurd c (by decide), fun _ => ?_⟩) (fun p => ?_)))
    · rw [h45, w32n (by omega)]
      exact ih _ (hf.up rfl) (by rw [mup_at]; rfl) (by rw [mup_at_ne (by decide)]; exact h47')
    · exfalso; omega
end REFZ2
section REFZ3
variable {G : GE} {d : Nat} {M : Mem}
theorem skE_bd {t : Nat → Int} {m a : Nat} (h : a ≤ m) : a ≤ skE t m a ∧ skE t m a ≤ m := runE_le (q := isBb) (t := t) h
theorem c11_next {K : Mem → Prop} {t : Nat → Int} {m a : Nat} (hT : TxM t m a M) (ha : a ≤ m) (hp : ∀ i, i < m → 0 ≤ t i) (hwd : wdM M) (h : ∀ M', Fr SK M M' → M' 66 45 = ((tok t m a).2.2.2 : Int) → M' 66 47 = ((tok t m a).2.2.1 : Int) → M' 66 46 = ((tok t m a).1 : Int) → ((tok t m a).1 = 1 ∨ (tok t m a).1 = 2 → M' 66 48 = (tok t m a).2.1) → K M') : CalV G miX11_next (d + 2) [.inr (.inr (some 66))] M K := by
  have hm := hT.2.2.2
  refine Cal.of (by decide) (Nat.le_of_ble_eq_true rfl) rfl ?_
  have hle := skE_bd (t := t) ha
  have hno : isBb (byt t m (skE t m a)) = false := by
    unfold skE; exact runE_stop (q := isBb) (by decide) (m - a) a (by omega)
  have hall : ∀ j, a ≤ j → j < skE t m a → isBb (byt t m j) = true := fun j h1 h2 => by
    unfold skE at h2; exact runE_all (q := isBb) (m - a) a j h1 h2
  unfold tok at h
  generalize skE t m a = b at *
  refine dn (P := fun i => ∀ M' : Mem, Fr SK M M' → M' 66 45 = ((a + i : Nat) : Int) → OkV G miX11_next (d + 2) K 0 [some (.inr (.inr (some 66)))] [] M') (b - a) ?_ (fun i hi ih => ?_) 0 (Nat.zero_le _) _ Fr.rf hT.2.1
  · intro M' hf h45
    rw [show a + (b - a) = b by omega] at h45
    have hT' := hT.at b hf h45
    unfold isBb at hno
    simp only [Bool.or_eq_false_iff, decide_eq_false_iff_not] at hno
    refine gX11_next_0 (c11_here hT' ⟨fun c => absurd c hno.1, fun _ => c11_here hT' ⟨fun _ => ?_, fun c => absurd c hno.2⟩⟩)
    have hf1 : Fr SK M (mup M' 66 47 (M' 66 45)) := hf.up rfl
    have h451 : (mup M' 66 47 (M' 66 45)) 66 45 = (b : Int) := by rw [mup_at_ne (by decide)]; exact h45
    have h471 : (mup M' 66 47 (M' 66 45)) 66 47 = (b : Int) := by rw [mup_at]; exact h45
    generalize mup M' 66 47 (M' 66 45) = M1 at *
    have hT1 := hT.at b hf1 h451
    have hwd1 : wdM M1 := fun w hw k hk => by rw [hf1 93 _ rfl]; exact hwd w hw k hk
    refine c11_here hT1 ⟨fun c0 => ?_, fun c0 => ?_⟩
    · have hbm : b < m := by
        rcases Nat.lt_or_ge b m with z | z
        · exact z
        · rw [byt_end z] at c0; omega
      have eb : byt t m b = t b := by unfold byt; rw [if_pos hbm]
      unfold tokE at h
      rw [if_neg (by omega)] at h
      refine c11_here hT1 (c11_in (fun p q => b1 ?_) (fun p => ?_))
      · have hL : isLb (byt t m b) = true := by unfold isLb; simp only [Bool.and_eq_true, decide_eq_true_eq]; exact ⟨p, q⟩
        rw [if_pos hL] at h
        refine c11_readsWord hT1 hwd1 (by omega) h471 (fun M2 hf2 g45 g47 hs hn => ?_)
        cases hw : wcode t b (leE t m b) with
        | none => rw [hw] at h; exact h _ (hf1.tr hf2) g45 g47 (hn hw) (fun c => by rcases c with c | c <;> cases c)
        | some w => rw [hw] at h; exact h _ (hf1.tr hf2) g45 g47 (hs w hw).1 (fun _ => (hs w hw).2)
      · have hLf : isLb (byt t m b) = false := by
          unfold isLb; simp only [Bool.and_eq_false_iff, decide_eq_false_iff_not]; omega
        rw [if_neg (by rw [hLf]; decide)] at h
        refine b0 (c11_here hT1 (c11_in (fun p2 q2 => b1 ?_) (fun p2 => b0 ?_)))
        · have hD : isDb (byt t m b) = true := by unfold isDb; simp only [Bool.and_eq_true, decide_eq_true_eq]; exact ⟨p2, q2⟩
          rw [if_pos hD] at h
          refine c11_readsNumber hT1 (by omega) h471 (fun M2 hf2 g45 g47 g46 g48 => ?_)
          by_cases hc : diE t m b - b ≤ 3
          · rw [if_pos hc] at h g46
            exact h _ (hf1.tr hf2) g45 g47 g46 (fun _ => g48 hc)
          · rw [if_neg hc] at h g46
            exact h _ (hf1.tr hf2) g45 g47 g46 (fun c => by rcases c with c | c <;> cases c)
        · have hDf : isDb (byt t m b) = false := by
            unfold isDb; simp only [Bool.and_eq_false_iff, decide_eq_false_iff_not]; omega
          rw [if_neg (by rw [hDf]; decide)] at h
          refine c11_here hT1 ?_
          rw [mup_at_ne (by decide), h451, w32n (by omega), eb]
          refine h _ ((hf1.up rfl).up rfl) (by rw [mup_at]) (by rw [mup_at_ne (by decide), mup_at_ne (by decide), h471]) ?_ (fun c => ?_)
          · rw [mup_at_ne (by decide), mup_at]
            by_cases hq : t b = 59
            · rw [if_pos hq]; first | rfl | (simp only [hq]; rfl) | simp only [hq]
            · rw [if_neg hq]; first | rfl | (simp only [hq]; rfl) | simp only [hq]
          · exfalso
            by_cases hq : t b = 59
            · simp only [hq] at c; revert c; decide
            · simp only [hq] at c; revert c; decide
    · have hbm : m ≤ b := by
        rcases Nat.lt_or_ge b m with z | z
        · have := hp b z
          unfold byt at c0
          rw [if_pos z] at c0
          omega
        · exact z
      unfold tokE at h
      rw [if_pos hbm] at h
      exact h _ (hf1.up rfl) (by rw [mup_at_ne (by decide)]; exact h451) (by rw [mup_at_ne (by decide)]; exact h471) (by rw [mup_at]; rfl) (fun c => by rcases c with c | c <;> cases c)
  · intro M' hf h45
    have hlt : a + i < b := by omega
    have hT' := hT.at (a + i) hf h45
    have hs := hall (a + i) (by omega) hlt
    have stp : OkV G miX11_next (d + 2) K 18 [some (.inr (.inr (some 66)))] [] M' := by
      refine gX11_next_18 ?_
      rw [h45, w32n (by omega)]
      exact ih _ (hf.up rfl) (by rw [mup_at]; rfl)
    refine gX11_next_0 (c11_here hT' ⟨fun _ => stp, fun c1 => c11_here hT' ⟨fun c2 => ?_, fun _ => stp⟩⟩)
    exfalso
    unfold isBb at hs
    simp only [Bool.or_eq_true, decide_eq_true_eq] at hs
    omega
end REFZ3
