/-! the class: texts done, bytes fed -/
theorem flC_cons (q : Nat × List Int) (Ls : List (Nat × List Int)) : flC (q :: Ls) = (q.1 : Int) :: (q.2 ++ flC Ls) := by unfold flC; rw [List.flatMap_cons]; rfl
/-- what was read rightly falls into clauses -/
theorem pars_cl {t : Nat → Int} {m : Nat} : ∀ f due a, (pars t m f due a).1 = true → ∃ (Ls : List (Nat × List Int)) (N : List Int), (∀ q ∈ Ls, q.1 < 7 ∧ q.2.length = wantN q.1) ∧ N.length = due - 1 ∧ (pars t m f due a).2.2 = N ++ flC Ls := by
  intro f
  induction f with
  | zero => intro due a h; exact absurd (show false = true from h) (by decide)
  | succ f ih =>
    intro due a h
    match due with
    | 0 =>
      rw [pars] at h ⊢
      by_cases c : (tok t m a).1 = 1
      · rw [if_pos c] at h ⊢
        obtain ⟨w, hw7, hwv⟩ := tok_word c
        obtain ⟨Ls, N, h1, h2, h3⟩ := ih _ _ h
        refine ⟨(w, N) :: Ls, [], fun q hq => ?_, rfl, ?_⟩
        · rcases List.mem_cons.mp hq with e | hq
          · subst e
            refine ⟨hw7, ?_⟩
            rw [h2, hwv, Int.toNat_natCast]; rfl
          · exact h1 q hq
        · show (tok t m a).2.1 :: _ = [] ++ _
          rw [h3, List.nil_append, flC_cons, hwv]
      · rw [if_neg c] at h; exact absurd (show false = true from h) (by decide)
    | 1 =>
      rw [pars] at h ⊢
      by_cases c : (tok t m a).1 = 3
      · rw [if_pos c] at h ⊢
        obtain ⟨Ls, N, h1, h2, h3⟩ := ih _ _ h
        exact ⟨Ls, N, h1, h2, h3⟩
      · rw [if_neg c] at h ⊢
        by_cases c2 : (tok t m a).1 = 0
        · rw [if_pos c2]
          exact ⟨[], [], fun q hq => absurd hq List.not_mem_nil, rfl, rfl⟩
        · rw [if_neg c2] at h; exact absurd (show false = true from h) (by decide)
    | n + 2 =>
      rw [pars] at h ⊢
      by_cases c : (tok t m a).1 = 2
      · rw [if_pos c] at h ⊢
        obtain ⟨Ls, N, h1, h2, h3⟩ := ih _ _ h
        refine ⟨Ls, (tok t m a).2.1 :: N, h1, ?_, ?_⟩
        · rw [List.length_cons, h2]; rfl
        · show (tok t m a).2.1 :: _ = _
          rw [h3]; rfl
      · rw [if_neg c] at h; exact absurd (show false = true from h) (by decide)
theorem flC_len : ∀ (Ls : List (Nat × List Int)), (∀ q ∈ Ls, q.1 < 7 ∧ q.2.length = wantN q.1) → 2 * Ls.length ≤ (flC Ls).length := by
  intro Ls
  induction Ls with
  | nil => intro _; exact Nat.le_refl _
  | cons q Ls ih =>
    intro h
    have a := ih (fun x hx => h x (List.mem_cons_of_mem _ hx))
    have b := h q List.mem_cons_self
    have hw : 1 ≤ wantN q.1 := by
      match q.1 with
      | 0 => decide
      | 1 => decide
      | 2 => decide
      | n + 3 => show 1 ≤ 2; decide
    rw [flC_cons]
    simp only [List.length_cons, List.length_append]
    omega
theorem getD_drop (L : List Int) (a j : Nat) : L.getD (a + j) 0 = (L.drop a).getD j 0 := by
  simp only [List.getD_eq_getElem?_getD, List.getElem?_drop]
section CLSN
variable {G : GE} {d : Nat} {M : Mem} {K : Int → Mem → Prop}
def TkL (L : List Int) (M : Mem) : Prop := (M 58 3 = (L.length : Int) ∧ ∀ i, i < L.length → M 60 i = L.getD i 0) ∧ L.length ≤ 60
theorem c9_token {L : List Int} {v : Int} {i : Nat} (hL : TkL L M) (e : v = (i : Int)) (h : K (L.getD i 0) M) : CalI G miX9_token d [.inr (.inr (some 58)), .inl v] M K := by
  subst e
  refine Cal.of (by decide) (Nat.le_of_ble_eq_true rfl) rfl (gX9_token_0 ?_)
  rw [hL.1.1, Int.toNat_natCast]
  refine ⟨fun c => absurd c (by omega), fun _ => ⟨fun c => ?_, fun c => ⟨by have := hL.2; omega, ?_⟩⟩⟩
  · have : L.getD i 0 = 0 := by
      rw [List.getD_eq_getElem?_getD, List.getElem?_eq_none (by omega)]; rfl
    rw [this] at h; exact h
  · rw [hL.1.2 i (by omega)]; exact h
theorem c9_numbersOf {w : Nat} {v : Int} (e : v = (w : Int)) (h : K (wantN w : Int) M) : CalI G miX9_numbersOf d [.inl v] M K := by
  subst e
  refine Cal.of (by decide) (Nat.le_of_ble_eq_true rfl) rfl (gX9_numbersOf_0 ?_)
  refine ⟨fun c => ?_, fun c => ?_, fun c => ?_, fun c => ?_⟩
  · obtain rfl : w = 0 := by omega
    exact h
  · obtain rfl : w = 1 := by omega
    exact h
  · obtain rfl : w = 2 := by omega
    exact h
  · obtain ⟨n, rfl⟩ : ∃ n, w = n + 3 := ⟨w - 3, by omega⟩
    exact h
theorem c10_doClause {g : Nat → Int} {L : List Int} {a w : Nat} (hP : Pl g M) (hw : WF g) (hv : Vs M) (hL : TkL L M) (ha : a ≤ 60) (hw7 : w < 7) (hc : L.getD a 0 = (w : Int)) (h : ∀ M', Chs g (doR g w (fun j => L.getD (a + 1 + j) 0)).2 M M' → K (doR g w (fun j => L.getD (a + 1 + j) 0)).1 M') : CalI G miX10_doClause (d + 3) [.inr (.inr (some 0)), .inl (a : Int)] M K := by
  refine Cal.of (by decide) (Nat.le_of_ble_eq_true rfl) rfl (gX10_doClause_0 ?_)
  refine c9_token hL (i := a + 1) (w32n (by omega)) ?_
  refine c9_token hL (i := a + 1 + 1) (by rw [w32_eq (by omega) (by omega)]; omega) ?_
  refine c9_token hL (i := a + 1 + 2) (by rw [w32_eq (by omega) (by omega)]; omega) ?_
  refine c9_token hL (i := a) rfl ?_
  rw [hc]
  refine ⟨fun c => ?_, fun c => ?_, fun c => ?_, fun c => ?_, fun c => ?_, fun c => ?_, fun c => ?_⟩
  · obtain rfl : w = 0 := by omega
    refine c9_token hL (i := a + 1 + 3) (by rw [w32_eq (by omega) (by omega)]; omega) ?_
    exact c10_fly hP hw hv h
  · obtain rfl : w = 1 := by omega
    exact c10_kind hP hw hv h
  · obtain rfl : w = 2 := by omega
    exact c10_base hP hv h
  · obtain rfl : w = 3 := by omega
    exact c10_fee hP hv h
  · obtain rfl : w = 4 := by omega
    exact c10_mark hP hw hv h
  · obtain rfl : w = 5 := by omega
    exact c10_mark hP hw hv h
  · obtain rfl : w = 6 := by omega
    exact c10_mark hP hw hv h
theorem c10_doClauses {g : Nat → Int} {L : List Int} {Ls : List (Nat × List Int)} (hP : Pl g M) (hw : WF g) (hv : 0 ≤ M 1 10 ∧ M 1 10 ≤ 1000000000) (hL : TkL L M) (hLs : ∀ q ∈ Ls, q.1 < 7 ∧ q.2.length = wantN q.1) (hfl : L = flC Ls) (h : ∀ M', Chn 60 g (runL 61 L g 0).1 M M' → K ((runL 61 L g 0).2 : Int) M') : CalI G miX10_doClauses (d + 4) [.inr (.inr (some 0))] M K := by
  have hlen := flC_len Ls hLs
  have hL60 := hL.2
  rw [← hfl] at hlen
  refine Cal.of (by decide) (Nat.le_of_ble_eq_true rfl) rfl (gX10_doClauses_0 ?_)
  refine dn (P := fun k => ∀ (M' : Mem) (gk : Nat → Int) (nk a : Nat), Chn k g gk M M' → WF gk → nk ≤ k → L.drop a = flC (Ls.drop k) → a + (flC (Ls.drop k)).length = L.length → runL 61 L g 0 = runL (61 - k) (flC (Ls.drop k)) gk nk → OkI G miX10_doClauses (d + 4) K 6 [some (.inr (.inr (some 0))), some (.inl (nk : Int)), some (.inl (a : Int)), some (.inl (k : Int))] [] M') Ls.length ?_ (fun k hk ih => ?_) 0 (Nat.zero_le _) M g 0 0 (Chn.rf hP) hw (Nat.le_refl _) (by rw [List.drop_zero, List.drop_zero]; exact hfl) (by rw [List.drop_zero, ← hfl]; omega) (by rw [List.drop_zero, ← hfl])
  · intro M' gk nk a hC hwk hnk hdr hal hr
    have e0 : flC (Ls.drop Ls.length) = [] := by rw [List.drop_length]; rfl
    rw [e0] at hal hr
    have e1 : runL (61 - Ls.length) [] gk nk = (gk, nk) := by rw [show 61 - Ls.length = (60 - Ls.length) + 1 by omega]; rfl
    rw [e1] at hr
    rw [hr] at h
    have fin := h M' (hC.le (by omega))
    refine gX10_doClauses_6 ⟨fun _ => fin, fun _ => ⟨fun _ => fin, fun c => ?_⟩⟩
    rw [fr_rg hC.1 (by decide), hL.1.1] at c
    simp at hal; omega
  · intro M' gk nk a hC hwk hnk hdr hal hr
    have hgk := hLs Ls[k] (List.getElem_mem hk)
    have e3 : flC (Ls.drop k) = (Ls[k].1 : Int) :: (Ls[k].2 ++ flC (Ls.drop (k + 1))) := by rw [List.drop_eq_getElem_cons hk, flC_cons]
    have hL' : TkL L M' := ⟨⟨by rw [fr_rg hC.1 (by decide)]; exact hL.1.1, fun i hi => by rw [fr_rg hC.1 (by decide)]; exact hL.1.2 i hi⟩, hL.2⟩
    have hla : (flC (Ls.drop k)).length = 1 + wantN Ls[k].1 + (flC (Ls.drop (k + 1))).length := by rw [e3]; simp only [List.length_cons, List.length_append]; omega
    have hc0 : L.getD a 0 = (Ls[k].1 : Int) := by
      have := getD_drop L a 0
      rw [Nat.add_zero, hdr, e3] at this; exact this
    have hcj : ∀ j, L.getD (a + 1 + j) 0 = (Ls[k].2 ++ flC (Ls.drop (k + 1))).getD j 0 := fun j => by
      have := getD_drop L a (1 + j)
      rw [hdr, e3] at this
      rw [Nat.add_assoc, this, Nat.add_comm 1 j]; rfl
    have hVs : Vs M' := by have := hC.2.2.1; unfold Vs; omega
    refine gX10_doClauses_6 ⟨fun c => absurd c (by omega), fun _ => ⟨fun c => ?_, fun _ => ?_⟩⟩
    · rw [fr_rg hC.1 (by decide), hL.1.1] at c; omega
    refine c10_doClause (w := Ls[k].1) hC.2.1 hwk hVs hL' (by omega) hgk.1 hc0 (fun M2 h2 => ?_)
    have ed : doR gk Ls[k].1 (fun j => L.getD (a + 1 + j) 0) = doR gk Ls[k].1 (fun j => Ls[k].2.getD j 0) := doR_congr _ (fun j hj => by
      rw [hcj]
      simp only [List.getD_eq_getElem?_getD]
      rw [List.getElem?_append_left (by omega)])
    rw [ed] at h2 ⊢
    have hC2 := hC.tr (Chn.of hC.2.1 h2)
    have hL2 : TkL L M2 := ⟨⟨by rw [fr_rg hC2.1 (by decide)]; exact hL.1.1, fun i hi => by rw [fr_rg hC2.1 (by decide)]; exact hL.1.2 i hi⟩, hL.2⟩
    rw [e3, show 61 - k = (61 - (k + 1)) + 1 by omega, runL_cons hgk.2] at hr
    have hdr2 : L.drop (a + (1 + wantN Ls[k].1)) = flC (Ls.drop (k + 1)) := by
      rw [← List.drop_drop, hdr, e3, Nat.add_comm 1, List.drop_succ_cons, ← hgk.2]; simp
    have nxt : ∀ n2 : Nat, n2 ≤ k + 1 → runL 61 L g 0 = runL (61 - (k + 1)) (flC (Ls.drop (k + 1))) (doR gk Ls[k].1 (fun j => Ls[k].2.getD j 0)).2 n2 → OkI G miX10_doClauses (d + 4) K 34 [some (.inr (.inr (some 0))), some (.inl (n2 : Int)), some (.inl (a : Int)), some (.inl (k : Int))] [] M2 := fun n2 hn2 hr2 => by
      refine gX10_doClauses_34 (c9_token hL2 rfl (c9_numbersOf hc0 ?_))
      have hw4 : wantN Ls[k].1 ≤ 4 := by
        match Ls[k].1 with
        | 0 => decide
        | 1 => decide
        | 2 => decide
        | n + 3 => show 2 ≤ 4; decide
      rw [w32_eq (x := (a : Int) + (1 + (wantN Ls[k].1 : Int))) (by omega) (by omega), w32n (k := k) (by omega), show (a : Int) + (1 + (wantN Ls[k].1 : Int)) = ((a + (1 + wantN Ls[k].1) : Nat) : Int) by omega]
      exact ih M2 _ n2 _ (hC2.le (by omega)) (doR_WF hwk _ _) hn2 hdr2 (by omega) hr2
    refine ⟨fun c => nxt nk (by omega) ?_, fun c => ?_⟩
    · rw [if_neg (by omega)] at hr; exact hr
    · rw [if_pos c] at hr
      rw [w32n (k := nk) (by omega)]
      exact nxt (nk + 1) (by omega) hr
def STt : Nat → Nat → Bool := fun c i => rg 1 9 c i || (c == 60 || (c == 58 && (i == 2 || (i == 3 || i == 4))))
theorem c10_text {g t : Nat → Int} {m : Nat} (hP : Pl g M) (hw : WF g) (hv : 0 ≤ M 1 10 ∧ M 1 10 ≤ 1000000000) (h58 : M 58 2 = (m : Int)) (h59 : ∀ i, i < m → M 59 i = t i) (hm : m ≤ 60) (h : ∀ M', Fr STt M M' → M' 58 2 = 0 → Pl (txtR g t m).2 M' → (M 1 10 ≤ M' 1 10 ∧ M' 1 10 ≤ M 1 10 + 60) → (M' 1 10 = M 1 10 → (txtR g t m).2 = g) → K (txtR g t m).1 M') : CalI G miX10_text (d + 11) [.inr (.inr (some 0))] M K := by
  have frp : ∀ {M'}, Fr STp M M' → Fr STt M (mup M' 58 2 0) := fun hf => (hf.mo (fun c i hc => by
    unfold STt at hc; unfold STp
    simp only [Bool.or_eq_false_iff, Bool.and_eq_false_iff, beq_eq_false_iff_ne] at hc ⊢
    obtain ⟨-, h1, h2⟩ := hc
    refine ⟨h1, ?_⟩
    rcases h2 with h2 | h2
    · exact .inl h2
    · exact .inr h2.2)).up (by unfold STt; simp)
  have plp : ∀ {M'}, Fr STp M M' → Pl g (mup M' 58 2 0) := fun hf => pl_mup (hP.fr hf (fun c i a b => by unfold STp; simp; omega)) (by decide) _
  have ver : ∀ {M'}, Fr STp M M' → (mup M' 58 2 0) 1 10 = M 1 10 := fun hf => by rw [mup_ne (by decide)]; exact hf 1 10 rfl
  refine Cal.of (by decide) (Nat.le_of_ble_eq_true rfl) rfl (gX10_text_0 ?_)
  refine c9_parse h58 h59 hm (fun M1 f1 hp h3 hl6 h60 => ?_) (fun M1 f1 hp hle => ?_)
  · refine ⟨fun z => absurd rfl z, fun _ => ?_⟩
    obtain ⟨Ls, N, c1, c2, c3⟩ := pars_cl (t := t) (m := m) (m + 1) 0 0 hp
    have hN : N = [] := List.length_eq_zero_iff.mp c2
    subst hN
    rw [List.nil_append] at c3
    have ex : txtR g t m = (((runL 61 (parF t m 0 0).2.2 g 0).2 : Int), (runL 61 (parF t m 0 0).2.2 g 0).1) := by unfold txtR; rw [if_pos hp]
    refine c10_doClauses (L := (parF t m 0 0).2.2) (plp f1) hw (by rw [ver f1]; exact hv) ⟨⟨by rw [mup_at_ne (by decide)]; exact h3, fun i hi => by rw [mup_ne (by decide)]; exact h60 i hi⟩, hl6⟩ c1 c3 (fun M2 hC => ?_)
    have := h M2 ((frp f1).tr (hC.1.mo (fun c i hc => by unfold STt at hc; exact (Bool.or_eq_false_iff.mp hc).1))) (by rw [fr_rg hC.1 (by decide), mup_at]) (by rw [ex]; exact hC.2.1) (by have := hC.2.2.1; rw [ver f1] at this; exact this) (fun z => by rw [ex]; exact hC.2.2.2 (by rw [ver f1]; exact z))
    rw [ex] at this; exact this
  · refine ⟨fun _ => ?_, fun z => absurd z (by omega)⟩
    have ex : txtR g t m = (-100 - ((parF t m 0 0).2.1 : Int), g) := by unfold txtR; rw [if_neg (by rw [hp]; decide)]
    have := h (mup M1 58 2 0) (frp f1) (mup_at _ _ _ _) (by rw [ex]; exact plp f1) (by rw [ver f1]; omega) (fun _ => by rw [ex])
    rw [ex] at this
    rw [w32_eq (by omega) (by omega)]; exact this
/-- the tape after k of the bytes -/
def fmT (M : Mem) (m : Nat) (a b c e f : Int) (k : Nat) : Mem := mup (mset M 59 (feT (M 59) m a b c e f k)) 58 2 ((m : Int) + (k : Int))
theorem fm_add {m : Nat} {a b c e f : Int} {k : Nat} (hk : m + k < 60) {K : Mem → Prop} (h : K (fmT M m a b c e f (k + 1))) : CalV G miX9_add d [.inr (.inr (some 58)), .inl (feV a b c e f k)] (fmT M m a b c e f k) K := by
  have e58 : (fmT M m a b c e f k) 58 2 = (m : Int) + (k : Int) := mup_at _ _ _ _
  refine Cal.of (by decide) (Nat.le_of_ble_eq_true rfl) rfl (gX9_add_0 ?_)
  rw [e58]
  refine ⟨fun z => absurd z (by omega), fun _ => ⟨by omega, ?_⟩⟩
  rw [mup_ne (show (58 : Nat) ≠ 59 by decide), e58, w32_eq (by omega) (by omega), show ((m : Int) + (k : Int)).toNat = m + k by omega, show (m : Int) + (k : Int) + 1 = (m : Int) + ((k + 1 : Nat) : Int) by omega]
  have em : mup (mup (fmT M m a b c e f k) 59 (m + k) (feV a b c e f k)) 58 2 ((m : Int) + ((k + 1 : Nat) : Int)) = fmT M m a b c e f (k + 1) := by
    unfold fmT
    funext p q
    unfold mup mset
    by_cases hp : p = 58
    · subst hp
      by_cases hq : q = 2
      · simp [hq]
      · simp [hq]
    · by_cases hp2 : p = 59
      · subst hp2
        simp only [feT]
        simp
        rfl
      · simp [hp, hp2]
  rw [em]; exact h
theorem c10_feed {n a b c e f : Int} {m : Nat} (hm : M 58 2 = (m : Int)) (hm6 : m ≤ 60) (h2 : feBad n a b c e f → K (-2) M) (h4 : ¬ feBad n a b c e f → 60 < (m : Int) + n → K (-4) M) (h1 : ¬ feBad n a b c e f → (m : Int) + n ≤ 60 → K ((m : Int) + n) (mup (mset M 59 (feT (M 59) m a b c e f n.toNat)) 58 2 ((m : Int) + n))) : CalI G miX10_feed (d + 2) [.inr (.inr (some 0)), .inl n, .inl a, .inl b, .inl c, .inl e, .inl f] M K := by
  unfold feBad at *
  have e0 : fmT M m a b c e f 0 = M := by
    unfold fmT
    rw [show feT (M 59) m a b c e f 0 = M 59 from rfl, mset_self, show ((m : Int) + ((0 : Nat) : Int)) = M 58 2 by rw [hm]; omega, mup_mset]
    have : fup (M 58) 2 (M 58 2) = M 58 := by
      funext i; unfold fup; split
      · subst_vars; rfl
      · rfl
    rw [this, mset_self]
  have e58 : ∀ k, (fmT M m a b c e f k) 58 2 = (m : Int) + (k : Int) := fun k => mup_at _ _ _ _
  refine Cal.of (by decide) (Nat.le_of_ble_eq_true rfl) rfl (gX10_feed_0 ?_)
  refine ⟨fun z => h2 (by omega), fun z1 => ⟨fun z => h2 (by omega), fun z2 => ?_⟩⟩
  refine c10_isByte (fun p1 q1 => b1 ?_) (fun p => b0 (h2 (by omega)))
  refine c10_isByte (fun p2 q2 => b1 ?_) (fun p => b0 (h2 (by omega)))
  refine c10_isByte (fun p3 q3 => b1 ?_) (fun p => b0 (h2 (by omega)))
  refine c10_isByte (fun p4 q4 => b1 ?_) (fun p => b0 (h2 (by omega)))
  refine c10_isByte (fun p5 q5 => n1 ?_) (fun p => n0 (h2 (by omega)))
  refine Cal.of (by decide) (Nat.le_of_ble_eq_true rfl) rfl (gX9_hasRoom_0 ?_)
  rw [hm, w32_eq (by omega) (by omega)]
  refine ⟨fun c1 => n0 (h4 (by omega) c1), fun c1 => n1 ?_⟩
  have h1 := h1 (by omega) c1
  obtain ⟨nn, hnn⟩ : ∃ nn : Nat, n = (nn : Int) := ⟨n.toNat, by omega⟩
  subst hnn
  rw [Int.toNat_natCast] at h1
  have h1 : K ((m : Int) + (nn : Int)) (fmT M m a b c e f nn) := h1
  have ad0 : ∀ {K' : Mem → Prop}, K' (fmT M m a b c e f 1) → CalV G miX9_add (d + 1) [.inr (.inr (some 58)), .inl a] M K' := fun {K'} hk => by
    have z := fm_add (G := G) (d := d + 1) (M := M) (m := m) (a := a) (b := b) (c := c) (e := e) (f := f) (k := 0) (by omega) (K := K') hk
    rw [e0] at z; exact z
  refine ad0 ⟨fun c2 => ?_, fun c2 => ?_⟩
  · obtain rfl : nn = 1 := by omega
    refine gX10_feed_86 ⟨fun _ => gX10_feed_100 ⟨fun _ => gX10_feed_114 ⟨fun _ => ?_, fun z => absurd z (by decide)⟩, fun z => absurd z (by decide)⟩, fun z => absurd z (by decide)⟩
    rw [e58]; exact h1
  · refine fm_add (k := 1) (by omega) ?_
    refine gX10_feed_86 ⟨fun c3 => ?_, fun c3 => ?_⟩
    · obtain rfl : nn = 2 := by omega
      refine gX10_feed_100 ⟨fun _ => gX10_feed_114 ⟨fun _ => ?_, fun z => absurd z (by decide)⟩, fun z => absurd z (by decide)⟩
      rw [e58]; exact h1
    · refine fm_add (k := 2) (by omega) ?_
      refine gX10_feed_100 ⟨fun c4 => ?_, fun c4 => ?_⟩
      · obtain rfl : nn = 3 := by omega
        refine gX10_feed_114 ⟨fun _ => ?_, fun z => absurd z (by decide)⟩
        rw [e58]; exact h1
      · refine fm_add (k := 3) (by omega) ?_
        refine gX10_feed_114 ⟨fun c5 => ?_, fun c5 => ?_⟩
        · obtain rfl : nn = 4 := by omega
          rw [e58]; exact h1
        · obtain rfl : nn = 5 := by omega
          refine fm_add (k := 4) (by omega) ?_
          rw [e58]; exact h1
end CLSN
