/-! the reference: a text -/
def STx : Nat → Nat → Bool := fun x i => x == 67 || (x == 95 || (x == 96 || (x == 66 && (i == 39 || (i == 44 || SK x i)))))
theorem STx_SQ {c x i : Nat} (h : STx x i = false) : SQc c x i = false := by
  unfold STx at h
  simp only [Bool.or_eq_false_iff, Bool.and_eq_false_iff, beq_eq_false_iff_ne] at h
  obtain ⟨h1, h2, h3, h4⟩ := h
  have hk : SK x i = false := by
    rcases h4 with h4 | h4
    · unfold SK; rw [beq_eq_false_iff_ne.mpr h4]; rfl
    · exact h4.2.2
  unfold SQc
  rw [hk, beq_eq_false_iff_ne.mpr h2, beq_eq_false_iff_ne.mpr h3]; rfl
theorem STx_SK {x i : Nat} (h : STx x i = false) : SK x i = false := SQ_SK (c := 0) (STx_SQ h)
def flC (Ls : List (Nat × List Int)) : List Int := Ls.flatMap (fun q => (q.1 : Int) :: q.2)
section REFTX
variable {G : GE} {d : Nat} {M : Mem}
/-- the clauses stand in the rows -/
def ClM (Ls : List (Nat × List Int)) (M : Mem) : Prop := ∀ k (q : Nat × List Int), Ls[k]? = some q → q.1 < 7 ∧ q.2.length = wantN q.1 ∧ M 95 k = (q.1 : Int) ∧ ∀ j, j < wantN q.1 → M 96 (4 * k + j) = q.2.getD j 0
theorem ClM.push {Ls : List (Nat × List Int)} {M M' : Mem} {w : Nat} {N : List Int} (h : ClM Ls M) (hf : Fr (SQc Ls.length) M M') (hw : w < 7) (hN : N.length = wantN w) (h95 : M' 95 Ls.length = (w : Int)) (h96 : ∀ j, j < wantN w → M' 96 (4 * Ls.length + j) = N.getD j 0) : ClM (Ls ++ [(w, N)]) M' := by
  intro k q hq
  by_cases hk : k < Ls.length
  · rw [List.getElem?_append_left hk] at hq
    obtain ⟨a1, a2, a3, a4⟩ := h k q hq
    have hwn : wantN q.1 ≤ 4 := by
      match q.1 with
      | 0 => decide
      | 1 => decide
      | 2 => decide
      | n + 3 => show 2 ≤ 4; decide
    refine ⟨a1, a2, ?_, fun j hj => ?_⟩
    · rw [hf 95 k (by unfold SQc; simp [SK]; omega)]; exact a3
    · rw [hf 96 _ (by unfold SQc; simp [SK]; omega)]; exact a4 j hj
  · have hlt := (List.getElem?_eq_some_iff.mp hq).1
    simp at hlt
    have : k = Ls.length := by omega
    subst this
    simp at hq
    subst hq
    exact ⟨hw, hN, h95, h96⟩
theorem c11_text {K : Int → Mem → Prop} {g t : Nat → Int} {m : Nat} (hg : M 67 = g) (hw : WF g) (h39 : M 66 39 = (m : Int)) (hm : m ≤ 60) (h92 : ∀ i, i < m → M 92 i = t i) (hp : ∀ i, i < m → 0 ≤ t i) (hwd : wdM M) (hwt : wtM M) (h : ∀ M', Fr STx M M' → M' 66 39 = 0 → M' 67 = (txtR g t m).2 → K (txtR g t m).1 M') : CalI G miX11_text (d + 5) [.inr (.inr (some 66))] M K := by
  refine Cal.of (by decide) (Nat.le_of_ble_eq_true rfl) rfl (gX11_text_0 ?_)
  have f0 : Fr STx M (mup (mup (mup M 66 44 (M 66 39)) 66 39 0) 66 45 0) := ((Fr.up1 rfl).up rfl).up rfl
  have z39 : (mup (mup (mup M 66 44 (M 66 39)) 66 39 0) 66 45 0) 66 39 = 0 := by rw [mup_at_ne (by decide), mup_at]
  have z45 : (mup (mup (mup M 66 44 (M 66 39)) 66 39 0) 66 45 0) 66 45 = ((0 : Nat) : Int) := by rw [mup_at]; rfl
  have z67 : (mup (mup (mup M 66 44 (M 66 39)) 66 39 0) 66 45 0) 67 = g := by rw [mup_ne (by decide), mup_ne (by decide), mup_ne (by decide)]; exact hg
  have hT0 : TxB t m (mup (mup (mup M 66 44 (M 66 39)) 66 39 0) 66 45 0) := by
    refine ⟨by rw [mup_at_ne (by decide), mup_at_ne (by decide), mup_at]; exact h39, fun i hi => ?_, hm, fun w hw k hk => ?_, fun w hw => ?_⟩
    · rw [mup_ne (by decide), mup_ne (by decide), mup_ne (by decide)]; exact h92 i hi
    · rw [mup_ne (by decide), mup_ne (by decide), mup_ne (by decide)]; exact hwd w hw k hk
    · rw [mup_ne (by decide), mup_ne (by decide), mup_ne (by decide)]; exact hwt w hw
  generalize (mup (mup (mup M 66 44 (M 66 39)) 66 39 0) 66 45 0) = M0 at *
  have z67' : ∀ {c : Nat} {A B : Mem}, Fr (SQc c) A B → B 67 = A 67 := fun hf => by funext i; exact hf 67 i rfl
  have z39' : ∀ {c : Nat} {A B : Mem}, Fr (SQc c) A B → B 66 39 = A 66 39 := fun hf => hf 66 39 rfl
  -- the fault
  have bad : ∀ M' : Mem, Fr STx M M' → M' 66 39 = 0 → M' 67 = g → (parF t m 0 0).1 = false → M' 66 47 = ((parF t m 0 0).2.1 : Int) → (parF t m 0 0).2.1 ≤ m → K (w32 (-100 - M' 66 47)) M' := fun M' hf q39 q67 hP q47 hle => by
    have hx : txtR g t m = (-100 - ((parF t m 0 0).2.1 : Int), g) := by unfold txtR; rw [if_neg (by rw [hP]; decide)]
    have := h M' hf q39 (by rw [hx]; exact q67)
    rw [q47, w32_eq (by omega) (by omega)]
    rw [hx] at this; exact this
  have ple : ∀ f due a, a ≤ m → (pars t m f due a).2.1 ≤ m := by
    intro f
    induction f with
    | zero => intro due a _; exact Nat.zero_le _
    | succ f ih =>
      intro due a ha
      have hb := tok_bd (t := t) ha
      match due with
      | 0 =>
        rw [pars]; split
        · exact ih _ _ hb.2.2.1
        · show (tok t m a).2.2.1 ≤ m; omega
      | 1 =>
        rw [pars]; split
        · exact ih _ _ hb.2.2.1
        · split
          · exact Nat.zero_le _
          · show (tok t m a).2.2.1 ≤ m; omega
      | n + 2 =>
        rw [pars]; split
        · exact ih _ _ hb.2.2.1
        · show (tok t m a).2.2.1 ≤ m; omega
  have hple : (parF t m 0 0).2.1 ≤ m := ple _ _ _ (Nat.zero_le _)
  have bad30 : ∀ (M' : Mem) (v2 : Int), Fr STx M M' → M' 66 39 = 0 → M' 67 = g → (parF t m 0 0).1 = false → M' 66 47 = ((parF t m 0 0).2.1 : Int) → OkI G miX11_text (d + 5) K 30 [some (.inr (.inr (some 66))), some (.inl 0), some (.inl v2), none, none] [] M' := fun M' v2 hf q39 q67 hP q47 =>
    gX11_text_30 ⟨fun _ => gX11_text_58 ⟨fun _ => bad M' hf q39 q67 hP q47 hple, fun c => absurd rfl c⟩, fun c => absurd rfl c⟩
  -- all is done
  have fin : ∀ (Ls : List (Nat × List Int)) (M' : Mem), Fr STx M M' → M' 66 39 = 0 → M' 67 = g → Ls.length ≤ 60 → ClM Ls M' → (parF t m 0 0).1 = true → (parF t m 0 0).2.2 = flC Ls → OkI G miX11_text (d + 5) K 82 [some (.inr (.inr (some 66))), none, some (.inl (Ls.length : Int)), some (.inl 0), some (.inl ((0 : Nat) : Int))] [] M' := by
    intro Ls M' hf q39 q67 hl hC hP hL
    have hx : txtR g t m = (((runL 61 (flC Ls) g 0).2 : Int), (runL 61 (flC Ls) g 0).1) := by unfold txtR; rw [if_pos hP, hL]
    have key := dn (P := fun k => ∀ (M' : Mem) (gk : Nat → Int) (nk : Nat), Fr STx M M' → M' 66 39 = 0 → M' 67 = gk → WF gk → nk ≤ k → ClM Ls M' → runL 61 (flC Ls) g 0 = runL (61 - k) (flC (Ls.drop k)) gk nk → OkI G miX11_text (d + 5) K 82 [some (.inr (.inr (some 66))), none, some (.inl (Ls.length : Int)), some (.inl (nk : Int)), some (.inl (k : Int))] [] M') Ls.length ?_ (fun k hk ih => ?_) 0 (Nat.zero_le _) M' g 0 hf q39 q67 hw (Nat.le_refl _) hC rfl
    · exact key
    · intro M' gk nk hf q39 q67 hwk hnk hC hr
      refine gX11_text_82 ⟨fun _ => ?_, fun c => absurd c (by omega)⟩
      have e1 : runL (61 - Ls.length) (flC (Ls.drop Ls.length)) gk nk = (gk, nk) := by
        rw [List.drop_length, show 61 - Ls.length = (60 - Ls.length) + 1 by omega]; rfl
      rw [e1] at hr
      have := h M' hf q39 (by rw [hx, hr]; exact q67)
      rw [hx, hr] at this; exact this
    · intro M' gk nk hf q39 q67 hwk hnk hC hr
      refine gX11_text_82 ⟨fun c => absurd c (by omega), fun _ => ?_⟩
      have hgk : Ls[k]? = some Ls[k] := List.getElem?_eq_getElem hk
      obtain ⟨a1, a2, a3, a4⟩ := hC k _ hgk
      refine c11_does (w := Ls[k].1) q67 hwk rfl (by omega) a1 a3 ?_
      have e2 : doR gk Ls[k].1 (fun j => M' 96 (4 * k + j)) = doR gk Ls[k].1 (fun j => Ls[k].2.getD j 0) := doR_congr _ a4
      rw [e2]
      have e3 : flC (Ls.drop k) = (Ls[k].1 : Int) :: (Ls[k].2 ++ flC (Ls.drop (k + 1))) := by
        rw [List.drop_eq_getElem_cons hk]; unfold flC; rw [List.flatMap_cons]; rfl
      rw [e3, show 61 - k = (61 - (k + 1)) + 1 by omega, runL_cons a2] at hr
      have e4 : w32 ((nk : Int) + (if ¬ ((doR gk Ls[k].1 (fun j => Ls[k].2.getD j 0)).1 < 0) then (1 : Int) else 0)) = ((nk + (if 0 ≤ (doR gk Ls[k].1 (fun j => Ls[k].2.getD j 0)).1 then 1 else 0) : Nat) : Int) := by
        by_cases c : 0 ≤ (doR gk Ls[k].1 (fun j => Ls[k].2.getD j 0)).1
        · rw [if_pos (by omega), if_pos c, w32_eq (by omega) (by omega)]; rfl
        · rw [if_neg (by omega), if_neg c, w32_eq (by omega) (by omega)]; rfl
      rw [e4, w32n (by omega)]
      refine ih _ _ _ (hf.ms (fun i => rfl)) (by rw [mset_ne _ (by decide)]; exact q39) (mset_at _ _ _) (doR_WF hwk _ _) (by split <;> omega) (fun j q hq => ?_) hr
      obtain ⟨b1', b2', b3', b4'⟩ := hC j q hq
      exact ⟨b1', b2', by rw [mset_ne _ (by decide)]; exact b3', fun i hi => by rw [mset_ne _ (by decide)]; exact b4' i hi⟩
  -- the loop over the clauses
  have go : ∀ n : Nat, ∀ (Ls : List (Nat × List Int)) (M' : Mem) (a : Nat), m + 1 ≤ a + n → a ≤ m → 2 * Ls.length ≤ a → Fr STx M M' → M' 66 39 = 0 → M' 67 = g → TxB t m M' → TkM t m a M' → ClM Ls M' → parF t m 0 0 = preL (flC Ls) (parF t m 1 a) → OkI G miX11_text (d + 5) K 30 [some (.inr (.inr (some 66))), some (.inl 1), some (.inl (Ls.length : Int)), none, none] [] M' := by
    intro n
    induction n with
    | zero => intro Ls M' a h1 h2; omega
    | succ n ih =>
      intro Ls M' a han ham hla hf q39 q67 hT hk hC hP
      have hb := tok_bd (t := t) ham
      have hP1 := parF_1 (t := t) ham
      refine gX11_text_30 ⟨fun c => absurd c (by decide), fun _ => ⟨fun q => ?_, fun q => ?_⟩⟩
      · have hk3 : (tok t m a).1 ≠ 3 := by have := hk.2.2.1; omega
        rw [if_neg hk3] at hP1
        refine gX11_text_58 ⟨fun c => absurd c (by decide), fun _ => ⟨fun q0 => ?_, fun q0 => ?_⟩⟩
        · have hk0 : (tok t m a).1 = 0 := by have := hk.2.2.1; omega
          rw [if_pos hk0] at hP1
          rw [hP1] at hP
          exact fin Ls M' hf q39 q67 (by omega) hC (by rw [hP]; rfl) (by rw [hP]; unfold preL; simp)
        · have hk0 : (tok t m a).1 ≠ 0 := by have := hk.2.2.1; omega
          rw [if_neg hk0] at hP1
          rw [hP1] at hP
          exact bad M' hf q39 q67 (by rw [hP]; rfl) (by rw [hP]; exact hk.2.1) hple
      · have hk3 : (tok t m a).1 = 3 := by have := hk.2.2.1; omega
        have := hb.2.2.2 (by omega)
        rw [if_pos hk3] at hP1
        rw [hP1] at hP
        refine c11_nextT (a := (tok t m a).2.2.2) hT hb.2.2.1 hp hk.1 (fun M1 hf1 hk1 => ?_)
        have g1 : Fr (SQc 0) M' M1 := hf1.mo (fun x i hx => SQ_SK hx)
        have hT1 := hT.fr g1
        have hC1 : ClM Ls M1 := fun j q hq => by
          obtain ⟨b1', b2', b3', b4'⟩ := hC j q hq
          exact ⟨b1', b2', by rw [hf1 95 j rfl]; exact b3', fun i hi => by rw [hf1 96 _ rfl]; exact b4' i hi⟩
        refine c11_isClause (c := Ls.length) rfl (by omega) hT1 hb.2.2.1 hp hk1 (fun M2 a2 w N f2 hw7 hN h2 h3 hk2 h95 h96 hPc => ?_) (fun M2 f2 hPf h47 => ?_)
        · have f2' : Fr STx M M2 := (hf.tr (g1.mo (fun x i hx => STx_SQ hx))).tr (f2.mo (fun x i hx => STx_SQ hx))
          rw [w32n (by omega)]
          have key := ih (Ls ++ [(w, N)]) M2 a2 (by omega) h3 (by simp; omega) f2' (by rw [z39' f2, z39' g1]; exact q39) (by rw [z67' f2, z67' g1]; exact q67) (hT1.fr f2) hk2 (hC1.push f2 hw7 hN h95 h96) (by
            rw [hP, hPc, preL_preL]
            congr 1
            unfold flC; rw [List.flatMap_append]; simp)
          simp only [List.length_append, List.length_cons, List.length_nil] at key
          exact key
        · have f2' : Fr STx M M2 := (hf.tr (g1.mo (fun x i hx => STx_SQ hx))).tr (f2.mo (fun x i hx => STx_SQ hx))
          exact bad30 M2 _ f2' (by rw [z39' f2, z39' g1]; exact q39) (by rw [z67' f2, z67' g1]; exact q67) (by rw [hP]; exact hPf) (by rw [hP]; exact h47)
  refine c11_nextT (a := 0) hT0 (Nat.zero_le _) hp z45 (fun M1 hf1 hk1 => ?_)
  have g1 : Fr (SQc 0) M0 M1 := hf1.mo (fun x i hx => SQ_SK hx)
  have hT1 := hT0.fr g1
  refine c11_isClause (c := 0) rfl (by omega) hT1 (Nat.zero_le _) hp hk1 (fun M2 a2 w N f2 hw7 hN h2 h3 hk2 h95 h96 hPc => ?_) (fun M2 f2 hPf h47 => ?_)
  · have f2' : Fr STx M M2 := (f0.tr (g1.mo (fun x i hx => STx_SQ hx))).tr (f2.mo (fun x i hx => STx_SQ hx))
    have key := go (m + 1) [(w, N)] M2 a2 (by omega) h3 (by simp; omega) f2' (by rw [z39' f2, z39' g1]; exact z39) (by rw [z67' f2, z67' g1]; exact z67) (hT1.fr f2) hk2 (ClM.push (Ls := []) (fun k q hq => by simp at hq) f2 hw7 hN h95 h96) (by rw [hPc]; unfold flC; simp)
    exact key
  · have f2' : Fr STx M M2 := (f0.tr (g1.mo (fun x i hx => STx_SQ hx))).tr (f2.mo (fun x i hx => STx_SQ hx))
    exact bad30 M2 _ f2' (by rw [z39' f2, z39' g1]; exact z39) (by rw [z67' f2, z67' g1]; exact z67) hPf h47
end REFTX
