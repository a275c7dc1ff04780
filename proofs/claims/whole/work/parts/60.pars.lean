/-! a text as a list of codes and numbers (draft, not built) -/
def wantN : Nat → Nat
  | 0 => 4
  | 1 => 3
  | 2 => 1
  | _ => 2
/-- reading on at a. due: 0 a word, 1 an end or a semicolon, n + 2 : n + 1 numbers. It gives: whether all is right, the place of the fault, the codes and numbers -/
def pars (t : Nat → Int) (m : Nat) : Nat → Nat → Nat → Bool × Nat × List Int
  | 0, _, _ => (false, 0, [])
  | f + 1, 0, a => if (tok t m a).1 = 1 then
      ((pars t m f (wantN (tok t m a).2.1.toNat + 1) (tok t m a).2.2.2).1, (pars t m f (wantN (tok t m a).2.1.toNat + 1) (tok t m a).2.2.2).2.1, (tok t m a).2.1 :: (pars t m f (wantN (tok t m a).2.1.toNat + 1) (tok t m a).2.2.2).2.2)
    else (false, (tok t m a).2.2.1, [])
  | f + 1, 1, a => if (tok t m a).1 = 3 then pars t m f 0 (tok t m a).2.2.2 else if (tok t m a).1 = 0 then (true, 0, []) else (false, (tok t m a).2.2.1, [])
  | f + 1, n + 2, a => if (tok t m a).1 = 2 then
      ((pars t m f (n + 1) (tok t m a).2.2.2).1, (pars t m f (n + 1) (tok t m a).2.2.2).2.1, (tok t m a).2.1 :: (pars t m f (n + 1) (tok t m a).2.2.2).2.2)
    else (false, (tok t m a).2.2.1, [])
theorem tok_bd {t : Nat → Int} {m a : Nat} (h : a ≤ m) : a ≤ (tok t m a).2.2.1 ∧ (tok t m a).2.2.1 ≤ (tok t m a).2.2.2 ∧ (tok t m a).2.2.2 ≤ m ∧ ((tok t m a).1 ≠ 0 → a + 1 ≤ (tok t m a).2.2.2) := by
  have hs := skE_bd (t := t) h
  unfold tok
  generalize skE t m a = b at *
  have hl := leE_bd (t := t) (b := b) hs.2
  have hd : b ≤ diE t m b ∧ diE t m b ≤ m := runE_le (q := isDb) (t := t) hs.2
  unfold tokE
  by_cases hb : m ≤ b
  · rw [if_pos hb]; exact ⟨hs.1, Nat.le_refl _, hs.2, fun c => absurd rfl c⟩
  · rw [if_neg hb]
    by_cases h1 : isLb (byt t m b) = true
    · have hg : b + 1 ≤ leE t m b := by
        have e : leE t m b = runE isLb t m (m - (b + 1)) (b + 1) := by
          unfold leE; exact runE_yes (q := isLb) (by decide) h1
        have := runE_bd (q := isLb) (t := t) (m := m) (m - (b + 1)) (b + 1)
        omega
      rw [if_pos h1]
      cases wcode t b (leE t m b) with
      | none => exact ⟨hs.1, hl.1, hl.2, fun _ => by show a + 1 ≤ leE t m b; omega⟩
      | some w => exact ⟨hs.1, hl.1, hl.2, fun _ => by show a + 1 ≤ leE t m b; omega⟩
    · rw [if_neg h1]
      by_cases h2 : isDb (byt t m b) = true
      · have hg : b + 1 ≤ diE t m b := by
          have e : diE t m b = runE isDb t m (m - (b + 1)) (b + 1) := by
            unfold diE; exact runE_yes (q := isDb) (by decide) h2
          have := runE_bd (q := isDb) (t := t) (m := m) (m - (b + 1)) (b + 1)
          omega
        rw [if_pos h2]
        by_cases h3 : diE t m b - b ≤ 3
        · rw [if_pos h3]; exact ⟨hs.1, hd.1, hd.2, fun _ => by show a + 1 ≤ diE t m b; omega⟩
        · rw [if_neg h3]; exact ⟨hs.1, hd.1, hd.2, fun _ => by show a + 1 ≤ diE t m b; omega⟩
      · rw [if_neg h2]
        exact ⟨hs.1, by show b ≤ b + 1; omega, by show b + 1 ≤ m; omega, fun _ => by show a + 1 ≤ b + 1; omega⟩
/-- more fuel than places changes nothing -/
theorem pars_f {t : Nat → Int} {m : Nat} : ∀ f f' due a, a ≤ m → m + 1 ≤ a + f → m + 1 ≤ a + f' → pars t m f due a = pars t m f' due a := by
  intro f
  induction f with
  | zero => intro f' due a h1 h2 h3; omega
  | succ f ih =>
    intro f' due a h1 h2 h3
    cases f' with
    | zero => omega
    | succ f' =>
      have hb := tok_bd (t := t) h1
      have go : ∀ due', (tok t m a).1 ≠ 0 → pars t m f due' (tok t m a).2.2.2 = pars t m f' due' (tok t m a).2.2.2 := fun due' hk => by
        have := hb.2.2.2 hk
        exact ih f' due' _ hb.2.2.1 (by omega) (by omega)
      match due with
      | 0 =>
        rw [pars, pars]
        by_cases h : (tok t m a).1 = 1
        · rw [if_pos h, if_pos h, go _ (by omega)]
        · rw [if_neg h, if_neg h]
      | 1 =>
        rw [pars, pars]
        by_cases h : (tok t m a).1 = 3
        · rw [if_pos h, if_pos h, go _ (by omega)]
        · rw [if_neg h, if_neg h]
      | n + 2 =>
        rw [pars, pars]
        by_cases h : (tok t m a).1 = 2
        · rw [if_pos h, if_pos h, go _ (by omega)]
        · rw [if_neg h, if_neg h]
