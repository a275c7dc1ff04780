/-! the reference: small methods -/
def mset (M : Mem) (c : Nat) (f : Nat → Int) : Mem := fun a => if a = c then f else M a
theorem mset_at (M : Mem) (c : Nat) (f : Nat → Int) : mset M c f c = f := by unfold mset; rw [if_pos rfl]
theorem mset_ne {M : Mem} {c a : Nat} (f : Nat → Int) (h : a ≠ c) : mset M c f a = M a := by unfold mset; rw [if_neg h]
theorem mup_mset (M : Mem) (c i : Nat) (v : Int) : mup M c i v = mset M c (fup (M c) i v) := by
  funext a j; unfold mup mset; split
  · subst_vars; rfl
  · rfl
theorem mset_mset (M : Mem) (c : Nat) (f h : Nat → Int) : mset (mset M c f) c h = mset M c h := by
  funext a; unfold mset; split <;> rfl
theorem mset_self (M : Mem) (c : Nat) : mset M c (M c) = M := by
  funext a; unfold mset; split
  · subst_vars; rfl
  · rfl
theorem Fr.ms {S : Nat → Nat → Bool} {M M' : Mem} {c : Nat} {f : Nat → Int} (h : Fr S M M') (hs : ∀ i, S c i = true) : Fr S M (mset M' c f) := by
  intro a j haj
  unfold mset; split
  · subst_vars; rw [hs] at haj; cases haj
  · exact h _ _ haj
section REFA
variable {G : GE} {d : Nat} {K : Int → Mem → Prop} {M : Mem}
theorem c11_in {v l m : Int} (h1 : l ≤ v → v ≤ m → K 1 M) (h0 : v < l ∨ m < v → K 0 M) : CalI G miX11_in d [.inr (.inl v), .inr (.inl l), .inr (.inl m)] M K := by
  refine Cal.of (by decide) (Nat.le_of_ble_eq_true rfl) rfl (gX11_in_0 ⟨fun c => h0 (.inl c), fun c => ⟨fun c' => h0 (.inr c'), fun c' => h1 c c'⟩⟩)
theorem c11_has {v0 v1 : Int} {s k : Nat} (e0 : v0 = (s : Int)) (e1 : v1 = (k : Int)) (hs : s < 128) (hk : k < 8) (h1 : s.testBit k = true → K 1 M) (h0 : s.testBit k = false → K 0 M) : CalI G miX11_has d [.inl v0, .inl v1] M K := by
  subst e0; subst e1
  refine Cal.of (by decide) (Nat.le_of_ble_eq_true rfl) rfl (gX11_has_0 ⟨fun c => h0 ?_, fun c => h1 ((bit1 hs hk).mp c)⟩)
  rw [bit1 hs hk] at c
  cases hb : s.testBit k
  · rfl
  · exact absurd hb c
theorem c11_ones {v0 : Int} {s : Nat} (e0 : v0 = (s : Int)) (hs : s < 128) (h : K (cnt s : Int) M) : CalI G miX11_ones d [.inl v0] M K := by
  subst e0
  refine Cal.of (by decide) (Nat.le_of_ble_eq_true rfl) rfl (gX11_ones_0 ?_)
  have := dn (P := fun k => OkI G miX11_ones d K 4 [some (.inl (s : Int)), some (.inl (cntTo s k : Int)), some (.inl (k : Int))] [] M) 7 (by
    refine gX11_ones_4 ⟨fun _ => h, fun c => absurd c (by omega)⟩) (fun k hk ih => by
    refine gX11_ones_4 ⟨fun c => absurd c (by omega), fun _ => ?_⟩
    rw [bitN hs (by omega), w32n (by omega)]
    have e : w32 ((cntTo s k : Int) + if s.testBit k = true then 1 else 0) = (cntTo s (k + 1) : Int) := by
      have := cntTo_le s k
      simp only [cntTo]
      rw [w32_eq] <;> (split <;> omega)
    rw [e]; exact ih) 0 (by omega)
  exact this
theorem c11_isFlight {v : Int} (hn : 0 ≤ M 67 0 ∧ M 67 0 ≤ 7) (h1 : 0 ≤ v → v < M 67 0 → K 1 M) (h0 : v < 0 ∨ M 67 0 ≤ v → K 0 M) : CalI G miX11_isFlight (d + 1) [.inr (.inr (some 66)), .inl v] M K := by
  refine Cal.of (by decide) (Nat.le_of_ble_eq_true rfl) rfl (gX11_isFlight_0 ?_)
  rw [w32_eq (by omega) (by omega)]
  exact c11_in (fun a b => ⟨.inr rfl, h1 a (by omega)⟩) (fun a => ⟨.inl rfl, h0 (by omega)⟩)
theorem c11_isAirport {v : Int} (h1 : 0 ≤ v → v ≤ 3 → K 1 M) (h0 : v < 0 ∨ 3 < v → K 0 M) : CalI G miX11_isAirport (d + 1) [.inl v] M K := by
  refine Cal.of (by decide) (Nat.le_of_ble_eq_true rfl) rfl (gX11_isAirport_0 ?_)
  exact c11_in (fun a b => ⟨.inr rfl, h1 a b⟩) (fun a => ⟨.inl rfl, h0 a⟩)
theorem c11_areTwo {v w : Int} (hn : 0 ≤ M 67 0 ∧ M 67 0 ≤ 7) (h1 : 0 ≤ v → v < M 67 0 → 0 ≤ w → w < M 67 0 → v ≠ w → K 1 M) (h0 : v < 0 ∨ M 67 0 ≤ v ∨ w < 0 ∨ M 67 0 ≤ w ∨ v = w → K 0 M) : CalI G miX11_areTwo (d + 2) [.inr (.inr (some 66)), .inl v, .inl w] M K := by
  refine Cal.of (by decide) (Nat.le_of_ble_eq_true rfl) rfl (gX11_areTwo_0 ?_)
  refine c11_isFlight hn (fun a b => ⟨fun c => absurd c (by decide), fun _ => ?_⟩) (fun a => ⟨fun _ => h0 (by omega), fun c => absurd rfl c⟩)
  refine c11_isFlight hn (fun a' b' => ⟨fun c => absurd c (by decide), fun _ => ⟨fun c => h0 (by omega), fun c => h1 a b a' b' c⟩⟩) (fun a => ⟨fun _ => h0 (by omega), fun c => absurd rfl c⟩)
theorem c11_becomes {i v : Int} (hi : 0 ≤ i ∧ i < 92) (h : K (M 67 i.toNat) (mset M 67 (fup (M 67) i.toNat v))) : CalI G miX11_becomes d [.inr (.inr (some 66)), .inl i, .inl v] M K := by
  refine Cal.of (by decide) (Nat.le_of_ble_eq_true rfl) rfl (gX11_becomes_0 ⟨hi, hi, ?_⟩)
  rw [mup_mset]; exact h
theorem c11_areTimes {v w : Int} (h1 : 0 ≤ v → v < w → w ≤ 299 → K 1 M) (h0 : v < 0 ∨ 299 < w ∨ w ≤ v → K 0 M) : CalI G miX11_areTimes (d + 1) [.inl v, .inl w] M K := by
  refine Cal.of (by decide) (Nat.le_of_ble_eq_true rfl) rfl (gX11_areTimes_0 ?_)
  refine c11_in (fun a b => ⟨fun c => absurd c (by decide), fun _ => ?_⟩) (fun a => ⟨fun _ => ?_, fun c => absurd rfl c⟩)
  · refine c11_in (fun a' b' => ⟨fun c => absurd c (by decide), fun _ => ⟨fun c => h0 (by omega), fun c => h1 a c b'⟩⟩) (fun a => ⟨fun _ => ?_, fun c => absurd rfl c⟩)
    rcases a with a | a
    · exact h0 (by omega)
    · exact h0 (by omega)
  · by_cases e : w ≤ v
    · exact h0 (by omega)
    · exact h0 (by omega)
def badF (a b c e : Int) : Prop := a < 0 ∨ 3 < a ∨ b < 0 ∨ 3 < b ∨ a = b ∨ c < 0 ∨ 299 < e ∨ e ≤ c
def flyR (g : Nat → Int) (a b c e : Int) : Int := if a < 0 ∨ 3 < a ∨ b < 0 ∨ 3 < b ∨ a = b ∨ c < 0 ∨ 299 < e ∨ e ≤ c then -2 else if g 0 = 7 then -4 else g 0
def flyN (g : Nat → Int) (a b c e : Int) : Nat → Int := if a < 0 ∨ 3 < a ∨ b < 0 ∨ 3 < b ∨ a = b ∨ c < 0 ∨ 299 < e ∨ e ≤ c then g else if g 0 = 7 then g else fup (fup (fup (fup (fup g (1 + g 0).toNat a) (8 + g 0).toNat b) (15 + g 0).toNat c) (22 + g 0).toNat e) 0 (g 0 + 1)
theorem c11_fly {a b c e : Int} (hn : 0 ≤ M 67 0 ∧ M 67 0 ≤ 7) (h : K (flyR (M 67) a b c e) (mset M 67 (flyN (M 67) a b c e))) : CalI G miX11_fly (d + 2) [.inr (.inr (some 66)), .inl a, .inl b, .inl c, .inl e] M K := by
  have hbad : (a < 0 ∨ 3 < a ∨ b < 0 ∨ 3 < b ∨ a = b ∨ c < 0 ∨ 299 < e ∨ e ≤ c) → K (-2) M := fun hb => by
    simp only [flyR, flyN, if_pos hb, mset_self] at h; exact h
  refine Cal.of (by decide) (Nat.le_of_ble_eq_true rfl) rfl (gX11_fly_0 ?_)
  refine c11_isAirport (fun a1 a2 => ⟨fun q => absurd q (by decide), fun _ => ?_⟩) (fun q => ⟨fun _ => hbad (by omega), fun q => absurd rfl q⟩)
  refine c11_isAirport (fun a3 a4 => ⟨fun q => absurd q (by decide), fun _ => ⟨fun q => hbad (by omega), fun q0 => ?_⟩⟩) (fun q => ⟨fun _ => hbad (by omega), fun q => absurd rfl q⟩)
  refine c11_areTimes (fun a5 a6 a7 => ⟨fun _ => ?_, fun q => absurd q (by decide)⟩) (fun q => ⟨fun q => absurd rfl q, fun _ => hbad (by omega)⟩)
  have hb : ¬ (a < 0 ∨ 3 < a ∨ b < 0 ∨ 3 < b ∨ a = b ∨ c < 0 ∨ 299 < e ∨ e ≤ c) := by omega
  simp only [flyR, flyN, if_neg hb] at h
  refine ⟨fun c7 => ⟨by omega, by omega, by omega, by omega, ?_⟩, fun c7 => ?_⟩
  · simp only [if_neg c7] at h
    have e0 : (mup (mup (mup (mup M 67 (1 + (M 67 0)).toNat a) 67 (8 + (M 67 0)).toNat b) 67 (15 + (M 67 0)).toNat c) 67 (22 + (M 67 0)).toNat e) 67 0 = M 67 0 := by
      rw [mup_at_ne (by omega), mup_at_ne (by omega), mup_at_ne (by omega), mup_at_ne (by omega)]
    rw [e0, w32_eq (by omega) (by omega)]
    simp only [mup_mset, mset_mset, mset_at]
    exact h
  · simp only [if_pos c7, mset_self] at h; exact h
end REFA
