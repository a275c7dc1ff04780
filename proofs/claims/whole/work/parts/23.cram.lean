/-! Cramer kept along pivots; tables whose cells are determinants -/
def Cr (k : Nat) (N : Nat → Nat → Int) : Prop := ∀ (v : Nat → Int) (i : Nat), i < k → det k N * v i = sumT (fun j => det k (vup N j v) * N j i) k
theorem Cr_id (k : Nat) : Cr k eV := by
  intro v i hi
  rw [det_id, sumT_one (c := i) hi]
  · rw [det_unit hi]; simp [eV]
  · intro j _ hj; unfold eV; rw [if_neg (by omega)]; simp
theorem plk {k : Nat} {N : Nat → Nat → Int} (hN : Cr k N) {p c : Nat} (u v : Nat → Int) (hp : p < k) (hc : c < k) (hpc : p ≠ c) : det k N * det k (vup (vup N p u) c v) = det k (vup N p u) * det k (vup N c v) - det k (vup N p v) * det k (vup N c u) := by
  have e0 : det k N * det k (vup (vup N p u) c v) = det k (vup (vup N c v) p (fun i => det k N * u i)) := by
    rw [det_mul hp, vup_comm u v hpc]
  have e1 : det k (vup (vup N c v) p (fun i => det k N * u i)) = det k (vup (vup N c v) p (fun i => sumT (fun j => det k (vup N j u) * N j i) k)) := by
    refine det_congr k _ _ (fun i _ l hl => ?_)
    unfold vup; split
    · exact hN u l hl
    · rfl
  rw [e0, e1, det_sum hp, sumT_two (p := p) (c := c) hp hc hpc]
  · have a1 : vup (vup N c v) p (N p) = vup N c v := by
      have : (vup N c v) p = N p := vup_ne _ hpc
      rw [← this, vup_self]
    have a2 : det k (vup (vup N c v) p (N c)) = - det k (vup N p v) := by
      rw [← vup_comm _ _ hpc, det_sw _ _ hp hc hpc]
      have : (vup N p v) c = N c := vup_ne _ (Ne.symm hpc)
      rw [← this, vup_self]
    rw [a1, a2]; grind
  · intro j hj h1 h2
    have : det k (vup (vup N c v) p (N j)) = 0 := det_eq0 hj hp h1 (by rw [vup_at, vup_ne _ h1, vup_ne _ h2])
    rw [this]; simp
theorem Cr_vup {k : Nat} {N : Nat → Nat → Int} (hN : Cr k N) (hd : det k N ≠ 0) {p : Nat} (w : Nat → Int) (hp : p < k) : Cr k (vup N p w) := by
  intro v i hi
  have e : det k N * sumT (fun j => det k (vup (vup N p w) j v) * (vup N p w) j i) k = det k N * (det k (vup N p w) * v i) := by
    rw [← sumT_mul]
    have e1 : sumT (fun j => det k N * (det k (vup (vup N p w) j v) * (vup N p w) j i)) k = sumT (fun j => (det k (vup N p w) * (det k (vup N j v) * N j i) + (-det k (vup N p v)) * (det k (vup N j w) * N j i)) + (if j = p then det k N * (det k (vup N p v) * w i) else 0)) k := by
      refine sumT_congr (fun j hj => ?_)
      by_cases h : j = p
      · subst h; rw [if_pos rfl, vup_vup, vup_at]; grind
      · have := plk hN (p := p) (c := j) w v hp hj (Ne.symm h)
        rw [if_neg h, vup_ne _ h, ← Int.mul_assoc, this]; grind
    rw [e1, sumT_add, sumT_lin, sumT_one (f := fun j => if j = p then det k N * (det k (vup N p v) * w i) else 0) (c := p) hp (fun j _ h => if_neg h), if_pos rfl, ← hN v i hi, ← hN w i hi]
    grind
  exact (Int.eq_of_mul_eq_mul_left hd e).symm
/-- a table: its cells are determinants, over the divisor d -/
def SX (n : Nat) (σ d : Int) (N : Nat → Nat → Int) (H : Nat) (V : Nat → Nat → Int) (T : Nat → Nat → Int) : Prop :=
  (σ = 1 ∨ σ = -1) ∧ 0 < d ∧ N n = eV n ∧ Cr (n + 1) N ∧ d = σ * det (n + 1) N ∧ ∀ r, r < H → (∀ c, c < n → T r c = -(σ * det (n + 1) (vup N c (V r)))) ∧ T r n = σ * det (n + 1) (vup N n (V r))
def piv (T : Nat → Nat → Int) (d : Int) (r0 p : Nat) : Nat → Nat → Int := fun r c => if r = r0 then (if c = p then d else T r0 c) else if c = p then -T r p else (T r c * T r0 p - T r p * T r0 c) / d
theorem SX_piv {n : Nat} {σ d : Int} {N : Nat → Nat → Int} {H : Nat} {V T : Nat → Nat → Int} (S : SX n σ d N H V T) {p r0 : Nat} (hp : p < n) (hr0 : r0 < H) (hpos : 0 < T r0 p) : SX n (-σ) (T r0 p) (vup N p (V r0)) H (vup V r0 (N p)) (piv T d r0 p) ∧ ∀ r c, r < H → r ≠ r0 → c ≤ n → c ≠ p → d * piv T d r0 p r c = T r c * T r0 p - T r p * T r0 c := by
  obtain ⟨hσ, hd, hn, hC, hdd, hT⟩ := S
  have hss : σ * σ = 1 := by rcases hσ with h | h <;> subst h <;> decide
  have hD : det (n + 1) N ≠ 0 := fun h => by rw [h] at hdd; simp at hdd; omega
  have hp0 := (hT r0 hr0).1 p hp
  have hex : ∀ r c, r < H → r ≠ r0 → c ≤ n → c ≠ p → d * (if c = n then -σ * det (n + 1) (vup (vup N p (V r0)) c (V r)) else -(-σ * det (n + 1) (vup (vup N p (V r0)) c (V r)))) = T r c * T r0 p - T r p * T r0 c := by
    intro r c hr hrr hc hcp
    have hk := plk hC (p := p) (c := c) (V r0) (V r) (by omega) (by omega) (Ne.symm hcp)
    rw [hp0, (hT r hr).1 p hp]
    by_cases hcn : c = n
    · subst hcn
      rw [if_pos rfl, (hT r hr).2, (hT r0 hr0).2, hdd]
      grind
    · rw [if_neg hcn, (hT r hr).1 c (by omega), (hT r0 hr0).1 c (by omega), hdd]
      grind
  have hdiv : ∀ r c, r < H → r ≠ r0 → c ≤ n → c ≠ p → piv T d r0 p r c = if c = n then -σ * det (n + 1) (vup (vup N p (V r0)) c (V r)) else -(-σ * det (n + 1) (vup (vup N p (V r0)) c (V r))) := by
    intro r c hr hrr hc hcp
    unfold piv
    rw [if_neg hrr, if_neg hcp, ← hex r c hr hrr hc hcp, Int.mul_ediv_cancel_left _ (by omega)]
  refine ⟨⟨by omega, hpos, by rw [vup_ne _ (by omega), hn], Cr_vup hC hD _ (by omega), by rw [hp0]; grind, fun r hr => ?_⟩, fun r c hr hrr hc hcp => by rw [hdiv r c hr hrr hc hcp, hex r c hr hrr hc hcp]⟩
  by_cases hrr : r = r0
  · subst hrr
    rw [vup_at]
    refine ⟨fun c hc => ?_, ?_⟩
    · unfold piv; rw [if_pos rfl]
      by_cases hcp : c = p
      · subst hcp; rw [if_pos rfl, vup_vup, vup_self, hdd]; grind
      · rw [if_neg hcp, det_sw _ _ (by omega) (by omega) (Ne.symm hcp), vup_self, (hT r hr).1 c hc]; grind
    · unfold piv; rw [if_pos rfl, if_neg (by omega), det_sw _ _ (by omega) (by omega) (by omega), vup_self, (hT r hr).2]; grind
  · rw [vup_ne _ hrr]
    refine ⟨fun c hc => ?_, ?_⟩
    · by_cases hcp : c = p
      · subst hcp; unfold piv; rw [if_neg hrr, if_pos rfl, vup_vup, (hT r hr).1 c hc]; grind
      · rw [hdiv r c hr hrr (by omega) hcp, if_neg (by omega)]
    · rw [hdiv r n hr hrr (Nat.le_refl _) (by omega), if_pos rfl]
/-- functionals -/
def ev (n : Nat) (φ v : Nat → Int) : Int := sumT (fun i => φ i * v i) (n + 1)
theorem ev_unit {n f : Nat} (φ : Nat → Int) (h : f ≤ n) : ev n φ (eV f) = φ f := by
  unfold ev; rw [sumT_one (c := f) (by omega)]
  · simp [eV]
  · intro i _ hi; unfold eV; rw [if_neg (by omega)]; simp
theorem ev_det (n : Nat) (a : Int) (N : Nat → Nat → Int) {c : Nat} (hc : c < n + 1) (v : Nat → Int) : ev n (fun i => a * det (n + 1) (vup N c (eV i))) v = a * det (n + 1) (vup N c v) := by
  have e : det (n + 1) (vup N c v) = det (n + 1) (vup N c (fun i => sumT (fun j => v j * eV j i) (n + 1))) := by
    refine det_congr _ _ _ (fun i _ l hl => ?_)
    unfold vup; split
    · show v l = sumT (fun j => v j * eV j l) (n + 1)
      rw [sumT_one (c := l) hl]
      · simp [eV]
      · intro j _ hj; unfold eV; rw [if_neg (by omega)]; simp
    · rfl
  rw [e, det_sum hc]
  unfold ev
  rw [← sumT_mul]
  exact sumT_congr (fun i _ => by grind)
theorem SX_ev {n : Nat} {σ d : Int} {N : Nat → Nat → Int} {H : Nat} {V T : Nat → Nat → Int} (S : SX n σ d N H V T) (φ : Nat → Int) {r : Nat} (hr : r < H) : d * ev n φ (V r) = T r n * φ n - sumT (fun c => T r c * ev n φ (N c)) n := by
  obtain ⟨hσ, hd, hn, hC, hdd, hT⟩ := S
  have e1 : det (n + 1) N * ev n φ (V r) = sumT (fun j => det (n + 1) (vup N j (V r)) * ev n φ (N j)) (n + 1) := by
    unfold ev
    rw [← sumT_mul, sumT_congr (h := fun j => sumT (fun i => det (n + 1) (vup N j (V r)) * (φ i * N j i)) (n + 1)) (fun j _ => (sumT_mul _).symm), sumT_swap]
    refine sumT_congr (fun i hi => ?_)
    have := hC (V r) i hi
    rw [show det (n + 1) N * (φ i * V r i) = φ i * (det (n + 1) N * V r i) by grind, this, ← sumT_mul]
    exact sumT_congr (fun j _ => by grind)
  have e2 : sumT (fun c => T r c * ev n φ (N c)) n = -σ * sumT (fun j => det (n + 1) (vup N j (V r)) * ev n φ (N j)) n := by
    rw [← sumT_mul]
    exact sumT_congr (fun c hc => by rw [(hT r hr).1 c hc]; grind)
  simp only [sumT] at e1
  rw [hn, ev_unit φ (Nat.le_refl n)] at e1
  rw [e2, (hT r hr).2, hdd]
  grind
