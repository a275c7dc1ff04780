/-! the classes' words -/
theorem cl_ok : ∀ (ci : Nat) (r : vw_C), vwCl[ci]? = some r → (∀ w ∈ u_ws r.1 r.2.1 r.2.2, w ∈ TBL) ∧ (∀ k, k < r.2.2 → parseFieldDescriptor (r.2.1 k).2.2.1 = some (tyT ci k)) ∧ ∀ a, a < r.2.2 → ∀ b, b < r.2.2 → a ≠ b → (r.2.1 a).2.1 ≠ (r.2.1 b).2.1 := by
  have key : ∀ (ws : List Cond), (ws.all fun w => decide (w ∈ lw_tbl) && goodWord w) = true → ∀ w ∈ ws, w ∈ TBL := by
    intro ws h w hw
    have h1 := List.all_eq_true.mp h w hw
    simp only [Bool.and_eq_true, decide_eq_true_eq] at h1
    exact List.mem_filter.mpr h1
  intro ci r h
  match ci, h with
  | 0, h => cases h; exact ⟨key _ (by decide +kernel), tyX0_ok, nmX0⟩
  | 1, h => cases h; exact ⟨key _ (by decide +kernel), tyX1_ok, nmX1⟩
  | 2, h => cases h; exact ⟨key _ (by decide +kernel), tyX2_ok, nmX2⟩
  | 3, h => cases h; exact ⟨key _ (by decide +kernel), tyX3_ok, nmX3⟩
  | 4, h => cases h; exact ⟨key _ (by decide +kernel), tyX4_ok, nmX4⟩
  | 5, h => cases h; exact ⟨key _ (by decide +kernel), tyX5_ok, nmX5⟩
  | 6, h => cases h; exact ⟨key _ (by decide +kernel), tyX7_ok, nmX7⟩
  | 7, h => cases h; exact ⟨key _ (by decide +kernel), tyX8_ok, nmX8⟩
  | 8, h => cases h; exact ⟨key _ (by decide +kernel), tyX9_ok, nmX9⟩
  | 9, h => cases h; exact ⟨key _ (by decide +kernel), tyX10_ok, nmX10⟩
  | 10, h => cases h; exact ⟨key _ (by decide +kernel), tyX11_ok, nmX11⟩
  | n + 11, h => simp [vwCl] at h
