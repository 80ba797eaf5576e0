/-! the references as the constructors leave them -/
theorem lw_R50 : ∀ x, x < 81 → ∀ j, j < 50 → lw_R x j = am_RR (none, none, none) x j := by decide +kernel
theorem lw_E : InvE lw_I := by
  unfold InvE
  decide +kernel
theorem lw_sizes : ∀ k, k < 10 → lw_I (38 + 2 * k) 1 = -1 ∧ lw_I 63 k = -1 := by decide +kernel
