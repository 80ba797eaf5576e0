/-! the references as the constructors leave them -/
theorem lw_R50 : ∀ x, x < 81 → ∀ j, j < 50 → lw_R x j = am_RR (none, none, none) x j := by decide +kernel
