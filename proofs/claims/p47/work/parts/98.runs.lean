/-! all paths -/
theorem gp_runs : ∀ i, i < 40 → ∀ j, j < 40 → gp_run i j := sorry
