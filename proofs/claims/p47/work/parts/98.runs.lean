/-! all paths -/
theorem gp_runs : ∀ i, i < 40 → ∀ j, j < 40 → ∃ Ma na ca Mi ni ci : Nat, fj_0 (gp_tab 0 (gp_sc.getD i [])) (gp_t 128 Mi ni ci) 128 1 Ma na ca = true ∧ fd_main (fh Ma na ca Mi ni ci (gp_tab (gp_sc.getD i []).length (gp_sc.getD j []))) gK = true := sorry
