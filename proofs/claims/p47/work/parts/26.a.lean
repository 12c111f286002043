/-! BY HAND: the words of a throw. -/
theorem ht_0 : (vx_atS "Farfiles" 173 "java/lang/UnsupportedOperationException" ["java/lang/RuntimeException", "java/lang/Exception"]).all (fun w => decide (w ∈ tables_1) && (gx_okw w && vx_ot w)) = true := by decide +kernel
theorem ht_1 : ∀ w ∈ vx_atS "Farfiles" 173 "java/lang/UnsupportedOperationException" ["java/lang/RuntimeException", "java/lang/Exception"], w ∈ gx_ws ∧ vx_ot w = true := fun w hw => by
  have h := List.all_eq_true.mp ht_0 w hw
  simp only [Bool.and_eq_true, decide_eq_true_eq] at h
  exact ⟨List.mem_filter.mpr ⟨gw_0 _ h.1, h.2.1⟩, h.2.2⟩
