def sp_loop : Nat → Nat → Nat
  | 0, a => a
  | n+1, a => sp_loop n (Nat.lor (Nat.land a 1023) n)
theorem sp_1 : sp_loop 100000 0 = 1023 := by decide +kernel
theorem i_vc : Claimed_1_1 ∧ Claimed_1_2 := sorry
