/-! THE MEMORY OF THE SMALL MACHINE: one natural number, slots of 48 bits. All that the kernel runs is arithmetic on such numbers. -/
noncomputable def gx_rd (M a : Nat) : Nat := Nat.land (Nat.shiftRight M (Nat.mul a 48)) 281474976710655
noncomputable def gx_wr (M a v : Nat) : Nat := Nat.xor M (Nat.shiftLeft (Nat.xor (gx_rd M a) v) (Nat.mul a 48))
theorem gh_bit (M a i : Nat) : (gx_rd M a).testBit i = (decide (i < 48) && M.testBit (48 * a + i)) := by
  show ((M >>> (a * 48)) &&& (2 ^ 48 - 1)).testBit i = _
  rw [Nat.testBit_and, Nat.testBit_two_pow_sub_one, Nat.testBit_shiftRight, Bool.and_comm, Nat.mul_comm]
theorem gh_lt (M a : Nat) : gx_rd M a < 281474976710656 := by
  have h : (M >>> (a * 48)) &&& (2 ^ 48 - 1) ≤ 2 ^ 48 - 1 := Nat.and_le_right
  show (M >>> (a * 48)) &&& (2 ^ 48 - 1) < _
  omega
theorem gh_wbit (M a v j : Nat) : (gx_wr M a v).testBit j = (M.testBit j ^^ (decide (48 * a ≤ j) && ((gx_rd M a).testBit (j - 48 * a) ^^ v.testBit (j - 48 * a)))) := by
  show (M ^^^ ((gx_rd M a ^^^ v) <<< (a * 48))).testBit j = _
  rw [Nat.testBit_xor, Nat.testBit_shiftLeft, Nat.testBit_xor, Nat.mul_comm a 48]
theorem gh_same {M a v : Nat} (h : v < 281474976710656) : gx_rd (gx_wr M a v) a = v := by
  apply Nat.eq_of_testBit_eq
  intro i
  rw [gh_bit, gh_wbit, gh_bit, show 48 * a + i - 48 * a = i by omega]
  by_cases hi : i < 48
  · simp [hi]
  · rw [Nat.testBit_lt_two_pow (Nat.lt_of_lt_of_le h (show 281474976710656 ≤ 2 ^ i from Nat.le_trans (show 281474976710656 ≤ 2 ^ 48 by decide) (Nat.pow_le_pow_right (by decide) (by omega))))]
    simp [hi]
theorem gh_ne {M a v b : Nat} (h : v < 281474976710656) (hn : a ≠ b) : gx_rd (gx_wr M a v) b = gx_rd M b := by
  apply Nat.eq_of_testBit_eq
  intro i
  rw [gh_bit, gh_bit, gh_wbit]
  by_cases hi : i < 48
  · simp only [hi, decide_true, Bool.true_and]
    by_cases hc : 48 * a ≤ 48 * b + i
    · have h48 : 48 ≤ 48 * b + i - 48 * a := by omega
      rw [gh_bit, Nat.testBit_lt_two_pow (Nat.lt_of_lt_of_le h (show 281474976710656 ≤ 2 ^ (48 * b + i - 48 * a) from Nat.le_trans (show 281474976710656 ≤ 2 ^ 48 by decide) (Nat.pow_le_pow_right (by decide) h48)))]
      simp [show ¬ (48 * b + i - 48 * a < 48) by omega]
    · simp [hc]
  · simp [hi]
theorem gh_wr {M a v b : Nat} (h : v < 281474976710656) : gx_rd (gx_wr M a v) b = if a = b then v else gx_rd M b := by
  by_cases hn : a = b
  · subst hn; rw [gh_same h, if_pos rfl]
  · rw [gh_ne h hn, if_neg hn]
theorem gh_zero (a : Nat) : gx_rd 0 a = 0 := by
  apply Nat.eq_of_testBit_eq
  intro i
  rw [gh_bit]
  simp
/-! booleans that choose -/
theorem gb_true {x t f : Bool} (h : Bool.rec (motive := fun _ => Bool) f t x = true) : (x = true ∧ t = true) ∨ (x = false ∧ f = true) := by
  cases x with
  | true => exact Or.inl ⟨rfl, h⟩
  | false => exact Or.inr ⟨rfl, h⟩
theorem gb_t {x t : Bool} (h : Bool.rec (motive := fun _ => Bool) false t x = true) : x = true ∧ t = true := by
  cases x with
  | true => exact ⟨rfl, h⟩
  | false => exact nomatch h
theorem gb_f {x t : Bool} (h : Bool.rec (motive := fun _ => Bool) t false x = true) : x = false ∧ t = true := by
  cases x with
  | false => exact ⟨rfl, h⟩
  | true => exact nomatch h
theorem gb_ble {a b : Nat} (h : Nat.ble a b = true) : a ≤ b := Nat.le_of_ble_eq_true h
theorem gb_beq {a b : Nat} (h : Nat.beq a b = true) : a = b := Nat.eq_of_beq_eq_true h
theorem gb_nbeq {a b : Nat} (h : Nat.beq a b = false) : a ≠ b := fun e => by rw [e, Nat.beq_refl] at h; exact nomatch h
theorem gb_nble {a b : Nat} (h : Nat.ble a b = false) : b < a := by
  rcases Nat.lt_or_ge b a with q | q
  · exact q
  · rw [Nat.ble_eq_true_of_le q] at h; exact nomatch h
theorem gb_lor {a b n : Nat} (h : Nat.ble (Nat.lor a b) (2 ^ n - 1) = true) : a < 2 ^ n ∧ b < 2 ^ n := by
  have h1 : a ||| b ≤ 2 ^ n - 1 := Nat.le_of_ble_eq_true h
  have h2 : a ≤ a ||| b := Nat.left_le_or
  have h3 : b ≤ a ||| b := Nat.right_le_or
  have := Nat.two_pow_pos n
  omega
