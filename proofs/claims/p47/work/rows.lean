section
/-! THE MEMORY OF THE SMALL MACHINE: one natural number, slots of 48 bits. All that the kernel runs is arithmetic on such numbers. -/
noncomputable def gx_rd (M a : Nat) : Nat := Nat.land (Nat.shiftRight M (Nat.mul a 48)) 281474976710655
noncomputable def gx_wr (M a v : Nat) : Nat := Nat.xor M (Nat.shiftLeft (Nat.xor (gx_rd M a) v) (Nat.mul a 48))
theorem gh_bit (M a i : Nat) : (gx_rd M a).testBit i = (decide (i < 48) && M.testBit (48 * a + i)) := by
  show ((M >>> (a * 48)) &&& (2 ^ 48 - 1)).testBit i = _
  rw [Nat.testBit_and, Nat.testBit_two_pow_sub_one, Nat.testBit_shiftRight, Bool.and_comm, Nat.mul_comm]
theorem gh_lt (M a : Nat) : gx_rd M a < 281474976710656 := by
  have h : (M >>> (a * 48)) &&& (2 ^ 48 - 1) ≤ 2 ^ 48 - 1 := Nat.and_le_right
  show (M >>> (a * 48)) &&& (2 ^ 48 - 1) < _
  omega
theorem gh_wbit (M a v j : Nat) : (gx_wr M a v).testBit j = (M.testBit j ^^ (decide (48 * a ≤ j) && ((gx_rd M a).testBit (j - 48 * a) ^^ v.testBit (j - 48 * a)))) := by
  show (M ^^^ ((gx_rd M a ^^^ v) <<< (a * 48))).testBit j = _
  rw [Nat.testBit_xor, Nat.testBit_shiftLeft, Nat.testBit_xor, Nat.mul_comm a 48]
theorem gh_same {M a v : Nat} (h : v < 281474976710656) : gx_rd (gx_wr M a v) a = v := by
  apply Nat.eq_of_testBit_eq
  intro i
  rw [gh_bit, gh_wbit, gh_bit, show 48 * a + i - 48 * a = i by omega]
  by_cases hi : i < 48
  · simp [hi]
  · rw [Nat.testBit_lt_two_pow (Nat.lt_of_lt_of_le h (show 281474976710656 ≤ 2 ^ i from Nat.le_trans (show 281474976710656 ≤ 2 ^ 48 by decide) (Nat.pow_le_pow_right (by decide) (by omega))))]
    simp [hi]
theorem gh_ne {M a v b : Nat} (h : v < 281474976710656) (hn : a ≠ b) : gx_rd (gx_wr M a v) b = gx_rd M b := by
  apply Nat.eq_of_testBit_eq
  intro i
  rw [gh_bit, gh_bit, gh_wbit]
  by_cases hi : i < 48
  · simp only [hi, decide_true, Bool.true_and]
    by_cases hc : 48 * a ≤ 48 * b + i
    · have h48 : 48 ≤ 48 * b + i - 48 * a := by omega
      rw [gh_bit, Nat.testBit_lt_two_pow (Nat.lt_of_lt_of_le h (show 281474976710656 ≤ 2 ^ (48 * b + i - 48 * a) from Nat.le_trans (show 281474976710656 ≤ 2 ^ 48 by decide) (Nat.pow_le_pow_right (by decide) h48)))]
      simp [show ¬ (48 * b + i - 48 * a < 48) by omega]
    · simp [hc]
  · simp [hi]
theorem gh_wr {M a v b : Nat} (h : v < 281474976710656) : gx_rd (gx_wr M a v) b = if a = b then v else gx_rd M b := by
  by_cases hn : a = b
  · subst hn; rw [gh_same h, if_pos rfl]
  · rw [gh_ne h hn, if_neg hn]
theorem gh_zero (a : Nat) : gx_rd 0 a = 0 := by
  apply Nat.eq_of_testBit_eq
  intro i
  rw [gh_bit]
  simp
/-! booleans that choose -/
theorem gb_true {x t f : Bool} (h : Bool.rec (motive := fun _ => Bool) f t x = true) : (x = true ∧ t = true) ∨ (x = false ∧ f = true) := by
  cases x with
  | true => exact Or.inl ⟨rfl, h⟩
  | false => exact Or.inr ⟨rfl, h⟩
theorem gb_t {x t : Bool} (h : Bool.rec (motive := fun _ => Bool) false t x = true) : x = true ∧ t = true := by
  cases x with
  | true => exact ⟨rfl, h⟩
  | false => exact nomatch h
theorem gb_f {x t : Bool} (h : Bool.rec (motive := fun _ => Bool) t false x = true) : x = false ∧ t = true := by
  cases x with
  | false => exact ⟨rfl, h⟩
  | true => exact nomatch h
theorem gb_ble {a b : Nat} (h : Nat.ble a b = true) : a ≤ b := Nat.le_of_ble_eq_true h
theorem gb_beq {a b : Nat} (h : Nat.beq a b = true) : a = b := Nat.eq_of_beq_eq_true h
theorem gb_nbeq {a b : Nat} (h : Nat.beq a b = false) : a ≠ b := fun e => by rw [e, Nat.beq_refl] at h; exact nomatch h
theorem gb_nble {a b : Nat} (h : Nat.ble a b = false) : b < a := by
  rcases Nat.lt_or_ge b a with q | q
  · exact q
  · rw [Nat.ble_eq_true_of_le q] at h; exact nomatch h
theorem gb_lor {a b n : Nat} (h : Nat.ble (Nat.lor a b) (2 ^ n - 1) = true) : a < 2 ^ n ∧ b < 2 ^ n := by
  have h1 : a ||| b ≤ 2 ^ n - 1 := Nat.le_of_ble_eq_true h
  have h2 : a ≤ a ||| b := Nat.left_le_or
  have h3 : b ≤ a ||| b := Nat.right_le_or
  have := Nat.two_pow_pos n
  omega
end
section
/-! NUMBERS OF THE SMALL MACHINE. Below 2^32: a whole number by its 32 bits. Above: w + c * d, where w are the low 32 bits, and the rest is 4 * k + the scale's number: d is the number drawn under the name k. -/
def gx_sc (c : Nat) : Int := if c = 0 then 1 else if c = 1 then 256 else if c = 2 then -1 else -10
noncomputable def gx_lo (k : Nat) : Nat := Nat.land (Nat.shiftRight 17432576 (Nat.mul 8 (Nat.mod k 8))) 255
noncomputable def gx_hi (k : Nat) : Nat := Nat.land (Nat.shiftRight 38812191001 (Nat.mul 8 (Nat.mod k 8))) 255
def gx_N (dk : Nat → Nat) (x : Nat) : Int32 := if x < 4294967296 then nI x else nI x + Int32.ofInt (gx_sc (x / 4294967296 % 4)) * nI (dk (x / 4294967296 / 4))
def gx_D (dk : Nat → Nat) : Prop := (∀ k, k % 8 ≤ 4 → gx_lo k ≤ dk k ∧ dk k ≤ gx_hi k) ∧ ∀ k, k % 8 = 2 → dk (k + 1) = dk k / 10 ∧ dk (k + 2) = dk k % 10
/-- the low 32 bits are others -/
noncomputable def gx_low (x z : Nat) : Nat := Nat.add (Nat.mul (Nat.div x 4294967296) 4294967296) (Nat.mod z 4294967296)
/-- a range, from -2^31 on; does it stand? -/
noncomputable def gx_bl (x : Nat) : Nat := Bool.rec (motive := fun _ => Nat)
  (Bool.rec (motive := fun _ => Nat) (Bool.rec (motive := fun _ => Nat) (Nat.sub (Nat.add 2147483648 (Nat.mod x 4294967296)) (Nat.mul (gx_hi (Nat.div (Nat.div x 4294967296) 4)) (Bool.rec (motive := fun _ => Nat) 10 1 (Nat.beq (Nat.mod (Nat.div x 4294967296) 4) 2))))
    (Nat.add (Nat.add 2147483648 (Nat.mod x 4294967296)) (Nat.mul 256 (gx_lo (Nat.div (Nat.div x 4294967296) 4)))) (Nat.beq (Nat.mod (Nat.div x 4294967296) 4) 1))
    (Nat.add (Nat.add 2147483648 (Nat.mod x 4294967296)) (gx_lo (Nat.div (Nat.div x 4294967296) 4))) (Nat.beq (Nat.mod (Nat.div x 4294967296) 4) 0))
  (Nat.mod (Nat.add x 2147483648) 4294967296) (Nat.ble x 4294967295)
noncomputable def gx_bh (x : Nat) : Nat := Bool.rec (motive := fun _ => Nat)
  (Bool.rec (motive := fun _ => Nat) (Bool.rec (motive := fun _ => Nat) (Nat.sub (Nat.add 2147483648 (Nat.mod x 4294967296)) (Nat.mul (gx_lo (Nat.div (Nat.div x 4294967296) 4)) (Bool.rec (motive := fun _ => Nat) 10 1 (Nat.beq (Nat.mod (Nat.div x 4294967296) 4) 2))))
    (Nat.add (Nat.add 2147483648 (Nat.mod x 4294967296)) (Nat.mul 256 (gx_hi (Nat.div (Nat.div x 4294967296) 4)))) (Nat.beq (Nat.mod (Nat.div x 4294967296) 4) 1))
    (Nat.add (Nat.add 2147483648 (Nat.mod x 4294967296)) (gx_hi (Nat.div (Nat.div x 4294967296) 4))) (Nat.beq (Nat.mod (Nat.div x 4294967296) 4) 0))
  (Nat.mod (Nat.add x 2147483648) 4294967296) (Nat.ble x 4294967295)
noncomputable def gx_ok (x : Nat) : Bool := Bool.rec (motive := fun _ => Bool) (Bool.and (Nat.ble (Nat.mod x 4294967296) 1073741823) (Nat.ble (Nat.mod (Nat.div (Nat.div x 4294967296) 4) 8) 4)) true (Nat.ble x 4294967295)
/-- a number from a to b -/
noncomputable def gx_in (x a b : Nat) : Bool := Bool.rec (motive := fun _ => Bool) false (Bool.and (Nat.ble (Nat.add 2147483648 a) (gx_bl x)) (Nat.ble (gx_bh x) (Nat.add 2147483648 b))) (gx_ok x)
theorem gn_lo_le (k : Nat) : gx_lo k ≤ 255 := Nat.and_le_right
theorem gn_hi_le (k : Nat) : gx_hi k ≤ 255 := Nat.and_le_right
theorem gn_tn (x : Int32) : nI x.toBitVec.toNat = x := by
  apply Int32.toBitVec_inj.mp
  show (Int32.ofNat _).toBitVec = _
  rw [Int32.toBitVec_ofNat']
  apply BitVec.eq_of_toNat_eq
  rw [BitVec.toNat_ofNat]
  exact Nat.mod_eq_of_lt x.toBitVec.isLt
theorem gn_bv (n : Nat) : (nI n).toBitVec = BitVec.ofNat 32 n := Int32.toBitVec_ofNat' ..
theorem gn_mod (n : Nat) : nI (n % 4294967296) = nI n := by
  apply Int32.toBitVec_inj.mp
  rw [gn_bv, gn_bv]
  apply BitVec.eq_of_toNat_eq
  simp [BitVec.toNat_ofNat]
theorem gn_eqm {a b : Nat} (h : a % 4294967296 = b % 4294967296) : nI a = nI b := by rw [← gn_mod a, h, gn_mod]
theorem gn_of (n : Nat) : Int32.ofInt (n : Int) = nI n := Int32.ofInt_eq_ofNat ..
theorem gn_add (a b : Int) : Int32.ofInt a + Int32.ofInt b = Int32.ofInt (a + b) := (Int32.ofInt_add ..).symm
theorem gn_sub (a b : Int) : Int32.ofInt a - Int32.ofInt b = Int32.ofInt (a - b) := (Int32.ofInt_sub ..).symm
theorem gn_neg (a : Int) : - Int32.ofInt a = Int32.ofInt (-a) := (Int32.ofInt_neg ..).symm
theorem gn_mul (a b : Int) : Int32.ofInt a * Int32.ofInt b = Int32.ofInt (a * b) := (Int32.ofInt_mul ..).symm
theorem gn_ti {z : Int} (h1 : -2147483648 ≤ z) (h2 : z < 2147483648) : (Int32.ofInt z).toInt = z := by
  rw [Int32.toInt_ofInt]
  show z.bmod (2 ^ 32) = z
  rw [Int.bmod_def]
  split <;> omega
theorem gn_per (z : Int) : Int32.ofInt (z + 4294967296) = Int32.ofInt z := by
  rw [← gn_add]
  show _ + Int32.ofInt 4294967296 = _
  rw [show Int32.ofInt 4294967296 = 0 by decide +kernel, Int32.add_zero]
theorem gn_nat {z : Int} (h : 0 ≤ z) : Int32.ofInt z = nI z.toNat := by
  obtain ⟨n, rfl⟩ := Int.eq_ofNat_of_zero_le h
  exact gn_of n
theorem gn_c {dk : Nat → Nat} {x : Nat} (h : x < 4294967296) : gx_N dk x = nI x := if_pos h
/-- as a whole number -/
theorem gn_int {dk : Nat → Nat} {x : Nat} (h : ¬ x < 4294967296) : gx_N dk x = Int32.ofInt ((x % 4294967296 : Nat) + gx_sc (x / 4294967296 % 4) * (dk (x / 4294967296 / 4) : Int)) := by
  rw [gx_N, if_neg h, ← gn_add, gn_of, gn_mod, ← gn_mul, gn_of]
theorem gn_low {x z : Nat} (h : ¬ x < 4294967296) : ¬ gx_low x z < 4294967296 ∧ gx_low x z / 4294967296 = x / 4294967296 ∧ gx_low x z % 4294967296 = z % 4294967296 := by
  have e : gx_low x z = x / 4294967296 * 4294967296 + z % 4294967296 := rfl
  rw [e]
  omega
theorem gn_lowN {dk : Nat → Nat} {x z : Nat} (h : ¬ x < 4294967296) : gx_N dk (gx_low x z) = nI z + Int32.ofInt (gx_sc (x / 4294967296 % 4)) * nI (dk (x / 4294967296 / 4)) := by
  obtain ⟨h1, h2, h3⟩ := gn_low (z := z) h
  rw [gx_N, if_neg h1, h2, gn_eqm h3]
/-- a value whose range stands is a number in it -/
theorem gn_rng {dk : Nat → Nat} (hd : gx_D dk) {x : Nat} (h : gx_ok x = true) : ∃ z : Int, (gx_bl x : Int) ≤ z + 2147483648 ∧ z + 2147483648 ≤ (gx_bh x : Int) ∧ gx_N dk x = Int32.ofInt z ∧ -2147483648 ≤ z ∧ z < 2147483648 := by
  unfold gx_ok at h
  cases hc : Nat.ble x 4294967295 with
  | true =>
    have hx := gb_ble hc
    have e1 : gx_bl x = (x + 2147483648) % 4294967296 := by unfold gx_bl; rw [hc]; rfl
    have e2 : gx_bh x = (x + 2147483648) % 4294967296 := by unfold gx_bh; rw [hc]; rfl
    rw [gn_c (by omega), e1, e2]
    by_cases hs : x < 2147483648
    · exact ⟨x, by omega, by omega, (gn_of x).symm, by omega, by omega⟩
    · refine ⟨(x : Int) - 4294967296, by omega, by omega, ?_, by omega, by omega⟩
      rw [← gn_per, show (x : Int) - 4294967296 + 4294967296 = x by omega, gn_of]
  | false =>
    rw [hc] at h
    have h : (Nat.ble (x % 4294967296) 1073741823 && Nat.ble (x / 4294967296 / 4 % 8) 4) = true := h
    have hx := gb_nble hc
    simp only [Bool.and_eq_true] at h
    have hw := gb_ble h.1
    have hk := gb_ble h.2
    obtain ⟨d1, d2⟩ := hd.1 (x / 4294967296 / 4) hk
    have l1 := gn_lo_le (x / 4294967296 / 4)
    have l2 := gn_hi_le (x / 4294967296 / 4)
    rw [gn_int (by omega)]
    have hb : gx_bl x = Bool.rec (motive := fun _ => Nat) (Bool.rec (motive := fun _ => Nat) (2147483648 + x % 4294967296 - gx_hi (x / 4294967296 / 4) * (Bool.rec (motive := fun _ => Nat) 10 1 (Nat.beq (x / 4294967296 % 4) 2))) (2147483648 + x % 4294967296 + 256 * gx_lo (x / 4294967296 / 4)) (Nat.beq (x / 4294967296 % 4) 1)) (2147483648 + x % 4294967296 + gx_lo (x / 4294967296 / 4)) (Nat.beq (x / 4294967296 % 4) 0) := by unfold gx_bl; rw [hc]; rfl
    have hh : gx_bh x = Bool.rec (motive := fun _ => Nat) (Bool.rec (motive := fun _ => Nat) (2147483648 + x % 4294967296 - gx_lo (x / 4294967296 / 4) * (Bool.rec (motive := fun _ => Nat) 10 1 (Nat.beq (x / 4294967296 % 4) 2))) (2147483648 + x % 4294967296 + 256 * gx_hi (x / 4294967296 / 4)) (Nat.beq (x / 4294967296 % 4) 1)) (2147483648 + x % 4294967296 + gx_hi (x / 4294967296 / 4)) (Nat.beq (x / 4294967296 % 4) 0) := by unfold gx_bh; rw [hc]; rfl
    generalize dk (x / 4294967296 / 4) = d at d1 d2 ⊢
    generalize gx_lo (x / 4294967296 / 4) = lo at *
    generalize gx_hi (x / 4294967296 / 4) = hi at *
    generalize x % 4294967296 = w at *
    have hc4 : x / 4294967296 % 4 < 4 := Nat.mod_lt _ (by decide)
    generalize x / 4294967296 % 4 = cl at *
    have hcs : cl = 0 ∨ cl = 1 ∨ cl = 2 ∨ cl = 3 := by omega
    rcases hcs with rfl | rfl | rfl | rfl
    · have hb : gx_bl x = 2147483648 + w + lo := hb
      have hh : gx_bh x = 2147483648 + w + hi := hh
      rw [show gx_sc 0 = 1 from rfl, hb, hh]
      exact ⟨_, by omega, by omega, rfl, by omega, by omega⟩
    · have hb : gx_bl x = 2147483648 + w + 256 * lo := hb
      have hh : gx_bh x = 2147483648 + w + 256 * hi := hh
      rw [show gx_sc 1 = 256 from rfl, hb, hh]
      exact ⟨_, by omega, by omega, rfl, by omega, by omega⟩
    · have hb : gx_bl x = 2147483648 + w - hi * 1 := hb
      have hh : gx_bh x = 2147483648 + w - lo * 1 := hh
      rw [show gx_sc 2 = -1 from rfl, hb, hh]
      exact ⟨_, by omega, by omega, rfl, by omega, by omega⟩
    · have hb : gx_bl x = 2147483648 + w - hi * 10 := hb
      have hh : gx_bh x = 2147483648 + w - lo * 10 := hh
      rw [show gx_sc 3 = -10 from rfl, hb, hh]
      exact ⟨_, by omega, by omega, rfl, by omega, by omega⟩
theorem gn_in {dk : Nat → Nat} (hd : gx_D dk) {x a b : Nat} (h : gx_in x a b = true) : ∃ z : Nat, a ≤ z ∧ z ≤ b ∧ gx_N dk x = nI z ∧ z < 2147483648 := by
  obtain ⟨h1, h2⟩ := gb_t h
  simp only [Bool.and_eq_true] at h2
  have h3 : 2147483648 + a ≤ gx_bl x := gb_ble h2.1
  have h4 : gx_bh x ≤ 2147483648 + b := gb_ble h2.2
  obtain ⟨z, z1, z2, z3, z4, z5⟩ := gn_rng hd h1
  refine ⟨z.toNat, by omega, by omega, by rw [z3, gn_nat (by omega)], by omega⟩
end
section
/-! OPERATIONS OF THE SMALL MACHINE: each goes on with what it has made; false where it is stuck. -/
noncomputable def gx_cc (x y : Nat) : Bool := Nat.ble (Nat.lor x y) 4294967295
noncomputable def gx_add (x y : Nat) (k : Nat → Bool) : Bool := Bool.rec (motive := fun _ => Bool)
  (Bool.rec (motive := fun _ => Bool) (Bool.rec (motive := fun _ => Bool) false (k (gx_low y (Nat.add x y))) (Nat.ble x 4294967295)) (k (gx_low x (Nat.add x y))) (Nat.ble y 4294967295))
  (k (Nat.mod (Nat.add x y) 4294967296)) (gx_cc x y)
noncomputable def gx_sub (x y : Nat) (k : Nat → Bool) : Bool := Bool.rec (motive := fun _ => Bool)
  (Bool.rec (motive := fun _ => Bool)
    (Bool.rec (motive := fun _ => Bool)
      (Bool.rec (motive := fun _ => Bool) false (k (Nat.add y 25769803776)) (Bool.and (Nat.beq x (Nat.add y 21474836480)) (Bool.and (Nat.beq (Nat.mod y 4294967296) 0) (Nat.beq (Nat.mod (Nat.div y 4294967296) 32) 10))))
      (k (Nat.add (Nat.mul (Nat.sub (Nat.div y 4294967296) 2) 4294967296) (Nat.mod (Nat.sub (Nat.add x 4294967296) (Nat.mod y 4294967296)) 4294967296)))
      (Bool.and (Nat.ble x 4294967295) (Bool.and (Nat.beq (Nat.mod (Nat.div y 4294967296) 4) 2) (Nat.ble 17179869184 y))))
    (k (gx_low x (Nat.sub (Nat.add x 4294967296) y))) (Nat.ble y 4294967295))
  (k (Nat.mod (Nat.sub (Nat.add x 4294967296) y) 4294967296)) (gx_cc x y)
noncomputable def gx_neg (x : Nat) (k : Nat → Bool) : Bool := Bool.rec (motive := fun _ => Bool)
  (Bool.rec (motive := fun _ => Bool) false (k (Nat.add (Nat.mul (Nat.add (Nat.div x 4294967296) 2) 4294967296) (Nat.mod (Nat.sub 4294967296 (Nat.mod x 4294967296)) 4294967296))) (Nat.beq (Nat.mod (Nat.div x 4294967296) 4) 0))
  (k (Nat.mod (Nat.sub 4294967296 x) 4294967296)) (Nat.ble x 4294967295)
noncomputable def gx_mul (x y : Nat) (k : Nat → Bool) : Bool := Bool.rec (motive := fun _ => Bool)
  (Bool.rec (motive := fun _ => Bool) false (k (Nat.add x 4294967296)) (Bool.and (Nat.beq y 10) (Bool.and (Nat.beq (Nat.mod x 4294967296) 0) (Nat.beq (Nat.mod (Nat.div x 4294967296) 4) 2))))
  (k (Nat.mod (Nat.mul x y) 4294967296)) (gx_cc x y)
noncomputable def gx_div (x y : Nat) (k : Nat → Bool) : Bool := Bool.rec (motive := fun _ => Bool)
  (Bool.rec (motive := fun _ => Bool) false
    (Bool.rec (motive := fun _ => Bool) (Bool.rec (motive := fun _ => Bool) false (k (Nat.add x 17179869184)) (Nat.beq (Nat.mod (Nat.div x 4294967296) 32) 10)) (k 0) (Nat.beq (Nat.mod (Nat.div x 4294967296) 32) 6))
    (Bool.and (Nat.beq y 10) (Bool.and (Nat.ble 4294967296 x) (Nat.beq (Nat.mod x 4294967296) 0))))
  (k (Nat.div x y)) (Bool.and (Nat.ble (Nat.lor x y) 2147483647) (Nat.ble 1 y))
noncomputable def gx_rem (x y : Nat) (k : Nat → Bool) : Bool := Bool.rec (motive := fun _ => Bool) false (k (Nat.mod x y)) (Bool.and (Nat.ble (Nat.lor x y) 2147483647) (Nat.ble 1 y))
noncomputable def gx_and (x y : Nat) (k : Nat → Bool) : Bool := Bool.rec (motive := fun _ => Bool)
  (Bool.rec (motive := fun _ => Bool) false (k x) (Bool.and (Nat.beq y 255) (gx_in x 0 255))) (k (Nat.land x y)) (gx_cc x y)
noncomputable def gx_or (x y : Nat) (k : Nat → Bool) : Bool := Bool.rec (motive := fun _ => Bool)
  (Bool.rec (motive := fun _ => Bool)
    (Bool.rec (motive := fun _ => Bool) false (k (gx_low y (Nat.add x y))) (Bool.and (Nat.ble x 4294967295) (Bool.and (Nat.beq (Nat.mod x 65536) 0) (Bool.and (gx_in y 0 65535) (Nat.ble 4294967296 y)))))
    (k x) (Nat.beq y 0))
  (k (Nat.lor x y)) (gx_cc x y)
noncomputable def gx_xor (x y : Nat) (k : Nat → Bool) : Bool := Bool.rec (motive := fun _ => Bool) false (k (Nat.xor x y)) (gx_cc x y)
noncomputable def gx_shl (x y : Nat) (k : Nat → Bool) : Bool := Bool.rec (motive := fun _ => Bool)
  (Bool.rec (motive := fun _ => Bool) false (k (Nat.add (Nat.mul (Nat.add (Nat.div x 4294967296) 1) 4294967296) (Nat.mod (Nat.mul (Nat.mod x 4294967296) 256) 4294967296))) (Bool.and (Nat.ble 4294967296 x) (Bool.and (Nat.beq y 8) (Nat.beq (Nat.mod (Nat.div x 4294967296) 4) 0))))
  (k (Nat.mod (Nat.shiftLeft x y) 4294967296)) (Bool.and (Nat.ble x 4294967295) (Nat.ble y 31))
noncomputable def gx_shr (x y : Nat) (k : Nat → Bool) : Bool := Bool.rec (motive := fun _ => Bool)
  (Bool.rec (motive := fun _ => Bool) false (k (Nat.div (Nat.sub (gx_bl x) 2147483648) 65536))
    (Bool.and (gx_ok x) (Bool.and (Nat.beq y 16) (Bool.and (Nat.ble 2147483648 (gx_bl x)) (Nat.beq (Nat.div (Nat.sub (gx_bl x) 2147483648) 65536) (Nat.div (Nat.sub (gx_bh x) 2147483648) 65536))))))
  (k (Nat.shiftRight x y)) (Bool.and (Nat.ble x 2147483647) (Nat.ble y 31))
noncomputable def gx_ushr (x y : Nat) (k : Nat → Bool) : Bool := Bool.rec (motive := fun _ => Bool)
  (Bool.rec (motive := fun _ => Bool) false (k 0) (Bool.and (Nat.beq y 8) (gx_in x 0 255))) (k (Nat.shiftRight x y)) (Bool.and (Nat.ble x 4294967295) (Nat.ble y 31))
noncomputable def gx_i2c (x : Nat) (k : Nat → Bool) : Bool := Bool.rec (motive := fun _ => Bool) (Bool.rec (motive := fun _ => Bool) false (k x) (gx_in x 0 65535)) (k (Nat.mod x 65536)) (Nat.ble x 4294967295)
noncomputable def gx_i2b (x : Nat) (k : Nat → Bool) : Bool := Bool.rec (motive := fun _ => Bool) (Bool.rec (motive := fun _ => Bool) false (k x) (gx_in x 0 127)) (k x) (Nat.ble x 127)
/-- x < y -/
noncomputable def gx_lt (x y : Nat) (kt kf : Bool) : Bool := Bool.rec (motive := fun _ => Bool)
  (Bool.rec (motive := fun _ => Bool) false (Bool.rec (motive := fun _ => Bool) (Bool.rec (motive := fun _ => Bool) false kf (Nat.ble (gx_bh y) (gx_bl x))) kt (Nat.ble (Nat.succ (gx_bh x)) (gx_bl y))) (Bool.and (gx_ok x) (gx_ok y)))
  (Bool.rec (motive := fun _ => Bool) kf kt (Nat.ble (Nat.succ x) y)) (Nat.ble (Nat.lor x y) 2147483647)
/-- x = y -/
noncomputable def gx_eq (x y : Nat) (kt kf : Bool) : Bool := Bool.rec (motive := fun _ => Bool)
  (Bool.rec (motive := fun _ => Bool) (Bool.rec (motive := fun _ => Bool) false kf (Bool.and (Bool.and (gx_ok x) (gx_ok y)) (Bool.or (Nat.ble (Nat.succ (gx_bh x)) (gx_bl y)) (Nat.ble (Nat.succ (gx_bh y)) (gx_bl x))))) kt (Nat.beq x y))
  (Bool.rec (motive := fun _ => Bool) kf kt (Nat.beq x y)) (gx_cc x y)
theorem go_cc {x y : Nat} (h : gx_cc x y = true) : x < 4294967296 ∧ y < 4294967296 := gb_lor (n := 32) h
theorem go_cc3 {x y : Nat} (h : Nat.ble (Nat.lor x y) 2147483647 = true) : x < 2147483648 ∧ y < 2147483648 := gb_lor (n := 31) h
theorem go_and {a b : Bool} (h : Bool.and a b = true) : a = true ∧ b = true := by cases a <;> cases b <;> simp_all
section OPN
variable {dk : Nat → Nat} {x y : Nat} {k : Nat → Bool} {kt kf : Bool}
theorem go_add (h : gx_add x y k = true) : ∃ z, k z = true ∧ gx_N dk z = gx_N dk x + gx_N dk y := by
  rcases gb_true h with ⟨hc, h⟩ | ⟨hc, h⟩
  · obtain ⟨h1, h2⟩ := go_cc hc
    refine ⟨_, h, ?_⟩
    rw [gn_c h1, gn_c h2]
    show gx_N dk ((x + y) % 4294967296) = _
    rw [gn_c (Nat.mod_lt _ (by decide)), gn_mod, nI_add]
  · rcases gb_true h with ⟨hc2, h⟩ | ⟨hc2, h⟩
    · have h2 := gb_ble hc2
      have h1 : ¬ x < 4294967296 := fun h1 => by
        have : x ||| y < 2 ^ 32 := Nat.or_lt_two_pow h1 (by omega)
        have h9 : 4294967295 < x ||| y := gb_nble hc
        omega
      refine ⟨_, h, ?_⟩
      rw [gn_lowN h1, gn_c (show y < 4294967296 by omega), gx_N, if_neg h1]
      show nI (x + y) + _ = _
      rw [← nI_add, Int32.add_assoc, Int32.add_comm (nI y), Int32.add_assoc]
    · obtain ⟨hc3, h⟩ := gb_t h
      have h1 := gb_ble hc3
      have h2 := gb_nble hc2
      refine ⟨_, h, ?_⟩
      rw [gn_lowN (show ¬ y < 4294967296 by omega), gn_c (show x < 4294967296 by omega), gx_N, if_neg (show ¬ y < 4294967296 by omega)]
      show nI (x + y) + _ = _
      rw [← nI_add, Int32.add_assoc]
theorem gn_sub' {x y : Nat} (hy : y ≤ x + 4294967296) : nI (x + 4294967296 - y) = nI x - nI y := by
  rw [← gn_of, ← gn_of, ← gn_of, gn_sub, show ((x + 4294967296 - y : Nat) : Int) = ((x : Int) - y) + 4294967296 by omega, gn_per]
theorem gn_eta (dk : Nat → Nat) {x : Nat} (h : ¬ x < 4294967296) : gx_N dk x = nI (x % 4294967296) + Int32.ofInt (gx_sc (x / 4294967296 % 4)) * nI (dk (x / 4294967296 / 4)) := by
  rw [gx_N, if_neg h, gn_mod]
theorem go_sub (hd : gx_D dk) (h : gx_sub x y k = true) : ∃ z, k z = true ∧ gx_N dk z = gx_N dk x - gx_N dk y := by
  rcases gb_true h with ⟨hc, h⟩ | ⟨hc, h⟩
  · obtain ⟨h1, h2⟩ := go_cc hc
    refine ⟨_, h, ?_⟩
    rw [gn_c h1, gn_c h2]
    show gx_N dk ((x + 4294967296 - y) % 4294967296) = _
    rw [gn_c (Nat.mod_lt _ (by decide)), gn_mod, gn_sub' (by omega)]
  · rcases gb_true h with ⟨hc2, h⟩ | ⟨hc2, h⟩
    · have h2 := gb_ble hc2
      have h1 : ¬ x < 4294967296 := fun h1 => by
        have : x ||| y < 2 ^ 32 := Nat.or_lt_two_pow h1 (by omega)
        have h9 : 4294967295 < x ||| y := gb_nble hc
        omega
      refine ⟨_, h, ?_⟩
      rw [gn_lowN h1, gn_c (show y < 4294967296 by omega), gx_N, if_neg h1]
      show nI (x + 4294967296 - y) + _ = _
      rw [gn_sub' (by omega), Int32.sub_eq_add_neg, Int32.sub_eq_add_neg, Int32.add_assoc, Int32.add_comm (-nI y), Int32.add_assoc]
    · have h2 := gb_nble hc2
      rcases gb_true h with ⟨hc3, h⟩ | ⟨hc3, h⟩
      · obtain ⟨c1, c2⟩ := go_and hc3
        obtain ⟨c2, c3⟩ := go_and c2
        have c1 := gb_ble c1
        have c2 : y / 4294967296 % 4 = 2 := gb_beq c2
        have c3 := gb_ble c3
        refine ⟨_, h, ?_⟩
        have e : Nat.add (Nat.mul (Nat.sub (Nat.div y 4294967296) 2) 4294967296) (Nat.mod (Nat.sub (Nat.add x 4294967296) (Nat.mod y 4294967296)) 4294967296) = (y / 4294967296 - 2) * 4294967296 + (x + 4294967296 - y % 4294967296) % 4294967296 := rfl
        have hne : ¬ (y / 4294967296 - 2) * 4294967296 + (x + 4294967296 - y % 4294967296) % 4294967296 < 4294967296 := by omega
        rw [e, gn_c (show x < 4294967296 by omega), gn_eta dk (show ¬ y < 4294967296 by omega), c2, gn_eta dk hne]
        have e1 : ((y / 4294967296 - 2) * 4294967296 + (x + 4294967296 - y % 4294967296) % 4294967296) % 4294967296 = (x + 4294967296 - y % 4294967296) % 4294967296 := by omega
        have e2 : ((y / 4294967296 - 2) * 4294967296 + (x + 4294967296 - y % 4294967296) % 4294967296) / 4294967296 = y / 4294967296 - 2 := by omega
        rw [e1, e2, gn_mod, gn_sub' (by omega), show (y / 4294967296 - 2) % 4 = 0 by omega, show (y / 4294967296 - 2) / 4 = y / 4294967296 / 4 by omega]
        generalize nI (dk (y / 4294967296 / 4)) = d
        generalize nI (y % 4294967296) = w
        generalize nI x = v
        rw [show Int32.ofInt (gx_sc 0) = 1 from rfl, show Int32.ofInt (gx_sc 2) = -1 from rfl, Int32.one_mul, Int32.neg_mul, Int32.one_mul, Int32.sub_eq_add_neg, Int32.sub_eq_add_neg, Int32.neg_add, Int32.sub_eq_add_neg, Int32.neg_neg, Int32.add_assoc]
      · obtain ⟨hc4, h⟩ := gb_t h
        obtain ⟨c1, c2⟩ := go_and hc4
        obtain ⟨c2, c3⟩ := go_and c2
        have c1 : x = y + 21474836480 := gb_beq c1
        have c2 : y % 4294967296 = 0 := gb_beq c2
        have c3 : y / 4294967296 % 32 = 10 := gb_beq c3
        refine ⟨_, h, ?_⟩
        show gx_N dk (y + 25769803776) = _
        obtain ⟨d1, d2⟩ := hd.2 (y / 4294967296 / 4) (by omega)
        rw [gn_int (show ¬ y + 25769803776 < 4294967296 by omega), gn_int (show ¬ x < 4294967296 by omega), gn_int (show ¬ y < 4294967296 by omega), gn_sub]
        rw [show (y + 25769803776) % 4294967296 = 0 by omega, show x % 4294967296 = 0 by omega, c2, show (y + 25769803776) / 4294967296 % 4 = 0 by omega, show x / 4294967296 % 4 = 3 by omega, show y / 4294967296 % 4 = 2 by omega,
          show (y + 25769803776) / 4294967296 / 4 = y / 4294967296 / 4 + 2 by omega, show x / 4294967296 / 4 = y / 4294967296 / 4 + 1 by omega, d1, d2, show gx_sc 0 = 1 from rfl, show gx_sc 3 = -10 from rfl, show gx_sc 2 = -1 from rfl]
        congr 1
        omega
theorem go_neg (h : gx_neg x k = true) : ∃ z, k z = true ∧ gx_N dk z = - gx_N dk x := by
  have key : ∀ w : Nat, w ≤ 4294967296 → nI (4294967296 - w) = - nI w := fun w hw => by
    have := gn_sub' (x := 0) (y := w) (by omega)
    rw [show 0 + 4294967296 - w = 4294967296 - w by omega] at this
    rw [this, nI_0, Int32.zero_sub]
  rcases gb_true h with ⟨hc, h⟩ | ⟨hc, h⟩
  · have h1 := gb_ble hc
    refine ⟨_, h, ?_⟩
    show gx_N dk ((4294967296 - x) % 4294967296) = _
    rw [gn_c (Nat.mod_lt _ (by decide)), gn_mod, gn_c (show x < 4294967296 by omega), key x (by omega)]
  · have h1 := gb_nble hc
    obtain ⟨hc2, h⟩ := gb_t h
    have c2 : x / 4294967296 % 4 = 0 := gb_beq hc2
    refine ⟨_, h, ?_⟩
    show gx_N dk ((x / 4294967296 + 2) * 4294967296 + (4294967296 - x % 4294967296) % 4294967296) = _
    have hne : ¬ (x / 4294967296 + 2) * 4294967296 + (4294967296 - x % 4294967296) % 4294967296 < 4294967296 := by omega
    have e1 : ((x / 4294967296 + 2) * 4294967296 + (4294967296 - x % 4294967296) % 4294967296) % 4294967296 = (4294967296 - x % 4294967296) % 4294967296 := by omega
    have e2 : ((x / 4294967296 + 2) * 4294967296 + (4294967296 - x % 4294967296) % 4294967296) / 4294967296 = x / 4294967296 + 2 := by omega
    rw [gn_eta dk hne, gn_eta dk (show ¬ x < 4294967296 by omega), e1, e2, c2, gn_mod, key _ (by omega), show (x / 4294967296 + 2) % 4 = 2 by omega, show (x / 4294967296 + 2) / 4 = x / 4294967296 / 4 by omega]
    rw [show Int32.ofInt (gx_sc 0) = 1 from rfl, show Int32.ofInt (gx_sc 2) = -1 from rfl, Int32.one_mul, Int32.neg_mul, Int32.one_mul, Int32.neg_add, Int32.sub_eq_add_neg]
theorem go_mul (h : gx_mul x y k = true) : ∃ z, k z = true ∧ gx_N dk z = gx_N dk x * gx_N dk y := by
  rcases gb_true h with ⟨hc, h⟩ | ⟨hc, h⟩
  · obtain ⟨h1, h2⟩ := go_cc hc
    refine ⟨_, h, ?_⟩
    rw [gn_c h1, gn_c h2]
    show gx_N dk ((x * y) % 4294967296) = _
    rw [gn_c (Nat.mod_lt _ (by decide)), gn_mod, pk_mul]
  · obtain ⟨hc, h⟩ := gb_t h
    obtain ⟨c1, c2⟩ := go_and hc
    obtain ⟨c2, c3⟩ := go_and c2
    have c1 : y = 10 := gb_beq c1
    have c2 : x % 4294967296 = 0 := gb_beq c2
    have c3 : x / 4294967296 % 4 = 2 := gb_beq c3
    refine ⟨_, h, ?_⟩
    show gx_N dk (x + 4294967296) = _
    subst c1
    rw [gn_int (show ¬ x + 4294967296 < 4294967296 by omega), gn_int (show ¬ x < 4294967296 by omega), gn_c (show 10 < 4294967296 by decide), ← gn_of 10, gn_mul]
    rw [show (x + 4294967296) % 4294967296 = 0 by omega, c2, show (x + 4294967296) / 4294967296 % 4 = 3 by omega, c3, show (x + 4294967296) / 4294967296 / 4 = x / 4294967296 / 4 by omega, show gx_sc 3 = -10 from rfl, show gx_sc 2 = -1 from rfl]
    congr 1
    omega
theorem gn_and (a b : Nat) : nI a &&& nI b = nI (a &&& b) := by
  apply Int32.toBitVec_inj.mp
  rw [Int32.toBitVec_and, gn_bv, gn_bv, gn_bv]
  apply BitVec.eq_of_toNat_eq
  rw [BitVec.toNat_and, BitVec.toNat_ofNat, BitVec.toNat_ofNat, BitVec.toNat_ofNat, Nat.and_mod_two_pow]
theorem gn_or (a b : Nat) : nI a ||| nI b = nI (a ||| b) := by
  apply Int32.toBitVec_inj.mp
  rw [Int32.toBitVec_or, gn_bv, gn_bv, gn_bv]
  apply BitVec.eq_of_toNat_eq
  rw [BitVec.toNat_or, BitVec.toNat_ofNat, BitVec.toNat_ofNat, BitVec.toNat_ofNat, Nat.or_mod_two_pow]
theorem gn_xor (a b : Nat) : nI a ^^^ nI b = nI (a ^^^ b) := by
  apply Int32.toBitVec_inj.mp
  rw [Int32.toBitVec_xor, gn_bv, gn_bv, gn_bv]
  apply BitVec.eq_of_toNat_eq
  rw [BitVec.toNat_xor, BitVec.toNat_ofNat, BitVec.toNat_ofNat, BitVec.toNat_ofNat, Nat.xor_mod_two_pow]
theorem go_and2 (hd : gx_D dk) (h : gx_and x y k = true) : ∃ z, k z = true ∧ gx_N dk z = gx_N dk x &&& gx_N dk y := by
  rcases gb_true h with ⟨hc, h⟩ | ⟨hc, h⟩
  · obtain ⟨h1, h2⟩ := go_cc hc
    refine ⟨_, h, ?_⟩
    show gx_N dk (x &&& y) = _
    rw [gn_c h1, gn_c h2, gn_and, gn_c (Nat.lt_of_le_of_lt Nat.and_le_left h1)]
  · obtain ⟨hc, h⟩ := gb_t h
    obtain ⟨c1, c2⟩ := go_and hc
    have c1 : y = 255 := gb_beq c1
    obtain ⟨z, z1, z2, z3, -⟩ := gn_in hd c2
    refine ⟨_, h, ?_⟩
    subst c1
    rw [z3, gn_c (show 255 < 4294967296 by decide), gn_and, show z &&& 255 = z % 2 ^ 8 from Nat.and_two_pow_sub_one_eq_mod _ 8, Nat.mod_eq_of_lt (by omega)]
theorem go_or (hd : gx_D dk) (h : gx_or x y k = true) : ∃ z, k z = true ∧ gx_N dk z = gx_N dk x ||| gx_N dk y := by
  rcases gb_true h with ⟨hc, h⟩ | ⟨hc, h⟩
  · obtain ⟨h1, h2⟩ := go_cc hc
    refine ⟨_, h, ?_⟩
    show gx_N dk (x ||| y) = _
    rw [gn_c h1, gn_c h2, gn_or, gn_c (Nat.or_lt_two_pow (n := 32) h1 h2)]
  · rcases gb_true h with ⟨hc, h⟩ | ⟨hc, h⟩
    · have hy : y = 0 := gb_beq hc
      subst hy
      refine ⟨_, h, ?_⟩
      rw [gn_c (show 0 < 4294967296 by decide), nI_0, Int32.or_zero]
    · obtain ⟨hc, h⟩ := gb_t h
      obtain ⟨c1, c2⟩ := go_and hc
      obtain ⟨c2, c3⟩ := go_and c2
      obtain ⟨c3, c4⟩ := go_and c3
      have c1 := gb_ble c1
      have c2 : x % 65536 = 0 := gb_beq c2
      have c4 := gb_ble c4
      obtain ⟨z, z1, z2, z3, -⟩ := gn_in hd c3
      refine ⟨_, h, ?_⟩
      have hy : ¬ y < 4294967296 := by omega
      have z4 := z3
      rw [gx_N, if_neg hy] at z4
      rw [gn_lowN hy, z3, gn_c (show x < 4294967296 by omega), gn_or]
      show nI (x + y) + _ = _
      rw [← nI_add, Int32.add_assoc, z4, nI_add]
      congr 1
      obtain ⟨c, rfl⟩ : ∃ c, x = 2 ^ 16 * c := ⟨x / 65536, by omega⟩
      rw [Nat.two_pow_add_eq_or_of_lt (by omega : z < 2 ^ 16)]
theorem go_xor (h : gx_xor x y k = true) : ∃ z, k z = true ∧ gx_N dk z = gx_N dk x ^^^ gx_N dk y := by
  obtain ⟨hc, h⟩ := gb_t h
  obtain ⟨h1, h2⟩ := go_cc hc
  refine ⟨_, h, ?_⟩
  show gx_N dk (x ^^^ y) = _
  rw [gn_c h1, gn_c h2, gn_xor, gn_c (Nat.xor_lt_two_pow (n := 32) h1 h2)]
theorem go_i2c (hd : gx_D dk) (h : gx_i2c x k = true) : ∃ z, k z = true ∧ gx_N dk z = ((gx_N dk x).toUInt32 % 65536).toInt32 := by
  rcases gb_true h with ⟨hc, h⟩ | ⟨hc, h⟩
  · have h1 := gb_ble hc
    refine ⟨_, h, ?_⟩
    show gx_N dk (x % 65536) = _
    rw [gn_c (show x % 65536 < 4294967296 by omega), gn_c (show x < 4294967296 by omega)]
    refine Eq.trans ?_ (pk_char (nI x)).symm
    rw [pk_tn (by omega)]
  · obtain ⟨hc, h⟩ := gb_t h
    obtain ⟨z, z1, z2, z3, -⟩ := gn_in hd hc
    refine ⟨_, h, ?_⟩
    rw [z3]
    refine Eq.trans ?_ (pk_char (nI z)).symm
    rw [pk_tn (by omega), Nat.mod_eq_of_lt (by omega)]
theorem go_i2b (hd : gx_D dk) (h : gx_i2b x k = true) : ∃ z, k z = true ∧ gx_N dk z = (gx_N dk x).toInt8.toInt32 := by
  have key : ∀ n : Fin 128, (nI n.val).toInt8.toInt32 = nI n.val := by decide +kernel
  rcases gb_true h with ⟨hc, h⟩ | ⟨hc, h⟩
  · have h1 := gb_ble hc
    refine ⟨_, h, ?_⟩
    rw [gn_c (show x < 4294967296 by omega)]
    exact (key ⟨x, by omega⟩).symm
  · obtain ⟨hc, h⟩ := gb_t h
    obtain ⟨z, z1, z2, z3, -⟩ := gn_in hd hc
    refine ⟨_, h, ?_⟩
    rw [z3]
    exact (key ⟨z, by omega⟩).symm
theorem go_lt (hd : gx_D dk) (h : gx_lt x y kt kf = true) : (gx_N dk x < gx_N dk y ∧ kt = true) ∨ (¬ gx_N dk x < gx_N dk y ∧ kf = true) := by
  rcases gb_true h with ⟨hc, h⟩ | ⟨hc, h⟩
  · obtain ⟨h1, h2⟩ := go_cc3 hc
    rw [gn_c (show x < 4294967296 by omega), gn_c (show y < 4294967296 by omega)]
    have e := nI_ltI h1 h2
    rcases gb_true h with ⟨hc, h⟩ | ⟨hc, h⟩
    · exact Or.inl ⟨e.mpr (gb_ble hc), h⟩
    · have := gb_nble hc
      exact Or.inr ⟨fun q => absurd (e.mp q) (by omega), h⟩
  · obtain ⟨hc, h⟩ := gb_t h
    obtain ⟨c1, c2⟩ := go_and hc
    obtain ⟨u, u1, u2, u3, u4, u5⟩ := gn_rng hd c1
    obtain ⟨v, v1, v2, v3, v4, v5⟩ := gn_rng hd c2
    rw [u3, v3, Int32.lt_iff_toInt_lt, gn_ti u4 u5, gn_ti v4 v5]
    rcases gb_true h with ⟨hc, h⟩ | ⟨hc, h⟩
    · have := gb_ble hc
      exact Or.inl ⟨by omega, h⟩
    · obtain ⟨hc, h⟩ := gb_t h
      have := gb_ble hc
      exact Or.inr ⟨by omega, h⟩
theorem gn_inj {a b : Nat} (h1 : a < 4294967296) (h2 : b < 4294967296) (e : nI a = nI b) : a = b := by
  have e := congrArg Int32.toBitVec e
  rw [gn_bv, gn_bv] at e
  have e := congrArg BitVec.toNat e
  rw [BitVec.toNat_ofNat, BitVec.toNat_ofNat] at e
  omega
theorem go_eq (hd : gx_D dk) (h : gx_eq x y kt kf = true) : (gx_N dk x = gx_N dk y ∧ kt = true) ∨ (¬ gx_N dk x = gx_N dk y ∧ kf = true) := by
  rcases gb_true h with ⟨hc, h⟩ | ⟨hc, h⟩
  · obtain ⟨h1, h2⟩ := go_cc hc
    rw [gn_c h1, gn_c h2]
    rcases gb_true h with ⟨hc, h⟩ | ⟨hc, h⟩
    · exact Or.inl ⟨by rw [gb_beq hc], h⟩
    · exact Or.inr ⟨fun q => gb_nbeq hc (gn_inj h1 h2 q), h⟩
  · rcases gb_true h with ⟨hc, h⟩ | ⟨hc, h⟩
    · exact Or.inl ⟨by rw [gb_beq hc], h⟩
    · obtain ⟨hc, h⟩ := gb_t h
      obtain ⟨c1, c3⟩ := go_and hc
      obtain ⟨c1, c2⟩ := go_and c1
      obtain ⟨u, u1, u2, u3, u4, u5⟩ := gn_rng hd c1
      obtain ⟨v, v1, v2, v3, v4, v5⟩ := gn_rng hd c2
      refine Or.inr ⟨fun q => ?_, h⟩
      rw [u3, v3] at q
      have q := congrArg Int32.toInt q
      rw [gn_ti u4 u5, gn_ti v4 v5] at q
      have c3 : (Nat.ble (Nat.succ (gx_bh x)) (gx_bl y) || Nat.ble (Nat.succ (gx_bh y)) (gx_bl x)) = true := c3
      simp only [Bool.or_eq_true] at c3
      rcases c3 with c3 | c3
      · have := gb_ble c3; omega
      · have := gb_ble c3; omega
end OPN
end
section
/-! SHIFTS, DIVISIONS, LONGS. -/
noncomputable def gx_lsh (x y : Nat) (k : Nat → Bool) : Bool := Bool.rec (motive := fun _ => Bool) false (k (Nat.mod (Nat.shiftLeft x y) 18446744073709551616)) (Nat.ble y 63)
noncomputable def gx_lus (x y : Nat) (k : Nat → Bool) : Bool := Bool.rec (motive := fun _ => Bool) false (k (Nat.shiftRight (Nat.mod x 18446744073709551616) y)) (Nat.ble y 63)
noncomputable def gx_lcm (x y : Nat) (k : Nat → Bool) : Bool := Bool.rec (motive := fun _ => Bool) false (k (Bool.rec (motive := fun _ => Nat) (Bool.rec (motive := fun _ => Nat) 1 4294967295 (Nat.ble (Nat.succ x) y)) 0 (Nat.beq x y))) (Nat.ble (Nat.lor x y) 9223372036854775807)
noncomputable def gx_lsu (x y : Nat) : Nat := Nat.mod (Nat.sub (Nat.add x 18446744073709551616) (Nat.mod y 18446744073709551616)) 18446744073709551616
theorem gl_bv (n : Nat) : (lN n).toBitVec = BitVec.ofNat 64 n := Int64.toBitVec_ofNat' ..
theorem gl_mod (n : Nat) : lN (n % 18446744073709551616) = lN n := by
  apply Int64.toBitVec_inj.mp
  rw [gl_bv, gl_bv]
  apply BitVec.eq_of_toNat_eq
  simp [BitVec.toNat_ofNat]
theorem gl_and (a b : Nat) : lN a &&& lN b = lN (a &&& b) := by
  apply Int64.toBitVec_inj.mp
  rw [Int64.toBitVec_and, gl_bv, gl_bv, gl_bv]
  apply BitVec.eq_of_toNat_eq
  rw [BitVec.toNat_and, BitVec.toNat_ofNat, BitVec.toNat_ofNat, BitVec.toNat_ofNat, Nat.and_mod_two_pow]
theorem gl_or (a b : Nat) : lN a ||| lN b = lN (a ||| b) := by
  apply Int64.toBitVec_inj.mp
  rw [Int64.toBitVec_or, gl_bv, gl_bv, gl_bv]
  apply BitVec.eq_of_toNat_eq
  rw [BitVec.toNat_or, BitVec.toNat_ofNat, BitVec.toNat_ofNat, BitVec.toNat_ofNat, Nat.or_mod_two_pow]
theorem gl_sub (a b : Nat) : lN a - lN b = lN (gx_lsu a b) := by
  apply Int64.toBitVec_inj.mp
  rw [Int64.toBitVec_sub, gl_bv, gl_bv, gl_bv]
  apply BitVec.eq_of_toNat_eq
  rw [BitVec.toNat_sub, BitVec.toNat_ofNat, BitVec.toNat_ofNat, BitVec.toNat_ofNat]
  show _ = (a + 18446744073709551616 - b % 18446744073709551616) % 18446744073709551616 % 2 ^ 64
  omega
theorem gl_i (a : Nat) : (lN a).toInt32 = nI (a % 4294967296) := by rw [lN_i, gn_mod]
section OPM
variable {dk : Nat → Nat} {x y : Nat} {k : Nat → Bool} {kt kf : Bool}
theorem gl_sh32 : ∀ y : Fin 32, ((nI y.val &&& 31).toBitVec.smod 32).toNat = y.val := by decide +kernel
theorem gl_us32 : ∀ y : Fin 32, (((nI y.val).toUInt32 &&& Int32.toUInt32 31).toBitVec % 32).toNat = y.val := by decide +kernel
set_option maxRecDepth 20000 in
theorem go_shl (h : gx_shl x y k = true) : ∃ z, k z = true ∧ gx_N dk z = gx_N dk x <<< (gx_N dk y &&& 31) := by
  rcases gb_true h with ⟨hc, h⟩ | ⟨hc, h⟩
  · obtain ⟨c1, c2⟩ := go_and hc
    have c1 := gb_ble c1
    have c2 := gb_ble c2
    refine ⟨_, h, ?_⟩
    show gx_N dk ((x <<< y) % 4294967296) = _
    rw [gn_c (Nat.mod_lt _ (by decide)), gn_c (show x < 4294967296 by omega), gn_c (show y < 4294967296 by omega)]
    apply Int32.toBitVec_inj.mp
    apply BitVec.eq_of_toNat_eq
    rw [pk_shl (nI x) (nI y &&& 31) y (gl_sh32 ⟨y, by omega⟩), pk_tn (Nat.mod_lt _ (by decide)), pk_tn (by omega), Nat.shiftLeft_eq]
  · obtain ⟨hc, h⟩ := gb_t h
    obtain ⟨c1, c2⟩ := go_and hc
    obtain ⟨c2, c3⟩ := go_and c2
    have c1 := gb_ble c1
    have c2 : y = 8 := gb_beq c2
    have c3 : x / 4294967296 % 4 = 0 := gb_beq c3
    refine ⟨_, h, ?_⟩
    show gx_N dk ((x / 4294967296 + 1) * 4294967296 + (x % 4294967296 * 256) % 4294967296) = _
    subst c2
    have hne : ¬ (x / 4294967296 + 1) * 4294967296 + (x % 4294967296 * 256) % 4294967296 < 4294967296 := by omega
    have e1 : ((x / 4294967296 + 1) * 4294967296 + (x % 4294967296 * 256) % 4294967296) % 4294967296 = (x % 4294967296 * 256) % 4294967296 := by omega
    have e2 : ((x / 4294967296 + 1) * 4294967296 + (x % 4294967296 * 256) % 4294967296) / 4294967296 = x / 4294967296 + 1 := by omega
    rw [gn_eta dk hne, gn_eta dk (show ¬ x < 4294967296 by omega), e1, e2, c3, gn_mod, show (x / 4294967296 + 1) % 4 = 1 by omega, show (x / 4294967296 + 1) / 4 = x / 4294967296 / 4 by omega, gn_c (show 8 < 4294967296 by decide)]
    generalize dk (x / 4294967296 / 4) = d
    generalize x % 4294967296 = w
    rw [show Int32.ofInt (gx_sc 0) = 1 from rfl, show Int32.ofInt (gx_sc 1) = nI 256 from rfl, Int32.one_mul, nI_add, pk_mul, nI_add]
    apply Int32.toBitVec_inj.mp
    apply BitVec.eq_of_toNat_eq
    rw [pk_shl (nI (w + d)) (nI 8 &&& 31) 8 (by decide +kernel), gn_bv, gn_bv, BitVec.toNat_ofNat, BitVec.toNat_ofNat]
    omega
set_option maxRecDepth 20000 in
theorem go_shr (hd : gx_D dk) (h : gx_shr x y k = true) : ∃ z, k z = true ∧ gx_N dk z = gx_N dk x >>> (gx_N dk y &&& 31) := by
  rcases gb_true h with ⟨hc, h⟩ | ⟨hc, h⟩
  · obtain ⟨c1, c2⟩ := go_and hc
    have c1 := gb_ble c1
    have c2 := gb_ble c2
    refine ⟨_, h, ?_⟩
    show gx_N dk (x >>> y) = _
    rw [Nat.shiftRight_eq_div_pow]
    have : x / 2 ^ y ≤ x := Nat.div_le_self _ _
    rw [gn_c (show x / 2 ^ y < 4294967296 by omega), gn_c (show x < 4294967296 by omega), gn_c (show y < 4294967296 by omega), pk_shrN (by omega) (nI y &&& 31) y (gl_sh32 ⟨y, by omega⟩)]
  · obtain ⟨hc, h⟩ := gb_t h
    obtain ⟨c1, c2⟩ := go_and hc
    obtain ⟨c2, c3⟩ := go_and c2
    obtain ⟨c3, c4⟩ := go_and c3
    have c2 : y = 16 := gb_beq c2
    have c3 := gb_ble c3
    have c4 : (gx_bl x - 2147483648) / 65536 = (gx_bh x - 2147483648) / 65536 := gb_beq c4
    obtain ⟨z, z1, z2, z3, z4, z5⟩ := gn_rng hd c1
    refine ⟨_, h, ?_⟩
    show gx_N dk ((gx_bl x - 2147483648) / 65536) = _
    subst c2
    rw [z3, gn_nat (by omega), gn_c (show 16 < 4294967296 by decide), gn_c (show (gx_bl x - 2147483648) / 65536 < 4294967296 by omega), pk_shrN (n := z.toNat) (by omega) (nI 16 &&& 31) 16 (by decide +kernel)]
    exact congrArg nI (show (gx_bl x - 2147483648) / 65536 = z.toNat / 65536 by omega)
theorem go_ushr (hd : gx_D dk) (h : gx_ushr x y k = true) : ∃ z, k z = true ∧ gx_N dk z = ((gx_N dk x).toUInt32 >>> ((gx_N dk y).toUInt32 &&& Int32.toUInt32 31)).toInt32 := by
  rcases gb_true h with ⟨hc, h⟩ | ⟨hc, h⟩
  · obtain ⟨c1, c2⟩ := go_and hc
    have c1 := gb_ble c1
    have c2 := gb_ble c2
    refine ⟨_, h, ?_⟩
    show gx_N dk (x >>> y) = _
    rw [Nat.shiftRight_eq_div_pow]
    have : x / 2 ^ y ≤ x := Nat.div_le_self _ _
    rw [gn_c (show x / 2 ^ y < 4294967296 by omega), gn_c (show x < 4294967296 by omega), gn_c (show y < 4294967296 by omega), pk_ushrN (by omega) (nI y) y (gl_us32 ⟨y, by omega⟩)]
  · obtain ⟨hc, h⟩ := gb_t h
    obtain ⟨c1, c2⟩ := go_and hc
    have c1 : y = 8 := gb_beq c1
    obtain ⟨z, z1, z2, z3, -⟩ := gn_in hd c2
    refine ⟨_, h, ?_⟩
    subst c1
    rw [z3, gn_c (show 8 < 4294967296 by decide), pk_ushrN (n := z) (by omega) (nI 8) 8 (by decide +kernel), Nat.div_eq_of_lt (by omega), gn_c (show 0 < 4294967296 by decide)]
theorem gn_div (d : Nat) (h : d < 100) : Int32.ofInt (-(d : Int)) / nI 10 = Int32.ofInt (-((d / 10 : Nat) : Int)) := by
  have key : ∀ d : Fin 100, Int32.ofInt (-(d.val : Int)) / nI 10 = Int32.ofInt (-((d.val / 10 : Nat) : Int)) := by decide +kernel
  exact key ⟨d, h⟩
theorem go_div (hd : gx_D dk) (h : gx_div x y k = true) : ∃ z, k z = true ∧ gx_N dk z = gx_N dk x / gx_N dk y ∧ ¬ gx_N dk y = 0 := by
  rcases gb_true h with ⟨hc, h⟩ | ⟨hc, h⟩
  · obtain ⟨c1, c2⟩ := go_and hc
    obtain ⟨c1, c3⟩ := go_cc3 c1
    have c2 := gb_ble c2
    refine ⟨_, h, ?_, ?_⟩
    · show gx_N dk (x / y) = _
      have : x / y ≤ x := Nat.div_le_self _ _
      rw [gn_c (show x / y < 4294967296 by omega), gn_c (show x < 4294967296 by omega), gn_c (show y < 4294967296 by omega), pk_div c1 (by omega) c3]
    · rw [gn_c (show y < 4294967296 by omega)]
      exact nI_ne0 (by omega) c3
  · obtain ⟨hc, h⟩ := gb_t h
    obtain ⟨c1, c2⟩ := go_and hc
    obtain ⟨c2, c3⟩ := go_and c2
    have c1 : y = 10 := gb_beq c1
    have c2 := gb_ble c2
    have c3 : x % 4294967296 = 0 := gb_beq c3
    rw [c1, gn_c (show 10 < 4294967296 by decide), gn_int (show ¬ x < 4294967296 by omega), c3]
    have h10 : ¬ nI 10 = 0 := by decide +kernel
    rcases gb_true h with ⟨hc, h⟩ | ⟨hc, h⟩
    · have c4 : x / 4294967296 % 32 = 6 := gb_beq hc
      obtain ⟨d1, d2⟩ := hd.1 (x / 4294967296 / 4) (by omega)
      have e8 : gx_hi (x / 4294967296 / 4) = 9 := by
        have : ∀ k : Nat, k % 8 = 1 → gx_hi k = 9 := fun k hk => by
          show (38812191001 >>> (8 * (k % 8))) &&& 255 = 9
          rw [hk]; rfl
        exact this _ (by omega)
      refine ⟨_, h, ?_, h10⟩
      rw [show x / 4294967296 % 4 = 2 by omega, show gx_sc 2 = -1 from rfl, show ((0 : Nat) : Int) + -1 * (dk (x / 4294967296 / 4) : Int) = -(dk (x / 4294967296 / 4) : Int) by omega, gn_div _ (by omega), Nat.div_eq_of_lt (by omega)]
      rfl
    · obtain ⟨hc, h⟩ := gb_t h
      have c4 : x / 4294967296 % 32 = 10 := gb_beq hc
      obtain ⟨d1, d2⟩ := hd.1 (x / 4294967296 / 4) (by omega)
      obtain ⟨d3, d4⟩ := hd.2 (x / 4294967296 / 4) (by omega)
      have e8 : gx_hi (x / 4294967296 / 4) = 99 := by
        have : ∀ k : Nat, k % 8 = 2 → gx_hi k = 99 := fun k hk => by
          show (38812191001 >>> (8 * (k % 8))) &&& 255 = 99
          rw [hk]; rfl
        exact this _ (by omega)
      refine ⟨_, h, ?_, h10⟩
      show gx_N dk (x + 17179869184) = _
      rw [gn_int (show ¬ x + 17179869184 < 4294967296 by omega), show (x + 17179869184) % 4294967296 = 0 by omega, show (x + 17179869184) / 4294967296 % 4 = 2 by omega, show (x + 17179869184) / 4294967296 / 4 = x / 4294967296 / 4 + 1 by omega, d3,
        show x / 4294967296 % 4 = 2 by omega, show gx_sc 2 = -1 from rfl, show ((0 : Nat) : Int) + -1 * (dk (x / 4294967296 / 4) : Int) = -(dk (x / 4294967296 / 4) : Int) by omega, gn_div _ (by omega)]
      congr 1
      omega
theorem go_rem (h : gx_rem x y k = true) : ∃ z, k z = true ∧ gx_N dk z = gx_N dk x - gx_N dk x / gx_N dk y * gx_N dk y ∧ ¬ gx_N dk y = 0 := by
  obtain ⟨hc, h⟩ := gb_t h
  obtain ⟨c1, c2⟩ := go_and hc
  obtain ⟨c1, c3⟩ := go_cc3 c1
  have c2 := gb_ble c2
  refine ⟨_, h, ?_, ?_⟩
  · show gx_N dk (x % y) = _
    have h1 : x % y < y := Nat.mod_lt _ (by omega)
    have h2 : y * (x / y) + x % y = x := Nat.div_add_mod x y
    rw [gn_c (show x % y < 4294967296 by omega), gn_c (show x < 4294967296 by omega), gn_c (show y < 4294967296 by omega), pk_div c1 (by omega) c3, pk_mul]
    rw [← gn_of, ← gn_of, ← gn_of, gn_sub]
    congr 1
    rw [Nat.mul_comm (x / y) y]
    generalize y * (x / y) = q at *
    omega
  · rw [gn_c (show y < 4294967296 by omega)]
    exact nI_ne0 (by omega) c3
theorem gl_ti {n : Nat} (h : n < 9223372036854775808) : (lN n).toInt = (n : Int) := Int64.toInt_ofNat_of_lt h
theorem gl_s64 : ∀ y : Fin 64, (((nI y.val).toInt64 &&& 63).toBitVec.smod 64).toNat = y.val := by decide +kernel
theorem gl_u64 : ∀ y : Fin 64, (((nI y.val).toInt64.toUInt64 &&& Int64.toUInt64 63).toBitVec % 64).toNat = y.val := by decide +kernel
theorem go_lsh (h : gx_lsh x y k = true) : ∃ z, k z = true ∧ lN z = lN x <<< ((gx_N dk y).toInt64 &&& 63) := by
  obtain ⟨hc, h⟩ := gb_t h
  have c1 := gb_ble hc
  refine ⟨_, h, ?_⟩
  show lN ((x <<< y) % 18446744073709551616) = _
  rw [gl_mod, gn_c (show y < 4294967296 by omega)]
  apply Int64.toBitVec_inj.mp
  rw [Int64.toBitVec_shiftLeft, gl_bv, gl_bv]
  apply BitVec.eq_of_toNat_eq
  rw [BitVec.shiftLeft_eq', BitVec.toNat_shiftLeft, gl_s64 ⟨y, by omega⟩, BitVec.toNat_ofNat, BitVec.toNat_ofNat, Nat.shiftLeft_eq, Nat.shiftLeft_eq, Nat.mod_mul_mod]
theorem go_lus (h : gx_lus x y k = true) : ∃ z, k z = true ∧ lN z = ((lN x).toUInt64 >>> ((gx_N dk y).toInt64.toUInt64 &&& Int64.toUInt64 63)).toInt64 := by
  obtain ⟨hc, h⟩ := gb_t h
  have c1 := gb_ble hc
  refine ⟨_, h, ?_⟩
  show lN ((x % 18446744073709551616) >>> y) = _
  rw [gn_c (show y < 4294967296 by omega)]
  apply Int64.toBitVec_inj.mp
  rw [gl_bv]
  apply BitVec.eq_of_toNat_eq
  show _ = ((lN x).toUInt64 >>> ((nI y).toInt64.toUInt64 &&& Int64.toUInt64 63)).toBitVec.toNat
  rw [UInt64.toBitVec_shiftRight, BitVec.ushiftRight_eq', BitVec.toNat_ushiftRight, gl_u64 ⟨y, by omega⟩, BitVec.toNat_ofNat]
  show _ = (lN x).toBitVec.toNat >>> y
  rw [gl_bv, BitVec.toNat_ofNat, Nat.shiftRight_eq_div_pow]
  have : x % 18446744073709551616 / 2 ^ y ≤ x % 18446744073709551616 := Nat.div_le_self _ _
  exact Nat.mod_eq_of_lt (by omega)
theorem go_lcm (h : gx_lcm x y k = true) : ∃ z, k z = true ∧ gx_N dk z = lg_cmp (lN x) (lN y) := by
  obtain ⟨hc, h⟩ := gb_t h
  obtain ⟨h1, h2⟩ := gb_lor (n := 63) hc
  refine ⟨_, h, ?_⟩
  have t1 : (lN x).toInt = (x : Int) := gl_ti h1
  have t2 : (lN y).toInt = (y : Int) := gl_ti h2
  cases hb : Nat.beq x y with
  | true =>
    have e := gb_beq hb
    subst e
    show gx_N dk 0 = _
    simp [lg_cmp, gn_c (dk := dk) (show 0 < 4294967296 by decide), nI_0]
  | false =>
    have hn := gb_nbeq hb
    cases hl : Nat.ble (Nat.succ x) y with
    | true =>
      have hlt : x < y := gb_ble hl
      show gx_N dk 4294967295 = _
      have q : ¬ lN y < lN x := by rw [Int64.lt_iff_toInt_lt, t1, t2]; omega
      have q2 : lN x < lN y := by rw [Int64.lt_iff_toInt_lt, t1, t2]; omega
      have q3 : ¬ lN x = lN y := fun e => by rw [e, t2] at t1; omega
      rw [gn_c (show 4294967295 < 4294967296 by decide)]
      simp [lg_cmp, q, q2, q3]
      decide +kernel
    | false =>
      have hlt := gb_nble hl
      show gx_N dk 1 = _
      have q : lN y < lN x := by rw [Int64.lt_iff_toInt_lt, t1, t2]; omega
      rw [gn_c (show 1 < 4294967296 by decide)]
      simp [lg_cmp, q]
      decide +kernel
end OPM
end
section
theorem i_vc : Claimed_1_1 ∧ Claimed_1_2 := sorry
end
