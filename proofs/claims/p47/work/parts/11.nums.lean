/-! NUMBERS OF THE SMALL MACHINE. Below 2^32: a whole number by its 32 bits. Above: w + c * d, where w are the low 32 bits, and the rest is 4 * k + the scale's number: d is the number drawn under the name k. -/
def gx_sc (c : Nat) : Int := if c = 0 then 1 else if c = 1 then 256 else if c = 2 then -1 else -10
noncomputable def gx_lo (k : Nat) : Nat := Nat.land (Nat.shiftRight 17432576 (Nat.mul 8 (Nat.mod k 8))) 255
noncomputable def gx_hi (k : Nat) : Nat := Nat.land (Nat.shiftRight 38812191001 (Nat.mul 8 (Nat.mod k 8))) 255
def gx_N (dk : Nat → Nat) (x : Nat) : Int32 := if x < 4294967296 then nI x else nI x + Int32.ofInt (gx_sc (x / 4294967296 % 4)) * nI (dk (x / 4294967296 / 4))
def gx_D (dk : Nat → Nat) : Prop := (∀ k, k % 8 ≤ 4 → gx_lo k ≤ dk k ∧ dk k ≤ gx_hi k) ∧ ∀ k, k % 8 = 2 → dk (k + 1) = dk k / 10 ∧ dk (k + 2) = dk k % 10
/-- the low 32 bits are others -/
noncomputable def gx_low (x z : Nat) : Nat := Nat.add (Nat.mul (Nat.div x 4294967296) 4294967296) (Nat.mod z 4294967296)
/-- a range, from -2^31 on; does it stand? -/
noncomputable def gx_bl (x : Nat) : Nat := Bool.rec (motive := fun _ => Nat)
  (Bool.rec (motive := fun _ => Nat) (Bool.rec (motive := fun _ => Nat) (Nat.sub (Nat.add 2147483648 (Nat.mod x 4294967296)) (Nat.mul (gx_hi (Nat.div (Nat.div x 4294967296) 4)) (Bool.rec (motive := fun _ => Nat) 10 1 (Nat.beq (Nat.mod (Nat.div x 4294967296) 4) 2))))
    (Nat.add (Nat.add 2147483648 (Nat.mod x 4294967296)) (Nat.mul 256 (gx_lo (Nat.div (Nat.div x 4294967296) 4)))) (Nat.beq (Nat.mod (Nat.div x 4294967296) 4) 1))
    (Nat.add (Nat.add 2147483648 (Nat.mod x 4294967296)) (gx_lo (Nat.div (Nat.div x 4294967296) 4))) (Nat.beq (Nat.mod (Nat.div x 4294967296) 4) 0))
  (Nat.mod (Nat.add x 2147483648) 4294967296) (Nat.ble x 4294967295)
noncomputable def gx_bh (x : Nat) : Nat := Bool.rec (motive := fun _ => Nat)
  (Bool.rec (motive := fun _ => Nat) (Bool.rec (motive := fun _ => Nat) (Nat.sub (Nat.add 2147483648 (Nat.mod x 4294967296)) (Nat.mul (gx_lo (Nat.div (Nat.div x 4294967296) 4)) (Bool.rec (motive := fun _ => Nat) 10 1 (Nat.beq (Nat.mod (Nat.div x 4294967296) 4) 2))))
    (Nat.add (Nat.add 2147483648 (Nat.mod x 4294967296)) (Nat.mul 256 (gx_hi (Nat.div (Nat.div x 4294967296) 4)))) (Nat.beq (Nat.mod (Nat.div x 4294967296) 4) 1))
    (Nat.add (Nat.add 2147483648 (Nat.mod x 4294967296)) (gx_hi (Nat.div (Nat.div x 4294967296) 4))) (Nat.beq (Nat.mod (Nat.div x 4294967296) 4) 0))
  (Nat.mod (Nat.add x 2147483648) 4294967296) (Nat.ble x 4294967295)
noncomputable def gx_ok (x : Nat) : Bool := Bool.rec (motive := fun _ => Bool) (Bool.and (Nat.ble (Nat.mod x 4294967296) 1073741823) (Nat.ble (Nat.mod (Nat.div (Nat.div x 4294967296) 4) 8) 4)) true (Nat.ble x 4294967295)
/-- a number from a to b -/
noncomputable def gx_in (x a b : Nat) : Bool := Bool.rec (motive := fun _ => Bool) false (Bool.and (Nat.ble (Nat.add 2147483648 a) (gx_bl x)) (Nat.ble (gx_bh x) (Nat.add 2147483648 b))) (gx_ok x)
theorem gn_lo_le (k : Nat) : gx_lo k ≤ 255 := Nat.and_le_right
theorem gn_hi_le (k : Nat) : gx_hi k ≤ 255 := Nat.and_le_right
theorem gn_tn (x : Int32) : nI x.toBitVec.toNat = x := by
  apply Int32.toBitVec_inj.mp
  show (Int32.ofNat _).toBitVec = _
  rw [Int32.toBitVec_ofNat']
  apply BitVec.eq_of_toNat_eq
  rw [BitVec.toNat_ofNat]
  exact Nat.mod_eq_of_lt x.toBitVec.isLt
theorem gn_bv (n : Nat) : (nI n).toBitVec = BitVec.ofNat 32 n := Int32.toBitVec_ofNat' ..
theorem gn_mod (n : Nat) : nI (n % 4294967296) = nI n := by
  apply Int32.toBitVec_inj.mp
  rw [gn_bv, gn_bv]
  apply BitVec.eq_of_toNat_eq
  simp [BitVec.toNat_ofNat]
theorem gn_eqm {a b : Nat} (h : a % 4294967296 = b % 4294967296) : nI a = nI b := by rw [← gn_mod a, h, gn_mod]
theorem gn_of (n : Nat) : Int32.ofInt (n : Int) = nI n := Int32.ofInt_eq_ofNat ..
theorem gn_add (a b : Int) : Int32.ofInt a + Int32.ofInt b = Int32.ofInt (a + b) := (Int32.ofInt_add ..).symm
theorem gn_sub (a b : Int) : Int32.ofInt a - Int32.ofInt b = Int32.ofInt (a - b) := (Int32.ofInt_sub ..).symm
theorem gn_neg (a : Int) : - Int32.ofInt a = Int32.ofInt (-a) := (Int32.ofInt_neg ..).symm
theorem gn_mul (a b : Int) : Int32.ofInt a * Int32.ofInt b = Int32.ofInt (a * b) := (Int32.ofInt_mul ..).symm
theorem gn_ti {z : Int} (h1 : -2147483648 ≤ z) (h2 : z < 2147483648) : (Int32.ofInt z).toInt = z := by
  rw [Int32.toInt_ofInt]
  show z.bmod (2 ^ 32) = z
  rw [Int.bmod_def]
  split <;> omega
theorem gn_per (z : Int) : Int32.ofInt (z + 4294967296) = Int32.ofInt z := by
  rw [← gn_add]
  show _ + Int32.ofInt 4294967296 = _
  rw [show Int32.ofInt 4294967296 = 0 by decide +kernel, Int32.add_zero]
theorem gn_nat {z : Int} (h : 0 ≤ z) : Int32.ofInt z = nI z.toNat := by
  obtain ⟨n, rfl⟩ := Int.eq_ofNat_of_zero_le h
  exact gn_of n
theorem gn_c {dk : Nat → Nat} {x : Nat} (h : x < 4294967296) : gx_N dk x = nI x := if_pos h
/-- as a whole number -/
theorem gn_int {dk : Nat → Nat} {x : Nat} (h : ¬ x < 4294967296) : gx_N dk x = Int32.ofInt ((x % 4294967296 : Nat) + gx_sc (x / 4294967296 % 4) * (dk (x / 4294967296 / 4) : Int)) := by
  rw [gx_N, if_neg h, ← gn_add, gn_of, gn_mod, ← gn_mul, gn_of]
theorem gn_low {x z : Nat} (h : ¬ x < 4294967296) : ¬ gx_low x z < 4294967296 ∧ gx_low x z / 4294967296 = x / 4294967296 ∧ gx_low x z % 4294967296 = z % 4294967296 := by
  have e : gx_low x z = x / 4294967296 * 4294967296 + z % 4294967296 := rfl
  rw [e]
  omega
theorem gn_lowN {dk : Nat → Nat} {x z : Nat} (h : ¬ x < 4294967296) : gx_N dk (gx_low x z) = nI z + Int32.ofInt (gx_sc (x / 4294967296 % 4)) * nI (dk (x / 4294967296 / 4)) := by
  obtain ⟨h1, h2, h3⟩ := gn_low (z := z) h
  rw [gx_N, if_neg h1, h2, gn_eqm h3]
/-- a value whose range stands is a number in it -/
theorem gn_rng {dk : Nat → Nat} (hd : gx_D dk) {x : Nat} (h : gx_ok x = true) : ∃ z : Int, (gx_bl x : Int) ≤ z + 2147483648 ∧ z + 2147483648 ≤ (gx_bh x : Int) ∧ gx_N dk x = Int32.ofInt z ∧ -2147483648 ≤ z ∧ z < 2147483648 := by
  unfold gx_ok at h
  cases hc : Nat.ble x 4294967295 with
  | true =>
    have hx := gb_ble hc
    have e1 : gx_bl x = (x + 2147483648) % 4294967296 := by unfold gx_bl; rw [hc]; rfl
    have e2 : gx_bh x = (x + 2147483648) % 4294967296 := by unfold gx_bh; rw [hc]; rfl
    rw [gn_c (by omega), e1, e2]
    by_cases hs : x < 2147483648
    · exact ⟨x, by omega, by omega, (gn_of x).symm, by omega, by omega⟩
    · refine ⟨(x : Int) - 4294967296, by omega, by omega, ?_, by omega, by omega⟩
      rw [← gn_per, show (x : Int) - 4294967296 + 4294967296 = x by omega, gn_of]
  | false =>
    rw [hc] at h
    have h : (Nat.ble (x % 4294967296) 1073741823 && Nat.ble (x / 4294967296 / 4 % 8) 4) = true := h
    have hx := gb_nble hc
    simp only [Bool.and_eq_true] at h
    have hw := gb_ble h.1
    have hk := gb_ble h.2
    obtain ⟨d1, d2⟩ := hd.1 (x / 4294967296 / 4) hk
    have l1 := gn_lo_le (x / 4294967296 / 4)
    have l2 := gn_hi_le (x / 4294967296 / 4)
    rw [gn_int (by omega)]
    have hb : gx_bl x = Bool.rec (motive := fun _ => Nat) (Bool.rec (motive := fun _ => Nat) (2147483648 + x % 4294967296 - gx_hi (x / 4294967296 / 4) * (Bool.rec (motive := fun _ => Nat) 10 1 (Nat.beq (x / 4294967296 % 4) 2))) (2147483648 + x % 4294967296 + 256 * gx_lo (x / 4294967296 / 4)) (Nat.beq (x / 4294967296 % 4) 1)) (2147483648 + x % 4294967296 + gx_lo (x / 4294967296 / 4)) (Nat.beq (x / 4294967296 % 4) 0) := by unfold gx_bl; rw [hc]; rfl
    have hh : gx_bh x = Bool.rec (motive := fun _ => Nat) (Bool.rec (motive := fun _ => Nat) (2147483648 + x % 4294967296 - gx_lo (x / 4294967296 / 4) * (Bool.rec (motive := fun _ => Nat) 10 1 (Nat.beq (x / 4294967296 % 4) 2))) (2147483648 + x % 4294967296 + 256 * gx_hi (x / 4294967296 / 4)) (Nat.beq (x / 4294967296 % 4) 1)) (2147483648 + x % 4294967296 + gx_hi (x / 4294967296 / 4)) (Nat.beq (x / 4294967296 % 4) 0) := by unfold gx_bh; rw [hc]; rfl
    generalize dk (x / 4294967296 / 4) = d at d1 d2 ⊢
    generalize gx_lo (x / 4294967296 / 4) = lo at *
    generalize gx_hi (x / 4294967296 / 4) = hi at *
    generalize x % 4294967296 = w at *
    have hc4 : x / 4294967296 % 4 < 4 := Nat.mod_lt _ (by decide)
    generalize x / 4294967296 % 4 = cl at *
    have hcs : cl = 0 ∨ cl = 1 ∨ cl = 2 ∨ cl = 3 := by omega
    rcases hcs with rfl | rfl | rfl | rfl
    · have hb : gx_bl x = 2147483648 + w + lo := hb
      have hh : gx_bh x = 2147483648 + w + hi := hh
      rw [show gx_sc 0 = 1 from rfl, hb, hh]
      exact ⟨_, by omega, by omega, rfl, by omega, by omega⟩
    · have hb : gx_bl x = 2147483648 + w + 256 * lo := hb
      have hh : gx_bh x = 2147483648 + w + 256 * hi := hh
      rw [show gx_sc 1 = 256 from rfl, hb, hh]
      exact ⟨_, by omega, by omega, rfl, by omega, by omega⟩
    · have hb : gx_bl x = 2147483648 + w - hi * 1 := hb
      have hh : gx_bh x = 2147483648 + w - lo * 1 := hh
      rw [show gx_sc 2 = -1 from rfl, hb, hh]
      exact ⟨_, by omega, by omega, rfl, by omega, by omega⟩
    · have hb : gx_bl x = 2147483648 + w - hi * 10 := hb
      have hh : gx_bh x = 2147483648 + w - lo * 10 := hh
      rw [show gx_sc 3 = -10 from rfl, hb, hh]
      exact ⟨_, by omega, by omega, rfl, by omega, by omega⟩
theorem gn_in {dk : Nat → Nat} (hd : gx_D dk) {x a b : Nat} (h : gx_in x a b = true) : ∃ z : Nat, a ≤ z ∧ z ≤ b ∧ gx_N dk x = nI z ∧ z < 2147483648 := by
  obtain ⟨h1, h2⟩ := gb_t h
  simp only [Bool.and_eq_true] at h2
  have h3 : 2147483648 + a ≤ gx_bl x := gb_ble h2.1
  have h4 : gx_bh x ≤ 2147483648 + b := gb_ble h2.2
  obtain ⟨z, z1, z2, z3, z4, z5⟩ := gn_rng hd h1
  refine ⟨z.toNat, by omega, by omega, by rw [z3, gn_nat (by omega)], by omega⟩
