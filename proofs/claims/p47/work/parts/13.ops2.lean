/-! SHIFTS, DIVISIONS, LONGS. -/
noncomputable def gx_lsh (x y : Nat) (k : Nat → Bool) : Bool := Bool.rec (motive := fun _ => Bool) false (k (Nat.mod (Nat.shiftLeft x y) 18446744073709551616)) (Nat.ble y 63)
noncomputable def gx_lus (x y : Nat) (k : Nat → Bool) : Bool := Bool.rec (motive := fun _ => Bool) false (k (Nat.shiftRight (Nat.mod x 18446744073709551616) y)) (Nat.ble y 63)
noncomputable def gx_lcm (x y : Nat) (k : Nat → Bool) : Bool := Bool.rec (motive := fun _ => Bool) false (k (Bool.rec (motive := fun _ => Nat) (Bool.rec (motive := fun _ => Nat) 1 4294967295 (Nat.ble (Nat.succ x) y)) 0 (Nat.beq x y))) (Nat.ble (Nat.lor x y) 9223372036854775807)
noncomputable def gx_lsu (x y : Nat) : Nat := Nat.mod (Nat.sub (Nat.add x 18446744073709551616) (Nat.mod y 18446744073709551616)) 18446744073709551616
theorem gl_bv (n : Nat) : (lN n).toBitVec = BitVec.ofNat 64 n := Int64.toBitVec_ofNat' ..
theorem gl_mod (n : Nat) : lN (n % 18446744073709551616) = lN n := by
  apply Int64.toBitVec_inj.mp
  rw [gl_bv, gl_bv]
  apply BitVec.eq_of_toNat_eq
  simp [BitVec.toNat_ofNat]
theorem gl_and (a b : Nat) : lN a &&& lN b = lN (a &&& b) := by
  apply Int64.toBitVec_inj.mp
  rw [Int64.toBitVec_and, gl_bv, gl_bv, gl_bv]
  apply BitVec.eq_of_toNat_eq
  rw [BitVec.toNat_and, BitVec.toNat_ofNat, BitVec.toNat_ofNat, BitVec.toNat_ofNat, Nat.and_mod_two_pow]
theorem gl_or (a b : Nat) : lN a ||| lN b = lN (a ||| b) := by
  apply Int64.toBitVec_inj.mp
  rw [Int64.toBitVec_or, gl_bv, gl_bv, gl_bv]
  apply BitVec.eq_of_toNat_eq
  rw [BitVec.toNat_or, BitVec.toNat_ofNat, BitVec.toNat_ofNat, BitVec.toNat_ofNat, Nat.or_mod_two_pow]
theorem gl_xor (a b : Nat) : lN a ^^^ lN b = lN (a ^^^ b) := by
  apply Int64.toBitVec_inj.mp
  rw [Int64.toBitVec_xor, gl_bv, gl_bv, gl_bv]
  apply BitVec.eq_of_toNat_eq
  rw [BitVec.toNat_xor, BitVec.toNat_ofNat, BitVec.toNat_ofNat, BitVec.toNat_ofNat, Nat.xor_mod_two_pow]
theorem gl_sub (a b : Nat) : lN a - lN b = lN (gx_lsu a b) := by
  apply Int64.toBitVec_inj.mp
  rw [Int64.toBitVec_sub, gl_bv, gl_bv, gl_bv]
  apply BitVec.eq_of_toNat_eq
  rw [BitVec.toNat_sub, BitVec.toNat_ofNat, BitVec.toNat_ofNat, BitVec.toNat_ofNat]
  show _ = (a + 18446744073709551616 - b % 18446744073709551616) % 18446744073709551616 % 2 ^ 64
  omega
theorem gl_i (a : Nat) : (lN a).toInt32 = nI (a % 4294967296) := by rw [lN_i, gn_mod]
section OPM
variable {dk : Nat → Nat} {x y : Nat} {k : Nat → Bool} {kt kf : Bool}
theorem gl_sh32 : ∀ y : Fin 32, ((nI y.val &&& 31).toBitVec.smod 32).toNat = y.val := by decide +kernel
theorem gl_us32 : ∀ y : Fin 32, (((nI y.val).toUInt32 &&& Int32.toUInt32 31).toBitVec % 32).toNat = y.val := by decide +kernel
set_option maxRecDepth 20000 in
theorem go_shl (h : gx_shl x y k = true) : ∃ z, k z = true ∧ gx_N dk z = gx_N dk x <<< (gx_N dk y &&& 31) := by
  rcases gb_true h with ⟨hc, h⟩ | ⟨hc, h⟩
  · obtain ⟨c1, c2⟩ := go_and hc
    have c1 := gb_ble c1
    have c2 := gb_ble c2
    refine ⟨_, h, ?_⟩
    show gx_N dk ((x <<< y) % 4294967296) = _
    rw [gn_c (Nat.mod_lt _ (by decide)), gn_c (show x < 4294967296 by omega), gn_c (show y < 4294967296 by omega)]
    apply Int32.toBitVec_inj.mp
    apply BitVec.eq_of_toNat_eq
    rw [pk_shl (nI x) (nI y &&& 31) y (gl_sh32 ⟨y, by omega⟩), pk_tn (Nat.mod_lt _ (by decide)), pk_tn (by omega), Nat.shiftLeft_eq]
  · obtain ⟨hc, h⟩ := gb_t h
    obtain ⟨c1, c2⟩ := go_and hc
    obtain ⟨c2, c3⟩ := go_and c2
    have c1 := gb_ble c1
    have c2 : y = 8 := gb_beq c2
    have c3 : x / 4294967296 % 4 = 0 := gb_beq c3
    refine ⟨_, h, ?_⟩
    show gx_N dk ((x / 4294967296 + 1) * 4294967296 + (x % 4294967296 * 256) % 4294967296) = _
    subst c2
    have hne : ¬ (x / 4294967296 + 1) * 4294967296 + (x % 4294967296 * 256) % 4294967296 < 4294967296 := by omega
    have e1 : ((x / 4294967296 + 1) * 4294967296 + (x % 4294967296 * 256) % 4294967296) % 4294967296 = (x % 4294967296 * 256) % 4294967296 := by omega
    have e2 : ((x / 4294967296 + 1) * 4294967296 + (x % 4294967296 * 256) % 4294967296) / 4294967296 = x / 4294967296 + 1 := by omega
    rw [gn_eta dk hne, gn_eta dk (show ¬ x < 4294967296 by omega), e1, e2, c3, gn_mod, show (x / 4294967296 + 1) % 4 = 1 by omega, show (x / 4294967296 + 1) / 4 = x / 4294967296 / 4 by omega, gn_c (show 8 < 4294967296 by decide)]
    generalize dk (x / 4294967296 / 4) = d
    generalize x % 4294967296 = w
    rw [show Int32.ofInt (gx_sc 0) = 1 from rfl, show Int32.ofInt (gx_sc 1) = nI 256 from rfl, Int32.one_mul, nI_add, pk_mul, nI_add]
    apply Int32.toBitVec_inj.mp
    apply BitVec.eq_of_toNat_eq
    rw [pk_shl (nI (w + d)) (nI 8 &&& 31) 8 (by decide +kernel), gn_bv, gn_bv, BitVec.toNat_ofNat, BitVec.toNat_ofNat]
    omega
set_option maxRecDepth 20000 in
theorem go_shr (hd : gx_D dk) (h : gx_shr x y k = true) : ∃ z, k z = true ∧ gx_N dk z = gx_N dk x >>> (gx_N dk y &&& 31) := by
  rcases gb_true h with ⟨hc, h⟩ | ⟨hc, h⟩
  · obtain ⟨c1, c2⟩ := go_and hc
    have c1 := gb_ble c1
    have c2 := gb_ble c2
    refine ⟨_, h, ?_⟩
    show gx_N dk (x >>> y) = _
    rw [Nat.shiftRight_eq_div_pow]
    have : x / 2 ^ y ≤ x := Nat.div_le_self _ _
    rw [gn_c (show x / 2 ^ y < 4294967296 by omega), gn_c (show x < 4294967296 by omega), gn_c (show y < 4294967296 by omega), pk_shrN (by omega) (nI y &&& 31) y (gl_sh32 ⟨y, by omega⟩)]
  · obtain ⟨hc, h⟩ := gb_t h
    obtain ⟨c1, c2⟩ := go_and hc
    obtain ⟨c2, c3⟩ := go_and c2
    obtain ⟨c3, c4⟩ := go_and c3
    have c2 : y = 16 := gb_beq c2
    have c3 := gb_ble c3
    have c4 : (gx_bl x - 2147483648) / 65536 = (gx_bh x - 2147483648) / 65536 := gb_beq c4
    obtain ⟨z, z1, z2, z3, z4, z5⟩ := gn_rng hd c1
    refine ⟨_, h, ?_⟩
    show gx_N dk ((gx_bl x - 2147483648) / 65536) = _
    subst c2
    rw [z3, gn_nat (by omega), gn_c (show 16 < 4294967296 by decide), gn_c (show (gx_bl x - 2147483648) / 65536 < 4294967296 by omega), pk_shrN (n := z.toNat) (by omega) (nI 16 &&& 31) 16 (by decide +kernel)]
    exact congrArg nI (show (gx_bl x - 2147483648) / 65536 = z.toNat / 65536 by omega)
theorem go_ushr (hd : gx_D dk) (h : gx_ushr x y k = true) : ∃ z, k z = true ∧ gx_N dk z = ((gx_N dk x).toUInt32 >>> ((gx_N dk y).toUInt32 &&& Int32.toUInt32 31)).toInt32 := by
  rcases gb_true h with ⟨hc, h⟩ | ⟨hc, h⟩
  · obtain ⟨c1, c2⟩ := go_and hc
    have c1 := gb_ble c1
    have c2 := gb_ble c2
    refine ⟨_, h, ?_⟩
    show gx_N dk (x >>> y) = _
    rw [Nat.shiftRight_eq_div_pow]
    have : x / 2 ^ y ≤ x := Nat.div_le_self _ _
    rw [gn_c (show x / 2 ^ y < 4294967296 by omega), gn_c (show x < 4294967296 by omega), gn_c (show y < 4294967296 by omega), pk_ushrN (by omega) (nI y) y (gl_us32 ⟨y, by omega⟩)]
  · obtain ⟨hc, h⟩ := gb_t h
    obtain ⟨c1, c2⟩ := go_and hc
    have c1 : y = 8 := gb_beq c1
    obtain ⟨z, z1, z2, z3, -⟩ := gn_in hd c2
    refine ⟨_, h, ?_⟩
    subst c1
    rw [z3, gn_c (show 8 < 4294967296 by decide), pk_ushrN (n := z) (by omega) (nI 8) 8 (by decide +kernel), Nat.div_eq_of_lt (by omega), gn_c (show 0 < 4294967296 by decide)]
theorem gn_div (d : Nat) (h : d < 100) : Int32.ofInt (-(d : Int)) / nI 10 = Int32.ofInt (-((d / 10 : Nat) : Int)) := by
  have key : ∀ d : Fin 100, Int32.ofInt (-(d.val : Int)) / nI 10 = Int32.ofInt (-((d.val / 10 : Nat) : Int)) := by decide +kernel
  exact key ⟨d, h⟩
theorem go_div (hd : gx_D dk) (h : gx_div x y k = true) : ∃ z, k z = true ∧ gx_N dk z = gx_N dk x / gx_N dk y ∧ ¬ gx_N dk y = 0 := by
  rcases gb_true h with ⟨hc, h⟩ | ⟨hc, h⟩
  · obtain ⟨c1, c2⟩ := go_and hc
    obtain ⟨c1, c3⟩ := go_cc3 c1
    have c2 := gb_ble c2
    refine ⟨_, h, ?_, ?_⟩
    · show gx_N dk (x / y) = _
      have : x / y ≤ x := Nat.div_le_self _ _
      rw [gn_c (show x / y < 4294967296 by omega), gn_c (show x < 4294967296 by omega), gn_c (show y < 4294967296 by omega), pk_div c1 (by omega) c3]
    · rw [gn_c (show y < 4294967296 by omega)]
      exact nI_ne0 (by omega) c3
  · obtain ⟨hc, h⟩ := gb_t h
    obtain ⟨c1, c2⟩ := go_and hc
    obtain ⟨c2, c3⟩ := go_and c2
    have c1 : y = 10 := gb_beq c1
    have c2 := gb_ble c2
    have c3 : x % 4294967296 = 0 := gb_beq c3
    rw [c1, gn_c (show 10 < 4294967296 by decide), gn_int (show ¬ x < 4294967296 by omega), c3]
    have h10 : ¬ nI 10 = 0 := by decide +kernel
    rcases gb_true h with ⟨hc, h⟩ | ⟨hc, h⟩
    · have c4 : x / 4294967296 % 32 = 6 := gb_beq hc
      obtain ⟨d1, d2⟩ := hd.1 (x / 4294967296 / 4) (by omega)
      have e8 : gx_hi (x / 4294967296 / 4) = 9 := by
        have : ∀ k : Nat, k % 8 = 1 → gx_hi k = 9 := fun k hk => by
          show (38812191001 >>> (8 * (k % 8))) &&& 255 = 9
          rw [hk]; rfl
        exact this _ (by omega)
      refine ⟨_, h, ?_, h10⟩
      rw [show x / 4294967296 % 4 = 2 by omega, show gx_sc 2 = -1 from rfl, show ((0 : Nat) : Int) + -1 * (dk (x / 4294967296 / 4) : Int) = -(dk (x / 4294967296 / 4) : Int) by omega, gn_div _ (by omega), Nat.div_eq_of_lt (by omega)]
      rfl
    · obtain ⟨hc, h⟩ := gb_t h
      have c4 : x / 4294967296 % 32 = 10 := gb_beq hc
      obtain ⟨d1, d2⟩ := hd.1 (x / 4294967296 / 4) (by omega)
      obtain ⟨d3, d4⟩ := hd.2 (x / 4294967296 / 4) (by omega)
      have e8 : gx_hi (x / 4294967296 / 4) = 99 := by
        have : ∀ k : Nat, k % 8 = 2 → gx_hi k = 99 := fun k hk => by
          show (38812191001 >>> (8 * (k % 8))) &&& 255 = 99
          rw [hk]; rfl
        exact this _ (by omega)
      refine ⟨_, h, ?_, h10⟩
      show gx_N dk (x + 17179869184) = _
      rw [gn_int (show ¬ x + 17179869184 < 4294967296 by omega), show (x + 17179869184) % 4294967296 = 0 by omega, show (x + 17179869184) / 4294967296 % 4 = 2 by omega, show (x + 17179869184) / 4294967296 / 4 = x / 4294967296 / 4 + 1 by omega, d3,
        show x / 4294967296 % 4 = 2 by omega, show gx_sc 2 = -1 from rfl, show ((0 : Nat) : Int) + -1 * (dk (x / 4294967296 / 4) : Int) = -(dk (x / 4294967296 / 4) : Int) by omega, gn_div _ (by omega)]
      congr 1
      omega
theorem go_rem (h : gx_rem x y k = true) : ∃ z, k z = true ∧ gx_N dk z = gx_N dk x - gx_N dk x / gx_N dk y * gx_N dk y ∧ ¬ gx_N dk y = 0 := by
  obtain ⟨hc, h⟩ := gb_t h
  obtain ⟨c1, c2⟩ := go_and hc
  obtain ⟨c1, c3⟩ := go_cc3 c1
  have c2 := gb_ble c2
  refine ⟨_, h, ?_, ?_⟩
  · show gx_N dk (x % y) = _
    have h1 : x % y < y := Nat.mod_lt _ (by omega)
    have h2 : y * (x / y) + x % y = x := Nat.div_add_mod x y
    rw [gn_c (show x % y < 4294967296 by omega), gn_c (show x < 4294967296 by omega), gn_c (show y < 4294967296 by omega), pk_div c1 (by omega) c3, pk_mul]
    rw [← gn_of, ← gn_of, ← gn_of, gn_sub]
    congr 1
    rw [Nat.mul_comm (x / y) y]
    generalize y * (x / y) = q at *
    omega
  · rw [gn_c (show y < 4294967296 by omega)]
    exact nI_ne0 (by omega) c3
theorem gl_ti {n : Nat} (h : n < 9223372036854775808) : (lN n).toInt = (n : Int) := Int64.toInt_ofNat_of_lt h
theorem gl_s64 : ∀ y : Fin 64, (((nI y.val).toInt64 &&& 63).toBitVec.smod 64).toNat = y.val := by decide +kernel
theorem gl_u64 : ∀ y : Fin 64, (((nI y.val).toInt64.toUInt64 &&& Int64.toUInt64 63).toBitVec % 64).toNat = y.val := by decide +kernel
theorem go_lsh (h : gx_lsh x y k = true) : ∃ z, k z = true ∧ lN z = lN x <<< ((gx_N dk y).toInt64 &&& 63) := by
  obtain ⟨hc, h⟩ := gb_t h
  have c1 := gb_ble hc
  refine ⟨_, h, ?_⟩
  show lN ((x <<< y) % 18446744073709551616) = _
  rw [gl_mod, gn_c (show y < 4294967296 by omega)]
  apply Int64.toBitVec_inj.mp
  rw [Int64.toBitVec_shiftLeft, gl_bv, gl_bv]
  apply BitVec.eq_of_toNat_eq
  rw [BitVec.shiftLeft_eq', BitVec.toNat_shiftLeft, gl_s64 ⟨y, by omega⟩, BitVec.toNat_ofNat, BitVec.toNat_ofNat, Nat.shiftLeft_eq, Nat.shiftLeft_eq, Nat.mod_mul_mod]
theorem go_lus (h : gx_lus x y k = true) : ∃ z, k z = true ∧ lN z = ((lN x).toUInt64 >>> ((gx_N dk y).toInt64.toUInt64 &&& Int64.toUInt64 63)).toInt64 := by
  obtain ⟨hc, h⟩ := gb_t h
  have c1 := gb_ble hc
  refine ⟨_, h, ?_⟩
  show lN ((x % 18446744073709551616) >>> y) = _
  rw [gn_c (show y < 4294967296 by omega)]
  apply Int64.toBitVec_inj.mp
  rw [gl_bv]
  apply BitVec.eq_of_toNat_eq
  show _ = ((lN x).toUInt64 >>> ((nI y).toInt64.toUInt64 &&& Int64.toUInt64 63)).toBitVec.toNat
  rw [UInt64.toBitVec_shiftRight, BitVec.ushiftRight_eq', BitVec.toNat_ushiftRight, gl_u64 ⟨y, by omega⟩, BitVec.toNat_ofNat]
  show _ = (lN x).toBitVec.toNat >>> y
  rw [gl_bv, BitVec.toNat_ofNat, Nat.shiftRight_eq_div_pow]
  have : x % 18446744073709551616 / 2 ^ y ≤ x % 18446744073709551616 := Nat.div_le_self _ _
  exact Nat.mod_eq_of_lt (by omega)
theorem go_lcm (h : gx_lcm x y k = true) : ∃ z, k z = true ∧ gx_N dk z = lg_cmp (lN x) (lN y) := by
  obtain ⟨hc, h⟩ := gb_t h
  obtain ⟨h1, h2⟩ := gb_lor (n := 63) hc
  refine ⟨_, h, ?_⟩
  have t1 : (lN x).toInt = (x : Int) := gl_ti h1
  have t2 : (lN y).toInt = (y : Int) := gl_ti h2
  cases hb : Nat.beq x y with
  | true =>
    have e := gb_beq hb
    subst e
    show gx_N dk 0 = _
    simp [lg_cmp, gn_c (dk := dk) (show 0 < 4294967296 by decide), nI_0]
  | false =>
    have hn := gb_nbeq hb
    cases hl : Nat.ble (Nat.succ x) y with
    | true =>
      have hlt : x < y := gb_ble hl
      show gx_N dk 4294967295 = _
      have q : ¬ lN y < lN x := by rw [Int64.lt_iff_toInt_lt, t1, t2]; omega
      have q2 : lN x < lN y := by rw [Int64.lt_iff_toInt_lt, t1, t2]; omega
      have q3 : ¬ lN x = lN y := fun e => by rw [e, t2] at t1; omega
      rw [gn_c (show 4294967295 < 4294967296 by decide)]
      simp [lg_cmp, q, q2, q3]
      decide +kernel
    | false =>
      have hlt := gb_nble hl
      show gx_N dk 1 = _
      have q : lN y < lN x := by rw [Int64.lt_iff_toInt_lt, t1, t2]; omega
      rw [gn_c (show 1 < 4294967296 by decide)]
      simp [lg_cmp, q]
      decide +kernel
end OPM
