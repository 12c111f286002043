/-! OPERATIONS OF THE SMALL MACHINE: each goes on with what it has made; false where it is stuck. -/
noncomputable def gx_cc (x y : Nat) : Bool := Nat.ble (Nat.lor x y) 4294967295
noncomputable def gx_add (x y : Nat) (k : Nat → Bool) : Bool := Bool.rec (motive := fun _ => Bool)
  (Bool.rec (motive := fun _ => Bool) (Bool.rec (motive := fun _ => Bool) false (k (gx_low y (Nat.add x y))) (Nat.ble x 4294967295)) (k (gx_low x (Nat.add x y))) (Nat.ble y 4294967295))
  (k (Nat.mod (Nat.add x y) 4294967296)) (gx_cc x y)
noncomputable def gx_sub (x y : Nat) (k : Nat → Bool) : Bool := Bool.rec (motive := fun _ => Bool)
  (Bool.rec (motive := fun _ => Bool)
    (Bool.rec (motive := fun _ => Bool)
      (Bool.rec (motive := fun _ => Bool) false (k (Nat.add y 25769803776)) (Bool.and (Nat.beq x (Nat.add y 21474836480)) (Bool.and (Nat.beq (Nat.mod y 4294967296) 0) (Nat.beq (Nat.mod (Nat.div y 4294967296) 32) 10))))
      (k (Nat.add (Nat.mul (Nat.sub (Nat.div y 4294967296) 2) 4294967296) (Nat.mod (Nat.sub (Nat.add x 4294967296) (Nat.mod y 4294967296)) 4294967296)))
      (Bool.and (Nat.ble x 4294967295) (Bool.and (Nat.beq (Nat.mod (Nat.div y 4294967296) 4) 2) (Nat.ble 17179869184 y))))
    (k (gx_low x (Nat.sub (Nat.add x 4294967296) y))) (Nat.ble y 4294967295))
  (k (Nat.mod (Nat.sub (Nat.add x 4294967296) y) 4294967296)) (gx_cc x y)
noncomputable def gx_neg (x : Nat) (k : Nat → Bool) : Bool := Bool.rec (motive := fun _ => Bool)
  (Bool.rec (motive := fun _ => Bool)
    (Bool.rec (motive := fun _ => Bool) false (k (Nat.add (Nat.mul (Nat.sub (Nat.div x 4294967296) 2) 4294967296) (Nat.mod (Nat.sub 4294967296 (Nat.mod x 4294967296)) 4294967296))) (Bool.and (Nat.beq (Nat.mod (Nat.div x 4294967296) 4) 2) (Nat.ble 17179869184 x)))
    (k (Nat.add (Nat.mul (Nat.add (Nat.div x 4294967296) 2) 4294967296) (Nat.mod (Nat.sub 4294967296 (Nat.mod x 4294967296)) 4294967296))) (Nat.beq (Nat.mod (Nat.div x 4294967296) 4) 0))
  (k (Nat.mod (Nat.sub 4294967296 x) 4294967296)) (Nat.ble x 4294967295)
noncomputable def gx_mul (x y : Nat) (k : Nat → Bool) : Bool := Bool.rec (motive := fun _ => Bool)
  (Bool.rec (motive := fun _ => Bool) false (k (Nat.add x 4294967296)) (Bool.and (Nat.beq y 10) (Bool.and (Nat.beq (Nat.mod x 4294967296) 0) (Nat.beq (Nat.mod (Nat.div x 4294967296) 4) 2))))
  (k (Nat.mod (Nat.mul x y) 4294967296)) (gx_cc x y)
noncomputable def gx_div (x y : Nat) (k : Nat → Bool) : Bool := Bool.rec (motive := fun _ => Bool)
  (Bool.rec (motive := fun _ => Bool) false
    (Bool.rec (motive := fun _ => Bool) (Bool.rec (motive := fun _ => Bool) false (k (Nat.add x 17179869184)) (Nat.beq (Nat.mod (Nat.div x 4294967296) 32) 10)) (k 0) (Nat.beq (Nat.mod (Nat.div x 4294967296) 32) 6))
    (Bool.and (Nat.beq y 10) (Bool.and (Nat.ble 4294967296 x) (Nat.beq (Nat.mod x 4294967296) 0))))
  (k (Nat.div x y)) (Bool.and (Nat.ble (Nat.lor x y) 2147483647) (Nat.ble 1 y))
noncomputable def gx_rem (x y : Nat) (k : Nat → Bool) : Bool := Bool.rec (motive := fun _ => Bool) false (k (Nat.mod x y)) (Bool.and (Nat.ble (Nat.lor x y) 2147483647) (Nat.ble 1 y))
noncomputable def gx_and (x y : Nat) (k : Nat → Bool) : Bool := Bool.rec (motive := fun _ => Bool)
  (Bool.rec (motive := fun _ => Bool) false (k x) (Bool.and (Nat.beq y 255) (gx_in x 0 255))) (k (Nat.land x y)) (gx_cc x y)
noncomputable def gx_or (x y : Nat) (k : Nat → Bool) : Bool := Bool.rec (motive := fun _ => Bool)
  (Bool.rec (motive := fun _ => Bool)
    (Bool.rec (motive := fun _ => Bool) false (k (gx_low y (Nat.add x y))) (Bool.and (Nat.ble x 4294967295) (Bool.and (Nat.beq (Nat.mod x 65536) 0) (Bool.and (gx_in y 0 65535) (Nat.ble 4294967296 y)))))
    (k x) (Nat.beq y 0))
  (k (Nat.lor x y)) (gx_cc x y)
noncomputable def gx_xor (x y : Nat) (k : Nat → Bool) : Bool := Bool.rec (motive := fun _ => Bool) false (k (Nat.xor x y)) (gx_cc x y)
noncomputable def gx_shl (x y : Nat) (k : Nat → Bool) : Bool := Bool.rec (motive := fun _ => Bool)
  (Bool.rec (motive := fun _ => Bool) false (k (Nat.add (Nat.mul (Nat.add (Nat.div x 4294967296) 1) 4294967296) (Nat.mod (Nat.mul (Nat.mod x 4294967296) 256) 4294967296))) (Bool.and (Nat.ble 4294967296 x) (Bool.and (Nat.beq y 8) (Nat.beq (Nat.mod (Nat.div x 4294967296) 4) 0))))
  (k (Nat.mod (Nat.shiftLeft x y) 4294967296)) (Bool.and (Nat.ble x 4294967295) (Nat.ble y 31))
noncomputable def gx_shr (x y : Nat) (k : Nat → Bool) : Bool := Bool.rec (motive := fun _ => Bool)
  (Bool.rec (motive := fun _ => Bool) false (k (Nat.div (Nat.sub (gx_bl x) 2147483648) 65536))
    (Bool.and (gx_ok x) (Bool.and (Nat.beq y 16) (Bool.and (Nat.ble 2147483648 (gx_bl x)) (Nat.beq (Nat.div (Nat.sub (gx_bl x) 2147483648) 65536) (Nat.div (Nat.sub (gx_bh x) 2147483648) 65536))))))
  (k (Nat.shiftRight x y)) (Bool.and (Nat.ble x 2147483647) (Nat.ble y 31))
noncomputable def gx_ushr (x y : Nat) (k : Nat → Bool) : Bool := Bool.rec (motive := fun _ => Bool)
  (Bool.rec (motive := fun _ => Bool) false (k 0) (Bool.and (Nat.beq y 8) (gx_in x 0 255))) (k (Nat.shiftRight x y)) (Bool.and (Nat.ble x 4294967295) (Nat.ble y 31))
noncomputable def gx_i2c (x : Nat) (k : Nat → Bool) : Bool := Bool.rec (motive := fun _ => Bool) (Bool.rec (motive := fun _ => Bool) false (k x) (gx_in x 0 65535)) (k (Nat.mod x 65536)) (Nat.ble x 4294967295)
noncomputable def gx_i2b (x : Nat) (k : Nat → Bool) : Bool := Bool.rec (motive := fun _ => Bool) (Bool.rec (motive := fun _ => Bool) false (k x) (gx_in x 0 127)) (k x) (Nat.ble x 127)
/-- x < y -/
noncomputable def gx_lt (x y : Nat) (kt kf : Bool) : Bool := Bool.rec (motive := fun _ => Bool)
  (Bool.rec (motive := fun _ => Bool) false (Bool.rec (motive := fun _ => Bool) (Bool.rec (motive := fun _ => Bool) false kf (Nat.ble (gx_bh y) (gx_bl x))) kt (Nat.ble (Nat.succ (gx_bh x)) (gx_bl y))) (Bool.and (gx_ok x) (gx_ok y)))
  (Bool.rec (motive := fun _ => Bool) kf kt (Nat.ble (Nat.succ x) y)) (Nat.ble (Nat.lor x y) 2147483647)
/-- x = y -/
noncomputable def gx_eq (x y : Nat) (kt kf : Bool) : Bool := Bool.rec (motive := fun _ => Bool)
  (Bool.rec (motive := fun _ => Bool) (Bool.rec (motive := fun _ => Bool) false kf (Bool.and (Bool.and (gx_ok x) (gx_ok y)) (Bool.or (Nat.ble (Nat.succ (gx_bh x)) (gx_bl y)) (Nat.ble (Nat.succ (gx_bh y)) (gx_bl x))))) kt (Nat.beq x y))
  (Bool.rec (motive := fun _ => Bool) kf kt (Nat.beq x y)) (gx_cc x y)
theorem go_cc {x y : Nat} (h : gx_cc x y = true) : x < 4294967296 ∧ y < 4294967296 := gb_lor (n := 32) h
theorem go_cc3 {x y : Nat} (h : Nat.ble (Nat.lor x y) 2147483647 = true) : x < 2147483648 ∧ y < 2147483648 := gb_lor (n := 31) h
theorem go_and {a b : Bool} (h : Bool.and a b = true) : a = true ∧ b = true := by cases a <;> cases b <;> simp_all
section OPN
variable {dk : Nat → Nat} {x y : Nat} {k : Nat → Bool} {kt kf : Bool}
theorem go_add (h : gx_add x y k = true) : ∃ z, k z = true ∧ gx_N dk z = gx_N dk x + gx_N dk y := by
  rcases gb_true h with ⟨hc, h⟩ | ⟨hc, h⟩
  · obtain ⟨h1, h2⟩ := go_cc hc
    refine ⟨_, h, ?_⟩
    rw [gn_c h1, gn_c h2]
    show gx_N dk ((x + y) % 4294967296) = _
    rw [gn_c (Nat.mod_lt _ (by decide)), gn_mod, nI_add]
  · rcases gb_true h with ⟨hc2, h⟩ | ⟨hc2, h⟩
    · have h2 := gb_ble hc2
      have h1 : ¬ x < 4294967296 := fun h1 => by
        have : x ||| y < 2 ^ 32 := Nat.or_lt_two_pow h1 (by omega)
        have h9 : 4294967295 < x ||| y := gb_nble hc
        omega
      refine ⟨_, h, ?_⟩
      rw [gn_lowN h1, gn_c (show y < 4294967296 by omega), gx_N, if_neg h1]
      show nI (x + y) + _ = _
      rw [← nI_add, Int32.add_assoc, Int32.add_comm (nI y), Int32.add_assoc]
    · obtain ⟨hc3, h⟩ := gb_t h
      have h1 := gb_ble hc3
      have h2 := gb_nble hc2
      refine ⟨_, h, ?_⟩
      rw [gn_lowN (show ¬ y < 4294967296 by omega), gn_c (show x < 4294967296 by omega), gx_N, if_neg (show ¬ y < 4294967296 by omega)]
      show nI (x + y) + _ = _
      rw [← nI_add, Int32.add_assoc]
theorem gn_sub' {x y : Nat} (hy : y ≤ x + 4294967296) : nI (x + 4294967296 - y) = nI x - nI y := by
  rw [← gn_of, ← gn_of, ← gn_of, gn_sub, show ((x + 4294967296 - y : Nat) : Int) = ((x : Int) - y) + 4294967296 by omega, gn_per]
theorem gn_eta (dk : Nat → Nat) {x : Nat} (h : ¬ x < 4294967296) : gx_N dk x = nI (x % 4294967296) + Int32.ofInt (gx_sc (x / 4294967296 % 4)) * nI (dk (x / 4294967296 / 4)) := by
  rw [gx_N, if_neg h, gn_mod]
theorem go_sub (hd : gx_D dk) (h : gx_sub x y k = true) : ∃ z, k z = true ∧ gx_N dk z = gx_N dk x - gx_N dk y := by
  rcases gb_true h with ⟨hc, h⟩ | ⟨hc, h⟩
  · obtain ⟨h1, h2⟩ := go_cc hc
    refine ⟨_, h, ?_⟩
    rw [gn_c h1, gn_c h2]
    show gx_N dk ((x + 4294967296 - y) % 4294967296) = _
    rw [gn_c (Nat.mod_lt _ (by decide)), gn_mod, gn_sub' (by omega)]
  · rcases gb_true h with ⟨hc2, h⟩ | ⟨hc2, h⟩
    · have h2 := gb_ble hc2
      have h1 : ¬ x < 4294967296 := fun h1 => by
        have : x ||| y < 2 ^ 32 := Nat.or_lt_two_pow h1 (by omega)
        have h9 : 4294967295 < x ||| y := gb_nble hc
        omega
      refine ⟨_, h, ?_⟩
      rw [gn_lowN h1, gn_c (show y < 4294967296 by omega), gx_N, if_neg h1]
      show nI (x + 4294967296 - y) + _ = _
      rw [gn_sub' (by omega), Int32.sub_eq_add_neg, Int32.sub_eq_add_neg, Int32.add_assoc, Int32.add_comm (-nI y), Int32.add_assoc]
    · have h2 := gb_nble hc2
      rcases gb_true h with ⟨hc3, h⟩ | ⟨hc3, h⟩
      · obtain ⟨c1, c2⟩ := go_and hc3
        obtain ⟨c2, c3⟩ := go_and c2
        have c1 := gb_ble c1
        have c2 : y / 4294967296 % 4 = 2 := gb_beq c2
        have c3 := gb_ble c3
        refine ⟨_, h, ?_⟩
        have e : Nat.add (Nat.mul (Nat.sub (Nat.div y 4294967296) 2) 4294967296) (Nat.mod (Nat.sub (Nat.add x 4294967296) (Nat.mod y 4294967296)) 4294967296) = (y / 4294967296 - 2) * 4294967296 + (x + 4294967296 - y % 4294967296) % 4294967296 := rfl
        have hne : ¬ (y / 4294967296 - 2) * 4294967296 + (x + 4294967296 - y % 4294967296) % 4294967296 < 4294967296 := by omega
        rw [e, gn_c (show x < 4294967296 by omega), gn_eta dk (show ¬ y < 4294967296 by omega), c2, gn_eta dk hne]
        have e1 : ((y / 4294967296 - 2) * 4294967296 + (x + 4294967296 - y % 4294967296) % 4294967296) % 4294967296 = (x + 4294967296 - y % 4294967296) % 4294967296 := by omega
        have e2 : ((y / 4294967296 - 2) * 4294967296 + (x + 4294967296 - y % 4294967296) % 4294967296) / 4294967296 = y / 4294967296 - 2 := by omega
        rw [e1, e2, gn_mod, gn_sub' (by omega), show (y / 4294967296 - 2) % 4 = 0 by omega, show (y / 4294967296 - 2) / 4 = y / 4294967296 / 4 by omega]
        generalize nI (dk (y / 4294967296 / 4)) = d
        generalize nI (y % 4294967296) = w
        generalize nI x = v
        rw [show Int32.ofInt (gx_sc 0) = 1 from rfl, show Int32.ofInt (gx_sc 2) = -1 from rfl, Int32.one_mul, Int32.neg_mul, Int32.one_mul, Int32.sub_eq_add_neg, Int32.sub_eq_add_neg, Int32.neg_add, Int32.sub_eq_add_neg, Int32.neg_neg, Int32.add_assoc]
      · obtain ⟨hc4, h⟩ := gb_t h
        obtain ⟨c1, c2⟩ := go_and hc4
        obtain ⟨c2, c3⟩ := go_and c2
        have c1 : x = y + 21474836480 := gb_beq c1
        have c2 : y % 4294967296 = 0 := gb_beq c2
        have c3 : y / 4294967296 % 32 = 10 := gb_beq c3
        refine ⟨_, h, ?_⟩
        show gx_N dk (y + 25769803776) = _
        obtain ⟨d1, d2⟩ := hd.2 (y / 4294967296 / 4) (by omega)
        rw [gn_int (show ¬ y + 25769803776 < 4294967296 by omega), gn_int (show ¬ x < 4294967296 by omega), gn_int (show ¬ y < 4294967296 by omega), gn_sub]
        rw [show (y + 25769803776) % 4294967296 = 0 by omega, show x % 4294967296 = 0 by omega, c2, show (y + 25769803776) / 4294967296 % 4 = 0 by omega, show x / 4294967296 % 4 = 3 by omega, show y / 4294967296 % 4 = 2 by omega,
          show (y + 25769803776) / 4294967296 / 4 = y / 4294967296 / 4 + 2 by omega, show x / 4294967296 / 4 = y / 4294967296 / 4 + 1 by omega, d1, d2, show gx_sc 0 = 1 from rfl, show gx_sc 3 = -10 from rfl, show gx_sc 2 = -1 from rfl]
        congr 1
        omega
theorem go_neg (h : gx_neg x k = true) : ∃ z, k z = true ∧ gx_N dk z = - gx_N dk x := by
  have key : ∀ w : Nat, w ≤ 4294967296 → nI (4294967296 - w) = - nI w := fun w hw => by
    have := gn_sub' (x := 0) (y := w) (by omega)
    rw [show 0 + 4294967296 - w = 4294967296 - w by omega] at this
    rw [this, nI_0, Int32.zero_sub]
  rcases gb_true h with ⟨hc, h⟩ | ⟨hc, h⟩
  · have h1 := gb_ble hc
    refine ⟨_, h, ?_⟩
    show gx_N dk ((4294967296 - x) % 4294967296) = _
    rw [gn_c (Nat.mod_lt _ (by decide)), gn_mod, gn_c (show x < 4294967296 by omega), key x (by omega)]
  · have h1 := gb_nble hc
    rcases gb_true h with ⟨hc2, h⟩ | ⟨-, h⟩
    · have c2 : x / 4294967296 % 4 = 0 := gb_beq hc2
      refine ⟨_, h, ?_⟩
      show gx_N dk ((x / 4294967296 + 2) * 4294967296 + (4294967296 - x % 4294967296) % 4294967296) = _
      have hne : ¬ (x / 4294967296 + 2) * 4294967296 + (4294967296 - x % 4294967296) % 4294967296 < 4294967296 := by omega
      have e1 : ((x / 4294967296 + 2) * 4294967296 + (4294967296 - x % 4294967296) % 4294967296) % 4294967296 = (4294967296 - x % 4294967296) % 4294967296 := by omega
      have e2 : ((x / 4294967296 + 2) * 4294967296 + (4294967296 - x % 4294967296) % 4294967296) / 4294967296 = x / 4294967296 + 2 := by omega
      rw [gn_eta dk hne, gn_eta dk (show ¬ x < 4294967296 by omega), e1, e2, c2, gn_mod, key _ (by omega), show (x / 4294967296 + 2) % 4 = 2 by omega, show (x / 4294967296 + 2) / 4 = x / 4294967296 / 4 by omega]
      rw [show Int32.ofInt (gx_sc 0) = 1 from rfl, show Int32.ofInt (gx_sc 2) = -1 from rfl, Int32.one_mul, Int32.neg_mul, Int32.one_mul, Int32.neg_add, Int32.sub_eq_add_neg]
    · obtain ⟨hc3, h⟩ := gb_t h
      obtain ⟨c2, c3⟩ := go_and hc3
      have c2 : x / 4294967296 % 4 = 2 := gb_beq c2
      have c3 := gb_ble c3
      refine ⟨_, h, ?_⟩
      show gx_N dk ((x / 4294967296 - 2) * 4294967296 + (4294967296 - x % 4294967296) % 4294967296) = _
      have hne : ¬ (x / 4294967296 - 2) * 4294967296 + (4294967296 - x % 4294967296) % 4294967296 < 4294967296 := by omega
      have e1 : ((x / 4294967296 - 2) * 4294967296 + (4294967296 - x % 4294967296) % 4294967296) % 4294967296 = (4294967296 - x % 4294967296) % 4294967296 := by omega
      have e2 : ((x / 4294967296 - 2) * 4294967296 + (4294967296 - x % 4294967296) % 4294967296) / 4294967296 = x / 4294967296 - 2 := by omega
      rw [gn_eta dk hne, gn_eta dk (show ¬ x < 4294967296 by omega), e1, e2, c2, gn_mod, key _ (by omega), show (x / 4294967296 - 2) % 4 = 0 by omega, show (x / 4294967296 - 2) / 4 = x / 4294967296 / 4 by omega]
      rw [show Int32.ofInt (gx_sc 0) = 1 from rfl, show Int32.ofInt (gx_sc 2) = -1 from rfl, Int32.one_mul, Int32.neg_mul, Int32.one_mul, Int32.neg_add, Int32.sub_eq_add_neg, Int32.neg_neg]
theorem go_mul (h : gx_mul x y k = true) : ∃ z, k z = true ∧ gx_N dk z = gx_N dk x * gx_N dk y := by
  rcases gb_true h with ⟨hc, h⟩ | ⟨hc, h⟩
  · obtain ⟨h1, h2⟩ := go_cc hc
    refine ⟨_, h, ?_⟩
    rw [gn_c h1, gn_c h2]
    show gx_N dk ((x * y) % 4294967296) = _
    rw [gn_c (Nat.mod_lt _ (by decide)), gn_mod, pk_mul]
  · obtain ⟨hc, h⟩ := gb_t h
    obtain ⟨c1, c2⟩ := go_and hc
    obtain ⟨c2, c3⟩ := go_and c2
    have c1 : y = 10 := gb_beq c1
    have c2 : x % 4294967296 = 0 := gb_beq c2
    have c3 : x / 4294967296 % 4 = 2 := gb_beq c3
    refine ⟨_, h, ?_⟩
    show gx_N dk (x + 4294967296) = _
    subst c1
    rw [gn_int (show ¬ x + 4294967296 < 4294967296 by omega), gn_int (show ¬ x < 4294967296 by omega), gn_c (show 10 < 4294967296 by decide), ← gn_of 10, gn_mul]
    rw [show (x + 4294967296) % 4294967296 = 0 by omega, c2, show (x + 4294967296) / 4294967296 % 4 = 3 by omega, c3, show (x + 4294967296) / 4294967296 / 4 = x / 4294967296 / 4 by omega, show gx_sc 3 = -10 from rfl, show gx_sc 2 = -1 from rfl]
    congr 1
    omega
theorem gn_and (a b : Nat) : nI a &&& nI b = nI (a &&& b) := by
  apply Int32.toBitVec_inj.mp
  rw [Int32.toBitVec_and, gn_bv, gn_bv, gn_bv]
  apply BitVec.eq_of_toNat_eq
  rw [BitVec.toNat_and, BitVec.toNat_ofNat, BitVec.toNat_ofNat, BitVec.toNat_ofNat, Nat.and_mod_two_pow]
theorem gn_or (a b : Nat) : nI a ||| nI b = nI (a ||| b) := by
  apply Int32.toBitVec_inj.mp
  rw [Int32.toBitVec_or, gn_bv, gn_bv, gn_bv]
  apply BitVec.eq_of_toNat_eq
  rw [BitVec.toNat_or, BitVec.toNat_ofNat, BitVec.toNat_ofNat, BitVec.toNat_ofNat, Nat.or_mod_two_pow]
theorem gn_xor (a b : Nat) : nI a ^^^ nI b = nI (a ^^^ b) := by
  apply Int32.toBitVec_inj.mp
  rw [Int32.toBitVec_xor, gn_bv, gn_bv, gn_bv]
  apply BitVec.eq_of_toNat_eq
  rw [BitVec.toNat_xor, BitVec.toNat_ofNat, BitVec.toNat_ofNat, BitVec.toNat_ofNat, Nat.xor_mod_two_pow]
theorem go_and2 (hd : gx_D dk) (h : gx_and x y k = true) : ∃ z, k z = true ∧ gx_N dk z = gx_N dk x &&& gx_N dk y := by
  rcases gb_true h with ⟨hc, h⟩ | ⟨hc, h⟩
  · obtain ⟨h1, h2⟩ := go_cc hc
    refine ⟨_, h, ?_⟩
    show gx_N dk (x &&& y) = _
    rw [gn_c h1, gn_c h2, gn_and, gn_c (Nat.lt_of_le_of_lt Nat.and_le_left h1)]
  · obtain ⟨hc, h⟩ := gb_t h
    obtain ⟨c1, c2⟩ := go_and hc
    have c1 : y = 255 := gb_beq c1
    obtain ⟨z, z1, z2, z3, -⟩ := gn_in hd c2
    refine ⟨_, h, ?_⟩
    subst c1
    rw [z3, gn_c (show 255 < 4294967296 by decide), gn_and, show z &&& 255 = z % 2 ^ 8 from Nat.and_two_pow_sub_one_eq_mod _ 8, Nat.mod_eq_of_lt (by omega)]
theorem go_or (hd : gx_D dk) (h : gx_or x y k = true) : ∃ z, k z = true ∧ gx_N dk z = gx_N dk x ||| gx_N dk y := by
  rcases gb_true h with ⟨hc, h⟩ | ⟨hc, h⟩
  · obtain ⟨h1, h2⟩ := go_cc hc
    refine ⟨_, h, ?_⟩
    show gx_N dk (x ||| y) = _
    rw [gn_c h1, gn_c h2, gn_or, gn_c (Nat.or_lt_two_pow (n := 32) h1 h2)]
  · rcases gb_true h with ⟨hc, h⟩ | ⟨hc, h⟩
    · have hy : y = 0 := gb_beq hc
      subst hy
      refine ⟨_, h, ?_⟩
      rw [gn_c (show 0 < 4294967296 by decide), nI_0, Int32.or_zero]
    · obtain ⟨hc, h⟩ := gb_t h
      obtain ⟨c1, c2⟩ := go_and hc
      obtain ⟨c2, c3⟩ := go_and c2
      obtain ⟨c3, c4⟩ := go_and c3
      have c1 := gb_ble c1
      have c2 : x % 65536 = 0 := gb_beq c2
      have c4 := gb_ble c4
      obtain ⟨z, z1, z2, z3, -⟩ := gn_in hd c3
      refine ⟨_, h, ?_⟩
      have hy : ¬ y < 4294967296 := by omega
      have z4 := z3
      rw [gx_N, if_neg hy] at z4
      rw [gn_lowN hy, z3, gn_c (show x < 4294967296 by omega), gn_or]
      show nI (x + y) + _ = _
      rw [← nI_add, Int32.add_assoc, z4, nI_add]
      congr 1
      obtain ⟨c, rfl⟩ : ∃ c, x = 2 ^ 16 * c := ⟨x / 65536, by omega⟩
      rw [Nat.two_pow_add_eq_or_of_lt (by omega : z < 2 ^ 16)]
theorem go_xor (h : gx_xor x y k = true) : ∃ z, k z = true ∧ gx_N dk z = gx_N dk x ^^^ gx_N dk y := by
  obtain ⟨hc, h⟩ := gb_t h
  obtain ⟨h1, h2⟩ := go_cc hc
  refine ⟨_, h, ?_⟩
  show gx_N dk (x ^^^ y) = _
  rw [gn_c h1, gn_c h2, gn_xor, gn_c (Nat.xor_lt_two_pow (n := 32) h1 h2)]
theorem go_i2c (hd : gx_D dk) (h : gx_i2c x k = true) : ∃ z, k z = true ∧ gx_N dk z = ((gx_N dk x).toUInt32 % 65536).toInt32 := by
  rcases gb_true h with ⟨hc, h⟩ | ⟨hc, h⟩
  · have h1 := gb_ble hc
    refine ⟨_, h, ?_⟩
    show gx_N dk (x % 65536) = _
    rw [gn_c (show x % 65536 < 4294967296 by omega), gn_c (show x < 4294967296 by omega)]
    refine Eq.trans ?_ (pk_char (nI x)).symm
    rw [pk_tn (by omega)]
  · obtain ⟨hc, h⟩ := gb_t h
    obtain ⟨z, z1, z2, z3, -⟩ := gn_in hd hc
    refine ⟨_, h, ?_⟩
    rw [z3]
    refine Eq.trans ?_ (pk_char (nI z)).symm
    rw [pk_tn (by omega), Nat.mod_eq_of_lt (by omega)]
theorem go_i2b (hd : gx_D dk) (h : gx_i2b x k = true) : ∃ z, k z = true ∧ gx_N dk z = (gx_N dk x).toInt8.toInt32 := by
  have key : ∀ n : Fin 128, (nI n.val).toInt8.toInt32 = nI n.val := by decide +kernel
  rcases gb_true h with ⟨hc, h⟩ | ⟨hc, h⟩
  · have h1 := gb_ble hc
    refine ⟨_, h, ?_⟩
    rw [gn_c (show x < 4294967296 by omega)]
    exact (key ⟨x, by omega⟩).symm
  · obtain ⟨hc, h⟩ := gb_t h
    obtain ⟨z, z1, z2, z3, -⟩ := gn_in hd hc
    refine ⟨_, h, ?_⟩
    rw [z3]
    exact (key ⟨z, by omega⟩).symm
theorem go_lt (hd : gx_D dk) (h : gx_lt x y kt kf = true) : (gx_N dk x < gx_N dk y ∧ kt = true) ∨ (¬ gx_N dk x < gx_N dk y ∧ kf = true) := by
  rcases gb_true h with ⟨hc, h⟩ | ⟨hc, h⟩
  · obtain ⟨h1, h2⟩ := go_cc3 hc
    rw [gn_c (show x < 4294967296 by omega), gn_c (show y < 4294967296 by omega)]
    have e := nI_ltI h1 h2
    rcases gb_true h with ⟨hc, h⟩ | ⟨hc, h⟩
    · exact Or.inl ⟨e.mpr (gb_ble hc), h⟩
    · have := gb_nble hc
      exact Or.inr ⟨fun q => absurd (e.mp q) (by omega), h⟩
  · obtain ⟨hc, h⟩ := gb_t h
    obtain ⟨c1, c2⟩ := go_and hc
    obtain ⟨u, u1, u2, u3, u4, u5⟩ := gn_rng hd c1
    obtain ⟨v, v1, v2, v3, v4, v5⟩ := gn_rng hd c2
    rw [u3, v3, Int32.lt_iff_toInt_lt, gn_ti u4 u5, gn_ti v4 v5]
    rcases gb_true h with ⟨hc, h⟩ | ⟨hc, h⟩
    · have := gb_ble hc
      exact Or.inl ⟨by omega, h⟩
    · obtain ⟨hc, h⟩ := gb_t h
      have := gb_ble hc
      exact Or.inr ⟨by omega, h⟩
theorem gn_inj {a b : Nat} (h1 : a < 4294967296) (h2 : b < 4294967296) (e : nI a = nI b) : a = b := by
  have e := congrArg Int32.toBitVec e
  rw [gn_bv, gn_bv] at e
  have e := congrArg BitVec.toNat e
  rw [BitVec.toNat_ofNat, BitVec.toNat_ofNat] at e
  omega
theorem go_eq (hd : gx_D dk) (h : gx_eq x y kt kf = true) : (gx_N dk x = gx_N dk y ∧ kt = true) ∨ (¬ gx_N dk x = gx_N dk y ∧ kf = true) := by
  rcases gb_true h with ⟨hc, h⟩ | ⟨hc, h⟩
  · obtain ⟨h1, h2⟩ := go_cc hc
    rw [gn_c h1, gn_c h2]
    rcases gb_true h with ⟨hc, h⟩ | ⟨hc, h⟩
    · exact Or.inl ⟨by rw [gb_beq hc], h⟩
    · exact Or.inr ⟨fun q => gb_nbeq hc (gn_inj h1 h2 q), h⟩
  · rcases gb_true h with ⟨hc, h⟩ | ⟨hc, h⟩
    · exact Or.inl ⟨by rw [gb_beq hc], h⟩
    · obtain ⟨hc, h⟩ := gb_t h
      obtain ⟨c1, c3⟩ := go_and hc
      obtain ⟨c1, c2⟩ := go_and c1
      obtain ⟨u, u1, u2, u3, u4, u5⟩ := gn_rng hd c1
      obtain ⟨v, v1, v2, v3, v4, v5⟩ := gn_rng hd c2
      refine Or.inr ⟨fun q => ?_, h⟩
      rw [u3, v3] at q
      have q := congrArg Int32.toInt q
      rw [gn_ti u4 u5, gn_ti v4 v5] at q
      have c3 : (Nat.ble (Nat.succ (gx_bh x)) (gx_bl y) || Nat.ble (Nat.succ (gx_bh y)) (gx_bl x)) = true := c3
      simp only [Bool.or_eq_true] at c3
      rcases c3 with c3 | c3
      · have := gb_ble c3; omega
      · have := gb_ble c3; omega
end OPN
