/-! NUMBERS: what an operation answers is right. -/
section NUM
variable {G : fxG} {ad : List Bool → Nat}
theorem fn_tn (x : Int32) : nI x.toBitVec.toNat = x := by
  apply Int32.toBitVec_inj.mp
  show (Int32.ofNat _).toBitVec = _
  rw [Int32.toBitVec_ofNat']
  apply BitVec.eq_of_toNat_eq
  rw [BitVec.toNat_ofNat]
  exact Nat.mod_eq_of_lt x.toBitVec.isLt
theorem fn_tl (x : Int64) : lN x.toBitVec.toNat = x := by
  apply Int64.toBitVec_inj.mp
  show (Int64.ofNat _).toBitVec = _
  rw [Int64.toBitVec_ofNat']
  apply BitVec.eq_of_toNat_eq
  rw [BitVec.toNat_ofNat]
  exact Nat.mod_eq_of_lt x.toBitVec.isLt
theorem fn_bv (n : Nat) : (nI n).toBitVec = BitVec.ofNat 32 n := Int32.toBitVec_ofNat' ..
theorem fn_mod (n : Nat) : nI (n % 4294967296) = nI n := by
  apply Int32.toBitVec_inj.mp
  rw [fn_bv, fn_bv]
  apply BitVec.eq_of_toNat_eq
  simp [BitVec.toNat_ofNat]
theorem fn_con {n : Nat} (h : n < 4294967296) : nI n = Int32.ofInt (fx_con n) := by
  apply Int32.toBitVec_inj.mp
  rw [fn_bv, Int32.toBitVec_ofInt]
  apply BitVec.eq_of_toNat_eq
  rw [BitVec.toNat_ofNat, BitVec.toNat_ofInt]
  unfold fx_con
  split <;> omega
theorem fn_con2 (n : Nat) : nI n = Int32.ofInt (fx_con (n % 4294967296)) := by
  rw [← fn_mod n]
  exact fn_con (Nat.mod_lt _ (by decide))
theorem fn_ti {z : Int} (h1 : -2147483648 ≤ z) (h2 : z < 2147483648) : (Int32.ofInt z).toInt = z := by
  rw [Int32.toInt_ofInt]
  show z.bmod (2 ^ 32) = z
  rw [Int.bmod_def]
  split <;> omega
theorem fn_ni {n : Nat} (h : n < 2147483648) : Int32.ofInt (n : Int) = nI n := by
  rw [fn_con (by omega), fx_con, if_pos h]
theorem fn_add (a b : Int) : Int32.ofInt a + Int32.ofInt b = Int32.ofInt (a + b) := (Int32.ofInt_add ..).symm
theorem fn_sub (a b : Int) : Int32.ofInt a - Int32.ofInt b = Int32.ofInt (a - b) := (Int32.ofInt_sub ..).symm
theorem fn_neg (a : Int) : - Int32.ofInt a = Int32.ofInt (-a) := (Int32.ofInt_neg ..).symm
theorem fn_mul (a b : Int) : Int32.ofInt a * Int32.ofInt b = Int32.ofInt (a * b) := (Int32.ofInt_mul ..).symm
/-- a value in a range is a number in it -/
theorem fn_rng (hd : fxDk G) {v : fxV} {q : Int × Int} (h : fx_rng v = some q) : ∃ z : Int, q.1 ≤ z ∧ z ≤ q.2 ∧ fx_den G ad v = .int (Int32.ofInt z) ∧ fx_kd v ≠ 1 ∧ fx_kd v ≠ 2 := by
  rcases v with n | p | n | ⟨k, o, s⟩
  · have h : (if n < 4294967296 then some (fx_con n, fx_con n) else none) = some q := h
    split at h
    · next hn =>
      obtain rfl := Option.some.inj h
      exact ⟨fx_con n, Int.le_refl _, Int.le_refl _, congrArg Value.int (fn_con hn), by show (0 : Nat) ≠ 1; decide, by show (0 : Nat) ≠ 2; decide⟩
    · exact nomatch h
  · cases p <;> exact nomatch h
  · exact nomatch h
  · have h : (match fx_rk k with
      | some (a, b) => if 0 ≤ s then some (o + s * a, o + s * b) else some (o + s * b, o + s * a)
      | none => none) = some q := h
    cases hk : fx_rk k with
    | none => rw [hk] at h; exact nomatch h
    | some r =>
      obtain ⟨a, b⟩ := r
      rw [hk] at h
      obtain ⟨h1, h2⟩ := hd k _ hk
      have h1 : a ≤ (fg_dk G k : Int) := h1
      have h2 : (fg_dk G k : Int) ≤ b := h2
      have hkd : fx_kd (.inr (.inr (.inr (k, o, s)))) ≠ 1 ∧ fx_kd (.inr (.inr (.inr (k, o, s)))) ≠ 2 := by
        show Bool.rec (motive := fun _ => Nat) 0 3 (Nat.beq k 7) ≠ 1 ∧ Bool.rec (motive := fun _ => Nat) 0 3 (Nat.beq k 7) ≠ 2
        cases Nat.beq k 7 <;> decide
      refine ⟨o + s * (fg_dk G k : Int), ?_, ?_, rfl, hkd⟩
      · by_cases hs : 0 ≤ s
        · rw [show q = (o + s * a, o + s * b) from (Option.some.inj (by rw [← h]; exact (if_pos hs).symm)).symm]
          have := Int.mul_le_mul_of_nonneg_left h1 hs
          show o + s * a ≤ _
          omega
        · rw [show q = (o + s * b, o + s * a) from (Option.some.inj (by rw [← h]; exact (if_neg hs).symm)).symm]
          have := Int.mul_le_mul_of_nonpos_left (show s ≤ 0 by omega) h2
          show o + s * b ≤ _
          omega
      · by_cases hs : 0 ≤ s
        · rw [show q = (o + s * a, o + s * b) from (Option.some.inj (by rw [← h]; exact (if_pos hs).symm)).symm]
          have := Int.mul_le_mul_of_nonneg_left h2 hs
          show _ ≤ o + s * b
          omega
        · rw [show q = (o + s * b, o + s * a) from (Option.some.inj (by rw [← h]; exact (if_neg hs).symm)).symm]
          have := Int.mul_le_mul_of_nonpos_left (show s ≤ 0 by omega) h1
          show _ ≤ o + s * a
          omega
theorem fn_inq {q : Option (Int × Int)} {a b : Int} (h : fx_inq q a b = true) : ∃ r, q = some r ∧ a ≤ r.1 ∧ r.2 ≤ b := by
  cases q with
  | none => exact nomatch h
  | some r =>
    have h : (decide (a ≤ r.1) && decide (r.2 ≤ b)) = true := h
    simp only [Bool.and_eq_true, decide_eq_true_eq] at h
    exact ⟨r, rfl, h⟩
theorem fn_in (hd : fxDk G) {v : fxV} {a b : Int} (h : fx_inq (fx_rng v) a b = true) : ∃ z : Int, a ≤ z ∧ z ≤ b ∧ fx_den G ad v = .int (Int32.ofInt z) ∧ fx_kd v ≠ 1 ∧ fx_kd v ≠ 2 := by
  obtain ⟨r, h1, h2, h3⟩ := fn_inq h
  obtain ⟨z, h4, h5, h6⟩ := fn_rng (ad := ad) hd h1
  exact ⟨z, by omega, by omega, h6⟩
theorem fn_in32 {q : Int × Int} (h : fx_in32 q = true) : -2147483648 ≤ q.1 ∧ q.2 < 2147483648 := by
  unfold fx_in32 at h
  simp only [Bool.and_eq_true, decide_eq_true_eq] at h
  exact h
/-- comparisons -/
theorem fn_ltS (hd : fxDk G) {x y : fxV} {b : Bool} (h : fx_ltS x y = some b) : ∃ u v : Int32, fx_den G ad x = .int u ∧ fx_den G ad y = .int v ∧ (b = true ↔ u < v) := by
  unfold fx_ltS at h
  split at h
  · next p q hp hq =>
    obtain ⟨z, z1, z2, z3, -⟩ := fn_rng (ad := ad) hd hp
    obtain ⟨w, w1, w2, w3, -⟩ := fn_rng (ad := ad) hd hq
    split at h
    · next hi =>
      simp only [Bool.and_eq_true] at hi
      obtain ⟨i1, i2⟩ := hi
      have i1 := fn_in32 i1
      have i2 := fn_in32 i2
      refine ⟨_, _, z3, w3, ?_⟩
      rw [Int32.lt_iff_toInt_lt, fn_ti (by omega) (by omega), fn_ti (by omega) (by omega)]
      split at h
      · obtain rfl := Option.some.inj h
        simp only [true_iff]
        omega
      · split at h
        · obtain rfl := Option.some.inj h
          simp only [Bool.false_eq_true, false_iff]
          omega
        · exact nomatch h
    · exact nomatch h
  · exact nomatch h
theorem fn_lt (hd : fxDk G) {x y : fxV} {b : Bool} (h : fx_lt x y = some b) : ∃ u v : Int32, fx_den G ad x = .int u ∧ fx_den G ad y = .int v ∧ (b = true ↔ u < v) := by
  rcases x with a | x
  · rcases y with c | y
    · have h : Bool.rec (motive := fun _ => Option Bool) (fx_ltS (.inl a) (.inl c)) (some (Nat.blt a c)) (Bool.and (Nat.blt a 2147483648) (Nat.blt c 2147483648)) = some b := h
      cases hb : Bool.and (Nat.blt a 2147483648) (Nat.blt c 2147483648) with
      | false => rw [hb] at h; exact fn_ltS hd h
      | true =>
        rw [hb] at h
        obtain rfl := Option.some.inj h
        obtain ⟨h1, h2⟩ := fo_and hb
        refine ⟨_, _, rfl, rfl, ?_⟩
        rw [nI_ltI (fo_lt h1) (fo_lt h2)]
        simp [Nat.blt_eq]
    · exact fn_ltS hd h
  · exact fn_ltS hd h
theorem fn_eqS (hd : fxDk G) {x y : fxV} {b : Bool} (h : fx_eqS x y = some b) : ∃ u v : Int32, fx_den G ad x = .int u ∧ fx_den G ad y = .int v ∧ (b = true ↔ u = v) := by
  unfold fx_eqS at h
  split at h
  · next e =>
    obtain ⟨e, hi⟩ := e
    subst e
    obtain rfl := Option.some.inj h
    rcases x with n | p | n | ⟨k, o, s⟩
    · exact ⟨_, _, rfl, rfl, by simp⟩
    · exact nomatch hi
    · exact nomatch hi
    · exact ⟨_, _, rfl, rfl, by simp⟩
  · split at h
    · next p q hp hq =>
      obtain ⟨z, z1, z2, z3, -⟩ := fn_rng (ad := ad) hd hp
      obtain ⟨w, w1, w2, w3, -⟩ := fn_rng (ad := ad) hd hq
      split at h
      · next hi =>
        simp only [Bool.and_eq_true] at hi
        obtain ⟨i1, i2⟩ := hi
        have i1 := fn_in32 i1
        have i2 := fn_in32 i2
        refine ⟨_, _, z3, w3, ?_⟩
        have hne : ∀ u v : Int, -2147483648 ≤ u → u < 2147483648 → -2147483648 ≤ v → v < 2147483648 → u ≠ v → ¬ Int32.ofInt u = Int32.ofInt v := fun u v a1 a2 a3 a4 n e => n (by rw [← fn_ti a1 a2, e, fn_ti a3 a4])
        split at h
        · obtain rfl := Option.some.inj h
          simp only [Bool.false_eq_true, false_iff]
          exact hne _ _ (by omega) (by omega) (by omega) (by omega) (by omega)
        · split at h
          · obtain rfl := Option.some.inj h
            simp only [Bool.false_eq_true, false_iff]
            exact hne _ _ (by omega) (by omega) (by omega) (by omega) (by omega)
          · exact nomatch h
      · exact nomatch h
    · exact nomatch h
theorem fn_eq (hd : fxDk G) {x y : fxV} {b : Bool} (h : fx_eq x y = some b) : ∃ u v : Int32, fx_den G ad x = .int u ∧ fx_den G ad y = .int v ∧ (b = true ↔ u = v) := by
  rcases x with a | x
  · rcases y with c | y
    · have h : Bool.rec (motive := fun _ => Option Bool) (fx_eqS (.inl a) (.inl c)) (some (Nat.beq a c)) (Bool.and (Nat.blt a 4294967296) (Nat.blt c 4294967296)) = some b := h
      cases hb : Bool.and (Nat.blt a 4294967296) (Nat.blt c 4294967296) with
      | false => rw [hb] at h; exact fn_eqS hd h
      | true =>
        rw [hb] at h
        obtain rfl := Option.some.inj h
        obtain ⟨h1, h2⟩ := fo_and hb
        refine ⟨_, _, rfl, rfl, ?_⟩
        have e : nI a = nI c ↔ a = c := by
          refine ⟨fun e => ?_, fun e => by rw [e]⟩
          have e := congrArg Int32.toBitVec e
          rw [fn_bv, fn_bv] at e
          have e := congrArg BitVec.toNat e
          rw [BitVec.toNat_ofNat, BitVec.toNat_ofNat] at e
          have h1 := fo_lt h1
          have h2 := fo_lt h2
          omega
        rw [e]
        exact ⟨fun h => Nat.eq_of_beq_eq_true h, fun h => by rw [h]; exact Nat.beq_refl c⟩
    · exact fn_eqS hd h
  · exact fn_eqS hd h
/-- operations -/
def fxS2 (G : fxG) (f : fxV → fxV → Option fxV) (op : Int32 → Int32 → Int32) : Prop := fxDk G → ∀ (ad : List Bool → Nat) (x y v : fxV), f x y = some v → fx_kd v ≠ 1 ∧ ∃ a b : Int32, fx_den G ad x = .int a ∧ fx_den G ad y = .int b ∧ fx_den G ad v = .int (op a b)
def fxS1 (G : fxG) (f : fxV → Option fxV) (op : Int32 → Int32) : Prop := fxDk G → ∀ (ad : List Bool → Nat) (x v : fxV), f x = some v → fx_kd v ≠ 1 ∧ ∃ a : Int32, fx_den G ad x = .int a ∧ fx_den G ad v = .int (op a)
theorem fn_k0 {n : Nat} : fx_kd (.inl n) ≠ 1 := by show (0 : Nat) ≠ 1; decide
theorem fn_k3 {q : Nat × Int × Int} : fx_kd (.inr (.inr (.inr q))) ≠ 1 := by
  show Bool.rec (motive := fun _ => Nat) 0 3 (Nat.beq q.1 7) ≠ 1
  cases Nat.beq q.1 7 <;> decide
theorem fs_i2 {f : Int32 → Int32 → Int32} {a b : Nat} {v : fxV} (h : some (fx_i2 f a b) = some v) : fx_kd v ≠ 1 ∧ ∃ x y : Int32, fx_den G ad (.inl a) = .int x ∧ fx_den G ad (.inl b) = .int y ∧ fx_den G ad v = .int (f x y) := by
  obtain rfl := Option.some.inj h
  exact ⟨fn_k0, _, _, rfl, rfl, congrArg Value.int (fn_tn _)⟩
theorem fs_c2 (op : Int32 → Int32 → Int32) : fxS2 G (fx_c2 op) op := by
  intro hd ad x y v h
  rcases x with a | x <;> rcases y with b | y
  · exact fs_i2 h
  · exact nomatch h
  · exact nomatch h
  · exact nomatch h
theorem fs_add : fxS2 G fx_add (· + ·) := by
  intro hd ad x y v h
  rcases x with a | p | n | ⟨k, o, s⟩
  · rcases y with b | p | n | ⟨k, o, s⟩
    · have h : some (Sum.inl (Nat.mod (Nat.add a b) 4294967296)) = some v := h
      obtain rfl := Option.some.inj h
      exact ⟨fn_k0, _, _, rfl, rfl, congrArg Value.int ((fn_mod (a + b)).trans (nI_add a b).symm)⟩
    · exact nomatch h
    · exact nomatch h
    · have h : some (Sum.inr (Sum.inr (Sum.inr (k, fx_con (a % 4294967296) + o, s)))) = some v := h
      obtain rfl := Option.some.inj h
      refine ⟨fn_k3, _, _, rfl, rfl, congrArg Value.int ?_⟩
      show Int32.ofInt (fx_con (a % 4294967296) + o + s * _) = nI a + Int32.ofInt (o + s * _)
      rw [fn_con2 a, fn_add, Int.add_assoc]
  · rcases y with b | p | n | q <;> exact nomatch h
  · rcases y with b | p | n | q <;> exact nomatch h
  · rcases y with b | p | n | ⟨k2, o2, s2⟩
    · have h : some (Sum.inr (Sum.inr (Sum.inr (k, o + fx_con (b % 4294967296), s)))) = some v := h
      obtain rfl := Option.some.inj h
      refine ⟨fn_k3, _, _, rfl, rfl, congrArg Value.int ?_⟩
      show Int32.ofInt (o + fx_con (b % 4294967296) + s * _) = Int32.ofInt (o + s * _) + nI b
      rw [fn_con2 b, fn_add]
      congr 1
      omega
    · exact nomatch h
    · exact nomatch h
    · exact nomatch h
theorem fs_sub : fxS2 G fx_sub (· - ·) := by
  intro hd ad x y v h
  rcases x with a | p | n | ⟨k, o, s⟩ <;> rcases y with b | p2 | n2 | ⟨k2, o2, s2⟩
  case inl.inl => exact fs_i2 h
  case inr.inr.inr.inl =>
    have h : some (Sum.inr (Sum.inr (Sum.inr (k, o - fx_con (b % 4294967296), s)))) = some v := h
    obtain rfl := Option.some.inj h
    refine ⟨fn_k3, _, _, rfl, rfl, congrArg Value.int ?_⟩
    show Int32.ofInt (o - fx_con (b % 4294967296) + s * _) = Int32.ofInt (o + s * _) - nI b
    rw [fn_con2 b, fn_sub]
    congr 1
    omega
  all_goals exact nomatch h
theorem fs_mul : fxS2 G fx_mul (· * ·) := by
  intro hd ad x y v h
  rcases x with a | x <;> rcases y with b | y
  · have h : some (Sum.inl (Nat.mod (Nat.mul a b) 4294967296)) = some v := h
    obtain rfl := Option.some.inj h
    exact ⟨fn_k0, _, _, rfl, rfl, congrArg Value.int ((fn_mod (a * b)).trans (pk_mul a b).symm)⟩
  all_goals exact nomatch h
theorem fn_and (a b : Nat) : nI a &&& nI b = nI (a &&& b) := by
  apply Int32.toBitVec_inj.mp
  rw [Int32.toBitVec_and, fn_bv, fn_bv, fn_bv]
  apply BitVec.eq_of_toNat_eq
  rw [BitVec.toNat_and, BitVec.toNat_ofNat, BitVec.toNat_ofNat, BitVec.toNat_ofNat, Nat.and_mod_two_pow]
theorem fn_or (a b : Nat) : nI a ||| nI b = nI (a ||| b) := by
  apply Int32.toBitVec_inj.mp
  rw [Int32.toBitVec_or, fn_bv, fn_bv, fn_bv]
  apply BitVec.eq_of_toNat_eq
  rw [BitVec.toNat_or, BitVec.toNat_ofNat, BitVec.toNat_ofNat, BitVec.toNat_ofNat, Nat.or_mod_two_pow]
theorem fn_nat {z : Int} (h : 0 ≤ z) : Int32.ofInt z = nI z.toNat := by
  obtain ⟨n, rfl⟩ := Int.eq_ofNat_of_zero_le h
  exact Int32.ofInt_eq_ofNat ..
theorem fs_and : fxS2 G fx_and (· &&& ·) := by
  intro hd ad x y v h
  rcases x with a | x <;> rcases y with b | y
  · have h : some (Sum.inl (Nat.land a b)) = some v := h
    obtain rfl := Option.some.inj h
    exact ⟨fn_k0, _, _, rfl, rfl, congrArg Value.int (fn_and a b).symm⟩
  · exact nomatch h
  · have h : (if b = 255 ∧ fx_inq (fx_rng (.inr x)) 0 255 = true then some (Sum.inr x) else none) = some v := h
    split at h
    · next hc =>
      obtain rfl := Option.some.inj h
      obtain ⟨rfl, hc⟩ := hc
      obtain ⟨z, h1, h2, h3, h4, -⟩ := fn_in (ad := ad) hd hc
      refine ⟨h4, _, _, h3, rfl, ?_⟩
      rw [h3, fn_nat h1]
      have e : nI z.toNat &&& nI 255 = nI z.toNat := by
        rw [fn_and, show z.toNat &&& 255 = z.toNat % 2 ^ 8 from Nat.and_two_pow_sub_one_eq_mod _ 8, Nat.mod_eq_of_lt (by omega)]
      exact congrArg Value.int e.symm
    · exact nomatch h
  · exact nomatch h
theorem fs_or : fxS2 G fx_or (· ||| ·) := by
  intro hd ad x y v h
  rcases x with a | p | n | q <;> rcases y with b | p2 | n2 | ⟨k2, o2, s2⟩
  case inl.inl =>
    have h : some (Sum.inl (Nat.lor a b)) = some v := h
    obtain rfl := Option.some.inj h
    exact ⟨fn_k0, _, _, rfl, rfl, congrArg Value.int (fn_or a b).symm⟩
  case inl.inr.inr.inr =>
    have h : (if a % 65536 = 0 ∧ a < 2147483648 ∧ fx_inq (fx_rng (.inr (.inr (.inr (k2, o2, s2))))) 0 65535 = true then some (Sum.inr (Sum.inr (Sum.inr (k2, (a : Int) + o2, s2)))) else none) = some v := h
    split at h
    · next hc =>
      obtain rfl := Option.some.inj h
      obtain ⟨c1, c2, c3⟩ := hc
      obtain ⟨z, h1, h2, h3, h4, -⟩ := fn_in (ad := ad) hd c3
      refine ⟨fn_k3, _, _, rfl, h3, ?_⟩
      have h5 : Value.int (Int32.ofInt (o2 + s2 * (fg_dk G k2 : Int))) = Value.int (Int32.ofInt z) := h3
      have h5 := Value.int.inj h5
      show Value.int (Int32.ofInt ((a : Int) + o2 + s2 * (fg_dk G k2 : Int))) = _
      rw [Int.add_assoc, ← fn_add, h5, fn_nat h1]
      congr 1
      show Int32.ofInt (a : Int) + nI z.toNat = nI a ||| nI z.toNat
      rw [fn_or, show Int32.ofInt (a : Int) = nI a from Int32.ofInt_eq_ofNat .., nI_add]
      congr 1
      obtain ⟨c, rfl⟩ : ∃ c, a = 2 ^ 16 * c := ⟨a / 65536, by omega⟩
      rw [Nat.two_pow_add_eq_or_of_lt (by omega : z.toNat < 2 ^ 16)]
    · exact nomatch h
  case inr.inr.inr.inl =>
    have h : (if b = 0 then some (Sum.inr (Sum.inr (Sum.inr q))) else none) = some v := h
    split at h
    · next hc =>
      obtain rfl := Option.some.inj h
      subst hc
      obtain ⟨k, o, s⟩ := q
      refine ⟨fn_k3, _, _, rfl, rfl, ?_⟩
      show Value.int _ = Value.int (_ ||| nI 0)
      congr 1
      exact (Int32.or_zero ..).symm
    · exact nomatch h
  all_goals exact nomatch h
theorem fs_shl : fxS2 G fx_shl (fun x y => x <<< (y &&& 31)) := by
  intro hd ad x y v h
  rcases x with a | p | n | ⟨k, o, s⟩ <;> rcases y with b | p2 | n2 | q2
  case inl.inl => exact fs_i2 h
  case inr.inr.inr.inl =>
    have h : (if b = 8 then some (Sum.inr (Sum.inr (Sum.inr (k, o * 256, s * 256)))) else none) = some v := h
    split at h
    · next hc =>
      obtain rfl := Option.some.inj h
      subst hc
      refine ⟨fn_k3, _, _, rfl, rfl, congrArg Value.int ?_⟩
      show Int32.ofInt (o * 256 + s * 256 * (fg_dk G k : Int)) = Int32.ofInt (o + s * (fg_dk G k : Int)) <<< (nI 8 &&& 31)
      generalize (fg_dk G k : Int) = d
      have e1 : o * 256 + s * 256 * d = (o + s * d) * 256 := by rw [Int.add_mul, Int.mul_right_comm]
      rw [e1, ← fn_mul]
      generalize Int32.ofInt (o + s * d) = w
      apply Int32.toBitVec_inj.mp
      apply BitVec.eq_of_toNat_eq
      rw [pk_shl w (nI 8 &&& 31) 8 (by decide +kernel), Int32.toBitVec_mul, BitVec.toNat_mul]
      rfl
    · exact nomatch h
  all_goals exact nomatch h
theorem fs_ushr : fxS2 G fx_ushr (fun x y => (x.toUInt32 >>> (y.toUInt32 &&& Int32.toUInt32 31)).toInt32) := by
  intro hd ad x y v h
  rcases x with a | x <;> rcases y with b | y
  · exact fs_i2 h
  · exact nomatch h
  · have h : (if b = 8 ∧ fx_inq (fx_rng (.inr x)) 0 255 = true then some (Sum.inl 0) else none) = some v := h
    split at h
    · next hc =>
      obtain rfl := Option.some.inj h
      obtain ⟨rfl, hc⟩ := hc
      obtain ⟨z, h1, h2, h3, h4, -⟩ := fn_in (ad := ad) hd hc
      refine ⟨fn_k0, _, _, h3, rfl, ?_⟩
      rw [fn_nat h1]
      have e := pk_ushrN (n := z.toNat) (by omega) (nI 8) 8 (by decide +kernel)
      show Value.int (nI 0) = Value.int _
      exact congrArg Value.int (Eq.trans (by rw [Nat.div_eq_of_lt (by omega)]) e.symm)
    · exact nomatch h
  · exact nomatch h
theorem fs_shr : fxS2 G fx_shr (fun x y => x >>> (y &&& 31)) := by
  intro hd ad x y v h
  rcases x with a | x <;> rcases y with b | y
  · exact fs_i2 h
  · exact nomatch h
  · have h : (match fx_rng (.inr x) with
      | some q => if b = 16 ∧ 0 ≤ q.1 ∧ q.2 < 2147483648 ∧ q.1 / 65536 = q.2 / 65536 then some (Sum.inl (q.1 / 65536).toNat) else none
      | none => none) = some v := h
    split at h
    · next q hq =>
      split at h
      · next hc =>
        obtain rfl := Option.some.inj h
        obtain ⟨rfl, c1, c2, c3⟩ := hc
        obtain ⟨z, h1, h2, h3, h4, -⟩ := fn_rng (ad := ad) hd hq
        refine ⟨fn_k0, _, _, h3, rfl, ?_⟩
        rw [fn_nat (by omega)]
        have e := pk_shrN (n := z.toNat) (by omega) (nI 16 &&& 31) 16 (by decide +kernel)
        show Value.int (nI _) = Value.int _
        exact congrArg Value.int (Eq.trans (by congr 1; omega) e.symm)
      · exact nomatch h
    · exact nomatch h
  · exact nomatch h
theorem fs_i2c : fxS1 G fx_i2c (fun x => (x.toUInt32 % 65536).toInt32) := by
  intro hd ad x v h
  rcases x with a | x
  · have h : some (Sum.inl (Nat.mod a 65536)) = some v := h
    obtain rfl := Option.some.inj h
    refine ⟨fn_k0, _, rfl, congrArg Value.int ?_⟩
    refine Eq.trans ?_ (pk_char (nI a)).symm
    rw [fn_bv, BitVec.toNat_ofNat]
    show nI (a % 65536) = _
    congr 1
    omega
  · have h : (if fx_inq (fx_rng (.inr x)) 0 65535 = true then some (Sum.inr x) else none) = some v := h
    split at h
    · next hc =>
      obtain rfl := Option.some.inj h
      obtain ⟨z, h1, h2, h3, h4, -⟩ := fn_in (ad := ad) hd hc
      refine ⟨h4, _, h3, ?_⟩
      rw [h3, fn_nat h1]
      refine congrArg Value.int (Eq.trans ?_ (pk_char (nI z.toNat)).symm)
      rw [pk_tn (by omega), Nat.mod_eq_of_lt (by omega)]
    · exact nomatch h
theorem fs_i2b : fxS1 G fx_i2b (fun x => x.toInt8.toInt32) := by
  intro hd ad x v h
  rcases x with a | x
  · have h : some (Sum.inl (nI a).toInt8.toInt32.toBitVec.toNat) = some v := h
    obtain rfl := Option.some.inj h
    exact ⟨fn_k0, _, rfl, congrArg Value.int (fn_tn _)⟩
  · have h : (if fx_inq (fx_rng (.inr x)) 0 127 = true then some (Sum.inr x) else none) = some v := h
    split at h
    · next hc =>
      obtain rfl := Option.some.inj h
      obtain ⟨z, h1, h2, h3, h4, -⟩ := fn_in (ad := ad) hd hc
      refine ⟨h4, _, h3, ?_⟩
      rw [h3, fn_nat h1]
      refine congrArg Value.int ?_
      have key : ∀ n : Fin 128, (nI n.val).toInt8.toInt32 = nI n.val := by decide +kernel
      exact (key ⟨z.toNat, by omega⟩).symm
    · exact nomatch h
theorem fs_neg : fxS1 G fx_neg (fun x => -x) := by
  intro hd ad x v h
  rcases x with a | p | n | ⟨k, o, s⟩
  · have h : some (Sum.inl (- nI a).toBitVec.toNat) = some v := h
    obtain rfl := Option.some.inj h
    exact ⟨fn_k0, _, rfl, congrArg Value.int (fn_tn _)⟩
  · exact nomatch h
  · exact nomatch h
  · have h : some (Sum.inr (Sum.inr (Sum.inr (k, -o, -s)))) = some v := h
    obtain rfl := Option.some.inj h
    refine ⟨fn_k3, _, rfl, congrArg Value.int ?_⟩
    show Int32.ofInt (-o + -s * (fg_dk G k : Int)) = - Int32.ofInt (o + s * (fg_dk G k : Int))
    rw [fn_neg, Int.neg_add, Int.neg_mul]
/-- longs -/
def fxSl (G : fxG) (f : fxV → fxV → Option fxV) (op : Int64 → Int64 → Int64) : Prop := ∀ (ad : List Bool → Nat) (x y v : fxV), f x y = some v → fx_kd v = 2 ∧ ∃ a b : Int64, fx_den G ad x = .long a ∧ fx_den G ad y = .long b ∧ fx_den G ad v = .long (op a b)
theorem fs_l2 (op : Int64 → Int64 → Int64) : fxSl G (fx_l2 op) op := by
  intro ad x y v h
  rcases x with a | p | n | q <;> rcases y with b | p2 | n2 | q2
  case inr.inr.inl.inr.inr.inl =>
    have h : some (Sum.inr (Sum.inr (Sum.inl (op (lN n) (lN n2)).toBitVec.toNat))) = some v := h
    obtain rfl := Option.some.inj h
    exact ⟨rfl, _, _, rfl, rfl, congrArg Value.long (fn_tl _)⟩
  all_goals exact nomatch h
theorem fs_li (op : Int64 → Int32 → Int64) (ad : List Bool → Nat) (x y v : fxV) (h : fx_li op x y = some v) : fx_kd v = 2 ∧ ∃ (a : Int64) (b : Int32), fx_den G ad x = .long a ∧ fx_den G ad y = .int b ∧ fx_den G ad v = .long (op a b) := by
  rcases x with a | p | n | q <;> rcases y with b | p2 | n2 | q2
  case inr.inr.inl.inl =>
    have h : some (Sum.inr (Sum.inr (Sum.inl (op (lN n) (nI b)).toBitVec.toNat))) = some v := h
    obtain rfl := Option.some.inj h
    exact ⟨rfl, _, _, rfl, rfl, congrArg Value.long (fn_tl _)⟩
  all_goals exact nomatch h
end NUM
