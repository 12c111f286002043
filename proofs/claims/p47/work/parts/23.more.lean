/-! RULES: statics, String constants, what the JDK itself does, throws, handlers. -/
section MOR
variable {G : gxG} {Y Y' : gxY} {K : Nat → Nat → Nat → Nat → Bool} {pc : Nat} {st L rest vs : List gxV} {M n c x v : Nat} {e : Bool}
/-- a cell that nobody writes is pushed -/
theorem gs_push {b t len : Nat} {cs : List gxq} (h : (b, (t, len)) ∈ cs) : gv_ok cs (gR t b) := Or.inr ⟨_, h, rfl, rfl⟩
theorem gr_nosigns {index : Nat} (hdg : decode (gy_b Y) pc = .ok (.getstatic index, 3)) (hlink : Cond.fieldLink (gy_o Y) index "Farfiles" "NO_SIGNS" "[C" ∈ gx_ws) (hk : gxJ G Y K (pc + 3) (gR 65 2 :: st) L M n c e) : gxJ G Y K pc st L M n c e :=
  gj_go2 hk fun p e R s m args below meth cd X cells slots cw ad H locs ls Q uI uS uL us ul kk => by
    obtain ⟨x1, x2, x3, x4, x5, x6, x7, ⟨x8, x9, x10, z1, z2, z3, z4, z5, z6, z7, z8, z9⟩, x11⟩ := X
    have hc : ((2, (65, 0)) : gxq) ∈ gg_cr G := by rw [z8]; decide
    have w := kk ls uL (gv_oks_cons (gs_push (List.mem_append_left _ hc)) us) ul
    rw [List.map_cons, gs_ref (by decide), uI.2.2.2.2.2.2.2.2.2 _ hc] at w
    exact va_gets x1 x2 z1 uS x5 (x6 _ hlink) (fun _ h => h) hdg w
theorem gr_nosignsN {index : Nat} {host : String} (hdg : decode (gy_b Y) pc = .ok (.getstatic index, 3)) (hlink : Cond.fieldLinkNest (gy_o Y) index "Farfiles" "NO_SIGNS" "[C" host ∈ gx_ws) (hk : gxJ G Y K (pc + 3) (gR 65 2 :: st) L M n c e) : gxJ G Y K pc st L M n c e :=
  gj_go2 hk fun p e R s m args below meth cd X cells slots cw ad H locs ls Q uI uS uL us ul kk => by
    obtain ⟨x1, x2, x3, x4, x5, x6, x7, ⟨x8, x9, x10, z1, z2, z3, z4, z5, z6, z7, z8, z9⟩, x11⟩ := X
    have hc : ((2, (65, 0)) : gxq) ∈ gg_cr G := by rw [z8]; decide
    have w := kk ls uL (gv_oks_cons (gs_push (List.mem_append_left _ hc)) us) ul
    rw [List.map_cons, gs_ref (by decide), uI.2.2.2.2.2.2.2.2.2 _ hc] at w
    exact va_getsN x1 x2 z1 uS x5 (x6 _ hlink) (fun _ h => h) hdg w
theorem gr_compact {index : Nat} (hdg : decode (gy_b Y) pc = .ok (.getstatic index, 3)) (hlink : Cond.fieldLink (gy_o Y) index "java/lang/String" "COMPACT_STRINGS" "Z" ∈ gx_ws) (hk : gxJ G Y K (pc + 3) (gI 1 :: st) L M n c e) : gxJ G Y K pc st L M n c e :=
  gj_go2 hk fun p e R s m args below meth cd X cells slots cw ad H locs ls Q uI uS uL us ul kk => by
    obtain ⟨x1, x2, x3, x4, x5, x6, x7, ⟨x8, x9, x10, z1, z2, z3, z4, z5, z6, z7, z8, z9⟩, x11⟩ := X
    have w := kk ls uL (gv_oks_cons trivial us) ul
    rw [List.map_cons, show gx_den (gg_dk G) ad (gI 1) = .int 1 from congrArg Value.int (gn_c (by decide))] at w
    exact va_gets x1 x2 z2 uS x5 (x6 _ hlink) (fun _ h => h) hdg w
theorem gr_digits {index : Nat} (hdg : decode (gy_b Y) pc = .ok (.getstatic index, 3)) (hlink : Cond.fieldLink (gy_o Y) index "java/lang/Integer" "DigitOnes" "[B" ∈ gx_ws) (hk : gxJ G Y K (pc + 3) (gR 97 3 :: st) L M n c e) : gxJ G Y K pc st L M n c e :=
  gj_go2 hk fun p e R s m args below meth cd X cells slots cw ad H locs ls Q uI uS uL us ul kk => by
    obtain ⟨x1, x2, x3, x4, x5, x6, x7, ⟨x8, x9, x10, z1, z2, z3, z4, z5, z6, z7, z8, z9⟩, x11⟩ := X
    have hc : ((3, (97, 0)) : gxq) ∈ gg_cr G := by rw [z8]; decide
    have w := kk ls uL (gv_oks_cons (gs_push (List.mem_append_left _ hc)) us) ul
    rw [List.map_cons, gs_ref (by decide), uI.2.2.2.2.2.2.2.2.2 _ hc] at w
    exact va_gets x1 x2 z4.1 uS x5 (x6 _ hlink) (fun _ h => h) hdg w
theorem gr_tens {index : Nat} (hdg : decode (gy_b Y) pc = .ok (.getstatic index, 3)) (hlink : Cond.fieldLink (gy_o Y) index "java/lang/Integer" "DigitTens" "[B" ∈ gx_ws) (hk : gxJ G Y K (pc + 3) (gR 96 4 :: st) L M n c e) : gxJ G Y K pc st L M n c e :=
  gj_go2 hk fun p e R s m args below meth cd X cells slots cw ad H locs ls Q uI uS uL us ul kk => by
    obtain ⟨x1, x2, x3, x4, x5, x6, x7, ⟨x8, x9, x10, z1, z2, z3, z4, z5, z6, z7, z8, z9⟩, x11⟩ := X
    have hc : ((4, (96, 0)) : gxq) ∈ gg_cr G := by rw [z8]; decide
    have w := kk ls uL (gv_oks_cons (gs_push (List.mem_append_left _ hc)) us) ul
    rw [List.map_cons, gs_ref (by decide), uI.2.2.2.2.2.2.2.2.2 _ hc] at w
    exact va_gets x1 x2 z4.2.1 uS x5 (x6 _ hlink) (fun _ h => h) hdg w
theorem gr_formatter {index : Nat} (hG : gxG0 G) (hdg : decode (gy_b Y) pc = .ok (.getstatic index, 3)) (hlink : Cond.fieldLink (gy_o Y) index "jdk/internal/util/Preconditions" "SIOOBE_FORMATTER" "Ljava/util/function/BiFunction;" ∈ gx_ws) (h0 : gxJ G Y K (pc + 3) (gR 98 0 :: st) L M n c e) (h5 : gxJ G Y K (pc + 3) (gR 98 5 :: st) L M n c e) : gxJ G Y K pc st L M n c e := by
  obtain ⟨g1, g2, ⟨-, -, g3, -⟩, g4, g5⟩ := hG
  rcases g3 with g3 | g3
  · exact gj_go2 h0 fun p e R s m args below meth cd X cells slots cw ad H locs ls Q uI uS uL us ul kk => by
      obtain ⟨x1, x2, x3, x4, x5, x6, x7, ⟨x8, x9, x10, x100⟩, x11, ⟨x12, x13⟩, x14⟩ := X
      have w := kk ls uL (gv_oks_cons (Or.inl rfl) us) ul
      rw [List.map_cons, (show gx_den (gg_dk G) ad (gR 98 0) = Value.null by show gx_rf ad 0 = Value.null; exact if_pos rfl)] at w
      exact va_gets x1 x2 (va_Z_at g3 x8.alike (fun a ha _ => x13 a ha)) uS x5 (x6 _ hlink) (fun _ h => h) hdg w
  · exact gj_go2 h5 fun p e R s m args below meth cd X cells slots cw ad H locs ls Q uI uS uL us ul kk => by
      obtain ⟨x1, x2, x3, x4, x5, x6, x7, ⟨x8, x9, x10, z1, z2, z3, z4, z5, z6, z7, z8, z9⟩, x11, ⟨x12, x13⟩, x14⟩ := X
      have hc : ((5, (98, 0)) : gxq) ∈ gg_cr G := by rw [z8]; decide
      have w := kk ls uL (gv_oks_cons (gs_push (List.mem_append_left _ hc)) us) ul
      rw [List.map_cons, gs_ref (by decide), uI.2.2.2.2.2.2.2.2.2 _ hc] at w
      exact va_gets x1 x2 (va_Z_at g3 x8.alike (fun a ha _ => x13 a ha)) uS x5 (x6 _ hlink) (fun _ h => h) hdg w
/-- a String constant of the law -/
theorem gr_ldcS {index b : Nat} {tx : String} (ho : gy_o Y = "FarfilesLaw") (hdg : decode (gy_b Y) pc = .ok (.ldc index, 2)) (hm : (index, (tx, b)) ∈ gx_str) (hb : (b, (8, 2)) ∈ gx_cr) (hb0 : b ≠ 0) (hk : gxJ G Y K (pc + 2) (gR 8 b :: st) L M n c e) : gxJ G Y K pc st L M n c e :=
  gj_go2 hk fun p e R s m args below meth cd X cells slots cw ad H locs ls Q uI uS uL us ul kk => by
    obtain ⟨x1, x2, x3, x4, x5, x6, x7, ⟨x8, x9, x10, z1, z2, z3, z4, z5, z6, z7, z8, z9⟩, x11⟩ := X
    have hc : ((b, (8, 2)) : gxq) ∈ gg_cr G := by rw [z8]; exact hb
    have w := kk ls uL (gv_oks_cons (gs_push (List.mem_append_left _ hc)) us) ul
    rw [List.map_cons, gs_ref hb0, uI.2.2.2.2.2.2.2.2.2 _ hc] at w
    rw [ho] at x5
    exact va_ldcS x1 x2 x5 (z6 _ hm) hdg w
/-- a digit out of the JDK's tables -/
noncomputable def gx_dgo (i : Nat) (k : Nat → Bool) : Bool := Bool.rec (motive := fun _ => Bool) (Bool.rec (motive := fun _ => Bool) false (k (Nat.add i 34359738416)) (Bool.and (Nat.beq (Nat.mod i 4294967296) 0) (Nat.beq (Nat.mod (Nat.div i 4294967296) 32) 8))) (k (Nat.add i 48)) (Bool.and (Nat.beq (Nat.mod i 4294967296) 0) (Nat.beq (Nat.mod (Nat.div i 4294967296) 32) 4))
noncomputable def gx_dgt (i : Nat) (k : Nat → Bool) : Bool := Bool.rec (motive := fun _ => Bool) false (k (Nat.add i 17179869232)) (Bool.and (Nat.beq (Nat.mod i 4294967296) 0) (Nat.beq (Nat.mod (Nat.div i 4294967296) 32) 8))
theorem gd_hi1 : ∀ k : Nat, k % 8 = 1 → gx_hi k = 9 := fun k hk => by
  show (38812191001 >>> (8 * (k % 8))) &&& 255 = 9
  rw [hk]; rfl
theorem gd_hi2 : ∀ k : Nat, k % 8 = 2 → gx_hi k = 99 := fun k hk => by
  show (38812191001 >>> (8 * (k % 8))) &&& 255 = 99
  rw [hk]; rfl
theorem gd_one {dk : Nat → Nat} {i : Nat} (h0 : i % 4294967296 = 0) (h1 : i / 4294967296 % 4 = 0) (h2 : ¬ i < 4294967296) : gx_N dk i = nI (dk (i / 4294967296 / 4)) := by
  rw [gn_int h2, h0, h1, show gx_sc 0 = 1 from rfl]
  rw [show ((0 : Nat) : Int) + 1 * (dk (i / 4294967296 / 4) : Int) = (dk (i / 4294967296 / 4) : Int) by omega, gn_of]
theorem go_dgo {dk : Nat → Nat} (hd : gx_D dk) {i : Nat} {k : Nat → Bool} (h : gx_dgo i k = true) : ∃ z d, k z = true ∧ gx_N dk i = nI d ∧ d < 100 ∧ gx_N dk z = nI (48 + d % 10) := by
  rcases gb_true h with ⟨hc, h⟩ | ⟨hc, h⟩
  · obtain ⟨c1, c2⟩ := go_and hc
    have c1 : i % 4294967296 = 0 := gb_beq c1
    have c2 : i / 4294967296 % 32 = 4 := gb_beq c2
    obtain ⟨d1, d2⟩ := hd.1 (i / 4294967296 / 4) (by omega)
    rw [gd_hi1 _ (by omega)] at d2
    refine ⟨_, dk (i / 4294967296 / 4), h, gd_one c1 (by omega) (by omega), by omega, ?_⟩
    show gx_N dk (i + 48) = _
    rw [gn_int (show ¬ i + 48 < 4294967296 by omega), show (i + 48) % 4294967296 = 48 by omega, show (i + 48) / 4294967296 = i / 4294967296 by omega, show i / 4294967296 % 4 = 0 by omega, show gx_sc 0 = 1 from rfl, Nat.mod_eq_of_lt (by omega : dk (i / 4294967296 / 4) < 10)]
    rw [← gn_of]
    congr 1
    omega
  · obtain ⟨hc, h⟩ := gb_t h
    obtain ⟨c1, c2⟩ := go_and hc
    have c1 : i % 4294967296 = 0 := gb_beq c1
    have c2 : i / 4294967296 % 32 = 8 := gb_beq c2
    obtain ⟨d1, d2⟩ := hd.1 (i / 4294967296 / 4) (by omega)
    obtain ⟨d3, d4⟩ := hd.2 (i / 4294967296 / 4) (by omega)
    rw [gd_hi2 _ (by omega)] at d2
    refine ⟨_, dk (i / 4294967296 / 4), h, gd_one c1 (by omega) (by omega), by omega, ?_⟩
    show gx_N dk (i + 34359738416) = _
    rw [gn_int (show ¬ i + 34359738416 < 4294967296 by omega), show (i + 34359738416) % 4294967296 = 48 by omega, show (i + 34359738416) / 4294967296 % 4 = 0 by omega, show (i + 34359738416) / 4294967296 / 4 = i / 4294967296 / 4 + 2 by omega, d4, show gx_sc 0 = 1 from rfl]
    rw [← gn_of]
    congr 1
    omega
theorem go_dgt {dk : Nat → Nat} (hd : gx_D dk) {i : Nat} {k : Nat → Bool} (h : gx_dgt i k = true) : ∃ z d, k z = true ∧ gx_N dk i = nI d ∧ d < 100 ∧ gx_N dk z = nI (48 + d / 10) := by
  obtain ⟨hc, h⟩ := gb_t h
  obtain ⟨c1, c2⟩ := go_and hc
  have c1 : i % 4294967296 = 0 := gb_beq c1
  have c2 : i / 4294967296 % 32 = 8 := gb_beq c2
  obtain ⟨d1, d2⟩ := hd.1 (i / 4294967296 / 4) (by omega)
  obtain ⟨d3, d4⟩ := hd.2 (i / 4294967296 / 4) (by omega)
  rw [gd_hi2 _ (by omega)] at d2
  refine ⟨_, dk (i / 4294967296 / 4), h, gd_one c1 (by omega) (by omega), by omega, ?_⟩
  show gx_N dk (i + 17179869232) = _
  rw [gn_int (show ¬ i + 17179869232 < 4294967296 by omega), show (i + 17179869232) % 4294967296 = 48 by omega, show (i + 17179869232) / 4294967296 % 4 = 0 by omega, show (i + 17179869232) / 4294967296 / 4 = i / 4294967296 / 4 + 1 by omega, d3, show gx_sc 0 = 1 from rfl]
  rw [← gn_of]
  congr 1
  omega
theorem gr_dgo {i : Nat} {k : Nat → Bool} (hd : gx_D (gg_dk G)) (hdg : decode (gy_b Y) pc = .ok (.baload, 1)) (hk : ∀ z, gxJ G Y K (pc + 1) (gI z :: st) L M n c (k z)) : gxJ G Y K pc (gI i :: gR 97 3 :: st) L M n c (gx_dgo i k) := fun h => by
  obtain ⟨z, d, hz, h1, h2, h3⟩ := go_dgo hd h
  refine gj_go2 (hk z) (fun p e R s m args below meth cd X cells slots cw ad H locs ls Q uI uS uL us ul kk => ?_) hz
  obtain ⟨x1, x2, x3, x4, x5, x6, x7, ⟨x8, x9, x10, z1, z2, z3, z4, z5, z6, z7, z8, z9⟩, x11⟩ := X
  have hc : ((3, (97, 0)) : gxq) ∈ gg_cr G := by rw [z8]; decide
  have w := kk ls uL (gv_oks_cons trivial (gv_2 us)) ul
  rw [List.map_cons, show gx_den (gg_dk G) ad (gI z) = .int (nI (48 + d % 10)) from congrArg Value.int h3] at w
  rw [List.map_cons, List.map_cons, gs_ref (by decide), uI.2.2.2.2.2.2.2.2.2 _ hc, show gx_den (gg_dk G) ad (gI i) = .int (nI d) from congrArg Value.int h1]
  exact va_tb x1 x2 z4.2.2.1 uS (nI_in h2 (by decide)) (by rw [nI_clamp (by omega)]) hdg w
theorem gr_dgt {i : Nat} {k : Nat → Bool} (hd : gx_D (gg_dk G)) (hdg : decode (gy_b Y) pc = .ok (.baload, 1)) (hk : ∀ z, gxJ G Y K (pc + 1) (gI z :: st) L M n c (k z)) : gxJ G Y K pc (gI i :: gR 96 4 :: st) L M n c (gx_dgt i k) := fun h => by
  obtain ⟨z, d, hz, h1, h2, h3⟩ := go_dgt hd h
  refine gj_go2 (hk z) (fun p e R s m args below meth cd X cells slots cw ad H locs ls Q uI uS uL us ul kk => ?_) hz
  obtain ⟨x1, x2, x3, x4, x5, x6, x7, ⟨x8, x9, x10, z1, z2, z3, z4, z5, z6, z7, z8, z9⟩, x11⟩ := X
  have hc : ((4, (96, 0)) : gxq) ∈ gg_cr G := by rw [z8]; decide
  have w := kk ls uL (gv_oks_cons trivial (gv_2 us)) ul
  rw [List.map_cons, show gx_den (gg_dk G) ad (gI z) = .int (nI (48 + d / 10)) from congrArg Value.int h3] at w
  rw [List.map_cons, List.map_cons, gs_ref (by decide), uI.2.2.2.2.2.2.2.2.2 _ hc, show gx_den (gg_dk G) ad (gI i) = .int (nI d) from congrArg Value.int h1]
  exact va_tb x1 x2 z4.2.2.2 uS (nI_in h2 (by decide)) (by rw [nI_clamp (by omega)]) hdg w
/-- Object.<init> -/
theorem gr_objInit {index t : Nat} (hdg : decode (gy_b Y) pc = .ok (.invokespecial index, 3)) (hl : Cond.methodLink (gy_o Y) index Lib.objectInit ∈ gx_ws) (hi : Cond.instanceMethod Lib.objectInit ∈ gx_ws) (hc : Cond.code Lib.objectInit ⟨#[0xb1]⟩ 1 none ∈ gx_ws) (hf : 1 ≤ gy_f Y) (hk9 : 20 ≤ gy_k Y) (hcat : gx_cats st ≤ 8) (hk : gxJ G Y K (pc + 3) st L M n c e) : gxJ G Y K pc (gR t x :: st) L M n c (gx_nn x e) := gj_nn (fun hx =>
  gj_go2 hk fun p e R s m args below meth cd X cells slots cw ad H locs ls Q uI uS uL us ul kk => by
    obtain ⟨x1, x2, x3, x4, x5, x6, x7, ⟨x8, x9, x10⟩, x11, x12, x13, x14, x15⟩ := X
    have w := kk ls uL (gv_oks_tl us) ul
    rw [List.map_cons, gs_ref hx]
    refine W.objInit x1 x2 x5 (x6 _ hl) (x6 _ hi) (x6 _ hc) rfl (by rw [x3]; exact uL.1) rfl hdg (Nat.le_trans hf x13) ?_ w
    have h1 : ((st.map (gx_den (gg_dk G) ad)).map fun v => v.category).sum ≤ 8 := Nat.le_trans (gx_cats_sum st) hcat
    have h2 : (F0 m pc ls (Value.ref (ad x) :: st.map (gx_den (gg_dk G) ad))).monitorRoom = 0 := rfl
    rw [h2]
    omega)
end MOR
