/-! RULES: operations and branches (printed by wip/p47/gen_rules.py). -/
section RL2
variable {G : gxG} {Y : gxY} {K : Nat → Nat → Nat → Nat → Bool} {pc : Nat} {st L : List gxV} {M n c x y : Nat} {k : Nat → Bool} {kt kf : Bool}
theorem gv_2 {cs : List gxq} {a b : gxV} {L : List gxV} (h : gv_oks cs (a :: b :: L)) : gv_oks cs L := gv_oks_tl (gv_oks_tl h)
theorem gr_iadd (hdg : decode (gy_b Y) pc = .ok (.iadd, 1)) (hk : ∀ z, gxJ G Y K (pc + 1) (gI z :: st) L M n c (k z)) : gxJ G Y K pc (gI y :: gI x :: st) L M n c (gx_add x y k) := fun h => by
  obtain ⟨z, hz, hN⟩ := go_add (dk := gg_dk G) h
  exact gj_go (hk z) (fun p e R s m args below meth cd X cells slots cw ad H locs ls Q uL us ul kk => by
    have w := kk ls uL (gv_oks_cons trivial (gv_2 us)) ul
    rw [List.map_cons, show gx_den (gg_dk G) ad (gI z) = _ from congrArg Value.int hN] at w
    exact lv_iadd X.1 X.2.1 hdg w) hz
theorem gr_isub (hd : gx_D (gg_dk G)) (hdg : decode (gy_b Y) pc = .ok (.isub, 1)) (hk : ∀ z, gxJ G Y K (pc + 1) (gI z :: st) L M n c (k z)) : gxJ G Y K pc (gI y :: gI x :: st) L M n c (gx_sub x y k) := fun h => by
  obtain ⟨z, hz, hN⟩ := go_sub (dk := gg_dk G) hd h
  exact gj_go (hk z) (fun p e R s m args below meth cd X cells slots cw ad H locs ls Q uL us ul kk => by
    have w := kk ls uL (gv_oks_cons trivial (gv_2 us)) ul
    rw [List.map_cons, show gx_den (gg_dk G) ad (gI z) = _ from congrArg Value.int hN] at w
    exact lv_isub X.1 X.2.1 hdg w) hz
theorem gr_imul (hdg : decode (gy_b Y) pc = .ok (.imul, 1)) (hk : ∀ z, gxJ G Y K (pc + 1) (gI z :: st) L M n c (k z)) : gxJ G Y K pc (gI y :: gI x :: st) L M n c (gx_mul x y k) := fun h => by
  obtain ⟨z, hz, hN⟩ := go_mul (dk := gg_dk G) h
  exact gj_go (hk z) (fun p e R s m args below meth cd X cells slots cw ad H locs ls Q uL us ul kk => by
    have w := kk ls uL (gv_oks_cons trivial (gv_2 us)) ul
    rw [List.map_cons, show gx_den (gg_dk G) ad (gI z) = _ from congrArg Value.int hN] at w
    exact lv_imul X.1 X.2.1 hdg w) hz
theorem gr_iand (hd : gx_D (gg_dk G)) (hdg : decode (gy_b Y) pc = .ok (.iand, 1)) (hk : ∀ z, gxJ G Y K (pc + 1) (gI z :: st) L M n c (k z)) : gxJ G Y K pc (gI y :: gI x :: st) L M n c (gx_and x y k) := fun h => by
  obtain ⟨z, hz, hN⟩ := go_and2 (dk := gg_dk G) hd h
  exact gj_go (hk z) (fun p e R s m args below meth cd X cells slots cw ad H locs ls Q uL us ul kk => by
    have w := kk ls uL (gv_oks_cons trivial (gv_2 us)) ul
    rw [List.map_cons, show gx_den (gg_dk G) ad (gI z) = _ from congrArg Value.int hN] at w
    exact lv_iand X.1 X.2.1 hdg w) hz
theorem gr_ior (hd : gx_D (gg_dk G)) (hdg : decode (gy_b Y) pc = .ok (.ior, 1)) (hk : ∀ z, gxJ G Y K (pc + 1) (gI z :: st) L M n c (k z)) : gxJ G Y K pc (gI y :: gI x :: st) L M n c (gx_or x y k) := fun h => by
  obtain ⟨z, hz, hN⟩ := go_or (dk := gg_dk G) hd h
  exact gj_go (hk z) (fun p e R s m args below meth cd X cells slots cw ad H locs ls Q uL us ul kk => by
    have w := kk ls uL (gv_oks_cons trivial (gv_2 us)) ul
    rw [List.map_cons, show gx_den (gg_dk G) ad (gI z) = _ from congrArg Value.int hN] at w
    exact lv_ior X.1 X.2.1 hdg w) hz
theorem gr_ixor (hdg : decode (gy_b Y) pc = .ok (.ixor, 1)) (hk : ∀ z, gxJ G Y K (pc + 1) (gI z :: st) L M n c (k z)) : gxJ G Y K pc (gI y :: gI x :: st) L M n c (gx_xor x y k) := fun h => by
  obtain ⟨z, hz, hN⟩ := go_xor (dk := gg_dk G) h
  exact gj_go (hk z) (fun p e R s m args below meth cd X cells slots cw ad H locs ls Q uL us ul kk => by
    have w := kk ls uL (gv_oks_cons trivial (gv_2 us)) ul
    rw [List.map_cons, show gx_den (gg_dk G) ad (gI z) = _ from congrArg Value.int hN] at w
    exact lv_ixor X.1 X.2.1 hdg w) hz
theorem gr_ishl (hdg : decode (gy_b Y) pc = .ok (.ishl, 1)) (hk : ∀ z, gxJ G Y K (pc + 1) (gI z :: st) L M n c (k z)) : gxJ G Y K pc (gI y :: gI x :: st) L M n c (gx_shl x y k) := fun h => by
  obtain ⟨z, hz, hN⟩ := go_shl (dk := gg_dk G) h
  exact gj_go (hk z) (fun p e R s m args below meth cd X cells slots cw ad H locs ls Q uL us ul kk => by
    have w := kk ls uL (gv_oks_cons trivial (gv_2 us)) ul
    rw [List.map_cons, show gx_den (gg_dk G) ad (gI z) = _ from congrArg Value.int hN] at w
    exact lv_ishl X.1 X.2.1 hdg w) hz
theorem gr_ishr (hd : gx_D (gg_dk G)) (hdg : decode (gy_b Y) pc = .ok (.ishr, 1)) (hk : ∀ z, gxJ G Y K (pc + 1) (gI z :: st) L M n c (k z)) : gxJ G Y K pc (gI y :: gI x :: st) L M n c (gx_shr x y k) := fun h => by
  obtain ⟨z, hz, hN⟩ := go_shr (dk := gg_dk G) hd h
  exact gj_go (hk z) (fun p e R s m args below meth cd X cells slots cw ad H locs ls Q uL us ul kk => by
    have w := kk ls uL (gv_oks_cons trivial (gv_2 us)) ul
    rw [List.map_cons, show gx_den (gg_dk G) ad (gI z) = _ from congrArg Value.int hN] at w
    exact lv_ishr X.1 X.2.1 hdg w) hz
theorem gr_iushr (hd : gx_D (gg_dk G)) (hdg : decode (gy_b Y) pc = .ok (.iushr, 1)) (hk : ∀ z, gxJ G Y K (pc + 1) (gI z :: st) L M n c (k z)) : gxJ G Y K pc (gI y :: gI x :: st) L M n c (gx_ushr x y k) := fun h => by
  obtain ⟨z, hz, hN⟩ := go_ushr (dk := gg_dk G) hd h
  exact gj_go (hk z) (fun p e R s m args below meth cd X cells slots cw ad H locs ls Q uL us ul kk => by
    have w := kk ls uL (gv_oks_cons trivial (gv_2 us)) ul
    rw [List.map_cons, show gx_den (gg_dk G) ad (gI z) = _ from congrArg Value.int hN] at w
    exact lv_iushr X.1 X.2.1 hdg rfl w) hz
theorem gr_idiv (hd : gx_D (gg_dk G)) (hdg : decode (gy_b Y) pc = .ok (.idiv, 1)) (hk : ∀ z, gxJ G Y K (pc + 1) (gI z :: st) L M n c (k z)) : gxJ G Y K pc (gI y :: gI x :: st) L M n c (gx_div x y k) := fun h => by
  obtain ⟨z, hz, hN, hne⟩ := go_div (dk := gg_dk G) hd h
  exact gj_go (hk z) (fun p e R s m args below meth cd X cells slots cw ad H locs ls Q uL us ul kk => by
    have w := kk ls uL (gv_oks_cons trivial (gv_2 us)) ul
    rw [List.map_cons, show gx_den (gg_dk G) ad (gI z) = _ from congrArg Value.int hN] at w
    exact lv_idiv X.1 X.2.1 hdg hne w) hz
theorem gr_irem (hdg : decode (gy_b Y) pc = .ok (.irem, 1)) (hk : ∀ z, gxJ G Y K (pc + 1) (gI z :: st) L M n c (k z)) : gxJ G Y K pc (gI y :: gI x :: st) L M n c (gx_rem x y k) := fun h => by
  obtain ⟨z, hz, hN, hne⟩ := go_rem (dk := gg_dk G) h
  exact gj_go (hk z) (fun p e R s m args below meth cd X cells slots cw ad H locs ls Q uL us ul kk => by
    have w := kk ls uL (gv_oks_cons trivial (gv_2 us)) ul
    rw [List.map_cons, show gx_den (gg_dk G) ad (gI z) = _ from congrArg Value.int hN] at w
    exact lv_irem X.1 X.2.1 hdg hne w) hz
theorem gr_ineg (hdg : decode (gy_b Y) pc = .ok (.ineg, 1)) (hk : ∀ z, gxJ G Y K (pc + 1) (gI z :: st) L M n c (k z)) : gxJ G Y K pc (gI x :: st) L M n c (gx_neg x k) := fun h => by
  obtain ⟨z, hz, hN⟩ := go_neg (dk := gg_dk G) h
  exact gj_go (hk z) (fun p e R s m args below meth cd X cells slots cw ad H locs ls Q uL us ul kk => by
    have w := kk ls uL (gv_oks_cons trivial (gv_oks_tl us)) ul
    rw [List.map_cons, show gx_den (gg_dk G) ad (gI z) = _ from congrArg Value.int hN] at w
    exact lv_ineg X.1 X.2.1 hdg w) hz
theorem gr_i2c (hd : gx_D (gg_dk G)) (hdg : decode (gy_b Y) pc = .ok (.i2c, 1)) (hk : ∀ z, gxJ G Y K (pc + 1) (gI z :: st) L M n c (k z)) : gxJ G Y K pc (gI x :: st) L M n c (gx_i2c x k) := fun h => by
  obtain ⟨z, hz, hN⟩ := go_i2c (dk := gg_dk G) hd h
  exact gj_go (hk z) (fun p e R s m args below meth cd X cells slots cw ad H locs ls Q uL us ul kk => by
    have w := kk ls uL (gv_oks_cons trivial (gv_oks_tl us)) ul
    rw [List.map_cons, show gx_den (gg_dk G) ad (gI z) = _ from congrArg Value.int hN] at w
    exact lv_i2c X.1 X.2.1 hdg rfl w) hz
theorem gr_i2b (hd : gx_D (gg_dk G)) (hdg : decode (gy_b Y) pc = .ok (.i2b, 1)) (hk : ∀ z, gxJ G Y K (pc + 1) (gI z :: st) L M n c (k z)) : gxJ G Y K pc (gI x :: st) L M n c (gx_i2b x k) := fun h => by
  obtain ⟨z, hz, hN⟩ := go_i2b (dk := gg_dk G) hd h
  exact gj_go (hk z) (fun p e R s m args below meth cd X cells slots cw ad H locs ls Q uL us ul kk => by
    have w := kk ls uL (gv_oks_cons trivial (gv_oks_tl us)) ul
    rw [List.map_cons, show gx_den (gg_dk G) ad (gI z) = _ from congrArg Value.int hN] at w
    exact lv_i2b X.1 X.2.1 hdg rfl w) hz
theorem gr_land (hdg : decode (gy_b Y) pc = .ok (.land, 1)) (hk : gxJ G Y K (pc + 1) (gL (Nat.land x y) :: st) L M n c kt) : gxJ G Y K pc (gL y :: gL x :: st) L M n c kt :=
  gj_go hk (fun p e R s m args below meth cd X cells slots cw ad H locs ls Q uL us ul kk => by
    have w := kk ls uL (gv_oks_cons trivial (gv_2 us)) ul
    rw [List.map_cons, show gx_den (gg_dk G) ad (gL (Nat.land x y)) = _ from congrArg Value.long (gl_and x y).symm] at w
    exact lv_land X.1 X.2.1 hdg w)
theorem gr_lor (hdg : decode (gy_b Y) pc = .ok (.lor, 1)) (hk : gxJ G Y K (pc + 1) (gL (Nat.lor x y) :: st) L M n c kt) : gxJ G Y K pc (gL y :: gL x :: st) L M n c kt :=
  gj_go hk (fun p e R s m args below meth cd X cells slots cw ad H locs ls Q uL us ul kk => by
    have w := kk ls uL (gv_oks_cons trivial (gv_2 us)) ul
    rw [List.map_cons, show gx_den (gg_dk G) ad (gL (Nat.lor x y)) = _ from congrArg Value.long (gl_or x y).symm] at w
    exact lv_lor X.1 X.2.1 hdg w)
theorem gr_lxor (hdg : decode (gy_b Y) pc = .ok (.lxor, 1)) (hk : gxJ G Y K (pc + 1) (gL (Nat.xor x y) :: st) L M n c kt) : gxJ G Y K pc (gL y :: gL x :: st) L M n c kt :=
  gj_go hk (fun p e R s m args below meth cd X cells slots cw ad H locs ls Q uL us ul kk => by
    have w := kk ls uL (gv_oks_cons trivial (gv_2 us)) ul
    rw [List.map_cons, show gx_den (gg_dk G) ad (gL (Nat.xor x y)) = _ from congrArg Value.long (gl_xor x y).symm] at w
    exact lv_lxor X.1 X.2.1 hdg w)
theorem gr_ladd (hdg : decode (gy_b Y) pc = .ok (.ladd, 1)) (hk : gxJ G Y K (pc + 1) (gL (Nat.mod (Nat.add x y) 18446744073709551616) :: st) L M n c kt) : gxJ G Y K pc (gL y :: gL x :: st) L M n c kt :=
  gj_go hk (fun p e R s m args below meth cd X cells slots cw ad H locs ls Q uL us ul kk => by
    have w := kk ls uL (gv_oks_cons trivial (gv_2 us)) ul
    rw [List.map_cons, show gx_den (gg_dk G) ad (gL (Nat.mod (Nat.add x y) 18446744073709551616)) = _ from congrArg Value.long ((gl_mod (x + y)).trans (lN_add x y).symm)] at w
    exact lv_ladd X.1 X.2.1 hdg w)
theorem gr_lsub (hdg : decode (gy_b Y) pc = .ok (.lsub, 1)) (hk : gxJ G Y K (pc + 1) (gL (gx_lsu x y) :: st) L M n c kt) : gxJ G Y K pc (gL y :: gL x :: st) L M n c kt :=
  gj_go hk (fun p e R s m args below meth cd X cells slots cw ad H locs ls Q uL us ul kk => by
    have w := kk ls uL (gv_oks_cons trivial (gv_2 us)) ul
    rw [List.map_cons, show gx_den (gg_dk G) ad (gL (gx_lsu x y)) = _ from congrArg Value.long (gl_sub x y).symm] at w
    exact lv_lsub X.1 X.2.1 hdg w)
theorem gr_lshl (hdg : decode (gy_b Y) pc = .ok (.lshl, 1)) (hk : ∀ z, gxJ G Y K (pc + 1) (gL z :: st) L M n c (k z)) : gxJ G Y K pc (gI y :: gL x :: st) L M n c (gx_lsh x y k) := fun h => by
  obtain ⟨z, hz, hN⟩ := go_lsh (dk := gg_dk G) h
  exact gj_go (hk z) (fun p e R s m args below meth cd X cells slots cw ad H locs ls Q uL us ul kk => by
    have w := kk ls uL (gv_oks_cons trivial (gv_2 us)) ul
    rw [List.map_cons, show gx_den (gg_dk G) ad (gL z) = _ from congrArg Value.long hN] at w
    exact lv_lshl X.1 X.2.1 hdg rfl w) hz
theorem gr_lushr (hdg : decode (gy_b Y) pc = .ok (.lushr, 1)) (hk : ∀ z, gxJ G Y K (pc + 1) (gL z :: st) L M n c (k z)) : gxJ G Y K pc (gI y :: gL x :: st) L M n c (gx_lus x y k) := fun h => by
  obtain ⟨z, hz, hN⟩ := go_lus (dk := gg_dk G) h
  exact gj_go (hk z) (fun p e R s m args below meth cd X cells slots cw ad H locs ls Q uL us ul kk => by
    have w := kk ls uL (gv_oks_cons trivial (gv_2 us)) ul
    rw [List.map_cons, show gx_den (gg_dk G) ad (gL z) = _ from congrArg Value.long hN] at w
    exact lv_lushr X.1 X.2.1 hdg rfl w) hz
theorem gr_lcmp (hdg : decode (gy_b Y) pc = .ok (.lcmp, 1)) (hk : ∀ z, gxJ G Y K (pc + 1) (gI z :: st) L M n c (k z)) : gxJ G Y K pc (gL y :: gL x :: st) L M n c (gx_lcm x y k) := fun h => by
  obtain ⟨z, hz, hN⟩ := go_lcm (dk := gg_dk G) h
  exact gj_go (hk z) (fun p e R s m args below meth cd X cells slots cw ad H locs ls Q uL us ul kk => by
    have w := kk ls uL (gv_oks_cons trivial (gv_2 us)) ul
    rw [List.map_cons, show gx_den (gg_dk G) ad (gI z) = _ from congrArg Value.int hN] at w
    exact W.lcmp X.1 X.2.1 hdg w) hz
theorem gr_l2i (hdg : decode (gy_b Y) pc = .ok (.l2i, 1)) (hk : gxJ G Y K (pc + 1) (gI (Nat.mod x 4294967296) :: st) L M n c kt) : gxJ G Y K pc (gL x :: st) L M n c kt :=
  gj_go hk (fun p e R s m args below meth cd X cells slots cw ad H locs ls Q uL us ul kk => by
    have w := kk ls uL (gv_oks_cons trivial (gv_oks_tl us)) ul
    rw [List.map_cons, show gx_den (gg_dk G) ad (gI (Nat.mod x 4294967296)) = _ from congrArg Value.int ((gn_c (Nat.mod_lt _ (by decide))).trans (gl_i x).symm)] at w
    exact lv_l2i X.1 X.2.1 hdg rfl w)
theorem gr_icmp_eq {tgt : Nat} {off : Int} (hd : gx_D (gg_dk G)) (hdg : decode (gy_b Y) pc = .ok (.if_icmp .eq off, 3)) (ht : (pc : Int) + off = (tgt : Int)) (hkt : gxJ G Y K tgt st L M n c kt) (hkf : gxJ G Y K (pc + 3) st L M n c kf) : gxJ G Y K pc (gI y :: gI x :: st) L M n c (gx_eq x y kt kf) := fun h => by
  rcases go_eq (dk := gg_dk G) hd h with ⟨hN, hz⟩ | ⟨hN, hz⟩
  · exact gj_go hkt (fun p e R s m args below meth cd X cells slots cw ad H locs ls Q uL us ul kk => lv_icmp_eq X.1 X.2.1 hdg ht (fun hc => kk ls uL (gv_2 us) ul) (fun hc => absurd hN hc)) hz
  · exact gj_go hkf (fun p e R s m args below meth cd X cells slots cw ad H locs ls Q uL us ul kk => lv_icmp_eq X.1 X.2.1 hdg ht (fun hc => absurd hc hN) (fun hc => kk ls uL (gv_2 us) ul)) hz
theorem gr_icmp_ne {tgt : Nat} {off : Int} (hd : gx_D (gg_dk G)) (hdg : decode (gy_b Y) pc = .ok (.if_icmp .ne off, 3)) (ht : (pc : Int) + off = (tgt : Int)) (hkt : gxJ G Y K tgt st L M n c kt) (hkf : gxJ G Y K (pc + 3) st L M n c kf) : gxJ G Y K pc (gI y :: gI x :: st) L M n c (gx_eq x y kf kt) := fun h => by
  rcases go_eq (dk := gg_dk G) hd h with ⟨hN, hz⟩ | ⟨hN, hz⟩
  · exact gj_go hkf (fun p e R s m args below meth cd X cells slots cw ad H locs ls Q uL us ul kk => lv_icmp_ne X.1 X.2.1 hdg ht (fun hc => absurd hN hc) (fun hc => kk ls uL (gv_2 us) ul)) hz
  · exact gj_go hkt (fun p e R s m args below meth cd X cells slots cw ad H locs ls Q uL us ul kk => lv_icmp_ne X.1 X.2.1 hdg ht (fun hc => kk ls uL (gv_2 us) ul) (fun hc => absurd hc hN)) hz
theorem gr_icmp_lt {tgt : Nat} {off : Int} (hd : gx_D (gg_dk G)) (hdg : decode (gy_b Y) pc = .ok (.if_icmp .lt off, 3)) (ht : (pc : Int) + off = (tgt : Int)) (hkt : gxJ G Y K tgt st L M n c kt) (hkf : gxJ G Y K (pc + 3) st L M n c kf) : gxJ G Y K pc (gI y :: gI x :: st) L M n c (gx_lt x y kt kf) := fun h => by
  rcases go_lt (dk := gg_dk G) hd h with ⟨hN, hz⟩ | ⟨hN, hz⟩
  · exact gj_go hkt (fun p e R s m args below meth cd X cells slots cw ad H locs ls Q uL us ul kk => lv_icmp_lt X.1 X.2.1 hdg ht (fun hc => kk ls uL (gv_2 us) ul) (fun hc => absurd hN hc)) hz
  · exact gj_go hkf (fun p e R s m args below meth cd X cells slots cw ad H locs ls Q uL us ul kk => lv_icmp_lt X.1 X.2.1 hdg ht (fun hc => absurd hc hN) (fun hc => kk ls uL (gv_2 us) ul)) hz
theorem gr_icmp_ge {tgt : Nat} {off : Int} (hd : gx_D (gg_dk G)) (hdg : decode (gy_b Y) pc = .ok (.if_icmp .ge off, 3)) (ht : (pc : Int) + off = (tgt : Int)) (hkt : gxJ G Y K tgt st L M n c kt) (hkf : gxJ G Y K (pc + 3) st L M n c kf) : gxJ G Y K pc (gI y :: gI x :: st) L M n c (gx_lt x y kf kt) := fun h => by
  rcases go_lt (dk := gg_dk G) hd h with ⟨hN, hz⟩ | ⟨hN, hz⟩
  · exact gj_go hkf (fun p e R s m args below meth cd X cells slots cw ad H locs ls Q uL us ul kk => lv_icmp_ge X.1 X.2.1 hdg ht (fun hc => absurd hN (Int32.not_lt.mpr hc)) (fun hc => kk ls uL (gv_2 us) ul)) hz
  · exact gj_go hkt (fun p e R s m args below meth cd X cells slots cw ad H locs ls Q uL us ul kk => lv_icmp_ge X.1 X.2.1 hdg ht (fun hc => kk ls uL (gv_2 us) ul) (fun hc => absurd (Int32.not_lt.mp hN) hc)) hz
theorem gr_icmp_gt {tgt : Nat} {off : Int} (hd : gx_D (gg_dk G)) (hdg : decode (gy_b Y) pc = .ok (.if_icmp .gt off, 3)) (ht : (pc : Int) + off = (tgt : Int)) (hkt : gxJ G Y K tgt st L M n c kt) (hkf : gxJ G Y K (pc + 3) st L M n c kf) : gxJ G Y K pc (gI y :: gI x :: st) L M n c (gx_lt y x kt kf) := fun h => by
  rcases go_lt (dk := gg_dk G) hd h with ⟨hN, hz⟩ | ⟨hN, hz⟩
  · exact gj_go hkt (fun p e R s m args below meth cd X cells slots cw ad H locs ls Q uL us ul kk => lv_icmp_gt X.1 X.2.1 hdg ht (fun hc => kk ls uL (gv_2 us) ul) (fun hc => absurd hN hc)) hz
  · exact gj_go hkf (fun p e R s m args below meth cd X cells slots cw ad H locs ls Q uL us ul kk => lv_icmp_gt X.1 X.2.1 hdg ht (fun hc => absurd hc hN) (fun hc => kk ls uL (gv_2 us) ul)) hz
theorem gr_icmp_le {tgt : Nat} {off : Int} (hd : gx_D (gg_dk G)) (hdg : decode (gy_b Y) pc = .ok (.if_icmp .le off, 3)) (ht : (pc : Int) + off = (tgt : Int)) (hkt : gxJ G Y K tgt st L M n c kt) (hkf : gxJ G Y K (pc + 3) st L M n c kf) : gxJ G Y K pc (gI y :: gI x :: st) L M n c (gx_lt y x kf kt) := fun h => by
  rcases go_lt (dk := gg_dk G) hd h with ⟨hN, hz⟩ | ⟨hN, hz⟩
  · exact gj_go hkf (fun p e R s m args below meth cd X cells slots cw ad H locs ls Q uL us ul kk => lv_icmp_le X.1 X.2.1 hdg ht (fun hc => absurd hN (Int32.not_lt.mpr hc)) (fun hc => kk ls uL (gv_2 us) ul)) hz
  · exact gj_go hkt (fun p e R s m args below meth cd X cells slots cw ad H locs ls Q uL us ul kk => lv_icmp_le X.1 X.2.1 hdg ht (fun hc => kk ls uL (gv_2 us) ul) (fun hc => absurd (Int32.not_lt.mp hN) hc)) hz
theorem gr_z (dk : Nat → Nat) : gx_N dk 0 = 0 := (gn_c (by decide)).trans nI_0
theorem gr_z1 {dk : Nat → Nat} (hd : gx_D dk) (h : gx_eq x 0 kt kf = true) : (gx_N dk x = 0 ∧ kt = true) ∨ (¬ gx_N dk x = 0 ∧ kf = true) := by
  have := go_eq hd h
  rwa [gr_z] at this
theorem gr_z2 {dk : Nat → Nat} (hd : gx_D dk) (h : gx_lt x 0 kt kf = true) : (gx_N dk x < 0 ∧ kt = true) ∨ (¬ gx_N dk x < 0 ∧ kf = true) := by
  have := go_lt hd h
  rwa [gr_z] at this
theorem gr_z3 {dk : Nat → Nat} (hd : gx_D dk) (h : gx_lt 0 x kt kf = true) : (0 < gx_N dk x ∧ kt = true) ∨ (¬ 0 < gx_N dk x ∧ kf = true) := by
  have := go_lt hd h
  rwa [gr_z] at this
theorem gr_ifeq {tgt : Nat} {off : Int} (hd : gx_D (gg_dk G)) (hdg : decode (gy_b Y) pc = .ok (.ifCond .eq off, 3)) (ht : (pc : Int) + off = (tgt : Int)) (hkt : gxJ G Y K tgt st L M n c kt) (hkf : gxJ G Y K (pc + 3) st L M n c kf) : gxJ G Y K pc (gI x :: st) L M n c (gx_eq x 0 kt kf) := fun h => by
  rcases gr_z1 (dk := gg_dk G) hd h with ⟨hN, hz⟩ | ⟨hN, hz⟩
  · exact gj_go hkt (fun p e R s m args below meth cd X cells slots cw ad H locs ls Q uL us ul kk => lv_if_eq X.1 X.2.1 hdg ht (fun hc => kk ls uL (gv_oks_tl us) ul) (fun hc => absurd hN hc)) hz
  · exact gj_go hkf (fun p e R s m args below meth cd X cells slots cw ad H locs ls Q uL us ul kk => lv_if_eq X.1 X.2.1 hdg ht (fun hc => absurd hc hN) (fun hc => kk ls uL (gv_oks_tl us) ul)) hz
theorem gr_ifne {tgt : Nat} {off : Int} (hd : gx_D (gg_dk G)) (hdg : decode (gy_b Y) pc = .ok (.ifCond .ne off, 3)) (ht : (pc : Int) + off = (tgt : Int)) (hkt : gxJ G Y K tgt st L M n c kt) (hkf : gxJ G Y K (pc + 3) st L M n c kf) : gxJ G Y K pc (gI x :: st) L M n c (gx_eq x 0 kf kt) := fun h => by
  rcases gr_z1 (dk := gg_dk G) hd h with ⟨hN, hz⟩ | ⟨hN, hz⟩
  · exact gj_go hkf (fun p e R s m args below meth cd X cells slots cw ad H locs ls Q uL us ul kk => lv_if_ne X.1 X.2.1 hdg ht (fun hc => absurd hN hc) (fun hc => kk ls uL (gv_oks_tl us) ul)) hz
  · exact gj_go hkt (fun p e R s m args below meth cd X cells slots cw ad H locs ls Q uL us ul kk => lv_if_ne X.1 X.2.1 hdg ht (fun hc => kk ls uL (gv_oks_tl us) ul) (fun hc => absurd hc hN)) hz
theorem gr_iflt {tgt : Nat} {off : Int} (hd : gx_D (gg_dk G)) (hdg : decode (gy_b Y) pc = .ok (.ifCond .lt off, 3)) (ht : (pc : Int) + off = (tgt : Int)) (hkt : gxJ G Y K tgt st L M n c kt) (hkf : gxJ G Y K (pc + 3) st L M n c kf) : gxJ G Y K pc (gI x :: st) L M n c (gx_lt x 0 kt kf) := fun h => by
  rcases gr_z2 (dk := gg_dk G) hd h with ⟨hN, hz⟩ | ⟨hN, hz⟩
  · exact gj_go hkt (fun p e R s m args below meth cd X cells slots cw ad H locs ls Q uL us ul kk => lv_if_lt X.1 X.2.1 hdg ht (fun hc => kk ls uL (gv_oks_tl us) ul) (fun hc => absurd hN hc)) hz
  · exact gj_go hkf (fun p e R s m args below meth cd X cells slots cw ad H locs ls Q uL us ul kk => lv_if_lt X.1 X.2.1 hdg ht (fun hc => absurd hc hN) (fun hc => kk ls uL (gv_oks_tl us) ul)) hz
theorem gr_ifge {tgt : Nat} {off : Int} (hd : gx_D (gg_dk G)) (hdg : decode (gy_b Y) pc = .ok (.ifCond .ge off, 3)) (ht : (pc : Int) + off = (tgt : Int)) (hkt : gxJ G Y K tgt st L M n c kt) (hkf : gxJ G Y K (pc + 3) st L M n c kf) : gxJ G Y K pc (gI x :: st) L M n c (gx_lt x 0 kf kt) := fun h => by
  rcases gr_z2 (dk := gg_dk G) hd h with ⟨hN, hz⟩ | ⟨hN, hz⟩
  · exact gj_go hkf (fun p e R s m args below meth cd X cells slots cw ad H locs ls Q uL us ul kk => lv_if_ge X.1 X.2.1 hdg ht (fun hc => absurd hN (Int32.not_lt.mpr hc)) (fun hc => kk ls uL (gv_oks_tl us) ul)) hz
  · exact gj_go hkt (fun p e R s m args below meth cd X cells slots cw ad H locs ls Q uL us ul kk => lv_if_ge X.1 X.2.1 hdg ht (fun hc => kk ls uL (gv_oks_tl us) ul) (fun hc => absurd (Int32.not_lt.mp hN) hc)) hz
theorem gr_ifgt {tgt : Nat} {off : Int} (hd : gx_D (gg_dk G)) (hdg : decode (gy_b Y) pc = .ok (.ifCond .gt off, 3)) (ht : (pc : Int) + off = (tgt : Int)) (hkt : gxJ G Y K tgt st L M n c kt) (hkf : gxJ G Y K (pc + 3) st L M n c kf) : gxJ G Y K pc (gI x :: st) L M n c (gx_lt 0 x kt kf) := fun h => by
  rcases gr_z3 (dk := gg_dk G) hd h with ⟨hN, hz⟩ | ⟨hN, hz⟩
  · exact gj_go hkt (fun p e R s m args below meth cd X cells slots cw ad H locs ls Q uL us ul kk => lv_if_gt X.1 X.2.1 hdg ht (fun hc => kk ls uL (gv_oks_tl us) ul) (fun hc => absurd hN hc)) hz
  · exact gj_go hkf (fun p e R s m args below meth cd X cells slots cw ad H locs ls Q uL us ul kk => lv_if_gt X.1 X.2.1 hdg ht (fun hc => absurd hc hN) (fun hc => kk ls uL (gv_oks_tl us) ul)) hz
theorem gr_ifle {tgt : Nat} {off : Int} (hd : gx_D (gg_dk G)) (hdg : decode (gy_b Y) pc = .ok (.ifCond .le off, 3)) (ht : (pc : Int) + off = (tgt : Int)) (hkt : gxJ G Y K tgt st L M n c kt) (hkf : gxJ G Y K (pc + 3) st L M n c kf) : gxJ G Y K pc (gI x :: st) L M n c (gx_lt 0 x kf kt) := fun h => by
  rcases gr_z3 (dk := gg_dk G) hd h with ⟨hN, hz⟩ | ⟨hN, hz⟩
  · exact gj_go hkf (fun p e R s m args below meth cd X cells slots cw ad H locs ls Q uL us ul kk => lv_if_le X.1 X.2.1 hdg ht (fun hc => absurd hN (Int32.not_lt.mpr hc)) (fun hc => kk ls uL (gv_oks_tl us) ul)) hz
  · exact gj_go hkt (fun p e R s m args below meth cd X cells slots cw ad H locs ls Q uL us ul kk => lv_if_le X.1 X.2.1 hdg ht (fun hc => kk ls uL (gv_oks_tl us) ul) (fun hc => absurd (Int32.not_lt.mp hN) hc)) hz
theorem gr_dup {a b : gxV} (hdg : decode (gy_b Y) pc = .ok (.dup, 1)) (ha : gx_lg a = false) (hk : gxJ G Y K (pc + 1) (a :: a :: st) L M n c kt) : gxJ G Y K pc (a :: st) L M n c kt :=
  gj_go hk (fun p e R s m args below meth cd X cells slots cw ad H locs ls Q uL us ul kk => lv_dup X.1 X.2.1 hdg (gx_cat ha) (kk ls uL (gv_oks_cons (gv_oks_hd us) us) ul))
theorem gr_pop {a b : gxV} (hdg : decode (gy_b Y) pc = .ok (.pop, 1)) (ha : gx_lg a = false) (hk : gxJ G Y K (pc + 1) (st) L M n c kt) : gxJ G Y K pc (a :: st) L M n c kt :=
  gj_go hk (fun p e R s m args below meth cd X cells slots cw ad H locs ls Q uL us ul kk => lv_pop X.1 X.2.1 hdg (gx_cat ha) (kk ls uL (gv_oks_tl us) ul))
theorem gr_dup_x1 {a b : gxV} (hdg : decode (gy_b Y) pc = .ok (.dup_x1, 1)) (ha : gx_lg a = false) (hb : gx_lg b = false) (hk : gxJ G Y K (pc + 1) (a :: b :: a :: st) L M n c kt) : gxJ G Y K pc (a :: b :: st) L M n c kt :=
  gj_go hk (fun p e R s m args below meth cd X cells slots cw ad H locs ls Q uL us ul kk => lv_dup_x1 X.1 X.2.1 hdg (gx_cat ha) (gx_cat hb) (kk ls uL (gv_oks_cons (gv_oks_hd us) (gv_oks_cons (gv_oks_hd (gv_oks_tl us)) (gv_oks_cons (gv_oks_hd us) (gv_2 us)))) ul))
theorem gr_dup2_11 {a b : gxV} (hdg : decode (gy_b Y) pc = .ok (.dup2, 1)) (ha : gx_lg a = false) (hb : gx_lg b = false) (hk : gxJ G Y K (pc + 1) (a :: b :: a :: b :: st) L M n c kt) : gxJ G Y K pc (a :: b :: st) L M n c kt :=
  gj_go hk (fun p e R s m args below meth cd X cells slots cw ad H locs ls Q uL us ul kk => lv_dup2_11 X.1 X.2.1 hdg (gx_cat ha) (gx_cat hb) (kk ls uL (gv_oks_cons (gv_oks_hd us) (gv_oks_cons (gv_oks_hd (gv_oks_tl us)) us)) ul))
/-- a local counts -/
theorem gr_iinc {i d : Nat} {z : Int} {L' : Nat → List gxV} (hdg : decode (gy_b Y) pc = .ok (.iinc i z, 3)) (hz : Int32.ofInt z = nI d ∧ d < 4294967296) (hi : i < gy_l Y) (hx : L[i]? = some (gI x)) (hp : gx_pl L i = true) (hL : ∀ w, L.set i (gI w) = L' w) (hk : ∀ w, gxJ G Y K (pc + 3) st (L' w) M n c (k w)) : gxJ G Y K pc st L M n c (gx_add x d k) := fun h => by
  obtain ⟨w, hw, hN⟩ := go_add (dk := gg_dk G) h
  refine gj_go (hk w) (fun p e R s m args below meth cd X cells slots cw ad H locs ls Q uL us ul kk => ?_) hw
  have hm : (i, gx_den (gg_dk G) ad (gI x)) ∈ gx_ll (gg_dk G) ad 0 L := (gx_ll_mem L 0 _).mpr ⟨i, gI x, hx, rfl, by rw [Nat.zero_add]⟩
  obtain ⟨j, hj⟩ := List.getElem?_of_mem hm
  refine lv_iinc X.1 X.2.1 hdg uL hj (v := gx_N (gg_dk G) w) (by rw [hN, hz.1, gn_c hz.2]) hi rfl (fun ls' h' => ?_)
  rw [← hL] at kk
  exact kk ls' (gx_lc_set (v := gI w) hp h') us (gv_oks_set ul trivial)
/-- null? -/
noncomputable def gx_nul (x : Nat) (kt kf : Bool) : Bool := Bool.rec (motive := fun _ => Bool) kf kt (Nat.beq x 0)
theorem gx_rfn {ad : Nat → Nat} {x : Nat} (h : x ≠ 0) : gx_rf ad x = .ref (ad x) := if_neg h
theorem gr_ifnull {tgt t : Nat} {off : Int} (hdg : decode (gy_b Y) pc = .ok (.ifnull off, 3)) (ht : (pc : Int) + off = (tgt : Int)) (hkt : gxJ G Y K tgt st L M n c kt) (hkf : gxJ G Y K (pc + 3) st L M n c kf) : gxJ G Y K pc (gR t x :: st) L M n c (gx_nul x kt kf) := fun h => by
  rcases gb_true h with ⟨hc, h⟩ | ⟨hc, h⟩
  · have hx := gb_beq hc
    exact gj_go hkt (fun p e R s m args below meth cd X cells slots cw ad H locs ls Q uL us ul kk => by
      rw [List.map_cons, show gx_den (gg_dk G) ad (gR t x) = .null from if_pos hx]
      exact lv_ifnullN X.1 X.2.1 hdg ht (kk ls uL (gv_oks_tl us) ul)) h
  · have hx := gb_nbeq hc
    exact gj_go hkf (fun p e R s m args below meth cd X cells slots cw ad H locs ls Q uL us ul kk => by
      rw [List.map_cons, show gx_den (gg_dk G) ad (gR t x) = .ref (ad x) from if_neg hx]
      exact lv_ifnull X.1 X.2.1 hdg (kk ls uL (gv_oks_tl us) ul)) h
theorem gr_ifnonnull {tgt t : Nat} {off : Int} (hdg : decode (gy_b Y) pc = .ok (.ifnonnull off, 3)) (ht : (pc : Int) + off = (tgt : Int)) (hkt : gxJ G Y K tgt st L M n c kt) (hkf : gxJ G Y K (pc + 3) st L M n c kf) : gxJ G Y K pc (gR t x :: st) L M n c (gx_nul x kf kt) := fun h => by
  rcases gb_true h with ⟨hc, h⟩ | ⟨hc, h⟩
  · have hx := gb_beq hc
    exact gj_go hkf (fun p e R s m args below meth cd X cells slots cw ad H locs ls Q uL us ul kk => by
      rw [List.map_cons, show gx_den (gg_dk G) ad (gR t x) = .null from if_pos hx]
      exact lv_ifnonnullN X.1 X.2.1 hdg (kk ls uL (gv_oks_tl us) ul)) h
  · have hx := gb_nbeq hc
    exact gj_go hkt (fun p e R s m args below meth cd X cells slots cw ad H locs ls Q uL us ul kk => by
      rw [List.map_cons, show gx_den (gg_dk G) ad (gR t x) = .ref (ad x) from if_neg hx]
      exact lv_ifnonnull X.1 X.2.1 hdg ht (kk ls uL (gv_oks_tl us) ul)) h
end RL2
