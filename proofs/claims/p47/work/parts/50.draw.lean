/-! THE LAW'S DRAW. -/
section DRW
variable {G : gxG} {Y : gxY} {K : Nat → Nat → Nat → Nat → Bool} {pc : Nat} {st L : List gxV} {M n c x y : Nat} {e : Bool}
theorem gq_iadd (z : Nat) (hN : gx_N (gg_dk G) z = gx_N (gg_dk G) x + gx_N (gg_dk G) y) (hdg : decode (gy_b Y) pc = .ok (.iadd, 1)) (hk : gxJ G Y K (pc + 1) (gI z :: st) L M n c e) : gxJ G Y K pc (gI y :: gI x :: st) L M n c e :=
  gj_go hk (fun p e R s m args below meth cd X cells slots cw ad H locs ls Q uL us ul kk => by
    have w := kk ls uL (gv_oks_cons trivial (gv_2 us)) ul
    rw [List.map_cons, show gx_den (gg_dk G) ad (gI z) = _ from congrArg Value.int hN] at w
    exact lv_iadd X.1 X.2.1 hdg w)
theorem gq_imul (z : Nat) (hN : gx_N (gg_dk G) z = gx_N (gg_dk G) x * gx_N (gg_dk G) y) (hdg : decode (gy_b Y) pc = .ok (.imul, 1)) (hk : gxJ G Y K (pc + 1) (gI z :: st) L M n c e) : gxJ G Y K pc (gI y :: gI x :: st) L M n c e :=
  gj_go hk (fun p e R s m args below meth cd X cells slots cw ad H locs ls Q uL us ul kk => by
    have w := kk ls uL (gv_oks_cons trivial (gv_2 us)) ul
    rw [List.map_cons, show gx_den (gg_dk G) ad (gI z) = _ from congrArg Value.int hN] at w
    exact lv_imul X.1 X.2.1 hdg w)
theorem gq_ixor (z : Nat) (hN : gx_N (gg_dk G) z = gx_N (gg_dk G) x ^^^ gx_N (gg_dk G) y) (hdg : decode (gy_b Y) pc = .ok (.ixor, 1)) (hk : gxJ G Y K (pc + 1) (gI z :: st) L M n c e) : gxJ G Y K pc (gI y :: gI x :: st) L M n c e :=
  gj_go hk (fun p e R s m args below meth cd X cells slots cw ad H locs ls Q uL us ul kk => by
    have w := kk ls uL (gv_oks_cons trivial (gv_2 us)) ul
    rw [List.map_cons, show gx_den (gg_dk G) ad (gI z) = _ from congrArg Value.int hN] at w
    exact lv_ixor X.1 X.2.1 hdg w)
theorem gq_iand (z : Nat) (hN : gx_N (gg_dk G) z = gx_N (gg_dk G) x &&& gx_N (gg_dk G) y) (hdg : decode (gy_b Y) pc = .ok (.iand, 1)) (hk : gxJ G Y K (pc + 1) (gI z :: st) L M n c e) : gxJ G Y K pc (gI y :: gI x :: st) L M n c e :=
  gj_go hk (fun p e R s m args below meth cd X cells slots cw ad H locs ls Q uL us ul kk => by
    have w := kk ls uL (gv_oks_cons trivial (gv_2 us)) ul
    rw [List.map_cons, show gx_den (gg_dk G) ad (gI z) = _ from congrArg Value.int hN] at w
    exact lv_iand X.1 X.2.1 hdg w)
theorem gq_iushr (z : Nat) (hN : gx_N (gg_dk G) z = ((gx_N (gg_dk G) x).toUInt32 >>> ((gx_N (gg_dk G) y).toUInt32 &&& Int32.toUInt32 31)).toInt32) (hdg : decode (gy_b Y) pc = .ok (.iushr, 1)) (hk : gxJ G Y K (pc + 1) (gI z :: st) L M n c e) : gxJ G Y K pc (gI y :: gI x :: st) L M n c e :=
  gj_go hk (fun p e R s m args below meth cd X cells slots cw ad H locs ls Q uL us ul kk => by
    have w := kk ls uL (gv_oks_cons trivial (gv_2 us)) ul
    rw [List.map_cons, show gx_den (gg_dk G) ad (gI z) = _ from congrArg Value.int hN] at w
    exact lv_iushr X.1 X.2.1 hdg rfl w)
theorem gq_irem (z : Nat) (hne : ¬ gx_N (gg_dk G) y = 0) (hN : gx_N (gg_dk G) z = gx_N (gg_dk G) x - gx_N (gg_dk G) x / gx_N (gg_dk G) y * gx_N (gg_dk G) y) (hdg : decode (gy_b Y) pc = .ok (.irem, 1)) (hk : gxJ G Y K (pc + 1) (gI z :: st) L M n c e) : gxJ G Y K pc (gI y :: gI x :: st) L M n c e :=
  gj_go hk (fun p e R s m args below meth cd X cells slots cw ad H locs ls Q uL us ul kk => by
    have w := kk ls uL (gv_oks_cons trivial (gv_2 us)) ul
    rw [List.map_cons, show gx_den (gg_dk G) ad (gI z) = _ from congrArg Value.int hN] at w
    exact lv_irem X.1 X.2.1 hdg hne w)
/-- the same number under another name -/
theorem gq_re (z : Nat) (hN : gx_N (gg_dk G) z = gx_N (gg_dk G) x) (hk : gxJ G Y K pc (gI z :: st) L M n c e) : gxJ G Y K pc (gI x :: st) L M n c e :=
  gj_go hk (fun p e R s m args below meth cd X cells slots cw ad H locs ls Q uL us ul kk => by
    have w := kk ls uL (gv_oks_cons trivial (gv_oks_tl us)) ul
    rw [List.map_cons, show gx_den (gg_dk G) ad (gI z) = _ from congrArg Value.int hN] at w
    exact w)
theorem gq_ifne {tgt : Nat} {off : Int} (hdg : decode (gy_b Y) pc = .ok (.ifCond .ne off, 3)) (ht : (pc : Int) + off = (tgt : Int)) (hkt : gx_N (gg_dk G) x ≠ 0 → gxJ G Y K tgt st L M n c e) (hkf : gx_N (gg_dk G) x = 0 → gxJ G Y K (pc + 3) st L M n c e) : gxJ G Y K pc (gI x :: st) L M n c e := by
  by_cases hN : gx_N (gg_dk G) x = 0
  · exact gj_go (hkf hN) (fun p e R s m args below meth cd X cells slots cw ad H locs ls Q uL us ul kk => lv_if_ne X.1 X.2.1 hdg ht (fun hc => absurd hN hc) (fun hc => kk ls uL (gv_oks_tl us) ul))
  · exact gj_go (hkt hN) (fun p e R s m args below meth cd X cells slots cw ad H locs ls Q uL us ul kk => lv_if_ne X.1 X.2.1 hdg ht (fun hc => kk ls uL (gv_oks_tl us) ul) (fun hc => absurd hc hN))
theorem gq_icmpge {tgt : Nat} {off : Int} (hdg : decode (gy_b Y) pc = .ok (.if_icmp .ge off, 3)) (ht : (pc : Int) + off = (tgt : Int)) (hkt : ¬ gx_N (gg_dk G) x < gx_N (gg_dk G) y → gxJ G Y K tgt st L M n c e) (hkf : gx_N (gg_dk G) x < gx_N (gg_dk G) y → gxJ G Y K (pc + 3) st L M n c e) : gxJ G Y K pc (gI y :: gI x :: st) L M n c e := by
  by_cases hN : gx_N (gg_dk G) x < gx_N (gg_dk G) y
  · exact gj_go (hkf hN) (fun p e R s m args below meth cd X cells slots cw ad H locs ls Q uL us ul kk => lv_icmp_ge X.1 X.2.1 hdg ht (fun hc => absurd hN (Int32.not_lt.mpr hc)) (fun hc => kk ls uL (gv_2 us) ul))
  · exact gj_go (hkt hN) (fun p e R s m args below meth cd X cells slots cw ad H locs ls Q uL us ul kk => lv_icmp_ge X.1 X.2.1 hdg ht (fun hc => kk ls uL (gv_2 us) ul) (fun hc => absurd (Int32.not_lt.mp hN) hc))
theorem gj_g {b : Bool} (hk : b = true → gxJ G Y K pc st L M n c e) : gxJ G Y K pc st L M n c (gx_g b e) := fun h => by
  obtain ⟨h1, h2⟩ := gb_t h
  exact hk h1 h2
/-- a field is read where it is known -/
theorem gq_getf {index t j σ w : Nat} {sv : Nat → gxV} {C : String} {T : u_T} {N : Nat} (hx : x ≠ 0) (hw : gx_rd M (Nat.add x j) = w) (hdg : decode (gy_b Y) pc = .ok (.getfield index, 3)) (ht : gx_cl[t]? = some (C, T, N)) (hσ : (gx_F t)[j]? = some σ) (hsv : ∀ v, gx_sl σ v = sv v) (hlink : Cond.fieldLink (gy_o Y) index (T j).1 (T j).2.1 (T j).2.2.1 ∈ gx_ws) (h8 : t = 8 → j < 2)
    (hk : gxJ G Y K (pc + 3) (sv w :: st) L M n c e) : gxJ G Y K pc (gR t x :: st) L M n c e := by
  have h := gr_getf (G := G) (K := K) (x := x) (M := M) (st := st) (L := L) (n := n) (c := c) (k := fun v => gx_g (Nat.beq v w) e) hdg ht hσ hsv hlink h8 (fun v => gj_g (fun hv => by
    have hv : v = w := gb_beq hv
    subst hv
    exact hk))
  have e1 : gx_get x j M (fun v => gx_g (Nat.beq v w) e) = e := by
    unfold gx_get
    rw [show Nat.beq x 0 = false by cases hb : Nat.beq x 0; rfl; exact absurd (gb_beq hb) hx, hw]
    show gx_g (Nat.beq w w) e = e
    rw [show Nat.beq w w = true from Nat.beq_refl w]
    rfl
  rw [e1] at h
  exact h
/-- the script -/
def gxS (G : gxG) (Ln : Nat) (xs : Nat → Int32) : Prop := va_X (gg_ad G 1) Ln xs (gg_s G) (gg_s G).heap ∧ gg_ad G 1 < gg_lo G ∧ Ln ≤ 260
theorem gs_X {Ln : Nat} {xs : Nat → Int32} {p : Program} {R : Room} {s : State} {m : MethodId} {args : Array Value} {meth : Method} {cd : Code} (hS : gxS G Ln xs) (X : gxX G Y p R s m args meth cd) : va_X (gg_ad G 1) Ln xs s s.heap ∧ gg_ad G 1 < s.heap.size ∧ gg_cr G = gx_cr := by
  obtain ⟨x1, x2, x3, x4, x5, x6, x7, ⟨x8, x9, x10, z1, z2, z3, z4, z5, z6, z7, z8, z9⟩, x11, ⟨x12, x13⟩, x14⟩ := X
  exact ⟨(va_X.moved x8.alike hS.1).kept (x13 _ hS.2.1), Nat.lt_of_lt_of_le hS.2.1 x12, z8⟩
theorem gq_alen {Ln : Nat} {xs : Nat → Int32} (hS : gxS G Ln xs) (hdg : decode (gy_b Y) pc = .ok (.arraylength, 1)) (hk : gxJ G Y K (pc + 1) (gI Ln :: st) L M n c e) : gxJ G Y K pc (gR 99 1 :: st) L M n c e :=
  gj_go2 hk fun p e R s m args below meth cd X cells slots cw ad H locs ls Q uI uS uL us ul kk => by
    have w := kk ls uL (gv_oks_cons trivial (gv_oks_tl us)) ul
    obtain ⟨h1, h2, h3⟩ := gs_X hS X
    have hc : ((1, (99, 0)) : gxq) ∈ gg_cr G := by rw [h3]; decide
    rw [List.map_cons, show gx_den (gg_dk G) ad (gI Ln) = .int (Int32.ofNat Ln) from congrArg Value.int (gn_c (by have := hS.2.2; omega))] at w
    rw [List.map_cons, gs_ref (by decide), uI.2.2.2.2.2.2.2.2.2 _ hc]
    exact va_slen X.1 X.2.1 h1 h2 (by show ¬ gg_lo G ≤ gg_ad G 1; have := hS.2.1; omega) uS hdg w
theorem gq_iald {Ln i z : Nat} {xs : Nat → Int32} (hS : gxS G Ln xs) (hi : i < Ln) (hz : gx_N (gg_dk G) z = xs i) (hdg : decode (gy_b Y) pc = .ok (.iaload, 1)) (hk : gxJ G Y K (pc + 1) (gI z :: st) L M n c e) : gxJ G Y K pc (gI i :: gR 99 1 :: st) L M n c e :=
  gj_go2 hk fun p e R s m args below meth cd X cells slots cw ad H locs ls Q uI uS uL us ul kk => by
    have w := kk ls uL (gv_oks_cons trivial (gv_oks_tl (gv_oks_tl us))) ul
    obtain ⟨h1, h2, h3⟩ := gs_X hS X
    have hc : ((1, (99, 0)) : gxq) ∈ gg_cr G := by rw [h3]; decide
    have h260 := hS.2.2
    rw [List.map_cons, show gx_den (gg_dk G) ad (gI z) = .int (xs (nI i).toNatClampNeg) from congrArg Value.int (by rw [nI_clamp (by omega)]; exact hz)] at w
    rw [List.map_cons, List.map_cons, gs_ref (by decide), uI.2.2.2.2.2.2.2.2.2 _ hc, show gx_den (gg_dk G) ad (gI i) = .int (nI i) from congrArg Value.int (gn_c (by omega))]
    exact va_sld X.1 X.2.1 h1 h2 (by show ¬ gg_lo G ≤ gg_ad G 1; have := hS.2.1; omega) uS (nI_in hi (by omega)) hdg w
end DRW
theorem gq_inc {i d x w : Nat} {z : Int} {L' : List gxV} {G : gxG} {Y : gxY} {K : Nat → Nat → Nat → Nat → Bool} {pc : Nat} {st L : List gxV} {M n c : Nat} {e : Bool} (hdg : decode (gy_b Y) pc = .ok (.iinc i z, 3)) (hz : Int32.ofInt z = nI d ∧ d < 4294967296) (hi : i < gy_l Y) (hx : L[i]? = some (gI x)) (hp : gx_pl L i = true) (hL : L.set i (gI w) = L') (hw : gx_N (gg_dk G) w = gx_N (gg_dk G) x + nI d) (hk : gxJ G Y K (pc + 3) st L' M n c e) : gxJ G Y K pc st L M n c e := by
  subst hL
  refine gj_go hk (fun p e R s m args below meth cd X cells slots cw ad H locs ls Q uL us ul kk => ?_)
  have hm : (i, gx_den (gg_dk G) ad (gI x)) ∈ gx_ll (gg_dk G) ad 0 L := (gx_ll_mem L 0 _).mpr ⟨i, gI x, hx, rfl, by rw [Nat.zero_add]⟩
  obtain ⟨j, hj⟩ := List.getElem?_of_mem hm
  exact lv_iinc X.1 X.2.1 hdg uL hj (v := gx_N (gg_dk G) w) (by rw [hw, hz.1]) hi rfl (fun ls' h' => kk ls' (gx_lc_set (v := gI w) hp h') us (gv_oks_set ul trivial))
/-- the code of a number that is known -/
def gk_c (z : Int32) : Nat := z.toBitVec.toNat
theorem gk_N (dk : Nat → Nat) (z : Int32) : gx_N dk (gk_c z) = z := (gn_c z.toBitVec.isLt).trans (gn_tn z)
/-! what the law's helpers answer -/
def gq_us (x y : Int32) : Int32 := (x.toUInt32 >>> (y.toUInt32 &&& Int32.toUInt32 31)).toInt32
def gq_h (Ln : Nat) (xs : Nat → Int32) : Nat → Int32
  | 0 => nI 790386105 + nI Ln
  | i + 1 => ((gq_h Ln xs i ^^^ xs i) ^^^ gq_us (gq_h Ln xs i) (nI 15)) * nI 16777619
def gq_f (Ln : Nat) (xs : Nat → Int32) : Int32 := gq_h Ln xs Ln ^^^ gq_us (gq_h Ln xs Ln) (nI 13)
def gq_S (Ln : Nat) (xs : Nat → Int32) : Int32 := if gq_f Ln xs &&& nI 3 = 0 then nI 0 else gq_f Ln xs
def gq_cell (Ln : Nat) (xs : Nat → Int32) (i : Nat) : Int32 := if i < Ln then xs i else nI 790386105 * (nI i + nI 1)
def gq_mv (S a : Int32) : Int32 := (S + a * nI 2654435769) * nI 2246822507
def gq_mw (S a : Int32) : Int32 := (gq_mv S a ^^^ gq_us (gq_mv S a) (nI 15)) * nI 3266489909
def gq_mix (S a : Int32) : Int32 := gq_mw S a ^^^ gq_us (gq_mw S a) (nI 16)
def gq_raw (Ln : Nat) (xs : Nat → Int32) (j : Nat) : Int32 := if gq_S Ln xs = 0 then gq_cell Ln xs (j + 1) ^^^ gq_us (gq_cell Ln xs (j + 2)) (nI 7) else gq_mix (gq_S Ln xs) (nI (j + 1))
def gq_m (Ln : Nat) (xs : Nat → Int32) (j : Nat) : Nat := (gq_raw Ln xs j).toBitVec.toNat % 2147483648
def gY_stir : gxY := (false, method_4_code, 6, (Option.some FieldType.int), "FarfilesLaw", 1, 40, 0, [], "stirred")
def gY_cell : gxY := (false, method_2_code, 2, (Option.some FieldType.int), "FarfilesLaw", 1, 40, 0, [], "cell")
def gY_mix : gxY := (false, method_5_code, 3, (Option.some FieldType.int), "FarfilesLaw", 1, 40, 0, [], "mixed")
theorem ok_stir {Y : gxY} (h1 : gy_f gY_stir + 1 ≤ gy_f Y) (h2 : 8 + (gy_l gY_stir + 11) + gy_k gY_stir ≤ gy_k Y) : gh_ok Y gY_stir yL_stirred 1 := ⟨wd_369, wd_50, ⟨by decide, by decide⟩, by decide +kernel, h1, h2⟩
theorem ok_cell {Y : gxY} (h1 : gy_f gY_cell + 1 ≤ gy_f Y) (h2 : 8 + (gy_l gY_cell + 11) + gy_k gY_cell ≤ gy_k Y) : gh_ok Y gY_cell yL_cell 2 := ⟨wd_374, wd_50, ⟨by decide, by decide⟩, by decide +kernel, h1, h2⟩
theorem ok_mix {Y : gxY} (h1 : gy_f gY_mix + 1 ≤ gy_f Y) (h2 : 8 + (gy_l gY_mix + 11) + gy_k gY_mix ≤ gy_k Y) : gh_ok Y gY_mix yL_mixed 2 := ⟨wd_377, wd_50, ⟨by decide, by decide⟩, by decide +kernel, h1, h2⟩
abbrev gq_sd : Nat := 85899345920
theorem gq_sdN {dk : Nat → Nat} {S : Int32} (h : dk 5 = gk_c S) : gx_N dk gq_sd = S := by
  have e : gx_N dk gq_sd = nI 85899345920 + Int32.ofInt (gx_sc 0) * nI (dk 5) := if_neg (by decide)
  rw [e, h, show nI 85899345920 = 0 by decide +kernel, show Int32.ofInt (gx_sc 0) = 1 from rfl, Int32.one_mul, Int32.zero_add]
  exact gn_tn S
noncomputable def fd_stir (M n c : Nat) (K : Nat → Nat → Nat → Nat → Bool) : Bool := gx_rt gx_f0 gq_sd (K gq_sd M n c)
noncomputable def fd_kc (z : Int32) (M n c : Nat) (K : Nat → Nat → Nat → Nat → Bool) : Bool := gx_rt gx_f0 (gk_c z) (K (gk_c z) M n c)
theorem gx_put0 {j v M : Nat} {f k : Nat → Bool} : gx_put 0 j v M f k = false := rfl
theorem gk_lt (z : Int32) : gk_c z < 4294967296 := z.toBitVec.isLt
theorem gk_f0 (z : Int32) : gx_f0 (gk_c z) = true := Nat.ble_eq_true_of_le (by have := gk_lt z; omega)
theorem gq_once {z : Int32} {M n c : Nat} {e : Bool} : fd_kc z M n c (fun v M1 n1 c1 => gx_g (Bool.and (Nat.beq v (gk_c z)) (Bool.and (Nat.beq M1 M) (Bool.and (Nat.beq n1 n) (Nat.beq c1 c)))) e) = e := by
  unfold fd_kc gx_rt
  rw [gk_f0]
  show gx_g _ e = e
  rw [show Nat.beq (gk_c z) (gk_c z) = true from Nat.beq_refl _, show Nat.beq M M = true from Nat.beq_refl _, show Nat.beq n n = true from Nat.beq_refl _, show Nat.beq c c = true from Nat.beq_refl _]
  rfl
theorem gq_onceS {M n c : Nat} {e : Bool} : fd_stir M n c (fun v M1 n1 c1 => gx_g (Bool.and (Nat.beq v gq_sd) (Bool.and (Nat.beq M1 M) (Bool.and (Nat.beq n1 n) (Nat.beq c1 c)))) e) = e := by
  unfold fd_stir gx_rt
  rw [show gx_f0 gq_sd = true by decide +kernel]
  show gx_g _ e = e
  rw [show Nat.beq gq_sd gq_sd = true by decide +kernel, show Nat.beq M M = true from Nat.beq_refl _, show Nat.beq n n = true from Nat.beq_refl _, show Nat.beq c c = true from Nat.beq_refl _]
  rfl
theorem gq_eqs {v z M1 M n1 n c1 c : Nat} (h : Bool.and (Nat.beq v z) (Bool.and (Nat.beq M1 M) (Bool.and (Nat.beq n1 n) (Nat.beq c1 c))) = true) : z = v ∧ M = M1 ∧ n = n1 ∧ c = c1 := by
  obtain ⟨h1, h⟩ := go_and h
  obtain ⟨h2, h⟩ := go_and h
  obtain ⟨h3, h4⟩ := go_and h
  exact ⟨(gb_beq h1).symm, (gb_beq h2).symm, (gb_beq h3).symm, (gb_beq h4).symm⟩
theorem h_stl {G : gxG} {Ln : Nat} {xs : Nat → Int32} (hG : gxG0 G) (hS : gxS G Ln xs) (hdk : gg_dk G 5 = gk_c (gq_S Ln xs)) {K : Nat → Nat → Nat → Nat → Bool} (M n c : Nat) : ∀ (d i : Nat), i + d = Ln → gxJ G gY_stir K 14 [] [gR 99 1, gI (gk_c (gq_h Ln xs i)), gR 99 1, gI Ln, gI (i), gB] M n c (fd_stir M n c K) := by
  have h260 := hS.2.2
  intro d
  induction d with
  | zero =>
    intro i hi
    obtain rfl : i = Ln := hi
    refine gr_iload (pc := 14) (i := 4) i (show decode (gy_b gY_stir) 14 = .ok (.iload 4, 2) by decide +kernel) rfl ?_
    refine gr_iload_n (pc := 16) (i := 3) i (show decode (gy_b gY_stir) 16 = .ok (.iload_n 3, 1) by decide +kernel) rfl rfl ?_
    refine gq_icmpge (pc := 17) (tgt := 45) (off := 28) (show decode (gy_b gY_stir) 17 = .ok (.if_icmp .ge 28, 3) by decide +kernel) (by decide) ?_ (fun h => absurd h (by rw [Int32.lt_iff_toInt_lt]; omega))
    intro _
    refine gr_iload_n (pc := 45) (i := 1) (gk_c (gq_h i xs i)) (show decode (gy_b gY_stir) 45 = .ok (.iload_n 1, 1) by decide +kernel) rfl rfl ?_
    refine gr_iload_n (pc := 46) (i := 1) (gk_c (gq_h i xs i)) (show decode (gy_b gY_stir) 46 = .ok (.iload_n 1, 1) by decide +kernel) rfl rfl ?_
    refine gr_bipush (pc := 47) (z := 13) 13 (show decode (gy_b gY_stir) 47 = .ok (.bipush 13, 2) by decide +kernel) (by decide +kernel) ?_
    refine gq_iushr (pc := 49) (gk_c (gq_us (gq_h i xs i) (nI 13))) (by rw [gk_N, gk_N, gn_c (by decide)]; rfl) (show decode (gy_b gY_stir) 49 = .ok (.iushr, 1) by decide +kernel) ?_
    refine gq_ixor (pc := 50) (gk_c (gq_f i xs)) (by rw [gk_N, gk_N, gk_N]; rfl) (show decode (gy_b gY_stir) 50 = .ok (.ixor, 1) by decide +kernel) ?_
    refine gr_istore_n (pc := 51) (i := 1) (L' := [gR 99 1, gI (gk_c (gq_f i xs)), gR 99 1, gI i, gI i, gB]) (show decode (gy_b gY_stir) 51 = .ok (.istore_n 1, 1) by decide +kernel) rfl (by decide) rfl rfl ?_
    refine gr_iload_n (pc := 52) (i := 1) (gk_c (gq_f i xs)) (show decode (gy_b gY_stir) 52 = .ok (.iload_n 1, 1) by decide +kernel) rfl rfl ?_
    refine gr_iconst (pc := 53) (z := 3) 3 (show decode (gy_b gY_stir) 53 = .ok (.iconst 3, 1) by decide +kernel) kc_3 ?_
    refine gq_iand (pc := 54) (gk_c (gq_f i xs &&& nI 3)) (by rw [gk_N, gk_N, gn_c (by decide)]) (show decode (gy_b gY_stir) 54 = .ok (.iand, 1) by decide +kernel) ?_
    have fin : ∀ z : Nat, gx_N (gg_dk G) z = gq_S i xs → gxJ G gY_stir K 63 [gI z] [gR 99 1, gI (gk_c (gq_f i xs)), gR 99 1, gI i, gI i, gB] M n c (fd_stir M n c K) := fun z hz => gq_re gq_sd ((gq_sdN hdk).trans hz.symm) (gr_ireturn (pc := 63) (show decode (gy_b gY_stir) 63 = .ok (.ireturn, 1) by decide +kernel) rfl rfl (by decide) gv_0)
    refine gq_ifne (pc := 55) (tgt := 62) (off := 7) (show decode (gy_b gY_stir) 55 = .ok (.ifCond .ne 7, 3) by decide +kernel) (by decide) (fun hne => ?_) (fun heq => ?_)
    · refine gr_iload_n (pc := 62) (i := 1) (gk_c (gq_f i xs)) (show decode (gy_b gY_stir) 62 = .ok (.iload_n 1, 1) by decide +kernel) rfl rfl ?_
      exact fin _ (by rw [gk_N] at hne ⊢; unfold gq_S; rw [if_neg hne])
    · refine gr_iconst (pc := 58) (z := 0) 0 (show decode (gy_b gY_stir) 58 = .ok (.iconst 0, 1) by decide +kernel) kc_0 ?_
      refine gr_goto (pc := 59) (tgt := 63) (off := 4) (show decode (gy_b gY_stir) 59 = .ok (.goto 4, 3) by decide +kernel) (by decide) ?_
      exact fin _ (by rw [gk_N] at heq; unfold gq_S; rw [if_pos heq]; exact gn_c (by decide))
  | succ d ih =>
    intro i hi
    have hlt : i < Ln := by omega
    refine gr_iload (pc := 14) (i := 4) i (show decode (gy_b gY_stir) 14 = .ok (.iload 4, 2) by decide +kernel) rfl ?_
    refine gr_iload_n (pc := 16) (i := 3) Ln (show decode (gy_b gY_stir) 16 = .ok (.iload_n 3, 1) by decide +kernel) rfl rfl ?_
    refine gq_icmpge (pc := 17) (tgt := 45) (off := 28) (show decode (gy_b gY_stir) 17 = .ok (.if_icmp .ge 28, 3) by decide +kernel) (by decide) (fun h => absurd ((gn_c (show i < 4294967296 by omega) (dk := gg_dk G)).symm ▸ (gn_c (show Ln < 4294967296 by omega) (dk := gg_dk G)).symm ▸ (nI_ltI (show i < 2147483648 by omega) (show Ln < 2147483648 by omega)).mpr (by omega)) h) ?_
    intro _
    refine gr_aload_n (pc := 20) (i := 2) 99 1 (show decode (gy_b gY_stir) 20 = .ok (.aload_n 2, 1) by decide +kernel) rfl rfl ?_
    refine gr_iload (pc := 21) (i := 4) i (show decode (gy_b gY_stir) 21 = .ok (.iload 4, 2) by decide +kernel) rfl ?_
    refine gq_iald (pc := 23) (z := gk_c (xs i)) hS hlt (gk_N _ _) (show decode (gy_b gY_stir) 23 = .ok (.iaload, 1) by decide +kernel) ?_
    refine gr_istore (pc := 24) (i := 5) (L' := [gR 99 1, gI (gk_c (gq_h Ln xs i)), gR 99 1, gI Ln, gI (i), gI (gk_c (xs i))]) (show decode (gy_b gY_stir) 24 = .ok (.istore 5, 2) by decide +kernel) (by decide) rfl rfl ?_
    refine gr_iload_n (pc := 26) (i := 1) (gk_c (gq_h Ln xs i)) (show decode (gy_b gY_stir) 26 = .ok (.iload_n 1, 1) by decide +kernel) rfl rfl ?_
    refine gr_iload (pc := 27) (i := 5) (gk_c (xs i)) (show decode (gy_b gY_stir) 27 = .ok (.iload 5, 2) by decide +kernel) rfl ?_
    refine gq_ixor (pc := 29) (gk_c (gq_h Ln xs i ^^^ xs i)) (by rw [gk_N, gk_N, gk_N]) (show decode (gy_b gY_stir) 29 = .ok (.ixor, 1) by decide +kernel) ?_
    refine gr_iload_n (pc := 30) (i := 1) (gk_c (gq_h Ln xs i)) (show decode (gy_b gY_stir) 30 = .ok (.iload_n 1, 1) by decide +kernel) rfl rfl ?_
    refine gr_bipush (pc := 31) (z := 15) 15 (show decode (gy_b gY_stir) 31 = .ok (.bipush 15, 2) by decide +kernel) (by decide +kernel) ?_
    refine gq_iushr (pc := 33) (gk_c (gq_us (gq_h Ln xs i) (nI 15))) (by rw [gk_N, gk_N, gn_c (by decide)]; rfl) (show decode (gy_b gY_stir) 33 = .ok (.iushr, 1) by decide +kernel) ?_
    refine gq_ixor (pc := 34) (gk_c ((gq_h Ln xs i ^^^ xs i) ^^^ gq_us (gq_h Ln xs i) (nI 15))) (by rw [gk_N, gk_N, gk_N]) (show decode (gy_b gY_stir) 34 = .ok (.ixor, 1) by decide +kernel) ?_
    refine gr_ldc (pc := 35) (index := 41) (z := 16777619) 16777619 (show decode (gy_b gY_stir) 35 = .ok (.ldc 41, 2) by decide +kernel) wd_371 (by decide +kernel) ?_
    refine gq_imul (pc := 37) (gk_c (gq_h Ln xs (i + 1))) (by rw [gk_N, gk_N, gn_c (by decide)]; rfl) (show decode (gy_b gY_stir) 37 = .ok (.imul, 1) by decide +kernel) ?_
    refine gr_istore_n (pc := 38) (i := 1) (L' := [gR 99 1, gI (gk_c (gq_h Ln xs (i + 1))), gR 99 1, gI Ln, gI (i), gI (gk_c (xs i))]) (show decode (gy_b gY_stir) 38 = .ok (.istore_n 1, 1) by decide +kernel) rfl (by decide) rfl rfl ?_
    refine gq_inc (pc := 39) (i := 4) (d := 1) (z := 1) (w := i + 1) (L' := [gR 99 1, gI (gk_c (gq_h Ln xs (i + 1))), gR 99 1, gI Ln, gI (i + 1), gI (gk_c (xs i))]) (show decode (gy_b gY_stir) 39 = .ok (.iinc 4 1, 3) by decide +kernel) (by decide +kernel) (by decide) rfl rfl rfl (by rw [gn_c (show i < 4294967296 by omega), gn_c (show i + 1 < 4294967296 by omega), nI_add]) ?_
    refine gr_goto (pc := 42) (tgt := 14) (off := -28) (show decode (gy_b gY_stir) 42 = .ok (.goto (-28), 3) by decide +kernel) (by decide) ?_
    refine gr_wk [true, true, true, true, true, false] rfl ?_
    exact ih (i + 1) (by omega)
theorem h_stir {G : gxG} {Ln : Nat} {xs : Nat → Int32} (hG : gxG0 G) (hS : gxS G Ln xs) (hdk : gg_dk G 5 = gk_c (gq_S Ln xs)) {K : Nat → Nat → Nat → Nat → Bool} (M n c : Nat) : gxJ G gY_stir K 0 [] [gR 99 1, gB, gB, gB, gB, gB] M n c (fd_stir M n c K) := by
  have h260 := hS.2.2
  refine gr_ldc (pc := 0) (index := 16) (z := 790386105) 790386105 (show decode (gy_b gY_stir) 0 = .ok (.ldc 16, 2) by decide +kernel) wd_370 (by decide +kernel) ?_
  refine gr_aload_n (pc := 2) (i := 0) 99 1 (show decode (gy_b gY_stir) 2 = .ok (.aload_n 0, 1) by decide +kernel) rfl rfl ?_
  refine gq_alen (pc := 3) hS (show decode (gy_b gY_stir) 3 = .ok (.arraylength, 1) by decide +kernel) ?_
  refine gq_iadd (pc := 4) (gk_c (gq_h Ln xs 0)) (by rw [gk_N, gn_c (by decide), gn_c (show Ln < 4294967296 by omega)]; rfl) (show decode (gy_b gY_stir) 4 = .ok (.iadd, 1) by decide +kernel) ?_
  refine gr_istore_n (pc := 5) (i := 1) (L' := [gR 99 1, gI (gk_c (gq_h Ln xs 0)), gB, gB, gB, gB]) (show decode (gy_b gY_stir) 5 = .ok (.istore_n 1, 1) by decide +kernel) rfl (by decide) rfl rfl ?_
  refine gr_aload_n (pc := 6) (i := 0) 99 1 (show decode (gy_b gY_stir) 6 = .ok (.aload_n 0, 1) by decide +kernel) rfl rfl ?_
  refine gr_astore_n (pc := 7) (i := 2) (L' := [gR 99 1, gI (gk_c (gq_h Ln xs 0)), gR 99 1, gB, gB, gB]) (show decode (gy_b gY_stir) 7 = .ok (.astore_n 2, 1) by decide +kernel) rfl (by decide) rfl rfl ?_
  refine gr_aload_n (pc := 8) (i := 2) 99 1 (show decode (gy_b gY_stir) 8 = .ok (.aload_n 2, 1) by decide +kernel) rfl rfl ?_
  refine gq_alen (pc := 9) hS (show decode (gy_b gY_stir) 9 = .ok (.arraylength, 1) by decide +kernel) ?_
  refine gr_istore_n (pc := 10) (i := 3) (L' := [gR 99 1, gI (gk_c (gq_h Ln xs 0)), gR 99 1, gI Ln, gB, gB]) (show decode (gy_b gY_stir) 10 = .ok (.istore_n 3, 1) by decide +kernel) rfl (by decide) rfl rfl ?_
  refine gr_iconst (pc := 11) (z := 0) 0 (show decode (gy_b gY_stir) 11 = .ok (.iconst 0, 1) by decide +kernel) kc_0 ?_
  refine gr_istore (pc := 12) (i := 4) (L' := [gR 99 1, gI (gk_c (gq_h Ln xs 0)), gR 99 1, gI Ln, gI 0, gB]) (show decode (gy_b gY_stir) 12 = .ok (.istore 4, 2) by decide +kernel) (by decide) rfl rfl ?_
  exact h_stl hG hS hdk M n c Ln 0 (by omega)
theorem hm_stir {G : gxG} {Ln : Nat} {xs : Nat → Int32} (hG : gxG0 G) (hS : gxS G Ln xs) (hdk : gg_dk G 5 = gk_c (gq_S Ln xs)) : gxM G gY_stir yL_stirred [gR 99 1] fd_stir := gxM_of (L := [gR 99 1, gB, gB, gB, gB, gB]) hG 5 (by decide +kernel) rfl rfl rfl rfl (List.forall_mem_cons.mpr ⟨rfl, fun _ h => nomatch h⟩) (fun M n c K => h_stir hG hS hdk M n c)
theorem h_cell {G : gxG} {Ln : Nat} {xs : Nat → Int32} (hG : gxG0 G) (hS : gxS G Ln xs) {K : Nat → Nat → Nat → Nat → Bool} (i M n c : Nat) (hi : i < 2147483648) : gxJ G gY_cell K 0 [] [gR 99 1, gI i] M n c (fd_kc (gq_cell Ln xs i) M n c K) := by
  have h260 := hS.2.2
  have fin : ∀ z : Nat, gx_N (gg_dk G) z = gq_cell Ln xs i → gxJ G gY_cell K 18 [gI z] [gR 99 1, gI i] M n c (fd_kc (gq_cell Ln xs i) M n c K) := fun z hz => gq_re (gk_c (gq_cell Ln xs i)) ((gk_N _ _).trans hz.symm) (gr_ireturn (pc := 18) (show decode (gy_b gY_cell) 18 = .ok (.ireturn, 1) by decide +kernel) rfl rfl (by decide) gv_0)
  refine gr_iload_n (pc := 0) (i := 1) i (show decode (gy_b gY_cell) 0 = .ok (.iload_n 1, 1) by decide +kernel) rfl rfl ?_
  refine gr_aload_n (pc := 1) (i := 0) 99 1 (show decode (gy_b gY_cell) 1 = .ok (.aload_n 0, 1) by decide +kernel) rfl rfl ?_
  refine gq_alen (pc := 2) hS (show decode (gy_b gY_cell) 2 = .ok (.arraylength, 1) by decide +kernel) ?_
  refine gq_icmpge (pc := 3) (tgt := 12) (off := 9) (show decode (gy_b gY_cell) 3 = .ok (.if_icmp .ge 9, 3) by decide +kernel) (by decide) (fun h => ?_) (fun h => ?_)
  · have hge : ¬ i < Ln := fun hlt => h (by rw [gn_c (show i < 4294967296 by omega), gn_c (show Ln < 4294967296 by omega)]; exact (nI_ltI (by omega) (by omega)).mpr (by omega))
    refine gr_ldc (pc := 12) (index := 16) (z := 790386105) 790386105 (show decode (gy_b gY_cell) 12 = .ok (.ldc 16, 2) by decide +kernel) wd_370 (by decide +kernel) ?_
    refine gr_iload_n (pc := 14) (i := 1) i (show decode (gy_b gY_cell) 14 = .ok (.iload_n 1, 1) by decide +kernel) rfl rfl ?_
    refine gr_iconst (pc := 15) (z := 1) 1 (show decode (gy_b gY_cell) 15 = .ok (.iconst 1, 1) by decide +kernel) kc_1 ?_
    refine gq_iadd (pc := 16) (gk_c (nI i + nI 1)) (by rw [gk_N, gn_c (show i < 4294967296 by omega), gn_c (by decide)]) (show decode (gy_b gY_cell) 16 = .ok (.iadd, 1) by decide +kernel) ?_
    refine gq_imul (pc := 17) (gk_c (gq_cell Ln xs i)) (by rw [gk_N, gk_N, gn_c (by decide)]; unfold gq_cell; rw [if_neg hge]) (show decode (gy_b gY_cell) 17 = .ok (.imul, 1) by decide +kernel) ?_
    exact fin _ (gk_N _ _)
  · have hlt : i < Ln := by
      rw [gn_c (show i < 4294967296 by omega), gn_c (show Ln < 4294967296 by omega)] at h
      have := (nI_ltI (by omega) (by omega)).mp h
      omega
    refine gr_aload_n (pc := 6) (i := 0) 99 1 (show decode (gy_b gY_cell) 6 = .ok (.aload_n 0, 1) by decide +kernel) rfl rfl ?_
    refine gr_iload_n (pc := 7) (i := 1) i (show decode (gy_b gY_cell) 7 = .ok (.iload_n 1, 1) by decide +kernel) rfl rfl ?_
    refine gq_iald (pc := 8) (z := gk_c (xs i)) hS hlt (gk_N _ _) (show decode (gy_b gY_cell) 8 = .ok (.iaload, 1) by decide +kernel) ?_
    refine gr_goto (pc := 9) (tgt := 18) (off := 9) (show decode (gy_b gY_cell) 9 = .ok (.goto 9, 3) by decide +kernel) (by decide) ?_
    exact fin _ (by rw [gk_N]; unfold gq_cell; rw [if_pos hlt])
theorem hm_cell {G : gxG} {Ln : Nat} {xs : Nat → Int32} (hG : gxG0 G) (hS : gxS G Ln xs) (i : Nat) (hi : i < 2147483648) : gxM G gY_cell yL_cell [gR 99 1, gI i] (fd_kc (gq_cell Ln xs i)) := gxM_of (L := [gR 99 1, gI i]) hG 0 (by decide +kernel) rfl rfl rfl rfl (List.forall_mem_cons.mpr ⟨rfl, List.forall_mem_cons.mpr ⟨rfl, fun _ h => nomatch h⟩⟩) (fun M n c K => h_cell hG hS i M n c hi)
theorem h_mix {G : gxG} {Ln : Nat} {xs : Nat → Int32} (hG : gxG0 G) (hS : gxS G Ln xs) (hdk : gg_dk G 5 = gk_c (gq_S Ln xs)) {K : Nat → Nat → Nat → Nat → Bool} (a M n c : Nat) (ha : a < 2147483648) : gxJ G gY_mix K 0 [] [gI gq_sd, gI a, gB] M n c (fd_kc (gq_mix (gq_S Ln xs) (nI a)) M n c K) := by
  refine gr_iload_n (pc := 0) (i := 0) gq_sd (show decode (gy_b gY_mix) 0 = .ok (.iload_n 0, 1) by decide +kernel) rfl rfl ?_
  refine gr_iload_n (pc := 1) (i := 1) a (show decode (gy_b gY_mix) 1 = .ok (.iload_n 1, 1) by decide +kernel) rfl rfl ?_
  refine gr_ldc (pc := 2) (index := 42) (z := (-1640531527)) 2654435769 (show decode (gy_b gY_mix) 2 = .ok (.ldc 42, 2) by decide +kernel) wd_378 (by decide +kernel) ?_
  refine gq_imul (pc := 4) (gk_c (nI a * nI 2654435769)) (by rw [gk_N, gn_c (show a < 4294967296 by omega), gn_c (by decide)]) (show decode (gy_b gY_mix) 4 = .ok (.imul, 1) by decide +kernel) ?_
  refine gq_iadd (pc := 5) (gk_c (gq_S Ln xs + nI a * nI 2654435769)) (by rw [gk_N, gk_N, gq_sdN hdk]) (show decode (gy_b gY_mix) 5 = .ok (.iadd, 1) by decide +kernel) ?_
  refine gr_ldc (pc := 6) (index := 43) (z := (-2048144789)) 2246822507 (show decode (gy_b gY_mix) 6 = .ok (.ldc 43, 2) by decide +kernel) wd_379 (by decide +kernel) ?_
  refine gq_imul (pc := 8) (gk_c (gq_mv (gq_S Ln xs) (nI a))) (by rw [gk_N, gk_N, gn_c (by decide)]; rfl) (show decode (gy_b gY_mix) 8 = .ok (.imul, 1) by decide +kernel) ?_
  refine gr_istore_n (pc := 9) (i := 2) (L' := [gI gq_sd, gI a, gI (gk_c (gq_mv (gq_S Ln xs) (nI a)))]) (show decode (gy_b gY_mix) 9 = .ok (.istore_n 2, 1) by decide +kernel) rfl (by decide) rfl rfl ?_
  refine gr_iload_n (pc := 10) (i := 2) (gk_c (gq_mv (gq_S Ln xs) (nI a))) (show decode (gy_b gY_mix) 10 = .ok (.iload_n 2, 1) by decide +kernel) rfl rfl ?_
  refine gr_iload_n (pc := 11) (i := 2) (gk_c (gq_mv (gq_S Ln xs) (nI a))) (show decode (gy_b gY_mix) 11 = .ok (.iload_n 2, 1) by decide +kernel) rfl rfl ?_
  refine gr_bipush (pc := 12) (z := 15) 15 (show decode (gy_b gY_mix) 12 = .ok (.bipush 15, 2) by decide +kernel) (by decide +kernel) ?_
  refine gq_iushr (pc := 14) (gk_c (gq_us (gq_mv (gq_S Ln xs) (nI a)) (nI 15))) (by rw [gk_N, gk_N, gn_c (by decide)]; rfl) (show decode (gy_b gY_mix) 14 = .ok (.iushr, 1) by decide +kernel) ?_
  refine gq_ixor (pc := 15) (gk_c (gq_mv (gq_S Ln xs) (nI a) ^^^ gq_us (gq_mv (gq_S Ln xs) (nI a)) (nI 15))) (by rw [gk_N, gk_N, gk_N]) (show decode (gy_b gY_mix) 15 = .ok (.ixor, 1) by decide +kernel) ?_
  refine gr_ldc (pc := 16) (index := 44) (z := (-1028477387)) 3266489909 (show decode (gy_b gY_mix) 16 = .ok (.ldc 44, 2) by decide +kernel) wd_380 (by decide +kernel) ?_
  refine gq_imul (pc := 18) (gk_c (gq_mw (gq_S Ln xs) (nI a))) (by rw [gk_N, gk_N, gn_c (by decide)]; rfl) (show decode (gy_b gY_mix) 18 = .ok (.imul, 1) by decide +kernel) ?_
  refine gr_istore_n (pc := 19) (i := 2) (L' := [gI gq_sd, gI a, gI (gk_c (gq_mw (gq_S Ln xs) (nI a)))]) (show decode (gy_b gY_mix) 19 = .ok (.istore_n 2, 1) by decide +kernel) rfl (by decide) rfl rfl ?_
  refine gr_iload_n (pc := 20) (i := 2) (gk_c (gq_mw (gq_S Ln xs) (nI a))) (show decode (gy_b gY_mix) 20 = .ok (.iload_n 2, 1) by decide +kernel) rfl rfl ?_
  refine gr_iload_n (pc := 21) (i := 2) (gk_c (gq_mw (gq_S Ln xs) (nI a))) (show decode (gy_b gY_mix) 21 = .ok (.iload_n 2, 1) by decide +kernel) rfl rfl ?_
  refine gr_bipush (pc := 22) (z := 16) 16 (show decode (gy_b gY_mix) 22 = .ok (.bipush 16, 2) by decide +kernel) (by decide +kernel) ?_
  refine gq_iushr (pc := 24) (gk_c (gq_us (gq_mw (gq_S Ln xs) (nI a)) (nI 16))) (by rw [gk_N, gk_N, gn_c (by decide)]; rfl) (show decode (gy_b gY_mix) 24 = .ok (.iushr, 1) by decide +kernel) ?_
  refine gq_ixor (pc := 25) (gk_c (gq_mix (gq_S Ln xs) (nI a))) (by rw [gk_N, gk_N, gk_N]; rfl) (show decode (gy_b gY_mix) 25 = .ok (.ixor, 1) by decide +kernel) ?_
  exact gr_ireturn (pc := 26) (show decode (gy_b gY_mix) 26 = .ok (.ireturn, 1) by decide +kernel) rfl rfl (by decide) gv_0
theorem hm_mix {G : gxG} {Ln : Nat} {xs : Nat → Int32} (hG : gxG0 G) (hS : gxS G Ln xs) (hdk : gg_dk G 5 = gk_c (gq_S Ln xs)) (a : Nat) (ha : a < 2147483648) : gxM G gY_mix yL_mixed [gI gq_sd, gI a] (fd_kc (gq_mix (gq_S Ln xs) (nI a))) := gxM_of (L := [gI gq_sd, gI a, gB]) hG 1 (by decide +kernel) rfl rfl rfl rfl (List.forall_mem_cons.mpr ⟨rfl, List.forall_mem_cons.mpr ⟨rfl, fun _ h => nomatch h⟩⟩) (fun M n c K => h_mix hG hS hdk a M n c ha)
theorem gq_and31 (z : Int32) : z &&& nI 2147483647 = nI (z.toBitVec.toNat % 2147483648) := by
  apply Int32.toBitVec_inj.mp
  apply BitVec.eq_of_toNat_eq
  rw [Int32.toBitVec_and, BitVec.toNat_and, gn_bv, gn_bv, BitVec.toNat_ofNat, BitVec.toNat_ofNat, Nat.mod_eq_of_lt (show z.toBitVec.toNat % 2147483648 < 2 ^ 32 by omega), show 2147483647 % 2 ^ 32 = 2 ^ 31 - 1 by decide, Nat.and_two_pow_sub_one_eq_mod]
theorem gq_nz {nn : Nat} (h1 : 1 ≤ nn) (h2 : nn < 2147483648) : ¬ nI nn = 0 := fun h => by
  have := gn_inj (a := nn) (b := 0) (by omega) (by decide) (h.trans nI_0.symm)
  omega
theorem gq_rem {m nn : Nat} (hm : m < 2147483648) (h1 : 1 ≤ nn) (h2 : nn < 2147483648) : nI (m % nn) = nI m - nI m / nI nn * nI nn := by
  obtain ⟨z, hz, hN, -⟩ := go_rem (dk := fun _ => 0) (x := m) (y := nn) (k := fun z => Nat.beq z (m % nn)) (by
    unfold gx_rem
    rw [show Nat.ble (Nat.lor m nn) 2147483647 = true from Nat.ble_eq_true_of_le (Nat.le_of_lt_succ (show m ||| nn < 2 ^ 31 from Nat.or_lt_two_pow hm h2)), show Nat.ble 1 nn = true from Nat.ble_eq_true_of_le h1]
    exact Nat.beq_refl _)
  have hz : z = m % nn := gb_beq hz
  rw [gn_c (show m < 4294967296 by omega), gn_c (show nn < 4294967296 by omega), gn_c (show z < 4294967296 by rw [hz]; have := Nat.mod_lt m h1; omega), hz] at hN
  exact hN
theorem h_dr2 {G : gxG} {Ln : Nat} {xs : Nat → Int32} (hG : gxG0 G) (hS : gxS G Ln xs) {K : Nat → Nat → Nat → Nat → Bool} (T a x nn M n c : Nat) (z : Nat) (hz : gx_N (gg_dk G) z = gq_raw Ln xs a) (hT : gx_N (gg_dk G) (gx_rd T a) = nI (gq_m Ln xs a % nn)) (h1 : 1 ≤ nn) (h2 : nn ≤ 1000) : gxJ G gY_draw K 84 [gI z] [gR 10 x, gI nn, gB] M n c (gx_rt gx_f0 (gx_rd T a) (K (gx_rd T a) M n c)) := by
  have hm : gq_m Ln xs a < 2147483648 := Nat.mod_lt _ (by decide)
  have eN : gx_N (gg_dk G) nn = nI nn := gn_c (by omega)
  refine gr_istore_n (pc := 84) (i := 2) (L' := [gR 10 x, gI nn, gI z]) (show decode (gy_b gY_draw) 84 = .ok (.istore_n 2, 1) by decide +kernel) rfl (by decide) rfl rfl ?_
  refine gr_iload_n (pc := 85) (i := 2) z (show decode (gy_b gY_draw) 85 = .ok (.iload_n 2, 1) by decide +kernel) rfl rfl ?_
  refine gr_ldc (pc := 86) (index := 40) (z := 2147483647) 2147483647 (show decode (gy_b gY_draw) 86 = .ok (.ldc 40, 2) by decide +kernel) wd_381 (by decide +kernel) ?_
  refine gq_iand (pc := 88) (gq_m Ln xs a) (by rw [gn_c (show gq_m Ln xs a < 4294967296 by omega), hz, gn_c (by decide), gq_and31]; rfl) (show decode (gy_b gY_draw) 88 = .ok (.iand, 1) by decide +kernel) ?_
  refine gr_iload_n (pc := 89) (i := 1) nn (show decode (gy_b gY_draw) 89 = .ok (.iload_n 1, 1) by decide +kernel) rfl rfl ?_
  refine gq_irem (pc := 90) (gx_rd T a) (by rw [eN]; exact gq_nz h1 (by omega)) (by rw [hT, eN, gn_c (show gq_m Ln xs a < 4294967296 by omega)]; exact gq_rem hm h1 (by omega)) (show decode (gy_b gY_draw) 90 = .ok (.irem, 1) by decide +kernel) ?_
  exact gr_ireturn (pc := 91) (show decode (gy_b gY_draw) 91 = .ok (.ireturn, 1) by decide +kernel) rfl rfl (by decide) gv_0
theorem gj_e {G : gxG} {Y : gxY} {K : Nat → Nat → Nat → Nat → Bool} {pc : Nat} {st L : List gxV} {M n c : Nat} {e e' : Bool} (h : e = e') (hk : gxJ G Y K pc st L M n c e') : gxJ G Y K pc st L M n c e := by rw [h]; exact hk
theorem h_dr1 {G : gxG} {Ln : Nat} {xs : Nat → Int32} (hG : gxG0 G) (hS : gxS G Ln xs) (hdk : gg_dk G 5 = gk_c (gq_S Ln xs)) {K : Nat → Nat → Nat → Nat → Bool} (T a x nn M n c : Nat) (hx0 : x ≠ 0) (ha : a ≤ 1000) (r0 : gx_rd M x = 1) (r1 : gx_rd M (Nat.add x 1) = a + 1) (r2 : gx_rd M (Nat.add x 2) = gq_sd) (hT : gx_N (gg_dk G) (gx_rd T a) = nI (gq_m Ln xs a % nn)) (h1 : 1 ≤ nn) (h2 : nn ≤ 1000) : gxJ G gY_draw K 35 [] [gR 10 x, gI nn, gB] M n c (gx_rt gx_f0 (gx_rd T a) (K (gx_rd T a) M n c)) := by
  refine gr_aload_n (pc := 35) (i := 0) 10 x (show decode (gy_b gY_draw) 35 = .ok (.aload_n 0, 1) by decide +kernel) rfl rfl ?_
  refine gq_getf (pc := 36) (index := 29) (t := 10) (j := 2) (σ := 0) (sv := gI) (w := gq_sd) hx0 r2 (show decode (gy_b gY_draw) 36 = .ok (.getfield 29, 3) by decide +kernel) rfl rfl (fun _ => rfl) wd_345 (by decide) ?_
  refine gq_ifne (pc := 39) (tgt := 73) (off := 34) (show decode (gy_b gY_draw) 39 = .ok (.ifCond .ne 34, 3) by decide +kernel) (by decide) (fun hne => ?_) (fun heq => ?_)
  · rw [gq_sdN hdk] at hne
    refine gr_aload_n (pc := 73) (i := 0) 10 x (show decode (gy_b gY_draw) 73 = .ok (.aload_n 0, 1) by decide +kernel) rfl rfl ?_
    refine gq_getf (pc := 74) (index := 29) (t := 10) (j := 2) (σ := 0) (sv := gI) (w := gq_sd) hx0 r2 (show decode (gy_b gY_draw) 74 = .ok (.getfield 29, 3) by decide +kernel) rfl rfl (fun _ => rfl) wd_345 (by decide) ?_
    refine gr_aload_n (pc := 77) (i := 0) 10 x (show decode (gy_b gY_draw) 77 = .ok (.aload_n 0, 1) by decide +kernel) rfl rfl ?_
    refine gq_getf (pc := 78) (index := 17) (t := 10) (j := 1) (σ := 0) (sv := gI) (w := a + 1) hx0 r1 (show decode (gy_b gY_draw) 78 = .ok (.getfield 17, 3) by decide +kernel) rfl rfl (fun _ => rfl) wd_344 (by decide) ?_
    refine gj_e (show _ = fd_kc (gq_mix (gq_S Ln xs) (nI (a + 1))) M n c (fun v M1 n1 c1 => gx_g (Bool.and (Nat.beq v (gk_c (gq_mix (gq_S Ln xs) (nI (a + 1))))) (Bool.and (Nat.beq M1 M) (Bool.and (Nat.beq n1 n) (Nat.beq c1 c)))) (gx_rt gx_f0 (gx_rd T a) (K (gx_rd T a) M n c))) from gq_once.symm) ?_
    refine gj_c0 (pc := 81) (Y' := gY_mix) (y := yL_mixed) (vs := [gI gq_sd, gI (a + 1)]) (rest := []) (rs := fun v => [gI v]) [gI (a + 1), gI gq_sd] rfl (hm_mix hG hS hdk (a + 1) (by omega)) rfl (gh_S (vs := [gI gq_sd, gI (a + 1)]) (rest := []) (show decode (gy_b gY_draw) 81 = .ok (.invokestatic 36, 3) by decide +kernel) rfl (ok_mix (by decide) (by decide)) rfl rfl wd_375 wd_376 (Nat.le_of_ble_eq_true rfl)) (fun _ => rfl) ?_
    intro v M1 n1 c1
    refine gj_g (fun hg => ?_)
    obtain ⟨rfl, rfl, rfl, rfl⟩ := gq_eqs hg
    exact h_dr2 hG hS T a x nn _ _ _ _ (by rw [gk_N]; unfold gq_raw; rw [if_neg hne]) hT h1 h2
  · rw [gq_sdN hdk] at heq
    refine gr_aload_n (pc := 42) (i := 0) 10 x (show decode (gy_b gY_draw) 42 = .ok (.aload_n 0, 1) by decide +kernel) rfl rfl ?_
    refine gq_getf (pc := 43) (index := 21) (t := 10) (j := 0) (σ := 107) (sv := (gR 99)) (w := 1) hx0 r0 (show decode (gy_b gY_draw) 43 = .ok (.getfield 21, 3) by decide +kernel) rfl rfl (fun _ => rfl) wd_343 (by decide) ?_
    refine gr_aload_n (pc := 46) (i := 0) 10 x (show decode (gy_b gY_draw) 46 = .ok (.aload_n 0, 1) by decide +kernel) rfl rfl ?_
    refine gq_getf (pc := 47) (index := 17) (t := 10) (j := 1) (σ := 0) (sv := gI) (w := a + 1) hx0 r1 (show decode (gy_b gY_draw) 47 = .ok (.getfield 17, 3) by decide +kernel) rfl rfl (fun _ => rfl) wd_344 (by decide) ?_
    refine gj_e (show _ = fd_kc (gq_cell Ln xs (a + 1)) M n c (fun v M1 n1 c1 => gx_g (Bool.and (Nat.beq v (gk_c (gq_cell Ln xs (a + 1)))) (Bool.and (Nat.beq M1 M) (Bool.and (Nat.beq n1 n) (Nat.beq c1 c)))) (gx_rt gx_f0 (gx_rd T a) (K (gx_rd T a) M n c))) from gq_once.symm) ?_
    refine gj_c0 (pc := 50) (Y' := gY_cell) (y := yL_cell) (vs := [gR 99 1, gI (a + 1)]) (rest := []) (rs := fun v => [gI v]) [gI (a + 1), gR 99 1] rfl (hm_cell hG hS (a + 1) (by omega)) rfl (gh_S (vs := [gR 99 1, gI (a + 1)]) (rest := []) (show decode (gy_b gY_draw) 50 = .ok (.invokestatic 32, 3) by decide +kernel) rfl (ok_cell (by decide) (by decide)) rfl rfl wd_372 wd_373 (Nat.le_of_ble_eq_true rfl)) (fun _ => rfl) ?_
    intro v M1 n1 c1
    refine gj_g (fun hg => ?_)
    obtain ⟨rfl, rfl, rfl, rfl⟩ := gq_eqs hg
    refine gr_aload_n (pc := 53) (i := 0) 10 x (show decode (gy_b gY_draw) 53 = .ok (.aload_n 0, 1) by decide +kernel) rfl rfl ?_
    refine gq_getf (pc := 54) (index := 21) (t := 10) (j := 0) (σ := 107) (sv := (gR 99)) (w := 1) hx0 r0 (show decode (gy_b gY_draw) 54 = .ok (.getfield 21, 3) by decide +kernel) rfl rfl (fun _ => rfl) wd_343 (by decide) ?_
    refine gr_aload_n (pc := 57) (i := 0) 10 x (show decode (gy_b gY_draw) 57 = .ok (.aload_n 0, 1) by decide +kernel) rfl rfl ?_
    refine gq_getf (pc := 58) (index := 17) (t := 10) (j := 1) (σ := 0) (sv := gI) (w := a + 1) hx0 r1 (show decode (gy_b gY_draw) 58 = .ok (.getfield 17, 3) by decide +kernel) rfl rfl (fun _ => rfl) wd_344 (by decide) ?_
    refine gr_iconst (pc := 61) (z := 1) 1 (show decode (gy_b gY_draw) 61 = .ok (.iconst 1, 1) by decide +kernel) kc_1 ?_
    refine gq_iadd (pc := 62) (a + 2) (by rw [gn_c (show a + 2 < 4294967296 by omega), gn_c (show a + 1 < 4294967296 by omega), gn_c (by decide), nI_add]) (show decode (gy_b gY_draw) 62 = .ok (.iadd, 1) by decide +kernel) ?_
    refine gj_e (show _ = fd_kc (gq_cell Ln xs (a + 2)) M n c (fun v M1 n1 c1 => gx_g (Bool.and (Nat.beq v (gk_c (gq_cell Ln xs (a + 2)))) (Bool.and (Nat.beq M1 M) (Bool.and (Nat.beq n1 n) (Nat.beq c1 c)))) (gx_rt gx_f0 (gx_rd T a) (K (gx_rd T a) M n c))) from gq_once.symm) ?_
    refine gj_c0 (pc := 63) (Y' := gY_cell) (y := yL_cell) (vs := [gR 99 1, gI (a + 2)]) (rest := [gI (gk_c (gq_cell Ln xs (a + 1)))]) (rs := fun v => [gI v, gI (gk_c (gq_cell Ln xs (a + 1)))]) [gI (a + 2), gR 99 1] rfl (hm_cell hG hS (a + 2) (by omega)) rfl (gh_S (vs := [gR 99 1, gI (a + 2)]) (rest := [gI (gk_c (gq_cell Ln xs (a + 1)))]) (show decode (gy_b gY_draw) 63 = .ok (.invokestatic 32, 3) by decide +kernel) rfl (ok_cell (by decide) (by decide)) rfl rfl wd_372 wd_373 (Nat.le_of_ble_eq_true rfl)) (fun _ => rfl) ?_
    intro v M2 n2 c2
    refine gj_g (fun hg => ?_)
    obtain ⟨rfl, rfl, rfl, rfl⟩ := gq_eqs hg
    refine gr_bipush (pc := 66) (z := 7) 7 (show decode (gy_b gY_draw) 66 = .ok (.bipush 7, 2) by decide +kernel) (by decide +kernel) ?_
    refine gq_iushr (pc := 68) (gk_c (gq_us (gq_cell Ln xs (a + 2)) (nI 7))) (by rw [gk_N, gk_N, gn_c (by decide)]; rfl) (show decode (gy_b gY_draw) 68 = .ok (.iushr, 1) by decide +kernel) ?_
    refine gq_ixor (pc := 69) (gk_c (gq_cell Ln xs (a + 1) ^^^ gq_us (gq_cell Ln xs (a + 2)) (nI 7))) (by rw [gk_N, gk_N, gk_N]) (show decode (gy_b gY_draw) 69 = .ok (.ixor, 1) by decide +kernel) ?_
    refine gr_goto (pc := 70) (tgt := 84) (off := 14) (show decode (gy_b gY_draw) 70 = .ok (.goto 14, 3) by decide +kernel) (by decide) ?_
    exact h_dr2 hG hS T a x nn _ _ _ _ (by rw [gk_N]; unfold gq_raw; rw [if_pos heq]) hT h1 h2
theorem h_dr0 {G : gxG} {Ln : Nat} {xs : Nat → Int32} (hG : gxG0 G) (hS : gxS G Ln xs) (hdk : gg_dk G 5 = gk_c (gq_S Ln xs)) {K : Nat → Nat → Nat → Nat → Bool} (T x nn M n c : Nat) (hT : ∀ a nn, 1 ≤ nn → gx_rd T (a + 64) = nn → gx_N (gg_dk G) (gx_rd T a) = nI (gq_m Ln xs a % nn)) : gxJ G gY_draw K 0 [] [gR 10 x, gI nn, gB] M n c (fd_draw T x nn M n c K) := by
  unfold fd_draw
  refine gr_aload_n (pc := 0) (i := 0) 10 x (show decode (gy_b gY_draw) 0 = .ok (.aload_n 0, 1) by decide +kernel) rfl rfl ?_
  refine gr_aload_n (pc := 1) (i := 0) 10 x (show decode (gy_b gY_draw) 1 = .ok (.aload_n 0, 1) by decide +kernel) rfl rfl ?_
  refine gr_getf (pc := 2) (index := 17) (t := 10) (j := 1) (σ := 0) (sv := gI) (show decode (gy_b gY_draw) 2 = .ok (.getfield 17, 3) by decide +kernel) rfl rfl (fun _ => rfl) wd_344 (by decide) ?_
  intro a
  refine gj_g (fun hg => ?_)
  obtain ⟨g1, hg⟩ := go_and hg
  obtain ⟨g2, g3⟩ := go_and hg
  have g1 : a ≤ 1000 := gb_ble g1
  have g2 : gx_rd M x = 1 := gb_beq g2
  have aft : gxJ G gY_draw K 22 [gI gq_sd, gR 10 x] [gR 10 x, gI nn, gB] M n c (gx_put x 2 85899345920 M gx_f0 (fun M1 => gx_g (Nat.beq (gx_rd M1 (Nat.add x 1)) a) (gx_put x 1 (Nat.add a 1) M1 gx_f0 (fun M2 => gx_g (Bool.and (Nat.beq (gx_rd M2 x) 1) (Bool.and (Nat.beq (gx_rd M2 (Nat.add x 1)) (Nat.add a 1)) (Nat.beq (gx_rd M2 (Nat.add x 2)) 85899345920)))
    (gx_g (Bool.and (Nat.beq (gx_rd T (Nat.add a 64)) nn) (Bool.and (Nat.ble 1 nn) (Nat.ble nn 1000))) (gx_rt gx_f0 (gx_rd T a) (K (gx_rd T a) M2 n c))))))) := by
    by_cases hx0 : x = 0
    · subst hx0
      rw [gx_put0]; exact gj_false
    refine gr_putf (pc := 22) (index := 29) (t := 10) (j := 2) (σ := 0) (sv := gI) (f := gx_f0) (ty := .int) (show decode (gy_b gY_draw) 22 = .ok (.putfield 29, 3) by decide +kernel) rfl rfl (fun _ => rfl) wd_345 rfl gv_0 rfl ?_
    intro M1
    refine gj_g (fun h1 => ?_)
    have h1 : gx_rd M1 (Nat.add x 1) = a := gb_beq h1
    refine gr_aload_n (pc := 25) (i := 0) 10 x (show decode (gy_b gY_draw) 25 = .ok (.aload_n 0, 1) by decide +kernel) rfl rfl ?_
    refine gr_dup (b := gB) (pc := 26) (show decode (gy_b gY_draw) 26 = .ok (.dup, 1) by decide +kernel) rfl ?_
    refine gq_getf (pc := 27) (index := 17) (t := 10) (j := 1) (σ := 0) (sv := gI) (w := a) hx0 h1 (show decode (gy_b gY_draw) 27 = .ok (.getfield 17, 3) by decide +kernel) rfl rfl (fun _ => rfl) wd_344 (by decide) ?_
    refine gr_iconst (pc := 30) (z := 1) 1 (show decode (gy_b gY_draw) 30 = .ok (.iconst 1, 1) by decide +kernel) kc_1 ?_
    refine gq_iadd (pc := 31) (Nat.add a 1) (by rw [gn_c (show Nat.add a 1 < 4294967296 from Nat.lt_of_le_of_lt (Nat.succ_le_succ g1) (by decide)), gn_c (show a < 4294967296 by omega), gn_c (by decide)]; exact (nI_add ..).symm) (show decode (gy_b gY_draw) 31 = .ok (.iadd, 1) by decide +kernel) ?_
    refine gr_putf (pc := 32) (index := 17) (t := 10) (j := 1) (σ := 0) (sv := gI) (f := gx_f0) (ty := .int) (show decode (gy_b gY_draw) 32 = .ok (.putfield 17, 3) by decide +kernel) rfl rfl (fun _ => rfl) wd_344 rfl gv_0 rfl ?_
    intro M2
    refine gj_g (fun h2 => ?_)
    obtain ⟨h3, h2⟩ := go_and h2
    obtain ⟨h4, h5⟩ := go_and h2
    refine gj_g (fun h6 => ?_)
    obtain ⟨h7, h6⟩ := go_and h6
    obtain ⟨h8, h9⟩ := go_and h6
    have h8 : 1 ≤ nn := gb_ble h8
    exact h_dr1 hG hS hdk T a x nn M2 n c hx0 g1 (gb_beq h3) (gb_beq h4) (gb_beq h5) (hT a nn h8 (gb_beq h7)) h8 (gb_ble h9)
  by_cases hx0 : x = 0
  · subst hx0
    rw [gx_put0]; exact gj_false
  refine gq_ifne (pc := 5) (tgt := 18) (off := 13) (show decode (gy_b gY_draw) 5 = .ok (.ifCond .ne 13, 3) by decide +kernel) (by decide) (fun hne => ?_) (fun heq => ?_)
  · have hs : gx_rd M (Nat.add x 2) = gq_sd := by
      cases hz : Nat.beq a 0 with
      | true => rw [gb_beq hz] at hne; exact absurd (gr_z _) hne
      | false => rw [hz] at g3; exact gb_beq g3
    refine gr_aload_n (pc := 18) (i := 0) 10 x (show decode (gy_b gY_draw) 18 = .ok (.aload_n 0, 1) by decide +kernel) rfl rfl ?_
    refine gq_getf (pc := 19) (index := 29) (t := 10) (j := 2) (σ := 0) (sv := gI) (w := gq_sd) hx0 hs (show decode (gy_b gY_draw) 19 = .ok (.getfield 29, 3) by decide +kernel) rfl rfl (fun _ => rfl) wd_345 (by decide) ?_
    exact aft
  · refine gr_aload_n (pc := 8) (i := 0) 10 x (show decode (gy_b gY_draw) 8 = .ok (.aload_n 0, 1) by decide +kernel) rfl rfl ?_
    refine gq_getf (pc := 9) (index := 21) (t := 10) (j := 0) (σ := 107) (sv := (gR 99)) (w := 1) hx0 g2 (show decode (gy_b gY_draw) 9 = .ok (.getfield 21, 3) by decide +kernel) rfl rfl (fun _ => rfl) wd_343 (by decide) ?_
    generalize hE : (gx_put x 2 85899345920 M gx_f0 (fun M1 => gx_g (Nat.beq (gx_rd M1 (Nat.add x 1)) a) (gx_put x 1 (Nat.add a 1) M1 gx_f0 (fun M2 => gx_g (Bool.and (Nat.beq (gx_rd M2 x) 1) (Bool.and (Nat.beq (gx_rd M2 (Nat.add x 1)) (Nat.add a 1)) (Nat.beq (gx_rd M2 (Nat.add x 2)) 85899345920))) (gx_g (Bool.and (Nat.beq (gx_rd T (Nat.add a 64)) nn) (Bool.and (Nat.ble 1 nn) (Nat.ble nn 1000))) (gx_rt gx_f0 (gx_rd T a) (K (gx_rd T a) M2 n c))))))) = E at aft ⊢
    refine gj_e (show E = fd_stir M n c (fun v M1 n1 c1 => gx_g (Bool.and (Nat.beq v gq_sd) (Bool.and (Nat.beq M1 M) (Bool.and (Nat.beq n1 n) (Nat.beq c1 c)))) E) from gq_onceS.symm) ?_
    refine gj_c0 (pc := 12) (Y' := gY_stir) (y := yL_stirred) (vs := [gR 99 1]) (rest := [gR 10 x]) (rs := fun v => [gI v, gR 10 x]) [gR 99 1] rfl (hm_stir hG hS hdk) rfl (gh_S (vs := [gR 99 1]) (rest := [gR 10 x]) (show decode (gy_b gY_draw) 12 = .ok (.invokestatic 25, 3) by decide +kernel) rfl (ok_stir (by decide) (by decide)) rfl rfl wd_367 wd_368 (Nat.le_of_ble_eq_true rfl)) (fun _ => rfl) ?_
    intro v M1 n1 c1
    refine gj_g (fun hg => ?_)
    obtain ⟨rfl, rfl, rfl, rfl⟩ := gq_eqs hg
    refine gr_goto (pc := 15) (tgt := 22) (off := 7) (show decode (gy_b gY_draw) 15 = .ok (.goto 7, 3) by decide +kernel) (by decide) ?_
    exact aft
theorem hm_draw {G : gxG} {Ln : Nat} {xs : Nat → Int32} (hG : gxG0 G) (hS : gxS G Ln xs) (hdk : gg_dk G 5 = gk_c (gq_S Ln xs)) (T : Nat) (hT : ∀ a nn, 1 ≤ nn → gx_rd T (a + 64) = nn → gx_N (gg_dk G) (gx_rd T a) = nI (gq_m Ln xs a % nn)) (x nn : Nat) : gxM G gY_draw yL_draw [gR 10 x, gI nn] (fd_draw T x nn) := gxM_of (L := [gR 10 x, gI nn, gB]) hG 1 (by decide +kernel) rfl rfl rfl rfl (List.forall_mem_cons.mpr ⟨rfl, List.forall_mem_cons.mpr ⟨rfl, fun _ h => nomatch h⟩⟩) (fun M n c K => h_dr0 hG hS hdk T x nn M n c hT)
