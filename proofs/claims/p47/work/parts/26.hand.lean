/-! BY HAND: what String.checkIndex and Farfiles.refuse do. -/
def gY_sci : gxY := (false, prog_32_method_155_code, 2, (Option.none : Option FieldType), "java/lang/String", 2, 70, 5, [], "checkIndex")
def gY_pre : gxY := (false, prog_44_method_11_code, 3, (Option.some FieldType.int), "jdk/internal/util/Preconditions", 1, 40, 0, [], "checkIndex")
def gY_refuse : gxY := (true, prog_1_method_22_code, 2, (Option.none : Option FieldType), "Farfiles", 7, 110, 5, [], "refuse")
theorem ok_draw {Y : gxY} (h1 : gy_f gY_draw + 1 ≤ gy_f Y) (h2 : 8 + (gy_l gY_draw + 11) + gy_k gY_draw ≤ gy_k Y) : gh_ok Y gY_draw yL_draw 1 := ⟨wd_366, wd_50, ⟨by decide, by decide⟩, by decide +kernel, h1, h2⟩
theorem ok_sci {Y : gxY} (h1 : gy_f gY_sci + 1 ≤ gy_f Y) (h2 : 8 + (gy_l gY_sci + 11) + gy_k gY_sci ≤ gy_k Y) : gh_ok Y gY_sci yJ0_checkIndex_df160 2 := ⟨wd_561, wd_61, ⟨by decide, by decide⟩, by decide +kernel, h1, h2⟩
theorem ok_refuse {Y : gxY} (h1 : gy_f gY_refuse + 1 ≤ gy_f Y) (h2 : 8 + (gy_l gY_refuse + 11) + gy_k gY_refuse ≤ gy_k Y) : gh_ok Y gY_refuse yX7_refuse 1 := ⟨wd_874, wd_51, ⟨by decide, by decide⟩, by decide +kernel, h1, h2⟩
theorem ok_pre {Y : gxY} (h1 : gy_f gY_pre + 1 ≤ gy_f Y) (h2 : 8 + (gy_l gY_pre + 11) + gy_k gY_pre ≤ gy_k Y) : gh_ok Y gY_pre yJ3_checkIndex_8e157 3 := ⟨wd_564, wd_67, ⟨by decide, by decide⟩, by decide +kernel, h1, h2⟩
theorem h_pre {G : gxG} (hG : gxG0 G) {K : Nat → Nat → Nat → Nat → Bool} (i ln F M n c : Nat) : gxJ G gY_pre K 0 [] [gI i, gI ln, gR 98 F] M n c (fd_pre i ln M n c K) := by
  unfold fd_pre
  refine gr_iload_n (pc := 0) (i := 0) i (show decode (gy_b gY_pre) 0 = .ok (.iload_n 0, 1) by decide +kernel) rfl rfl ?_
  refine gr_iflt (pc := 1) (tgt := 9) (off := 8) hG.2.1 (show decode (gy_b gY_pre) 1 = .ok (.ifCond .lt 8, 3) by decide +kernel) (by decide) gj_false ?_
  refine gr_iload_n (pc := 4) (i := 0) i (show decode (gy_b gY_pre) 4 = .ok (.iload_n 0, 1) by decide +kernel) rfl rfl ?_
  refine gr_iload_n (pc := 5) (i := 1) ln (show decode (gy_b gY_pre) 5 = .ok (.iload_n 1, 1) by decide +kernel) rfl rfl ?_
  refine gr_icmp_lt (pc := 6) (tgt := 16) (off := 10) hG.2.1 (show decode (gy_b gY_pre) 6 = .ok (.if_icmp .lt 10, 3) by decide +kernel) (by decide) ?_ gj_false
  refine gr_iload_n (pc := 16) (i := 0) i (show decode (gy_b gY_pre) 16 = .ok (.iload_n 0, 1) by decide +kernel) rfl rfl ?_
  exact gr_ireturn (pc := 17) (show decode (gy_b gY_pre) 17 = .ok (.ireturn, 1) by decide +kernel) rfl rfl (by decide) gv_0
theorem hm_pre {G : gxG} (hG : gxG0 G) (i ln F : Nat) : gxM G gY_pre yJ3_checkIndex_8e157 [gI i, gI ln, gR 98 F] (fd_pre i ln) := gxM_of (L := [gI i, gI ln, gR 98 F]) hG 0 (by decide +kernel) rfl rfl rfl rfl (List.forall_mem_cons.mpr ⟨rfl, List.forall_mem_cons.mpr ⟨rfl, List.forall_mem_cons.mpr ⟨rfl, fun _ h => nomatch h⟩⟩⟩) (fun M n c K => h_pre hG i ln F M n c)
theorem h_scf {G : gxG} (hG : gxG0 G) {K : Nat → Nat → Nat → Nat → Bool} (i ln F M n c : Nat) : gxJ G gY_sci K 5 [gR 98 F, gI ln, gI i] [gI i, gI ln] M n c (fd_sci i ln M n c K) := by
  unfold fd_sci
  refine gj_c0 (pc := 5) (Y' := gY_pre) (y := yJ3_checkIndex_8e157) (vs := [gI i, gI ln, gR 98 F]) (rest := []) (rs := fun v => [gI v]) [gR 98 F, gI ln, gI i] rfl (hm_pre hG i ln F) rfl (gh_S (vs := [gI i, gI ln, gR 98 F]) (rest := []) (show decode (gy_b gY_sci) 5 = .ok (.invokestatic 1059, 3) by decide +kernel) rfl (ok_pre (by decide) (by decide)) rfl rfl wd_562 wd_563 (Nat.le_of_ble_eq_true rfl)) (fun _ => rfl) ?_
  intro v M1 n1 c1
  refine gr_pop (b := gB) (pc := 8) (show decode (gy_b gY_sci) 8 = .ok (.pop, 1) by decide +kernel) rfl ?_
  exact gr_return (pc := 9) (show decode (gy_b gY_sci) 9 = .ok (.return_, 1) by decide +kernel) rfl rfl
theorem h_sci {G : gxG} (hG : gxG0 G) {K : Nat → Nat → Nat → Nat → Bool} (i ln M n c : Nat) : gxJ G gY_sci K 0 [] [gI i, gI ln] M n c (fd_sci i ln M n c K) := by
  refine gr_iload_n (pc := 0) (i := 0) i (show decode (gy_b gY_sci) 0 = .ok (.iload_n 0, 1) by decide +kernel) rfl rfl ?_
  refine gr_iload_n (pc := 1) (i := 1) ln (show decode (gy_b gY_sci) 1 = .ok (.iload_n 1, 1) by decide +kernel) rfl rfl ?_
  exact gr_formatter (pc := 2) (index := 1053) hG (show decode (gy_b gY_sci) 2 = .ok (.getstatic 1053, 3) by decide +kernel) wd_486 (h_scf hG i ln 0 M n c) (h_scf hG i ln 5 M n c)
theorem hm_sci {G : gxG} (hG : gxG0 G) (i ln : Nat) : gxM G gY_sci yJ0_checkIndex_df160 [gI i, gI ln] (fd_sci i ln) := gxM_of (L := [gI i, gI ln]) hG 0 (by decide +kernel) rfl rfl rfl rfl (List.forall_mem_cons.mpr ⟨rfl, List.forall_mem_cons.mpr ⟨rfl, fun _ h => nomatch h⟩⟩) (fun M n c K => h_sci hG i ln M n c)
theorem gxI_ext {G : gxG} {ad : Nat → Nat} {cw : List gxq} {M n n' : Nat} {H H' : Heap} (hI : gxI G ad cw M n H) (h1 : H.size ≤ H'.size) (h2 : ∀ q : Nat, q < H.size → H'[q]? = H[q]?) (hn : n ≤ n') (hn2 : n' < 2000000) : gxI G ad cw M n' H' := by
  obtain ⟨⟨i0, i1⟩, i2, i3, i4, i5, i6, i7, i8, i9, i10⟩ := hI
  exact ⟨⟨by omega, fun q hq => (h2 q (by omega)).trans (i1 q hq)⟩, i2.kept fun k q hk => h2 _ (i2 k q hk).lt, i3, i4, fun q hq => by
    obtain ⟨a, b, c, d⟩ := i5 q hq
    exact ⟨a, by omega, c, d⟩, i6, fun a ha => i7 a (by omega), i8, ⟨⟨by omega, hn2⟩, i9.2⟩, i10⟩
theorem h_thr {G : gxG} {K : Nat → Nat → Nat → Nat → Bool} (x w M n c : Nat) : gxJ G gY_refuse K 5 [] [gR 7 x, gI w] M n c (Bool.rec (motive := fun _ => Bool) false (K gx_T M (Nat.add n 6) (Nat.succ c)) (Nat.ble n 1000000)) := fun h => by
  obtain ⟨hn9, h⟩ := gb_t h
  have hn9 := gb_ble hn9
  refine ⟨gx_T, M, n + 6, c + 1, h, by omega, by omega, (fun h => nomatch h), fun p e R s m args below meth cd X c0 n0 cw0 ad0 hc hn cells slots cw ad H locs ls U => ?_⟩
  obtain ⟨u1, u2, uI, ua, ud, uS, uL, us, ul⟩ := U
  obtain ⟨x1, x2, x3, x4, x5, x6, x7, ⟨x8, x9, x10, z1, z2, z3, z4, ⟨z5, z6⟩, z7, ⟨sa, z8⟩, z9⟩, x11, x12, x13, x14, x15, x16, x17⟩ := X
  have hst : (gg_l G).stackTraces = false := by
    unfold Launch.stackTraces
    rw [x15]
    decide +kernel
  exact vx_throwS (cc := gy_b gY_refuse) (A := gxA G) (own := "Farfiles") (cls := "java/lang/UnsupportedOperationException") (text := "refused") (names := ["java/lang/RuntimeException", "java/lang/Exception"]) (ik := 169) (is := 171) (ic := 173) (sa := sa)
    x1 x2 hst x5 (by decide +kernel) (by decide +kernel) (x6 _ wd_875) (x6 _ wd_77) z8 (fun w hw => x6 _ (ht_1 w hw).1) (List.forall_mem_cons.mpr ⟨rfl, List.forall_mem_cons.mpr ⟨rfl, fun w hw => (ht_1 w hw).2⟩⟩)
    z5 z6 uS (by rw [x3]; exact uL.1) (by decide +kernel) (by decide +kernel) (by decide +kernel) (by decide +kernel) (by decide +kernel)
    (fun x hx => by rw [x16] at hx; exact nomatch hx) (by show 2 + 3 < R.frames; have x13 : 7 ≤ R.frames := x13; omega) (by show 0 + (13 * (2 + 1) + 43) ≤ R.locals; have x14 : 110 ≤ R.locals := x14; omega) (by omega) (by omega) x7
    (fun t hA hs hq => ⟨rfl, ad, cw, rfl, ua, ud, gxI_ext uI hs hq (by omega) (by omega), ⟨Nat.le_trans uS.1 hs, fun q h1 h2 => (hq q (Nat.lt_of_lt_of_le h1 uS.1)).trans (uS.2.1 q h1 h2)⟩⟩) uS.2.2 (by omega) (by omega)
theorem h_ref {G : gxG} (hG : gxG0 G) {K : Nat → Nat → Nat → Nat → Bool} (x w M n c : Nat) : gxJ G gY_refuse K 0 [] [gR 7 x, gI w] M n c (fd_ref x w M n c K) := by
  unfold fd_ref
  refine gr_aload_n (pc := 0) (i := 0) 7 x (show decode (gy_b gY_refuse) 0 = .ok (.aload_n 0, 1) by decide +kernel) rfl rfl ?_
  refine gr_iload_n (pc := 1) (i := 1) w (show decode (gy_b gY_refuse) 1 = .ok (.iload_n 1, 1) by decide +kernel) rfl rfl ?_
  refine gr_putf (pc := 2) (index := 79) (t := 7) (j := 15) (σ := 1) (sv := gI) (f := gx_f1) (ty := .char) (show decode (gy_b gY_refuse) 2 = .ok (.putfield 79, 3) by decide +kernel) rfl rfl (fun _ => rfl) wd_309 rfl (gv_1 hG.2.1) rfl ?_
  intro M1
  exact h_thr x w M1 n c
theorem hm_ref {G : gxG} (hG : gxG0 G) (x w : Nat) : gxM G gY_refuse yX7_refuse [gR 7 x, gI w] (fd_ref x w) := gxM_of (L := [gR 7 x, gI w]) hG 0 (by decide +kernel) rfl rfl rfl rfl (List.forall_mem_cons.mpr ⟨rfl, List.forall_mem_cons.mpr ⟨rfl, fun _ h => nomatch h⟩⟩) (fun M n c K => h_ref hG x w M n c)
