/-! METHODS 1 -/
set_option maxRecDepth 100000
/-! java/lang/AbstractStringBuilder append (Ljava/lang/String;)Ljava/lang/AbstractStringBuilder; -/
def gY_17 : gxY := (false, prog_18_method_22_code, 3, (Option.some (Jvm.ClassFile.FieldType.object "java/lang/AbstractStringBuilder")), "java/lang/AbstractStringBuilder", 4, 105, 17, [], "append")
theorem ok_17 {Y : gxY} (h1 : gy_f gY_17 + 1 ≤ gy_f Y) (h2 : 8 + (gy_l gY_17 + 11) + gy_k gY_17 ≤ gy_k Y) : gh_ok Y gY_17 yJ5_append_cf1ce 1 := ⟨wd_429, wd_59, ⟨by decide, by decide⟩, by decide +kernel, h1, h2⟩
noncomputable def fi_17_L0 (K : Nat → Nat → Nat → Nat → Bool) (l0 l1 M n c : Nat) : Bool := gx_nul (l1) (false) (gx_nn (l1) (fi_12 (l1) M n c (fun v1 M2 n3 c4 => gx_get (l0) 3 M2 (fun v5 => gx_add (v5) (v1) (fun z6 => gx_nn (l0) (fi_13 (l0) (z6) M2 n3 c4 (fun v7 M8 n9 c10 => gx_get (l0) 3 M8 (fun v11 => gx_nn (l0) (fi_16 (l0) (v11) (l1) M8 n9 c10 (fun v12 M13 n14 c15 => gx_get (l0) 3 M13 (fun v16 => gx_add (v16) (v1) (fun z17 => gx_put (l0) 3 (z17) M13 gx_f0 (fun M18 => gx_rt gx_f0 (l0) (K (l0) M18 n14 c15))))))))))))))
theorem h_17_L0 {G : gxG} (hG : gxG0 G) {K : Nat → Nat → Nat → Nat → Bool} (l0 l1 M n c : Nat) : gxJ G gY_17 K 0 [] [gR 9 (l0), gR 8 (l1), gB] M n c (fi_17_L0 K l0 l1 M n c) := by
  unfold fi_17_L0
  refine gr_aload_n (pc := 0) (i := 1) 8 (l1) (show decode (gy_b gY_17) 0 = .ok (.aload_n 1, 1) by decide +kernel) rfl rfl ?_
  refine gr_ifnonnull (pc := 1) (tgt := 9) (off := 8) (show decode (gy_b gY_17) 1 = .ok (.ifnonnull (8), 3) by decide +kernel) (by decide) ?_ ?_
  · refine gr_aload_n (pc := 9) (i := 1) 8 (l1) (show decode (gy_b gY_17) 9 = .ok (.aload_n 1, 1) by decide +kernel) rfl rfl ?_
    refine gj_nn (fun hx10 => ?_)
    refine gj_c0 (pc := 10) (Y' := gY_12) (y := yJ0_length_8abf5) (vs := [gR 8 (l1)]) (rest := []) (rs := fun v1 => [gI (v1)]) [gR 8 (l1)] rfl (hm_12 hG (l1)) rfl (gh_V (t := 8) (vs := []) (rest := []) (show decode (gy_b gY_17) 10 = .ok (.invokevirtual 32, 3) by decide +kernel) rfl hx10 rfl rfl (ok_12 (by decide) (by decide)) wd_500 wd_501 wd_502 (Nat.le_of_ble_eq_true rfl)) (fun _ => rfl) ?_
    intro v1 M2 n3 c4
    refine gr_istore_n (pc := 13) (i := 2) (L' := [gR 9 (l0), gR 8 (l1), gI (v1)]) (show decode (gy_b gY_17) 13 = .ok (.istore_n 2, 1) by decide +kernel) rfl (by decide) rfl rfl ?_
    refine gr_aload_n (pc := 14) (i := 0) 9 (l0) (show decode (gy_b gY_17) 14 = .ok (.aload_n 0, 1) by decide +kernel) rfl rfl ?_
    refine gr_aload_n (pc := 15) (i := 0) 9 (l0) (show decode (gy_b gY_17) 15 = .ok (.aload_n 0, 1) by decide +kernel) rfl rfl ?_
    refine gr_getf (pc := 16) (index := 79) (t := 9) (j := 3) (σ := 0) (sv := gI) (show decode (gy_b gY_17) 16 = .ok (.getfield 79, 3) by decide +kernel) rfl rfl (fun _ => rfl) wd_411 (by decide) ?_
    intro v5
    refine gr_iload_n (pc := 19) (i := 2) (v1) (show decode (gy_b gY_17) 19 = .ok (.iload_n 2, 1) by decide +kernel) rfl rfl ?_
    refine gr_iadd (pc := 20) (show decode (gy_b gY_17) 20 = .ok (.iadd, 1) by decide +kernel) ?_
    intro z6
    refine gj_nn (fun hx21 => ?_)
    refine gj_c0 (pc := 21) (Y' := gY_13) (y := yJ5_ensureCapacityInternal_d00df) (vs := [gR 9 (l0), gI (z6)]) (rest := []) (rs := fun v7 => []) [gI (z6), gR 9 (l0)] rfl (hm_13 hG (l0) (z6)) rfl (gh_V (t := 9) (vs := [gI (z6)]) (rest := []) (show decode (gy_b gY_17) 21 = .ok (.invokevirtual 100, 3) by decide +kernel) rfl hx21 rfl rfl (ok_13 (by decide) (by decide)) wd_434 wd_436 wd_0 (Nat.le_of_ble_eq_true rfl)) (fun _ => rfl) ?_
    intro v7 M8 n9 c10
    refine gr_aload_n (pc := 24) (i := 0) 9 (l0) (show decode (gy_b gY_17) 24 = .ok (.aload_n 0, 1) by decide +kernel) rfl rfl ?_
    refine gr_aload_n (pc := 25) (i := 0) 9 (l0) (show decode (gy_b gY_17) 25 = .ok (.aload_n 0, 1) by decide +kernel) rfl rfl ?_
    refine gr_getf (pc := 26) (index := 79) (t := 9) (j := 3) (σ := 0) (sv := gI) (show decode (gy_b gY_17) 26 = .ok (.getfield 79, 3) by decide +kernel) rfl rfl (fun _ => rfl) wd_411 (by decide) ?_
    intro v11
    refine gr_aload_n (pc := 29) (i := 1) 8 (l1) (show decode (gy_b gY_17) 29 = .ok (.aload_n 1, 1) by decide +kernel) rfl rfl ?_
    refine gj_nn (fun hx30 => ?_)
    refine gj_c0 (pc := 30) (Y' := gY_16) (y := yJ5_putStringAt_47b60) (vs := [gR 9 (l0), gI (v11), gR 8 (l1)]) (rest := []) (rs := fun v12 => []) [gR 8 (l1), gI (v11), gR 9 (l0)] rfl (hm_16 hG (l0) (v11) (l1)) rfl (gh_V (t := 9) (vs := [gI (v11), gR 8 (l1)]) (rest := []) (show decode (gy_b gY_17) 30 = .ok (.invokevirtual 208, 3) by decide +kernel) rfl hx30 rfl rfl (ok_16 (by decide) (by decide)) wd_509 wd_511 wd_1 (Nat.le_of_ble_eq_true rfl)) (fun _ => rfl) ?_
    intro v12 M13 n14 c15
    refine gr_aload_n (pc := 33) (i := 0) 9 (l0) (show decode (gy_b gY_17) 33 = .ok (.aload_n 0, 1) by decide +kernel) rfl rfl ?_
    refine gr_dup (b := gB) (pc := 34) (show decode (gy_b gY_17) 34 = .ok (.dup, 1) by decide +kernel) rfl ?_
    refine gr_getf (pc := 35) (index := 79) (t := 9) (j := 3) (σ := 0) (sv := gI) (show decode (gy_b gY_17) 35 = .ok (.getfield 79, 3) by decide +kernel) rfl rfl (fun _ => rfl) wd_411 (by decide) ?_
    intro v16
    refine gr_iload_n (pc := 38) (i := 2) (v1) (show decode (gy_b gY_17) 38 = .ok (.iload_n 2, 1) by decide +kernel) rfl rfl ?_
    refine gr_iadd (pc := 39) (show decode (gy_b gY_17) 39 = .ok (.iadd, 1) by decide +kernel) ?_
    intro z17
    refine gr_putf (pc := 40) (index := 79) (t := 9) (j := 3) (σ := 0) (sv := gI) (f := gx_f0) (ty := .int) (show decode (gy_b gY_17) 40 = .ok (.putfield 79, 3) by decide +kernel) rfl rfl (fun _ => rfl) wd_411 rfl gv_0 rfl ?_
    intro M18
    refine gr_aload_n (pc := 43) (i := 0) 9 (l0) (show decode (gy_b gY_17) 43 = .ok (.aload_n 0, 1) by decide +kernel) rfl rfl ?_
    exact gr_areturn (pc := 44) (t := 9) (show decode (gy_b gY_17) 44 = .ok (.areturn, 1) by decide +kernel) rfl rfl (Or.inl ⟨_, rfl⟩)
  · exact gj_false
noncomputable def fi_17 (l0 l1 M n c : Nat) (K : Nat → Nat → Nat → Nat → Bool) : Bool := fi_17_L0 K l0 l1 M n c
theorem hm_17 {G : gxG} (hG : gxG0 G) (l0 l1 : Nat) : gxM G gY_17 yJ5_append_cf1ce [gR 9 (l0), gR 8 (l1)] (fi_17 l0 l1) := gxM_of (L := [gR 9 (l0), gR 8 (l1), gB]) hG 1 (by decide +kernel) rfl rfl rfl rfl (List.forall_mem_cons.mpr ⟨rfl, List.forall_mem_cons.mpr ⟨rfl, fun _ h => nomatch h⟩⟩) (fun M n c K => h_17_L0 hG  l0 l1 M n c)
/-! java/lang/StringBuilder append (Ljava/lang/String;)Ljava/lang/StringBuilder; -/
def gY_18 : gxY := (false, prog_33_method_7_code, 2, (Option.some (Jvm.ClassFile.FieldType.object "java/lang/StringBuilder")), "java/lang/StringBuilder", 5, 127, 17, [], "append")
theorem ok_18 {Y : gxY} (h1 : gy_f gY_18 + 1 ≤ gy_f Y) (h2 : 8 + (gy_l gY_18 + 11) + gy_k gY_18 ≤ gy_k Y) : gh_ok Y gY_18 yJ4_append_15ec4 1 := ⟨wd_426, wd_60, ⟨by decide, by decide⟩, by decide +kernel, h1, h2⟩
noncomputable def fi_18_L0 (K : Nat → Nat → Nat → Nat → Bool) (l0 l1 M n c : Nat) : Bool := gx_nn (l0) (fi_17 (l0) (l1) M n c (fun v1 M2 n3 c4 => gx_rt gx_f0 (l0) (K (l0) M2 n3 c4)))
theorem h_18_L0 {G : gxG} (hG : gxG0 G) {K : Nat → Nat → Nat → Nat → Bool} (l0 l1 M n c : Nat) : gxJ G gY_18 K 0 [] [gR 9 (l0), gR 8 (l1)] M n c (fi_18_L0 K l0 l1 M n c) := by
  unfold fi_18_L0
  refine gr_aload_n (pc := 0) (i := 0) 9 (l0) (show decode (gy_b gY_18) 0 = .ok (.aload_n 0, 1) by decide +kernel) rfl rfl ?_
  refine gr_aload_n (pc := 1) (i := 1) 8 (l1) (show decode (gy_b gY_18) 1 = .ok (.aload_n 1, 1) by decide +kernel) rfl rfl ?_
  refine gj_nn (fun hx2 => ?_)
  refine gj_c0 (pc := 2) (Y' := gY_17) (y := yJ5_append_cf1ce) (vs := [gR 9 (l0), gR 8 (l1)]) (rest := []) (rs := fun v1 => [gR 9 (v1)]) [gR 8 (l1), gR 9 (l0)] rfl (hm_17 hG (l0) (l1)) rfl (gh_SU (t := 9) (vs := [gR 8 (l1)]) (rest := []) (show decode (gy_b gY_18) 2 = .ok (.invokespecial 29, 3) by decide +kernel) rfl hx2 rfl (ok_17 (by decide) (by decide)) rfl rfl (by decide) wd_427 wd_1366 wd_420 wd_428 (Nat.le_of_ble_eq_true rfl)) (fun _ => rfl) ?_
  intro v1 M2 n3 c4
  refine gr_pop (b := gB) (pc := 5) (show decode (gy_b gY_18) 5 = .ok (.pop, 1) by decide +kernel) rfl ?_
  refine gr_aload_n (pc := 6) (i := 0) 9 (l0) (show decode (gy_b gY_18) 6 = .ok (.aload_n 0, 1) by decide +kernel) rfl rfl ?_
  exact gr_areturn (pc := 7) (t := 9) (show decode (gy_b gY_18) 7 = .ok (.areturn, 1) by decide +kernel) rfl rfl (Or.inl ⟨_, rfl⟩)
noncomputable def fi_18 (l0 l1 M n c : Nat) (K : Nat → Nat → Nat → Nat → Bool) : Bool := fi_18_L0 K l0 l1 M n c
theorem hm_18 {G : gxG} (hG : gxG0 G) (l0 l1 : Nat) : gxM G gY_18 yJ4_append_15ec4 [gR 9 (l0), gR 8 (l1)] (fi_18 l0 l1) := gxM_of (L := [gR 9 (l0), gR 8 (l1)]) hG 0 (by decide +kernel) rfl rfl rfl rfl (List.forall_mem_cons.mpr ⟨rfl, List.forall_mem_cons.mpr ⟨rfl, fun _ h => nomatch h⟩⟩) (fun M n c K => h_18_L0 hG  l0 l1 M n c)
/-! java/lang/AbstractStringBuilder isLatin1 ()Z -/
def gY_19 : gxY := (false, prog_18_method_68_code, 1, (Option.some Jvm.ClassFile.FieldType.boolean), "java/lang/AbstractStringBuilder", 1, 40, 2, [], "isLatin1")
theorem ok_19 {Y : gxY} (h1 : gy_f gY_19 + 1 ≤ gy_f Y) (h2 : 8 + (gy_l gY_19 + 11) + gy_k gY_19 ≤ gy_k Y) : gh_ok Y gY_19 yJ5_isLatin1_aae02 0 := ⟨wd_473, wd_59, ⟨by decide, by decide⟩, by decide +kernel, h1, h2⟩
noncomputable def fi_19_L0 (K : Nat → Nat → Nat → Nat → Bool) (l0 M n c : Nat) : Bool := gx_eq (1) 0 (false) (gx_get (l0) 1 M (fun v1 => gx_eq (v1) 0 (gx_rt gx_f2 (1) (K (1) M n c)) (false)))
theorem h_19_L0 {G : gxG} (hG : gxG0 G) {K : Nat → Nat → Nat → Nat → Bool} (l0 M n c : Nat) : gxJ G gY_19 K 0 [] [gR 9 (l0)] M n c (fi_19_L0 K l0 M n c) := by
  unfold fi_19_L0
  refine gr_compact (pc := 0) (index := 18) (show decode (gy_b gY_19) 0 = .ok (.getstatic 18, 3) by decide +kernel) wd_399 ?_
  refine gr_ifeq (pc := 3) (tgt := 17) (off := 14) hG.2.1 (show decode (gy_b gY_19) 3 = .ok (.ifCond .eq (14), 3) by decide +kernel) (by decide) ?_ ?_
  · exact gj_false
  · refine gr_aload_n (pc := 6) (i := 0) 9 (l0) (show decode (gy_b gY_19) 6 = .ok (.aload_n 0, 1) by decide +kernel) rfl rfl ?_
    refine gr_getf (pc := 7) (index := 22) (t := 9) (j := 1) (σ := 3) (sv := gI) (show decode (gy_b gY_19) 7 = .ok (.getfield 22, 3) by decide +kernel) rfl rfl (fun _ => rfl) wd_409 (by decide) ?_
    intro v1
    refine gr_ifne (pc := 10) (tgt := 17) (off := 7) hG.2.1 (show decode (gy_b gY_19) 10 = .ok (.ifCond .ne (7), 3) by decide +kernel) (by decide) ?_ ?_
    · exact gj_false
    · refine gr_iconst (pc := 13) (z := 1) 1 (show decode (gy_b gY_19) 13 = .ok (.iconst (1), 1) by decide +kernel) kc_1 ?_
      refine gr_goto (pc := 14) (tgt := 18) (off := 4) (show decode (gy_b gY_19) 14 = .ok (.goto (4), 3) by decide +kernel) (by decide) ?_
      exact gr_ireturn (pc := 18) (show decode (gy_b gY_19) 18 = .ok (.ireturn, 1) by decide +kernel) rfl rfl (by decide) gv_2f
noncomputable def fi_19 (l0 M n c : Nat) (K : Nat → Nat → Nat → Nat → Bool) : Bool := fi_19_L0 K l0 M n c
theorem hm_19 {G : gxG} (hG : gxG0 G) (l0 : Nat) : gxM G gY_19 yJ5_isLatin1_aae02 [gR 9 (l0)] (fi_19 l0) := gxM_of (L := [gR 9 (l0)]) hG 0 (by decide +kernel) rfl rfl rfl rfl (List.forall_mem_cons.mpr ⟨rfl, fun _ h => nomatch h⟩) (fun M n c K => h_19_L0 hG  l0 M n c)
/-! java/lang/StringLatin1 canEncode (C)Z -/
def gY_20 : gxY := (false, prog_34_method_3_code, 1, (Option.some Jvm.ClassFile.FieldType.boolean), "java/lang/StringLatin1", 1, 40, 2, [], "canEncode")
theorem ok_20 {Y : gxY} (h1 : gy_f gY_20 + 1 ≤ gy_f Y) (h2 : 8 + (gy_l gY_20 + 11) + gy_k gY_20 ≤ gy_k Y) : gh_ok Y gY_20 yJ1_canEncode_fc78d 1 := ⟨wd_552, wd_68, ⟨by decide, by decide⟩, by decide +kernel, h1, h2⟩
noncomputable def fi_20_L0 (K : Nat → Nat → Nat → Nat → Bool) (l0 M n c : Nat) : Bool := gx_lt (255) (l0) (false) (gx_rt gx_f2 (1) (K (1) M n c))
theorem h_20_L0 {G : gxG} (hG : gxG0 G) {K : Nat → Nat → Nat → Nat → Bool} (l0 M n c : Nat) : gxJ G gY_20 K 0 [] [gI (l0)] M n c (fi_20_L0 K l0 M n c) := by
  unfold fi_20_L0
  refine gr_iload_n (pc := 0) (i := 0) (l0) (show decode (gy_b gY_20) 0 = .ok (.iload_n 0, 1) by decide +kernel) rfl rfl ?_
  refine gr_sipush (pc := 1) (z := 255) 255 (show decode (gy_b gY_20) 1 = .ok (.sipush (255), 3) by decide +kernel) (by decide +kernel) ?_
  refine gr_icmp_gt (pc := 4) (tgt := 11) (off := 7) hG.2.1 (show decode (gy_b gY_20) 4 = .ok (.if_icmp .gt (7), 3) by decide +kernel) (by decide) ?_ ?_
  · exact gj_false
  · refine gr_iconst (pc := 7) (z := 1) 1 (show decode (gy_b gY_20) 7 = .ok (.iconst (1), 1) by decide +kernel) kc_1 ?_
    refine gr_goto (pc := 8) (tgt := 12) (off := 4) (show decode (gy_b gY_20) 8 = .ok (.goto (4), 3) by decide +kernel) (by decide) ?_
    exact gr_ireturn (pc := 12) (show decode (gy_b gY_20) 12 = .ok (.ireturn, 1) by decide +kernel) rfl rfl (by decide) gv_2f
noncomputable def fi_20 (l0 M n c : Nat) (K : Nat → Nat → Nat → Nat → Bool) : Bool := fi_20_L0 K l0 M n c
theorem hm_20 {G : gxG} (hG : gxG0 G) (l0 : Nat) : gxM G gY_20 yJ1_canEncode_fc78d [gI (l0)] (fi_20 l0) := gxM_of (L := [gI (l0)]) hG 0 (by decide +kernel) rfl rfl rfl rfl (List.forall_mem_cons.mpr ⟨rfl, fun _ h => nomatch h⟩) (fun M n c K => h_20_L0 hG  l0 M n c)
/-! java/lang/AbstractStringBuilder append (C)Ljava/lang/AbstractStringBuilder; -/
def gY_21 : gxY := (false, prog_18_method_31_code, 2, (Option.some (Jvm.ClassFile.FieldType.object "java/lang/AbstractStringBuilder")), "java/lang/AbstractStringBuilder", 2, 62, 17, [], "append")
theorem ok_21 {Y : gxY} (h1 : gy_f gY_21 + 1 ≤ gy_f Y) (h2 : 8 + (gy_l gY_21 + 11) + gy_k gY_21 ≤ gy_k Y) : gh_ok Y gY_21 yJ5_append_3fe6f 1 := ⟨wd_549, wd_59, ⟨by decide, by decide⟩, by decide +kernel, h1, h2⟩
noncomputable def fi_21_L75 (K : Nat → Nat → Nat → Nat → Bool) (l0 M n c : Nat) : Bool := gx_rt gx_f0 (l0) (K (l0) M n c)
theorem h_21_L75 {G : gxG} (hG : gxG0 G) {K : Nat → Nat → Nat → Nat → Bool} (l0 M n c : Nat) : gxJ G gY_21 K 75 [] [gR 9 (l0), gB] M n c (fi_21_L75 K l0 M n c) := by
  unfold fi_21_L75
  refine gr_aload_n (pc := 75) (i := 0) 9 (l0) (show decode (gy_b gY_21) 75 = .ok (.aload_n 0, 1) by decide +kernel) rfl rfl ?_
  exact gr_areturn (pc := 76) (t := 9) (show decode (gy_b gY_21) 76 = .ok (.areturn, 1) by decide +kernel) rfl rfl (Or.inl ⟨_, rfl⟩)
noncomputable def fi_21_L0 (K : Nat → Nat → Nat → Nat → Bool) (l0 l1 M n c : Nat) : Bool := gx_get (l0) 3 M (fun v1 => gx_add (v1) (1) (fun z2 => gx_nn (l0) (fi_13 (l0) (z2) M n c (fun v3 M4 n5 c6 => gx_nn (l0) (fi_19 (l0) M4 n5 c6 (fun v7 M8 n9 c10 => gx_eq (v7) 0 (false) (fi_20 (l1) M8 n9 c10 (fun v11 M12 n13 c14 => gx_eq (v11) 0 (false) (gx_get (l0) 0 M12 (fun v15 => gx_get (l0) 3 M12 (fun v16 => gx_add (v16) (1) (fun z17 => gx_put (l0) 3 (z17) M12 gx_f0 (fun M18 => gx_i2b (l1) (fun z19 => gx_ast (v15) (v16) (z19) M18 gx_f3 (fun M20 => fi_21_L75 K (l0) M20 n13 c14)))))))))))))))
theorem h_21_L0 {G : gxG} (hG : gxG0 G) {K : Nat → Nat → Nat → Nat → Bool} (l0 l1 M n c : Nat) : gxJ G gY_21 K 0 [] [gR 9 (l0), gI (l1)] M n c (fi_21_L0 K l0 l1 M n c) := by
  unfold fi_21_L0
  refine gr_aload_n (pc := 0) (i := 0) 9 (l0) (show decode (gy_b gY_21) 0 = .ok (.aload_n 0, 1) by decide +kernel) rfl rfl ?_
  refine gr_aload_n (pc := 1) (i := 0) 9 (l0) (show decode (gy_b gY_21) 1 = .ok (.aload_n 0, 1) by decide +kernel) rfl rfl ?_
  refine gr_getf (pc := 2) (index := 79) (t := 9) (j := 3) (σ := 0) (sv := gI) (show decode (gy_b gY_21) 2 = .ok (.getfield 79, 3) by decide +kernel) rfl rfl (fun _ => rfl) wd_411 (by decide) ?_
  intro v1
  refine gr_iconst (pc := 5) (z := 1) 1 (show decode (gy_b gY_21) 5 = .ok (.iconst (1), 1) by decide +kernel) kc_1 ?_
  refine gr_iadd (pc := 6) (show decode (gy_b gY_21) 6 = .ok (.iadd, 1) by decide +kernel) ?_
  intro z2
  refine gj_nn (fun hx7 => ?_)
  refine gj_c0 (pc := 7) (Y' := gY_13) (y := yJ5_ensureCapacityInternal_d00df) (vs := [gR 9 (l0), gI (z2)]) (rest := []) (rs := fun v3 => []) [gI (z2), gR 9 (l0)] rfl (hm_13 hG (l0) (z2)) rfl (gh_V (t := 9) (vs := [gI (z2)]) (rest := []) (show decode (gy_b gY_21) 7 = .ok (.invokevirtual 100, 3) by decide +kernel) rfl hx7 rfl rfl (ok_13 (by decide) (by decide)) wd_434 wd_436 wd_0 (Nat.le_of_ble_eq_true rfl)) (fun _ => rfl) ?_
  intro v3 M4 n5 c6
  refine gr_aload_n (pc := 10) (i := 0) 9 (l0) (show decode (gy_b gY_21) 10 = .ok (.aload_n 0, 1) by decide +kernel) rfl rfl ?_
  refine gj_nn (fun hx11 => ?_)
  refine gj_c0 (pc := 11) (Y' := gY_19) (y := yJ5_isLatin1_aae02) (vs := [gR 9 (l0)]) (rest := []) (rs := fun v7 => [gI (v7)]) [gR 9 (l0)] rfl (hm_19 hG (l0)) rfl (gh_V (t := 9) (vs := []) (rest := []) (show decode (gy_b gY_21) 11 = .ok (.invokevirtual 83, 3) by decide +kernel) rfl hx11 rfl rfl (ok_19 (by decide) (by decide)) wd_469 wd_470 wd_472 (Nat.le_of_ble_eq_true rfl)) (fun _ => rfl) ?_
  intro v7 M8 n9 c10
  refine gr_ifeq (pc := 14) (tgt := 45) (off := 31) hG.2.1 (show decode (gy_b gY_21) 14 = .ok (.ifCond .eq (31), 3) by decide +kernel) (by decide) ?_ ?_
  · exact gj_false
  · refine gr_iload_n (pc := 17) (i := 1) (l1) (show decode (gy_b gY_21) 17 = .ok (.iload_n 1, 1) by decide +kernel) rfl rfl ?_
    refine gj_c0 (pc := 18) (Y' := gY_20) (y := yJ1_canEncode_fc78d) (vs := [gI (l1)]) (rest := []) (rs := fun v11 => [gI (v11)]) [gI (l1)] rfl (hm_20 hG (l1)) rfl (gh_S (vs := [gI (l1)]) (rest := []) (show decode (gy_b gY_21) 18 = .ok (.invokestatic 191, 3) by decide +kernel) rfl (ok_20 (by decide) (by decide)) rfl rfl wd_550 wd_551 (Nat.le_of_ble_eq_true rfl)) (fun _ => rfl) ?_
    intro v11 M12 n13 c14
    refine gr_ifeq (pc := 21) (tgt := 45) (off := 24) hG.2.1 (show decode (gy_b gY_21) 21 = .ok (.ifCond .eq (24), 3) by decide +kernel) (by decide) ?_ ?_
    · exact gj_false
    · refine gr_aload_n (pc := 24) (i := 0) 9 (l0) (show decode (gy_b gY_21) 24 = .ok (.aload_n 0, 1) by decide +kernel) rfl rfl ?_
      refine gr_getf (pc := 25) (index := 15) (t := 9) (j := 0) (σ := 75) (sv := (gR 67)) (show decode (gy_b gY_21) 25 = .ok (.getfield 15, 3) by decide +kernel) rfl rfl (fun _ => rfl) wd_408 (by decide) ?_
      intro v15
      refine gr_aload_n (pc := 28) (i := 0) 9 (l0) (show decode (gy_b gY_21) 28 = .ok (.aload_n 0, 1) by decide +kernel) rfl rfl ?_
      refine gr_dup (b := gB) (pc := 29) (show decode (gy_b gY_21) 29 = .ok (.dup, 1) by decide +kernel) rfl ?_
      refine gr_getf (pc := 30) (index := 79) (t := 9) (j := 3) (σ := 0) (sv := gI) (show decode (gy_b gY_21) 30 = .ok (.getfield 79, 3) by decide +kernel) rfl rfl (fun _ => rfl) wd_411 (by decide) ?_
      intro v16
      refine gr_dup_x1 (pc := 33) (show decode (gy_b gY_21) 33 = .ok (.dup_x1, 1) by decide +kernel) rfl rfl ?_
      refine gr_iconst (pc := 34) (z := 1) 1 (show decode (gy_b gY_21) 34 = .ok (.iconst (1), 1) by decide +kernel) kc_1 ?_
      refine gr_iadd (pc := 35) (show decode (gy_b gY_21) 35 = .ok (.iadd, 1) by decide +kernel) ?_
      intro z17
      refine gr_putf (pc := 36) (index := 79) (t := 9) (j := 3) (σ := 0) (sv := gI) (f := gx_f0) (ty := .int) (show decode (gy_b gY_21) 36 = .ok (.putfield 79, 3) by decide +kernel) rfl rfl (fun _ => rfl) wd_411 rfl gv_0 rfl ?_
      intro M18
      refine gr_iload_n (pc := 39) (i := 1) (l1) (show decode (gy_b gY_21) 39 = .ok (.iload_n 1, 1) by decide +kernel) rfl rfl ?_
      refine gr_i2b (pc := 40) hG.2.1 (show decode (gy_b gY_21) 40 = .ok (.i2b, 1) by decide +kernel) ?_
      intro z19
      refine gr_bast (pc := 41) hG.2.1 (show decode (gy_b gY_21) 41 = .ok (.bastore, 1) by decide +kernel) ?_
      intro M20
      refine gr_goto (pc := 42) (tgt := 75) (off := 33) (show decode (gy_b gY_21) 42 = .ok (.goto (33), 3) by decide +kernel) (by decide) ?_
      refine gr_wk [true, false] rfl ?_
      exact h_21_L75 hG (l0) M20 n13 c14
noncomputable def fi_21 (l0 l1 M n c : Nat) (K : Nat → Nat → Nat → Nat → Bool) : Bool := fi_21_L0 K l0 l1 M n c
theorem hm_21 {G : gxG} (hG : gxG0 G) (l0 l1 : Nat) : gxM G gY_21 yJ5_append_3fe6f [gR 9 (l0), gI (l1)] (fi_21 l0 l1) := gxM_of (L := [gR 9 (l0), gI (l1)]) hG 0 (by decide +kernel) rfl rfl rfl rfl (List.forall_mem_cons.mpr ⟨rfl, List.forall_mem_cons.mpr ⟨rfl, fun _ h => nomatch h⟩⟩) (fun M n c K => h_21_L0 hG  l0 l1 M n c)
/-! java/lang/StringBuilder append (C)Ljava/lang/StringBuilder; -/
def gY_22 : gxY := (false, prog_33_method_14_code, 2, (Option.some (Jvm.ClassFile.FieldType.object "java/lang/StringBuilder")), "java/lang/StringBuilder", 3, 83, 17, [], "append")
theorem ok_22 {Y : gxY} (h1 : gy_f gY_22 + 1 ≤ gy_f Y) (h2 : 8 + (gy_l gY_22 + 11) + gy_k gY_22 ≤ gy_k Y) : gh_ok Y gY_22 yJ4_append_cf468 1 := ⟨wd_546, wd_60, ⟨by decide, by decide⟩, by decide +kernel, h1, h2⟩
noncomputable def fi_22_L0 (K : Nat → Nat → Nat → Nat → Bool) (l0 l1 M n c : Nat) : Bool := gx_nn (l0) (fi_21 (l0) (l1) M n c (fun v1 M2 n3 c4 => gx_rt gx_f0 (l0) (K (l0) M2 n3 c4)))
theorem h_22_L0 {G : gxG} (hG : gxG0 G) {K : Nat → Nat → Nat → Nat → Bool} (l0 l1 M n c : Nat) : gxJ G gY_22 K 0 [] [gR 9 (l0), gI (l1)] M n c (fi_22_L0 K l0 l1 M n c) := by
  unfold fi_22_L0
  refine gr_aload_n (pc := 0) (i := 0) 9 (l0) (show decode (gy_b gY_22) 0 = .ok (.aload_n 0, 1) by decide +kernel) rfl rfl ?_
  refine gr_iload_n (pc := 1) (i := 1) (l1) (show decode (gy_b gY_22) 1 = .ok (.iload_n 1, 1) by decide +kernel) rfl rfl ?_
  refine gj_nn (fun hx2 => ?_)
  refine gj_c0 (pc := 2) (Y' := gY_21) (y := yJ5_append_3fe6f) (vs := [gR 9 (l0), gI (l1)]) (rest := []) (rs := fun v1 => [gR 9 (v1)]) [gI (l1), gR 9 (l0)] rfl (hm_21 hG (l0) (l1)) rfl (gh_SU (t := 9) (vs := [gI (l1)]) (rest := []) (show decode (gy_b gY_22) 2 = .ok (.invokespecial 50, 3) by decide +kernel) rfl hx2 rfl (ok_21 (by decide) (by decide)) rfl rfl (by decide) wd_547 wd_1373 wd_420 wd_548 (Nat.le_of_ble_eq_true rfl)) (fun _ => rfl) ?_
  intro v1 M2 n3 c4
  refine gr_pop (b := gB) (pc := 5) (show decode (gy_b gY_22) 5 = .ok (.pop, 1) by decide +kernel) rfl ?_
  refine gr_aload_n (pc := 6) (i := 0) 9 (l0) (show decode (gy_b gY_22) 6 = .ok (.aload_n 0, 1) by decide +kernel) rfl rfl ?_
  exact gr_areturn (pc := 7) (t := 9) (show decode (gy_b gY_22) 7 = .ok (.areturn, 1) by decide +kernel) rfl rfl (Or.inl ⟨_, rfl⟩)
noncomputable def fi_22 (l0 l1 M n c : Nat) (K : Nat → Nat → Nat → Nat → Bool) : Bool := fi_22_L0 K l0 l1 M n c
theorem hm_22 {G : gxG} (hG : gxG0 G) (l0 l1 : Nat) : gxM G gY_22 yJ4_append_cf468 [gR 9 (l0), gI (l1)] (fi_22 l0 l1) := gxM_of (L := [gR 9 (l0), gI (l1)]) hG 0 (by decide +kernel) rfl rfl rfl rfl (List.forall_mem_cons.mpr ⟨rfl, List.forall_mem_cons.mpr ⟨rfl, fun _ h => nomatch h⟩⟩) (fun M n c K => h_22_L0 hG  l0 l1 M n c)
/-! java/lang/AbstractStringBuilder getValue ()[B -/
def gY_23 : gxY := (false, prog_18_method_64_code, 1, (Option.some (Jvm.ClassFile.FieldType.array Jvm.ClassFile.FieldType.byte)), "java/lang/AbstractStringBuilder", 1, 40, 75, [], "getValue")
theorem ok_23 {Y : gxY} (h1 : gy_f gY_23 + 1 ≤ gy_f Y) (h2 : 8 + (gy_l gY_23 + 11) + gy_k gY_23 ≤ gy_k Y) : gh_ok Y gY_23 yJ5_getValue_6d5f1 0 := ⟨wd_582, wd_59, ⟨by decide, by decide⟩, by decide +kernel, h1, h2⟩
noncomputable def fi_23_L0 (K : Nat → Nat → Nat → Nat → Bool) (l0 M n c : Nat) : Bool := gx_get (l0) 0 M (fun v1 => gx_rt gx_f0 (v1) (K (v1) M n c))
theorem h_23_L0 {G : gxG} (hG : gxG0 G) {K : Nat → Nat → Nat → Nat → Bool} (l0 M n c : Nat) : gxJ G gY_23 K 0 [] [gR 9 (l0)] M n c (fi_23_L0 K l0 M n c) := by
  unfold fi_23_L0
  refine gr_aload_n (pc := 0) (i := 0) 9 (l0) (show decode (gy_b gY_23) 0 = .ok (.aload_n 0, 1) by decide +kernel) rfl rfl ?_
  refine gr_getf (pc := 1) (index := 15) (t := 9) (j := 0) (σ := 75) (sv := (gR 67)) (show decode (gy_b gY_23) 1 = .ok (.getfield 15, 3) by decide +kernel) rfl rfl (fun _ => rfl) wd_408 (by decide) ?_
  intro v1
  exact gr_areturn (pc := 4) (t := 67) (show decode (gy_b gY_23) 4 = .ok (.areturn, 1) by decide +kernel) rfl rfl (Or.inr ⟨_, rfl⟩)
noncomputable def fi_23 (l0 M n c : Nat) (K : Nat → Nat → Nat → Nat → Bool) : Bool := fi_23_L0 K l0 M n c
theorem hm_23 {G : gxG} (hG : gxG0 G) (l0 : Nat) : gxM G gY_23 yJ5_getValue_6d5f1 [gR 9 (l0)] (fi_23 l0) := gxM_of (L := [gR 9 (l0)]) hG 0 (by decide +kernel) rfl rfl rfl rfl (List.forall_mem_cons.mpr ⟨rfl, fun _ h => nomatch h⟩) (fun M n c K => h_23_L0 hG  l0 M n c)
/-! java/lang/AbstractStringBuilder length ()I -/
def gY_24 : gxY := (false, prog_18_method_6_code, 1, (Option.some Jvm.ClassFile.FieldType.int), "java/lang/AbstractStringBuilder", 1, 40, 0, [], "length")
theorem ok_24 {Y : gxY} (h1 : gy_f gY_24 + 1 ≤ gy_f Y) (h2 : 8 + (gy_l gY_24 + 11) + gy_k gY_24 ≤ gy_k Y) : gh_ok Y gY_24 yJ5_length_8abf5 0 := ⟨wd_590, wd_59, ⟨by decide, by decide⟩, by decide +kernel, h1, h2⟩
noncomputable def fi_24_L0 (K : Nat → Nat → Nat → Nat → Bool) (l0 M n c : Nat) : Bool := gx_get (l0) 3 M (fun v1 => gx_rt gx_f0 (v1) (K (v1) M n c))
theorem h_24_L0 {G : gxG} (hG : gxG0 G) {K : Nat → Nat → Nat → Nat → Bool} (l0 M n c : Nat) : gxJ G gY_24 K 0 [] [gR 9 (l0)] M n c (fi_24_L0 K l0 M n c) := by
  unfold fi_24_L0
  refine gr_aload_n (pc := 0) (i := 0) 9 (l0) (show decode (gy_b gY_24) 0 = .ok (.aload_n 0, 1) by decide +kernel) rfl rfl ?_
  refine gr_getf (pc := 1) (index := 79) (t := 9) (j := 3) (σ := 0) (sv := gI) (show decode (gy_b gY_24) 1 = .ok (.getfield 79, 3) by decide +kernel) rfl rfl (fun _ => rfl) wd_411 (by decide) ?_
  intro v1
  exact gr_ireturn (pc := 4) (show decode (gy_b gY_24) 4 = .ok (.ireturn, 1) by decide +kernel) rfl rfl (by decide) gv_0
noncomputable def fi_24 (l0 M n c : Nat) (K : Nat → Nat → Nat → Nat → Bool) : Bool := fi_24_L0 K l0 M n c
theorem hm_24 {G : gxG} (hG : gxG0 G) (l0 : Nat) : gxM G gY_24 yJ5_length_8abf5 [gR 9 (l0)] (fi_24 l0) := gxM_of (L := [gR 9 (l0)]) hG 0 (by decide +kernel) rfl rfl rfl rfl (List.forall_mem_cons.mpr ⟨rfl, fun _ h => nomatch h⟩) (fun M n c K => h_24_L0 hG  l0 M n c)
/-! java/lang/StringBuilder length ()I -/
def gY_25 : gxY := (false, prog_33_method_93_code, 1, (Option.some Jvm.ClassFile.FieldType.int), "java/lang/StringBuilder", 2, 60, 0, [], "length")
theorem ok_25 {Y : gxY} (h1 : gy_f gY_25 + 1 ≤ gy_f Y) (h2 : 8 + (gy_l gY_25 + 11) + gy_k gY_25 ≤ gy_k Y) : gh_ok Y gY_25 yJ4_length_8abf5 0 := ⟨wd_588, wd_60, ⟨by decide, by decide⟩, by decide +kernel, h1, h2⟩
noncomputable def fi_25_L0 (K : Nat → Nat → Nat → Nat → Bool) (l0 M n c : Nat) : Bool := gx_nn (l0) (fi_24 (l0) M n c (fun v1 M2 n3 c4 => gx_rt gx_f0 (v1) (K (v1) M2 n3 c4)))
theorem h_25_L0 {G : gxG} (hG : gxG0 G) {K : Nat → Nat → Nat → Nat → Bool} (l0 M n c : Nat) : gxJ G gY_25 K 0 [] [gR 9 (l0)] M n c (fi_25_L0 K l0 M n c) := by
  unfold fi_25_L0
  refine gr_aload_n (pc := 0) (i := 0) 9 (l0) (show decode (gy_b gY_25) 0 = .ok (.aload_n 0, 1) by decide +kernel) rfl rfl ?_
  refine gj_nn (fun hx1 => ?_)
  refine gj_c0 (pc := 1) (Y' := gY_24) (y := yJ5_length_8abf5) (vs := [gR 9 (l0)]) (rest := []) (rs := fun v1 => [gI (v1)]) [gR 9 (l0)] rfl (hm_24 hG (l0)) rfl (gh_SU (t := 9) (vs := []) (rest := []) (show decode (gy_b gY_25) 1 = .ok (.invokespecial 343, 3) by decide +kernel) rfl hx1 rfl (ok_24 (by decide) (by decide)) rfl rfl (by decide) wd_589 wd_585 wd_420 wd_584 (Nat.le_of_ble_eq_true rfl)) (fun _ => rfl) ?_
  intro v1 M2 n3 c4
  exact gr_ireturn (pc := 4) (show decode (gy_b gY_25) 4 = .ok (.ireturn, 1) by decide +kernel) rfl rfl (by decide) gv_0
noncomputable def fi_25 (l0 M n c : Nat) (K : Nat → Nat → Nat → Nat → Bool) : Bool := fi_25_L0 K l0 M n c
theorem hm_25 {G : gxG} (hG : gxG0 G) (l0 : Nat) : gxM G gY_25 yJ4_length_8abf5 [gR 9 (l0)] (fi_25 l0) := gxM_of (L := [gR 9 (l0)]) hG 0 (by decide +kernel) rfl rfl rfl rfl (List.forall_mem_cons.mpr ⟨rfl, fun _ h => nomatch h⟩) (fun M n c K => h_25_L0 hG  l0 M n c)
/-! java/util/Arrays checkLength (II)V -/
def gY_26 : gxY := (false, prog_41_method_131_code, 2, (Option.none : Option FieldType), "java/util/Arrays", 1, 40, 5, [], "checkLength")
theorem ok_26 {Y : gxY} (h1 : gy_f gY_26 + 1 ≤ gy_f Y) (h2 : 8 + (gy_l gY_26 + 11) + gy_k gY_26 ≤ gy_k Y) : gh_ok Y gY_26 yJ7_checkLength_df160 2 := ⟨wd_600, wd_65, ⟨by decide, by decide⟩, by decide +kernel, h1, h2⟩
noncomputable def fi_26_L0 (K : Nat → Nat → Nat → Nat → Bool) (l0 l1 M n c : Nat) : Bool := gx_lt (l1) (l0) (false) (K 0 M n c)
theorem h_26_L0 {G : gxG} (hG : gxG0 G) {K : Nat → Nat → Nat → Nat → Bool} (l0 l1 M n c : Nat) : gxJ G gY_26 K 0 [] [gI (l0), gI (l1)] M n c (fi_26_L0 K l0 l1 M n c) := by
  unfold fi_26_L0
  refine gr_iload_n (pc := 0) (i := 1) (l1) (show decode (gy_b gY_26) 0 = .ok (.iload_n 1, 1) by decide +kernel) rfl rfl ?_
  refine gr_iload_n (pc := 1) (i := 0) (l0) (show decode (gy_b gY_26) 1 = .ok (.iload_n 0, 1) by decide +kernel) rfl rfl ?_
  refine gr_icmp_ge (pc := 2) (tgt := 37) (off := 35) hG.2.1 (show decode (gy_b gY_26) 2 = .ok (.if_icmp .ge (35), 3) by decide +kernel) (by decide) ?_ ?_
  · exact gr_return (pc := 37) (show decode (gy_b gY_26) 37 = .ok (.return_, 1) by decide +kernel) rfl rfl
  · exact gj_false
noncomputable def fi_26 (l0 l1 M n c : Nat) (K : Nat → Nat → Nat → Nat → Bool) : Bool := fi_26_L0 K l0 l1 M n c
theorem hm_26 {G : gxG} (hG : gxG0 G) (l0 l1 : Nat) : gxM G gY_26 yJ7_checkLength_df160 [gI (l0), gI (l1)] (fi_26 l0 l1) := gxM_of (L := [gI (l0), gI (l1)]) hG 0 (by decide +kernel) rfl rfl rfl rfl (List.forall_mem_cons.mpr ⟨rfl, List.forall_mem_cons.mpr ⟨rfl, fun _ h => nomatch h⟩⟩) (fun M n c K => h_26_L0 hG  l0 l1 M n c)
/-! java/util/Arrays copyOfRangeByte ([BII)[B -/
def gY_27 : gxY := (false, prog_41_method_133_code, 5, (Option.some (Jvm.ClassFile.FieldType.array Jvm.ClassFile.FieldType.byte)), "java/util/Arrays", 2, 61, 75, [], "copyOfRangeByte")
theorem ok_27 {Y : gxY} (h1 : gy_f gY_27 + 1 ≤ gy_f Y) (h2 : 8 + (gy_l gY_27 + 11) + gy_k gY_27 ≤ gy_k Y) : gh_ok Y gY_27 yJ7_copyOfRangeByte_39247 3 := ⟨wd_597, wd_65, ⟨by decide, by decide⟩, by decide +kernel, h1, h2⟩
noncomputable def fi_27_L0 (K : Nat → Nat → Nat → Nat → Bool) (l0 l1 l2 M n c : Nat) : Bool := fi_26 (l1) (l2) M n c (fun v1 M2 n3 c4 => gx_sub (l2) (l1) (fun z5 => gx_nea (z5) M2 n3 c4 (fun v6 M7 n8 c9 => gx_len (l0) M7 (fun v10 => gx_sub (v10) (l1) (fun z11 => gx_min (z11) (z5) (fun z12 => gx_cpy (l0) (l1) (v6) (0) (z12) M7 (fun M13 => gx_rt gx_f0 (v6) (K (v6) M13 n8 c9))))))))
theorem h_27_L0 {G : gxG} (hG : gxG0 G) {K : Nat → Nat → Nat → Nat → Bool} (l0 l1 l2 M n c : Nat) : gxJ G gY_27 K 0 [] [gR 67 (l0), gI (l1), gI (l2), gB, gB] M n c (fi_27_L0 K l0 l1 l2 M n c) := by
  unfold fi_27_L0
  refine gr_iload_n (pc := 0) (i := 1) (l1) (show decode (gy_b gY_27) 0 = .ok (.iload_n 1, 1) by decide +kernel) rfl rfl ?_
  refine gr_iload_n (pc := 1) (i := 2) (l2) (show decode (gy_b gY_27) 1 = .ok (.iload_n 2, 1) by decide +kernel) rfl rfl ?_
  refine gj_c0 (pc := 2) (Y' := gY_26) (y := yJ7_checkLength_df160) (vs := [gI (l1), gI (l2)]) (rest := []) (rs := fun v1 => []) [gI (l2), gI (l1)] rfl (hm_26 hG (l1) (l2)) rfl (gh_S (vs := [gI (l1), gI (l2)]) (rest := []) (show decode (gy_b gY_27) 2 = .ok (.invokestatic 343, 3) by decide +kernel) rfl (ok_26 (by decide) (by decide)) rfl rfl wd_598 wd_599 (Nat.le_of_ble_eq_true rfl)) (fun _ => rfl) ?_
  intro v1 M2 n3 c4
  refine gr_iload_n (pc := 5) (i := 2) (l2) (show decode (gy_b gY_27) 5 = .ok (.iload_n 2, 1) by decide +kernel) rfl rfl ?_
  refine gr_iload_n (pc := 6) (i := 1) (l1) (show decode (gy_b gY_27) 6 = .ok (.iload_n 1, 1) by decide +kernel) rfl rfl ?_
  refine gr_isub (pc := 7) hG.2.1 (show decode (gy_b gY_27) 7 = .ok (.isub, 1) by decide +kernel) ?_
  intro z5
  refine gr_istore_n (pc := 8) (i := 3) (L' := [gR 67 (l0), gI (l1), gI (l2), gI (z5), gB]) (show decode (gy_b gY_27) 8 = .ok (.istore_n 3, 1) by decide +kernel) rfl (by decide) rfl rfl ?_
  refine gr_iload_n (pc := 9) (i := 3) (z5) (show decode (gy_b gY_27) 9 = .ok (.iload_n 3, 1) by decide +kernel) rfl rfl ?_
  refine gr_newB (pc := 10) (show decode (gy_b gY_27) 10 = .ok (.newarray .byte, 2) by decide +kernel) wd_421 ?_
  intro v6 M7 n8 c9
  refine gr_astore (pc := 12) (i := 4) (L' := [gR 67 (l0), gI (l1), gI (l2), gI (z5), gR 67 (v6)]) (show decode (gy_b gY_27) 12 = .ok (.astore 4, 2) by decide +kernel) (by decide) rfl rfl ?_
  refine gr_aload_n (pc := 14) (i := 0) 67 (l0) (show decode (gy_b gY_27) 14 = .ok (.aload_n 0, 1) by decide +kernel) rfl rfl ?_
  refine gr_iload_n (pc := 15) (i := 1) (l1) (show decode (gy_b gY_27) 15 = .ok (.iload_n 1, 1) by decide +kernel) rfl rfl ?_
  refine gr_aload (pc := 16) (i := 4) 67 (v6) (show decode (gy_b gY_27) 16 = .ok (.aload 4, 2) by decide +kernel) rfl ?_
  refine gr_iconst (pc := 18) (z := 0) 0 (show decode (gy_b gY_27) 18 = .ok (.iconst (0), 1) by decide +kernel) kc_0 ?_
  refine gr_aload_n (pc := 19) (i := 0) 67 (l0) (show decode (gy_b gY_27) 19 = .ok (.aload_n 0, 1) by decide +kernel) rfl rfl ?_
  refine gr_alen (pc := 20) (κ := 3) (show decode (gy_b gY_27) 20 = .ok (.arraylength, 1) by decide +kernel) (by decide) ?_
  intro v10
  refine gr_iload_n (pc := 21) (i := 1) (l1) (show decode (gy_b gY_27) 21 = .ok (.iload_n 1, 1) by decide +kernel) rfl rfl ?_
  refine gr_isub (pc := 22) hG.2.1 (show decode (gy_b gY_27) 22 = .ok (.isub, 1) by decide +kernel) ?_
  intro z11
  refine gr_iload_n (pc := 23) (i := 3) (z5) (show decode (gy_b gY_27) 23 = .ok (.iload_n 3, 1) by decide +kernel) rfl rfl ?_
  refine gr_min (pc := 24) (index := 304) (show decode (gy_b gY_27) 24 = .ok (.invokestatic 304, 3) by decide +kernel) wd_463 wd_464 wd_64 wd_465 (by decide) (by decide) (Nat.le_of_ble_eq_true rfl) ?_
  intro z12
  refine gr_copy (pc := 27) (index := 150) hG (show decode (gy_b gY_27) 27 = .ok (.invokestatic 150, 3) by decide +kernel) wd_466 wd_468 wd_467 wd_66 (by decide) (by decide) (Nat.le_of_ble_eq_true rfl) ?_
  intro M13
  refine gr_aload (pc := 30) (i := 4) 67 (v6) (show decode (gy_b gY_27) 30 = .ok (.aload 4, 2) by decide +kernel) rfl ?_
  exact gr_areturn (pc := 32) (t := 67) (show decode (gy_b gY_27) 32 = .ok (.areturn, 1) by decide +kernel) rfl rfl (Or.inr ⟨_, rfl⟩)
noncomputable def fi_27 (l0 l1 l2 M n c : Nat) (K : Nat → Nat → Nat → Nat → Bool) : Bool := fi_27_L0 K l0 l1 l2 M n c
theorem hm_27 {G : gxG} (hG : gxG0 G) (l0 l1 l2 : Nat) : gxM G gY_27 yJ7_copyOfRangeByte_39247 [gR 67 (l0), gI (l1), gI (l2)] (fi_27 l0 l1 l2) := gxM_of (L := [gR 67 (l0), gI (l1), gI (l2), gB, gB]) hG 2 (by decide +kernel) rfl rfl rfl rfl (List.forall_mem_cons.mpr ⟨rfl, List.forall_mem_cons.mpr ⟨rfl, List.forall_mem_cons.mpr ⟨rfl, fun _ h => nomatch h⟩⟩⟩) (fun M n c K => h_27_L0 hG  l0 l1 l2 M n c)
/-! java/util/Arrays copyOfRange ([BII)[B -/
def gY_28 : gxY := (false, prog_41_method_132_code, 3, (Option.some (Jvm.ClassFile.FieldType.array Jvm.ClassFile.FieldType.byte)), "java/util/Arrays", 3, 85, 75, [], "copyOfRange")
theorem ok_28 {Y : gxY} (h1 : gy_f gY_28 + 1 ≤ gy_f Y) (h2 : 8 + (gy_l gY_28 + 11) + gy_k gY_28 ≤ gy_k Y) : gh_ok Y gY_28 yJ7_copyOfRange_39247 3 := ⟨wd_594, wd_65, ⟨by decide, by decide⟩, by decide +kernel, h1, h2⟩
noncomputable def fi_28_L10 (K : Nat → Nat → Nat → Nat → Bool) (l0 l1 l2 M n c : Nat) : Bool := fi_27 (l0) (l1) (l2) M n c (fun v1 M2 n3 c4 => gx_rt gx_f0 (v1) (K (v1) M2 n3 c4))
theorem h_28_L10 {G : gxG} (hG : gxG0 G) {K : Nat → Nat → Nat → Nat → Bool} (l0 l1 l2 M n c : Nat) : gxJ G gY_28 K 10 [] [gR 67 (l0), gI (l1), gI (l2)] M n c (fi_28_L10 K l0 l1 l2 M n c) := by
  unfold fi_28_L10
  refine gr_aload_n (pc := 10) (i := 0) 67 (l0) (show decode (gy_b gY_28) 10 = .ok (.aload_n 0, 1) by decide +kernel) rfl rfl ?_
  refine gr_iload_n (pc := 11) (i := 1) (l1) (show decode (gy_b gY_28) 11 = .ok (.iload_n 1, 1) by decide +kernel) rfl rfl ?_
  refine gr_iload_n (pc := 12) (i := 2) (l2) (show decode (gy_b gY_28) 12 = .ok (.iload_n 2, 1) by decide +kernel) rfl rfl ?_
  refine gj_c0 (pc := 13) (Y' := gY_27) (y := yJ7_copyOfRangeByte_39247) (vs := [gR 67 (l0), gI (l1), gI (l2)]) (rest := []) (rs := fun v1 => [gR 67 (v1)]) [gI (l2), gI (l1), gR 67 (l0)] rfl (hm_27 hG (l0) (l1) (l2)) rfl (gh_S (vs := [gR 67 (l0), gI (l1), gI (l2)]) (rest := []) (show decode (gy_b gY_28) 13 = .ok (.invokestatic 339, 3) by decide +kernel) rfl (ok_27 (by decide) (by decide)) rfl rfl wd_595 wd_596 (Nat.le_of_ble_eq_true rfl)) (fun _ => rfl) ?_
  intro v1 M2 n3 c4
  exact gr_areturn (pc := 16) (t := 67) (show decode (gy_b gY_28) 16 = .ok (.areturn, 1) by decide +kernel) rfl rfl (Or.inr ⟨_, rfl⟩)
noncomputable def fi_28_L0 (K : Nat → Nat → Nat → Nat → Bool) (l0 l1 l2 M n c : Nat) : Bool := gx_eq (l1) 0 (gx_len (l0) M (fun v5 => gx_eq (l2) (v5) (false) (fi_28_L10 K (l0) (l1) (l2) M n c))) (fi_28_L10 K (l0) (l1) (l2) M n c)
theorem h_28_L0 {G : gxG} (hG : gxG0 G) {K : Nat → Nat → Nat → Nat → Bool} (l0 l1 l2 M n c : Nat) : gxJ G gY_28 K 0 [] [gR 67 (l0), gI (l1), gI (l2)] M n c (fi_28_L0 K l0 l1 l2 M n c) := by
  unfold fi_28_L0
  refine gr_iload_n (pc := 0) (i := 1) (l1) (show decode (gy_b gY_28) 0 = .ok (.iload_n 1, 1) by decide +kernel) rfl rfl ?_
  refine gr_ifne (pc := 1) (tgt := 10) (off := 9) hG.2.1 (show decode (gy_b gY_28) 1 = .ok (.ifCond .ne (9), 3) by decide +kernel) (by decide) ?_ ?_
  · exact h_28_L10 hG (l0) (l1) (l2) M n c
  · refine gr_iload_n (pc := 4) (i := 2) (l2) (show decode (gy_b gY_28) 4 = .ok (.iload_n 2, 1) by decide +kernel) rfl rfl ?_
    refine gr_aload_n (pc := 5) (i := 0) 67 (l0) (show decode (gy_b gY_28) 5 = .ok (.aload_n 0, 1) by decide +kernel) rfl rfl ?_
    refine gr_alen (pc := 6) (κ := 3) (show decode (gy_b gY_28) 6 = .ok (.arraylength, 1) by decide +kernel) (by decide) ?_
    intro v5
    refine gr_icmp_eq (pc := 7) (tgt := 17) (off := 10) hG.2.1 (show decode (gy_b gY_28) 7 = .ok (.if_icmp .eq (10), 3) by decide +kernel) (by decide) ?_ ?_
    · exact gj_false
    · exact h_28_L10 hG (l0) (l1) (l2) M n c
noncomputable def fi_28 (l0 l1 l2 M n c : Nat) (K : Nat → Nat → Nat → Nat → Bool) : Bool := fi_28_L0 K l0 l1 l2 M n c
theorem hm_28 {G : gxG} (hG : gxG0 G) (l0 l1 l2 : Nat) : gxM G gY_28 yJ7_copyOfRange_39247 [gR 67 (l0), gI (l1), gI (l2)] (fi_28 l0 l1 l2) := gxM_of (L := [gR 67 (l0), gI (l1), gI (l2)]) hG 0 (by decide +kernel) rfl rfl rfl rfl (List.forall_mem_cons.mpr ⟨rfl, List.forall_mem_cons.mpr ⟨rfl, List.forall_mem_cons.mpr ⟨rfl, fun _ h => nomatch h⟩⟩⟩) (fun M n c K => h_28_L0 hG  l0 l1 l2 M n c)
/-! java/lang/String <init> (Ljava/lang/AbstractStringBuilder;Ljava/lang/Void;)V -/
def gY_29 : gxY := (false, prog_32_method_150_code, 5, (Option.none : Option FieldType), "java/lang/String", 4, 107, 5, [], "<init>")
theorem ok_29 {Y : gxY} (h1 : gy_f gY_29 + 1 ≤ gy_f Y) (h2 : 8 + (gy_l gY_29 + 11) + gy_k gY_29 ≤ gy_k Y) : gh_ok Y gY_29 yJ0_init_db425 2 := ⟨wd_576, wd_61, ⟨by decide, by decide⟩, by decide +kernel, h1, h2⟩
noncomputable def fi_29_L0 (K : Nat → Nat → Nat → Nat → Bool) (l0 l1 l2 M n c : Nat) : Bool := gx_nn (l0) (gx_nn (l1) (fi_23 (l1) M n c (fun v1 M2 n3 c4 => gx_nn (l1) (fi_25 (l1) M2 n3 c4 (fun v5 M6 n7 c8 => gx_nn (l1) (fi_19 (l1) M6 n7 c8 (fun v9 M10 n11 c12 => gx_eq (v9) 0 (false) (gx_put (l0) 1 (0) M10 gx_f3 (fun M13 => fi_28 (v1) (0) (v5) M13 n11 c12 (fun v14 M15 n16 c17 => gx_put (l0) 0 (v14) M15 gx_f0 (fun M18 => K 0 M18 n16 c17)))))))))))
theorem h_29_L0 {G : gxG} (hG : gxG0 G) {K : Nat → Nat → Nat → Nat → Bool} (l0 l1 l2 M n c : Nat) : gxJ G gY_29 K 0 [] [gR 8 (l0), gR 9 (l1), gR 90 (l2), gB, gB] M n c (fi_29_L0 K l0 l1 l2 M n c) := by
  unfold fi_29_L0
  refine gr_aload_n (pc := 0) (i := 0) 8 (l0) (show decode (gy_b gY_29) 0 = .ok (.aload_n 0, 1) by decide +kernel) rfl rfl ?_
  refine gr_objInit (pc := 1) (index := 1) (t := 8) (show decode (gy_b gY_29) 1 = .ok (.invokespecial 1, 3) by decide +kernel) wd_577 wd_86 wd_87 (by decide) (by decide) (Nat.le_of_ble_eq_true rfl) ?_
  refine gr_aload_n (pc := 4) (i := 1) 9 (l1) (show decode (gy_b gY_29) 4 = .ok (.aload_n 1, 1) by decide +kernel) rfl rfl ?_
  refine gj_nn (fun hx5 => ?_)
  refine gj_c0 (pc := 5) (Y' := gY_23) (y := yJ5_getValue_6d5f1) (vs := [gR 9 (l1)]) (rest := []) (rs := fun v1 => [gR 67 (v1)]) [gR 9 (l1)] rfl (hm_23 hG (l1)) rfl (gh_V (t := 9) (vs := []) (rest := []) (show decode (gy_b gY_29) 5 = .ok (.invokevirtual 552, 3) by decide +kernel) rfl hx5 rfl rfl (ok_23 (by decide) (by decide)) wd_578 wd_579 wd_581 (Nat.le_of_ble_eq_true rfl)) (fun _ => rfl) ?_
  intro v1 M2 n3 c4
  refine gr_astore_n (pc := 8) (i := 3) (L' := [gR 8 (l0), gR 9 (l1), gR 90 (l2), gR 67 (v1), gB]) (show decode (gy_b gY_29) 8 = .ok (.astore_n 3, 1) by decide +kernel) rfl (by decide) rfl rfl ?_
  refine gr_aload_n (pc := 9) (i := 1) 9 (l1) (show decode (gy_b gY_29) 9 = .ok (.aload_n 1, 1) by decide +kernel) rfl rfl ?_
  refine gj_nn (fun hx10 => ?_)
  refine gj_c0 (pc := 10) (Y' := gY_25) (y := yJ4_length_8abf5) (vs := [gR 9 (l1)]) (rest := []) (rs := fun v5 => [gI (v5)]) [gR 9 (l1)] rfl (hm_25 hG (l1)) rfl (gh_U (t := 9) (vs := []) (rest := []) (show decode (gy_b gY_29) 10 = .ok (.invokevirtual 549, 3) by decide +kernel) rfl hx10 rfl (ok_25 (by decide) (by decide)) rfl rfl wd_583 rfl wd_585 wd_584 ⟨_, _, _, wd_590⟩ ⟨by decide, by decide⟩ wd_587 wd_586 (Nat.le_of_ble_eq_true rfl)) (fun _ => rfl) ?_
  intro v5 M6 n7 c8
  refine gr_istore (pc := 13) (i := 4) (L' := [gR 8 (l0), gR 9 (l1), gR 90 (l2), gR 67 (v1), gI (v5)]) (show decode (gy_b gY_29) 13 = .ok (.istore 4, 2) by decide +kernel) (by decide) rfl rfl ?_
  refine gr_aload_n (pc := 15) (i := 1) 9 (l1) (show decode (gy_b gY_29) 15 = .ok (.aload_n 1, 1) by decide +kernel) rfl rfl ?_
  refine gj_nn (fun hx16 => ?_)
  refine gj_c0 (pc := 16) (Y' := gY_19) (y := yJ5_isLatin1_aae02) (vs := [gR 9 (l1)]) (rest := []) (rs := fun v9 => [gI (v9)]) [gR 9 (l1)] rfl (hm_19 hG (l1)) rfl (gh_V (t := 9) (vs := []) (rest := []) (show decode (gy_b gY_29) 16 = .ok (.invokevirtual 1047, 3) by decide +kernel) rfl hx16 rfl rfl (ok_19 (by decide) (by decide)) wd_591 wd_470 wd_472 (Nat.le_of_ble_eq_true rfl)) (fun _ => rfl) ?_
  intro v9 M10 n11 c12
  refine gr_ifeq (pc := 19) (tgt := 41) (off := 22) hG.2.1 (show decode (gy_b gY_29) 19 = .ok (.ifCond .eq (22), 3) by decide +kernel) (by decide) ?_ ?_
  · exact gj_false
  · refine gr_aload_n (pc := 22) (i := 0) 8 (l0) (show decode (gy_b gY_29) 22 = .ok (.aload_n 0, 1) by decide +kernel) rfl rfl ?_
    refine gr_iconst (pc := 23) (z := 0) 0 (show decode (gy_b gY_29) 23 = .ok (.iconst (0), 1) by decide +kernel) kc_0 ?_
    refine gr_putF (pc := 24) (index := 15) (t := 8) (j := 1) (σ := 3) (sv := gI) (f := gx_f3) (ty := .byte) (show decode (gy_b gY_29) 24 = .ok (.putfield 15, 3) by decide +kernel) rfl rfl (fun _ => rfl) wd_615 rfl (gv_3 hG.2.1) rfl (fun _ _ _ _ _ _ _ X => gx_nm X) rfl ?_
    intro M13
    refine gr_aload_n (pc := 27) (i := 0) 8 (l0) (show decode (gy_b gY_29) 27 = .ok (.aload_n 0, 1) by decide +kernel) rfl rfl ?_
    refine gr_aload_n (pc := 28) (i := 3) 67 (v1) (show decode (gy_b gY_29) 28 = .ok (.aload_n 3, 1) by decide +kernel) rfl rfl ?_
    refine gr_iconst (pc := 29) (z := 0) 0 (show decode (gy_b gY_29) 29 = .ok (.iconst (0), 1) by decide +kernel) kc_0 ?_
    refine gr_iload (pc := 30) (i := 4) (v5) (show decode (gy_b gY_29) 30 = .ok (.iload 4, 2) by decide +kernel) rfl ?_
    refine gj_c0 (pc := 32) (Y' := gY_28) (y := yJ7_copyOfRange_39247) (vs := [gR 67 (v1), gI (0), gI (v5)]) (rest := [gR 8 (l0)]) (rs := fun v14 => [gR 67 (v14), gR 8 (l0)]) [gI (v5), gI (0), gR 67 (v1)] rfl (hm_28 hG (v1) (0) (v5)) rfl (gh_S (vs := [gR 67 (v1), gI (0), gI (v5)]) (rest := [gR 8 (l0)]) (show decode (gy_b gY_29) 32 = .ok (.invokestatic 54, 3) by decide +kernel) rfl (ok_28 (by decide) (by decide)) rfl rfl wd_592 wd_593 (Nat.le_of_ble_eq_true rfl)) (fun _ => rfl) ?_
    intro v14 M15 n16 c17
    refine gr_putF (pc := 35) (index := 9) (t := 8) (j := 0) (σ := 75) (sv := (gR 67)) (f := gx_f0) (ty := .array (.byte)) (show decode (gy_b gY_29) 35 = .ok (.putfield 9, 3) by decide +kernel) rfl rfl (fun _ => rfl) wd_614 rfl gv_a rfl (fun _ _ _ _ _ _ _ X => gx_nm X) rfl ?_
    intro M18
    refine gr_goto (pc := 38) (tgt := 97) (off := 59) (show decode (gy_b gY_29) 38 = .ok (.goto (59), 3) by decide +kernel) (by decide) ?_
    exact gr_return (pc := 97) (show decode (gy_b gY_29) 97 = .ok (.return_, 1) by decide +kernel) rfl rfl
noncomputable def fi_29 (l0 l1 l2 M n c : Nat) (K : Nat → Nat → Nat → Nat → Bool) : Bool := fi_29_L0 K l0 l1 l2 M n c
theorem hm_29 {G : gxG} (hG : gxG0 G) (l0 l1 l2 : Nat) : gxM G gY_29 yJ0_init_db425 [gR 8 (l0), gR 9 (l1), gR 90 (l2)] (fi_29 l0 l1 l2) := gxM_of (L := [gR 8 (l0), gR 9 (l1), gR 90 (l2), gB, gB]) hG 2 (by decide +kernel) rfl rfl rfl rfl (List.forall_mem_cons.mpr ⟨rfl, List.forall_mem_cons.mpr ⟨rfl, List.forall_mem_cons.mpr ⟨rfl, fun _ h => nomatch h⟩⟩⟩) (fun M n c K => h_29_L0 hG  l0 l1 l2 M n c)
/-! java/lang/String <init> (Ljava/lang/StringBuilder;)V -/
def gY_30 : gxY := (false, prog_32_method_53_code, 2, (Option.none : Option FieldType), "java/lang/String", 5, 131, 5, [], "<init>")
theorem ok_30 {Y : gxY} (h1 : gy_f gY_30 + 1 ≤ gy_f Y) (h2 : 8 + (gy_l gY_30 + 11) + gy_k gY_30 ≤ gy_k Y) : gh_ok Y gY_30 yJ0_init_81219 1 := ⟨wd_573, wd_61, ⟨by decide, by decide⟩, by decide +kernel, h1, h2⟩
noncomputable def fi_30_L0 (K : Nat → Nat → Nat → Nat → Bool) (l0 l1 M n c : Nat) : Bool := gx_nn (l0) (fi_29 (l0) (l1) (0) M n c (fun v1 M2 n3 c4 => K 0 M2 n3 c4))
theorem h_30_L0 {G : gxG} (hG : gxG0 G) {K : Nat → Nat → Nat → Nat → Bool} (l0 l1 M n c : Nat) : gxJ G gY_30 K 0 [] [gR 8 (l0), gR 9 (l1)] M n c (fi_30_L0 K l0 l1 M n c) := by
  unfold fi_30_L0
  refine gr_aload_n (pc := 0) (i := 0) 8 (l0) (show decode (gy_b gY_30) 0 = .ok (.aload_n 0, 1) by decide +kernel) rfl rfl ?_
  refine gr_aload_n (pc := 1) (i := 1) 9 (l1) (show decode (gy_b gY_30) 1 = .ok (.aload_n 1, 1) by decide +kernel) rfl rfl ?_
  refine gr_null (pc := 2) 90 (show decode (gy_b gY_30) 2 = .ok (.aconst_null, 1) by decide +kernel) ?_
  refine gj_nn (fun hx3 => ?_)
  refine gj_c0 (pc := 3) (Y' := gY_29) (y := yJ0_init_db425) (vs := [gR 8 (l0), gR 9 (l1), gR 90 (0)]) (rest := []) (rs := fun v1 => []) [gR 90 (0), gR 9 (l1), gR 8 (l0)] rfl (hm_29 hG (l0) (l1) (0)) rfl (gh_I (t := 8) (vs := [gR 9 (l1), gR 90 (0)]) (rest := []) (show decode (gy_b gY_30) 3 = .ok (.invokespecial 489, 3) by decide +kernel) rfl hx3 rfl (ok_29 (by decide) (by decide)) rfl rfl rfl rfl wd_574 wd_575 (Nat.le_of_ble_eq_true rfl)) (fun _ => rfl) ?_
  intro v1 M2 n3 c4
  exact gr_return (pc := 6) (show decode (gy_b gY_30) 6 = .ok (.return_, 1) by decide +kernel) rfl rfl
noncomputable def fi_30 (l0 l1 M n c : Nat) (K : Nat → Nat → Nat → Nat → Bool) : Bool := fi_30_L0 K l0 l1 M n c
theorem hm_30 {G : gxG} (hG : gxG0 G) (l0 l1 : Nat) : gxM G gY_30 yJ0_init_81219 [gR 8 (l0), gR 9 (l1)] (fi_30 l0 l1) := gxM_of (L := [gR 8 (l0), gR 9 (l1)]) hG 0 (by decide +kernel) rfl rfl rfl rfl (List.forall_mem_cons.mpr ⟨rfl, List.forall_mem_cons.mpr ⟨rfl, fun _ h => nomatch h⟩⟩) (fun M n c K => h_30_L0 hG  l0 l1 M n c)
/-! java/lang/StringBuilder toString ()Ljava/lang/String; -/
def gY_31 : gxY := (false, prog_33_method_42_code, 1, (Option.some (Jvm.ClassFile.FieldType.object "java/lang/String")), "java/lang/StringBuilder", 6, 152, 16, [], "toString")
theorem ok_31 {Y : gxY} (h1 : gy_f gY_31 + 1 ≤ gy_f Y) (h2 : 8 + (gy_l gY_31 + 11) + gy_k gY_31 ≤ gy_k Y) : gh_ok Y gY_31 yJ4_toString_0e30d 0 := ⟨wd_568, wd_60, ⟨by decide, by decide⟩, by decide +kernel, h1, h2⟩
noncomputable def fi_31_L0 (K : Nat → Nat → Nat → Nat → Bool) (l0 M n c : Nat) : Bool := gx_new 4 n c (fun v1 n2 c3 => gx_nn (v1) (fi_30 (v1) (l0) M n2 c3 (fun v4 M5 n6 c7 => gx_rt gx_f0 (v1) (K (v1) M5 n6 c7))))
theorem h_31_L0 {G : gxG} (hG : gxG0 G) {K : Nat → Nat → Nat → Nat → Bool} (l0 M n c : Nat) : gxJ G gY_31 K 0 [] [gR 9 (l0)] M n c (fi_31_L0 K l0 M n c) := by
  unfold fi_31_L0
  refine gr_newo (pc := 0) (index := 18) (t := 8) (show decode (gy_b gY_31) 0 = .ok (.new 18, 3) by decide +kernel) rfl wd_569 wd_570 wd_61 ?_
  intro v1 n2 c3
  refine gr_dup (b := gB) (pc := 3) (show decode (gy_b gY_31) 3 = .ok (.dup, 1) by decide +kernel) rfl ?_
  refine gr_aload_n (pc := 4) (i := 0) 9 (l0) (show decode (gy_b gY_31) 4 = .ok (.aload_n 0, 1) by decide +kernel) rfl rfl ?_
  refine gj_nn (fun hx5 => ?_)
  refine gj_c0 (pc := 5) (Y' := gY_30) (y := yJ0_init_81219) (vs := [gR 8 (v1), gR 9 (l0)]) (rest := [gR 8 (v1)]) (rs := fun v4 => [gR 8 (v1)]) [gR 9 (l0), gR 8 (v1)] rfl (hm_30 hG (v1) (l0)) rfl (gh_I (t := 8) (vs := [gR 9 (l0)]) (rest := [gR 8 (v1)]) (show decode (gy_b gY_31) 5 = .ok (.invokespecial 137, 3) by decide +kernel) rfl hx5 rfl (ok_30 (by decide) (by decide)) rfl rfl rfl rfl wd_571 wd_572 (Nat.le_of_ble_eq_true rfl)) (fun _ => rfl) ?_
  intro v4 M5 n6 c7
  exact gr_areturn (pc := 8) (t := 8) (show decode (gy_b gY_31) 8 = .ok (.areturn, 1) by decide +kernel) rfl rfl (Or.inl ⟨_, rfl⟩)
noncomputable def fi_31 (l0 M n c : Nat) (K : Nat → Nat → Nat → Nat → Bool) : Bool := fi_31_L0 K l0 M n c
theorem hm_31 {G : gxG} (hG : gxG0 G) (l0 : Nat) : gxM G gY_31 yJ4_toString_0e30d [gR 9 (l0)] (fi_31 l0) := gxM_of (L := [gR 9 (l0)]) hG 0 (by decide +kernel) rfl rfl rfl rfl (List.forall_mem_cons.mpr ⟨rfl, fun _ h => nomatch h⟩) (fun M n c K => h_31_L0 hG  l0 M n c)
/-! FarfilesLaw name ()Ljava/lang/String; -/
def gY_32 : gxY := (false, method_8_code, 1, (Option.some (Jvm.ClassFile.FieldType.object "java/lang/String")), "FarfilesLaw", 7, 172, 16, [], "name")
theorem ok_32 {Y : gxY} (h1 : gy_f gY_32 + 1 ≤ gy_f Y) (h2 : 8 + (gy_l gY_32 + 11) + gy_k gY_32 ≤ gy_k Y) : gh_ok Y gY_32 yL_name 0 := ⟨wd_389, wd_50, ⟨by decide, by decide⟩, by decide +kernel, h1, h2⟩
noncomputable def fi_32_L46 (T : Nat) (K : Nat → Nat → Nat → Nat → Bool) (s0 M n c : Nat) : Bool := gx_nn (s0) (fi_31 (s0) M n c (fun v32 M33 n34 c35 => gx_rt gx_f0 (v32) (K (v32) M33 n34 c35)))
theorem h_32_L46 {G : gxG} (hG : gxG0 G) (T : Nat) (hdr : ∀ x nn : Nat, gxM G gY_draw yL_draw [gR 10 x, gI nn] (fd_draw T x nn)) {K : Nat → Nat → Nat → Nat → Bool} (s0 M n c : Nat) : gxJ G gY_32 K 46 [gR 9 (s0)] [gB] M n c (fi_32_L46 T K s0 M n c) := by
  unfold fi_32_L46
  refine gj_nn (fun hx46 => ?_)
  refine gj_c0 (pc := 46) (Y' := gY_31) (y := yJ4_toString_0e30d) (vs := [gR 9 (s0)]) (rest := []) (rs := fun v32 => [gR 8 (v32)]) [gR 9 (s0)] rfl (hm_31 hG (s0)) rfl (gh_V (t := 9) (vs := []) (rest := []) (show decode (gy_b gY_32) 46 = .ok (.invokevirtual 78, 3) by decide +kernel) rfl hx46 rfl rfl (ok_31 (by decide) (by decide)) wd_565 wd_566 wd_567 (Nat.le_of_ble_eq_true rfl)) (fun _ => rfl) ?_
  intro v32 M33 n34 c35
  exact gr_areturn (pc := 49) (t := 8) (show decode (gy_b gY_32) 49 = .ok (.areturn, 1) by decide +kernel) rfl rfl (Or.inl ⟨_, rfl⟩)
noncomputable def fi_32_L0 (T : Nat) (K : Nat → Nat → Nat → Nat → Bool) (l0 M n c : Nat) : Bool := gx_get (l0) 4 M (fun v1 => gx_add (v1) (1) (fun z2 => gx_put (l0) 4 (z2) M gx_f0 (fun M3 => gx_new 4 n c (fun v4 n5 c6 => gx_nn (v4) (fi_10 (v4) M3 n5 c6 (fun v7 M8 n9 c10 => gx_nn (v4) (fi_18 (v4) (6) M8 n9 c10 (fun v11 M12 n13 c14 => gx_get (l0) 4 M12 (fun v15 => gx_add (97) (v15) (fun z16 => gx_i2c (z16) (fun z17 => gx_nn (v11) (fi_22 (v11) (z17) M12 n13 c14 (fun v18 M19 n20 c21 => gx_nn (l0) (fd_draw T (l0) (26) M19 n20 c21 (fun v22 M23 n24 c25 => gx_add (97) (v22) (fun z26 => gx_i2c (z26) (fun z27 => gx_nn (v18) (fi_22 (v18) (z27) M23 n24 c25 (fun v28 M29 n30 c31 => fi_32_L46 T K (v28) M29 n30 c31)))))))))))))))))))
theorem h_32_L0 {G : gxG} (hG : gxG0 G) (T : Nat) (hdr : ∀ x nn : Nat, gxM G gY_draw yL_draw [gR 10 x, gI nn] (fd_draw T x nn)) {K : Nat → Nat → Nat → Nat → Bool} (l0 M n c : Nat) : gxJ G gY_32 K 0 [] [gR 10 (l0)] M n c (fi_32_L0 T K l0 M n c) := by
  unfold fi_32_L0
  refine gr_aload_n (pc := 0) (i := 0) 10 (l0) (show decode (gy_b gY_32) 0 = .ok (.aload_n 0, 1) by decide +kernel) rfl rfl ?_
  refine gr_dup (b := gB) (pc := 1) (show decode (gy_b gY_32) 1 = .ok (.dup, 1) by decide +kernel) rfl ?_
  refine gr_getf (pc := 2) (index := 82) (t := 10) (j := 4) (σ := 0) (sv := gI) (show decode (gy_b gY_32) 2 = .ok (.getfield 82, 3) by decide +kernel) rfl rfl (fun _ => rfl) wd_347 (by decide) ?_
  intro v1
  refine gr_iconst (pc := 5) (z := 1) 1 (show decode (gy_b gY_32) 5 = .ok (.iconst (1), 1) by decide +kernel) kc_1 ?_
  refine gr_iadd (pc := 6) (show decode (gy_b gY_32) 6 = .ok (.iadd, 1) by decide +kernel) ?_
  intro z2
  refine gr_putf (pc := 7) (index := 82) (t := 10) (j := 4) (σ := 0) (sv := gI) (f := gx_f0) (ty := .int) (show decode (gy_b gY_32) 7 = .ok (.putfield 82, 3) by decide +kernel) rfl rfl (fun _ => rfl) wd_347 rfl gv_0 rfl ?_
  intro M3
  refine gr_newo (pc := 10) (index := 62) (t := 9) (show decode (gy_b gY_32) 10 = .ok (.new 62, 3) by decide +kernel) rfl wd_390 wd_391 wd_60 ?_
  intro v4 n5 c6
  refine gr_dup (b := gB) (pc := 13) (show decode (gy_b gY_32) 13 = .ok (.dup, 1) by decide +kernel) rfl ?_
  refine gj_nn (fun hx14 => ?_)
  refine gj_c0 (pc := 14) (Y' := gY_10) (y := yJ4_init_da8c8) (vs := [gR 9 (v4)]) (rest := [gR 9 (v4)]) (rs := fun v7 => [gR 9 (v4)]) [gR 9 (v4)] rfl (hm_10 hG (v4)) rfl (gh_I (t := 9) (vs := []) (rest := [gR 9 (v4)]) (show decode (gy_b gY_32) 14 = .ok (.invokespecial 64, 3) by decide +kernel) rfl hx14 rfl (ok_10 (by decide) (by decide)) rfl rfl rfl rfl wd_392 wd_393 (Nat.le_of_ble_eq_true rfl)) (fun _ => rfl) ?_
  intro v7 M8 n9 c10
  refine gr_ldcS (pc := 17) (index := 65) (b := 6) (tx := "") rfl (show decode (gy_b gY_32) 17 = .ok (.ldc 65, 2) by decide +kernel) (by decide) (by decide) (by decide) ?_
  refine gj_nn (fun hx19 => ?_)
  refine gj_c0 (pc := 19) (Y' := gY_18) (y := yJ4_append_15ec4) (vs := [gR 9 (v4), gR 8 (6)]) (rest := []) (rs := fun v11 => [gR 9 (v11)]) [gR 8 (6), gR 9 (v4)] rfl (hm_18 hG (v4) (6)) rfl (gh_V (t := 9) (vs := [gR 8 (6)]) (rest := []) (show decode (gy_b gY_32) 19 = .ok (.invokevirtual 67, 3) by decide +kernel) rfl hx19 rfl rfl (ok_18 (by decide) (by decide)) wd_423 wd_424 wd_425 (Nat.le_of_ble_eq_true rfl)) (fun _ => rfl) ?_
  intro v11 M12 n13 c14
  refine gr_bipush (pc := 22) (z := 97) 97 (show decode (gy_b gY_32) 22 = .ok (.bipush (97), 2) by decide +kernel) (by decide +kernel) ?_
  refine gr_aload_n (pc := 24) (i := 0) 10 (l0) (show decode (gy_b gY_32) 24 = .ok (.aload_n 0, 1) by decide +kernel) rfl rfl ?_
  refine gr_getf (pc := 25) (index := 82) (t := 10) (j := 4) (σ := 0) (sv := gI) (show decode (gy_b gY_32) 25 = .ok (.getfield 82, 3) by decide +kernel) rfl rfl (fun _ => rfl) wd_347 (by decide) ?_
  intro v15
  refine gr_iadd (pc := 28) (show decode (gy_b gY_32) 28 = .ok (.iadd, 1) by decide +kernel) ?_
  intro z16
  refine gr_i2c (pc := 29) hG.2.1 (show decode (gy_b gY_32) 29 = .ok (.i2c, 1) by decide +kernel) ?_
  intro z17
  refine gj_nn (fun hx30 => ?_)
  refine gj_c0 (pc := 30) (Y' := gY_22) (y := yJ4_append_cf468) (vs := [gR 9 (v11), gI (z17)]) (rest := []) (rs := fun v18 => [gR 9 (v18)]) [gI (z17), gR 9 (v11)] rfl (hm_22 hG (v11) (z17)) rfl (gh_V (t := 9) (vs := [gI (z17)]) (rest := []) (show decode (gy_b gY_32) 30 = .ok (.invokevirtual 75, 3) by decide +kernel) rfl hx30 rfl rfl (ok_22 (by decide) (by decide)) wd_543 wd_544 wd_545 (Nat.le_of_ble_eq_true rfl)) (fun _ => rfl) ?_
  intro v18 M19 n20 c21
  refine gr_bipush (pc := 33) (z := 97) 97 (show decode (gy_b gY_32) 33 = .ok (.bipush (97), 2) by decide +kernel) (by decide +kernel) ?_
  refine gr_aload_n (pc := 35) (i := 0) 10 (l0) (show decode (gy_b gY_32) 35 = .ok (.aload_n 0, 1) by decide +kernel) rfl rfl ?_
  refine gr_bipush (pc := 36) (z := 26) 26 (show decode (gy_b gY_32) 36 = .ok (.bipush (26), 2) by decide +kernel) (by decide +kernel) ?_
  refine gj_nn (fun hx38 => ?_)
  refine gj_c0 (pc := 38) (Y' := gY_draw) (y := yL_draw) (vs := [gR 10 (l0), gI (26)]) (rest := [gI (97), gR 9 (v18)]) (rs := fun v22 => [gI (v22), gI (97), gR 9 (v18)]) [gI (26), gR 10 (l0)] rfl (hdr (l0) (26)) rfl (gh_V (t := 10) (vs := [gI (26)]) (rest := [gI (97), gR 9 (v18)]) (show decode (gy_b gY_32) 38 = .ok (.invokevirtual 71, 3) by decide +kernel) rfl hx38 rfl rfl (ok_draw (by decide) (by decide)) wd_363 wd_365 wd_4 (Nat.le_of_ble_eq_true rfl)) (fun _ => rfl) ?_
  intro v22 M23 n24 c25
  refine gr_iadd (pc := 41) (show decode (gy_b gY_32) 41 = .ok (.iadd, 1) by decide +kernel) ?_
  intro z26
  refine gr_i2c (pc := 42) hG.2.1 (show decode (gy_b gY_32) 42 = .ok (.i2c, 1) by decide +kernel) ?_
  intro z27
  refine gj_nn (fun hx43 => ?_)
  refine gj_c0 (pc := 43) (Y' := gY_22) (y := yJ4_append_cf468) (vs := [gR 9 (v18), gI (z27)]) (rest := []) (rs := fun v28 => [gR 9 (v28)]) [gI (z27), gR 9 (v18)] rfl (hm_22 hG (v18) (z27)) rfl (gh_V (t := 9) (vs := [gI (z27)]) (rest := []) (show decode (gy_b gY_32) 43 = .ok (.invokevirtual 75, 3) by decide +kernel) rfl hx43 rfl rfl (ok_22 (by decide) (by decide)) wd_543 wd_544 wd_545 (Nat.le_of_ble_eq_true rfl)) (fun _ => rfl) ?_
  intro v28 M29 n30 c31
  refine gr_wk [false] rfl ?_
  exact h_32_L46 hG T hdr (v28) M29 n30 c31
noncomputable def fi_32 (T : Nat) (l0 M n c : Nat) (K : Nat → Nat → Nat → Nat → Bool) : Bool := fi_32_L0 T K l0 M n c
theorem hm_32 {G : gxG} (hG : gxG0 G) (T : Nat) (hdr : ∀ x nn : Nat, gxM G gY_draw yL_draw [gR 10 x, gI nn] (fd_draw T x nn)) (l0 : Nat) : gxM G gY_32 yL_name [gR 10 (l0)] (fi_32 T l0) := gxM_of (L := [gR 10 (l0)]) hG 0 (by decide +kernel) rfl rfl rfl rfl (List.forall_mem_cons.mpr ⟨rfl, fun _ h => nomatch h⟩) (fun M n c K => h_32_L0 hG T hdr  l0 M n c)
/-! FarfilesLaw word ()Ljava/lang/String; -/
def gY_33 : gxY := (false, method_7_code, 1, (Option.some (Jvm.ClassFile.FieldType.object "java/lang/String")), "FarfilesLaw", 7, 172, 16, [], "word")
theorem ok_33 {Y : gxY} (h1 : gy_f gY_33 + 1 ≤ gy_f Y) (h2 : 8 + (gy_l gY_33 + 11) + gy_k gY_33 ≤ gy_k Y) : gh_ok Y gY_33 yL_word 0 := ⟨wd_628, wd_50, ⟨by decide, by decide⟩, by decide +kernel, h1, h2⟩
noncomputable def fi_33_L0 (T : Nat) (K : Nat → Nat → Nat → Nat → Bool) (l0 M n c : Nat) : Bool := gx_new 4 n c (fun v1 n2 c3 => gx_nn (v1) (fi_10 (v1) M n2 c3 (fun v4 M5 n6 c7 => gx_nn (v1) (fi_18 (v1) (6) M5 n6 c7 (fun v8 M9 n10 c11 => gx_nn (l0) (fd_draw T (l0) (26) M9 n10 c11 (fun v12 M13 n14 c15 => gx_add (97) (v12) (fun z16 => gx_i2c (z16) (fun z17 => gx_nn (v8) (fi_22 (v8) (z17) M13 n14 c15 (fun v18 M19 n20 c21 => gx_nn (l0) (fd_draw T (l0) (26) M19 n20 c21 (fun v22 M23 n24 c25 => gx_add (97) (v22) (fun z26 => gx_i2c (z26) (fun z27 => gx_nn (v18) (fi_22 (v18) (z27) M23 n24 c25 (fun v28 M29 n30 c31 => gx_nn (v28) (fi_31 (v28) M29 n30 c31 (fun v32 M33 n34 c35 => gx_rt gx_f0 (v32) (K (v32) M33 n34 c35))))))))))))))))))))
theorem h_33_L0 {G : gxG} (hG : gxG0 G) (T : Nat) (hdr : ∀ x nn : Nat, gxM G gY_draw yL_draw [gR 10 x, gI nn] (fd_draw T x nn)) {K : Nat → Nat → Nat → Nat → Bool} (l0 M n c : Nat) : gxJ G gY_33 K 0 [] [gR 10 (l0)] M n c (fi_33_L0 T K l0 M n c) := by
  unfold fi_33_L0
  refine gr_newo (pc := 0) (index := 62) (t := 9) (show decode (gy_b gY_33) 0 = .ok (.new 62, 3) by decide +kernel) rfl wd_390 wd_391 wd_60 ?_
  intro v1 n2 c3
  refine gr_dup (b := gB) (pc := 3) (show decode (gy_b gY_33) 3 = .ok (.dup, 1) by decide +kernel) rfl ?_
  refine gj_nn (fun hx4 => ?_)
  refine gj_c0 (pc := 4) (Y' := gY_10) (y := yJ4_init_da8c8) (vs := [gR 9 (v1)]) (rest := [gR 9 (v1)]) (rs := fun v4 => [gR 9 (v1)]) [gR 9 (v1)] rfl (hm_10 hG (v1)) rfl (gh_I (t := 9) (vs := []) (rest := [gR 9 (v1)]) (show decode (gy_b gY_33) 4 = .ok (.invokespecial 64, 3) by decide +kernel) rfl hx4 rfl (ok_10 (by decide) (by decide)) rfl rfl rfl rfl wd_392 wd_393 (Nat.le_of_ble_eq_true rfl)) (fun _ => rfl) ?_
  intro v4 M5 n6 c7
  refine gr_ldcS (pc := 7) (index := 65) (b := 6) (tx := "") rfl (show decode (gy_b gY_33) 7 = .ok (.ldc 65, 2) by decide +kernel) (by decide) (by decide) (by decide) ?_
  refine gj_nn (fun hx9 => ?_)
  refine gj_c0 (pc := 9) (Y' := gY_18) (y := yJ4_append_15ec4) (vs := [gR 9 (v1), gR 8 (6)]) (rest := []) (rs := fun v8 => [gR 9 (v8)]) [gR 8 (6), gR 9 (v1)] rfl (hm_18 hG (v1) (6)) rfl (gh_V (t := 9) (vs := [gR 8 (6)]) (rest := []) (show decode (gy_b gY_33) 9 = .ok (.invokevirtual 67, 3) by decide +kernel) rfl hx9 rfl rfl (ok_18 (by decide) (by decide)) wd_423 wd_424 wd_425 (Nat.le_of_ble_eq_true rfl)) (fun _ => rfl) ?_
  intro v8 M9 n10 c11
  refine gr_bipush (pc := 12) (z := 97) 97 (show decode (gy_b gY_33) 12 = .ok (.bipush (97), 2) by decide +kernel) (by decide +kernel) ?_
  refine gr_aload_n (pc := 14) (i := 0) 10 (l0) (show decode (gy_b gY_33) 14 = .ok (.aload_n 0, 1) by decide +kernel) rfl rfl ?_
  refine gr_bipush (pc := 15) (z := 26) 26 (show decode (gy_b gY_33) 15 = .ok (.bipush (26), 2) by decide +kernel) (by decide +kernel) ?_
  refine gj_nn (fun hx17 => ?_)
  refine gj_c0 (pc := 17) (Y' := gY_draw) (y := yL_draw) (vs := [gR 10 (l0), gI (26)]) (rest := [gI (97), gR 9 (v8)]) (rs := fun v12 => [gI (v12), gI (97), gR 9 (v8)]) [gI (26), gR 10 (l0)] rfl (hdr (l0) (26)) rfl (gh_V (t := 10) (vs := [gI (26)]) (rest := [gI (97), gR 9 (v8)]) (show decode (gy_b gY_33) 17 = .ok (.invokevirtual 71, 3) by decide +kernel) rfl hx17 rfl rfl (ok_draw (by decide) (by decide)) wd_363 wd_365 wd_4 (Nat.le_of_ble_eq_true rfl)) (fun _ => rfl) ?_
  intro v12 M13 n14 c15
  refine gr_iadd (pc := 20) (show decode (gy_b gY_33) 20 = .ok (.iadd, 1) by decide +kernel) ?_
  intro z16
  refine gr_i2c (pc := 21) hG.2.1 (show decode (gy_b gY_33) 21 = .ok (.i2c, 1) by decide +kernel) ?_
  intro z17
  refine gj_nn (fun hx22 => ?_)
  refine gj_c0 (pc := 22) (Y' := gY_22) (y := yJ4_append_cf468) (vs := [gR 9 (v8), gI (z17)]) (rest := []) (rs := fun v18 => [gR 9 (v18)]) [gI (z17), gR 9 (v8)] rfl (hm_22 hG (v8) (z17)) rfl (gh_V (t := 9) (vs := [gI (z17)]) (rest := []) (show decode (gy_b gY_33) 22 = .ok (.invokevirtual 75, 3) by decide +kernel) rfl hx22 rfl rfl (ok_22 (by decide) (by decide)) wd_543 wd_544 wd_545 (Nat.le_of_ble_eq_true rfl)) (fun _ => rfl) ?_
  intro v18 M19 n20 c21
  refine gr_bipush (pc := 25) (z := 97) 97 (show decode (gy_b gY_33) 25 = .ok (.bipush (97), 2) by decide +kernel) (by decide +kernel) ?_
  refine gr_aload_n (pc := 27) (i := 0) 10 (l0) (show decode (gy_b gY_33) 27 = .ok (.aload_n 0, 1) by decide +kernel) rfl rfl ?_
  refine gr_bipush (pc := 28) (z := 26) 26 (show decode (gy_b gY_33) 28 = .ok (.bipush (26), 2) by decide +kernel) (by decide +kernel) ?_
  refine gj_nn (fun hx30 => ?_)
  refine gj_c0 (pc := 30) (Y' := gY_draw) (y := yL_draw) (vs := [gR 10 (l0), gI (26)]) (rest := [gI (97), gR 9 (v18)]) (rs := fun v22 => [gI (v22), gI (97), gR 9 (v18)]) [gI (26), gR 10 (l0)] rfl (hdr (l0) (26)) rfl (gh_V (t := 10) (vs := [gI (26)]) (rest := [gI (97), gR 9 (v18)]) (show decode (gy_b gY_33) 30 = .ok (.invokevirtual 71, 3) by decide +kernel) rfl hx30 rfl rfl (ok_draw (by decide) (by decide)) wd_363 wd_365 wd_4 (Nat.le_of_ble_eq_true rfl)) (fun _ => rfl) ?_
  intro v22 M23 n24 c25
  refine gr_iadd (pc := 33) (show decode (gy_b gY_33) 33 = .ok (.iadd, 1) by decide +kernel) ?_
  intro z26
  refine gr_i2c (pc := 34) hG.2.1 (show decode (gy_b gY_33) 34 = .ok (.i2c, 1) by decide +kernel) ?_
  intro z27
  refine gj_nn (fun hx35 => ?_)
  refine gj_c0 (pc := 35) (Y' := gY_22) (y := yJ4_append_cf468) (vs := [gR 9 (v18), gI (z27)]) (rest := []) (rs := fun v28 => [gR 9 (v28)]) [gI (z27), gR 9 (v18)] rfl (hm_22 hG (v18) (z27)) rfl (gh_V (t := 9) (vs := [gI (z27)]) (rest := []) (show decode (gy_b gY_33) 35 = .ok (.invokevirtual 75, 3) by decide +kernel) rfl hx35 rfl rfl (ok_22 (by decide) (by decide)) wd_543 wd_544 wd_545 (Nat.le_of_ble_eq_true rfl)) (fun _ => rfl) ?_
  intro v28 M29 n30 c31
  refine gj_nn (fun hx38 => ?_)
  refine gj_c0 (pc := 38) (Y' := gY_31) (y := yJ4_toString_0e30d) (vs := [gR 9 (v28)]) (rest := []) (rs := fun v32 => [gR 8 (v32)]) [gR 9 (v28)] rfl (hm_31 hG (v28)) rfl (gh_V (t := 9) (vs := []) (rest := []) (show decode (gy_b gY_33) 38 = .ok (.invokevirtual 78, 3) by decide +kernel) rfl hx38 rfl rfl (ok_31 (by decide) (by decide)) wd_565 wd_566 wd_567 (Nat.le_of_ble_eq_true rfl)) (fun _ => rfl) ?_
  intro v32 M33 n34 c35
  exact gr_areturn (pc := 41) (t := 8) (show decode (gy_b gY_33) 41 = .ok (.areturn, 1) by decide +kernel) rfl rfl (Or.inl ⟨_, rfl⟩)
noncomputable def fi_33 (T : Nat) (l0 M n c : Nat) (K : Nat → Nat → Nat → Nat → Bool) : Bool := fi_33_L0 T K l0 M n c
theorem hm_33 {G : gxG} (hG : gxG0 G) (T : Nat) (hdr : ∀ x nn : Nat, gxM G gY_draw yL_draw [gR 10 x, gI nn] (fd_draw T x nn)) (l0 : Nat) : gxM G gY_33 yL_word [gR 10 (l0)] (fi_33 T l0) := gxM_of (L := [gR 10 (l0)]) hG 0 (by decide +kernel) rfl rfl rfl rfl (List.forall_mem_cons.mpr ⟨rfl, fun _ h => nomatch h⟩) (fun M n c K => h_33_L0 hG T hdr  l0 M n c)
/-! java/lang/Integer stringSize (I)I -/
def gY_34 : gxY := (false, prog_27_method_13_code, 4, (Option.some Jvm.ClassFile.FieldType.int), "java/lang/Integer", 1, 40, 0, [], "stringSize")
theorem ok_34 {Y : gxY} (h1 : gy_f gY_34 + 1 ≤ gy_f Y) (h2 : 8 + (gy_l gY_34 + 11) + gy_k gY_34 ≤ gy_k Y) : gh_ok Y gY_34 yJ6_stringSize_0f7a4 1 := ⟨wd_638, wd_70, ⟨by decide, by decide⟩, by decide +kernel, h1, h2⟩
noncomputable def fi_34_B16 (K : Nat → Nat → Nat → Nat → Bool) (ih_16 : Nat → Nat → Nat → Nat → Nat → Nat → Nat → Bool) (l0 l1 l2 l3 M n c : Nat) : Bool := gx_lt (l3) (10) (gx_lt (l2) (l0) (gx_add (l3) (l1) (fun z3 => gx_rt gx_f0 (z3) (K (z3) M n c))) (gx_mul (10) (l2) (fun z1 => gx_add (l3) 1 (fun z2 => ih_16 (l0) (l1) (z1) (z2) M n c)))) (false)
theorem hb_34_B16 {G : gxG} (hG : gxG0 G) {K : Nat → Nat → Nat → Nat → Bool} {ih_16 : Nat → Nat → Nat → Nat → Nat → Nat → Nat → Bool} (hi_16 : ∀ l0 l1 l2 l3 M n c : Nat, gxJ G gY_34 K 16 [] [gI (l0), gI (l1), gI (l2), gI (l3)] M n c (ih_16 l0 l1 l2 l3 M n c)) (l0 l1 l2 l3 M n c : Nat) : gxJ G gY_34 K 16 [] [gI (l0), gI (l1), gI (l2), gI (l3)] M n c (fi_34_B16 K ih_16 l0 l1 l2 l3 M n c) := by
  unfold fi_34_B16
  refine gr_iload_n (pc := 16) (i := 3) (l3) (show decode (gy_b gY_34) 16 = .ok (.iload_n 3, 1) by decide +kernel) rfl rfl ?_
  refine gr_bipush (pc := 17) (z := 10) 10 (show decode (gy_b gY_34) 17 = .ok (.bipush (10), 2) by decide +kernel) (by decide +kernel) ?_
  refine gr_icmp_ge (pc := 19) (tgt := 42) (off := 23) hG.2.1 (show decode (gy_b gY_34) 19 = .ok (.if_icmp .ge (23), 3) by decide +kernel) (by decide) ?_ ?_
  · exact gj_false
  · refine gr_iload_n (pc := 22) (i := 0) (l0) (show decode (gy_b gY_34) 22 = .ok (.iload_n 0, 1) by decide +kernel) rfl rfl ?_
    refine gr_iload_n (pc := 23) (i := 2) (l2) (show decode (gy_b gY_34) 23 = .ok (.iload_n 2, 1) by decide +kernel) rfl rfl ?_
    refine gr_icmp_le (pc := 24) (tgt := 31) (off := 7) hG.2.1 (show decode (gy_b gY_34) 24 = .ok (.if_icmp .le (7), 3) by decide +kernel) (by decide) ?_ ?_
    · refine gr_bipush (pc := 31) (z := 10) 10 (show decode (gy_b gY_34) 31 = .ok (.bipush (10), 2) by decide +kernel) (by decide +kernel) ?_
      refine gr_iload_n (pc := 33) (i := 2) (l2) (show decode (gy_b gY_34) 33 = .ok (.iload_n 2, 1) by decide +kernel) rfl rfl ?_
      refine gr_imul (pc := 34) (show decode (gy_b gY_34) 34 = .ok (.imul, 1) by decide +kernel) ?_
      intro z1
      refine gr_istore_n (pc := 35) (i := 2) (L' := [gI (l0), gI (l1), gI (z1), gI (l3)]) (show decode (gy_b gY_34) 35 = .ok (.istore_n 2, 1) by decide +kernel) rfl (by decide) rfl rfl ?_
      refine gr_iinc (pc := 36) (i := 3) (d := 1) (z := 1) (L' := fun z2 => [gI (l0), gI (l1), gI (z1), gI (z2)]) (show decode (gy_b gY_34) 36 = .ok (.iinc 3 (1), 3) by decide +kernel) (by decide +kernel) (by decide) rfl rfl (fun _ => rfl) ?_
      intro z2
      refine gr_goto (pc := 39) (tgt := 16) (off := -23) (show decode (gy_b gY_34) 39 = .ok (.goto (-23), 3) by decide +kernel) (by decide) ?_
      exact hi_16 (l0) (l1) (z1) (z2) M n c
    · refine gr_iload_n (pc := 27) (i := 3) (l3) (show decode (gy_b gY_34) 27 = .ok (.iload_n 3, 1) by decide +kernel) rfl rfl ?_
      refine gr_iload_n (pc := 28) (i := 1) (l1) (show decode (gy_b gY_34) 28 = .ok (.iload_n 1, 1) by decide +kernel) rfl rfl ?_
      refine gr_iadd (pc := 29) (show decode (gy_b gY_34) 29 = .ok (.iadd, 1) by decide +kernel) ?_
      intro z3
      exact gr_ireturn (pc := 30) (show decode (gy_b gY_34) 30 = .ok (.ireturn, 1) by decide +kernel) rfl rfl (by decide) gv_0
noncomputable def fi_34_W16 (K : Nat → Nat → Nat → Nat → Bool) (u : Nat) : Nat → Nat → Nat → Nat → Nat → Nat → Nat → Bool := Nat.rec (motive := fun _ => Nat → Nat → Nat → Nat → Nat → Nat → Nat → Bool) (fun _ _ _ _ _ _ _ => false) (fun _ ih => fi_34_B16 K ih) u
theorem hw_34_16 {G : gxG} (hG : gxG0 G) {K : Nat → Nat → Nat → Nat → Bool} (u : Nat) : ∀ l0 l1 l2 l3 M n c : Nat, gxJ G gY_34 K 16 [] [gI (l0), gI (l1), gI (l2), gI (l3)] M n c (fi_34_W16 K u l0 l1 l2 l3 M n c) := by
  induction u with
  | zero => intro l0 l1 l2 l3 M n c; exact gj_false
  | succ u ih => intro l0 l1 l2 l3 M n c; exact hb_34_B16 hG ih l0 l1 l2 l3 M n c
noncomputable def fi_34_L11 (K : Nat → Nat → Nat → Nat → Bool) (l0 l1 M n c : Nat) : Bool := fi_34_W16 K 65536 (l0) (l1) (4294967286) (1) M n c
theorem h_34_L11 {G : gxG} (hG : gxG0 G) {K : Nat → Nat → Nat → Nat → Bool} (l0 l1 M n c : Nat) : gxJ G gY_34 K 11 [] [gI (l0), gI (l1), gB, gB] M n c (fi_34_L11 K l0 l1 M n c) := by
  unfold fi_34_L11
  refine gr_bipush (pc := 11) (z := -10) 4294967286 (show decode (gy_b gY_34) 11 = .ok (.bipush (-10), 2) by decide +kernel) (by decide +kernel) ?_
  refine gr_istore_n (pc := 13) (i := 2) (L' := [gI (l0), gI (l1), gI (4294967286), gB]) (show decode (gy_b gY_34) 13 = .ok (.istore_n 2, 1) by decide +kernel) rfl (by decide) rfl rfl ?_
  refine gr_iconst (pc := 14) (z := 1) 1 (show decode (gy_b gY_34) 14 = .ok (.iconst (1), 1) by decide +kernel) kc_1 ?_
  refine gr_istore_n (pc := 15) (i := 3) (L' := [gI (l0), gI (l1), gI (4294967286), gI (1)]) (show decode (gy_b gY_34) 15 = .ok (.istore_n 3, 1) by decide +kernel) rfl (by decide) rfl rfl ?_
  exact hw_34_16 hG 65536 (l0) (l1) (4294967286) (1) M n c
noncomputable def fi_34_L0 (K : Nat → Nat → Nat → Nat → Bool) (l0 M n c : Nat) : Bool := gx_lt (l0) 0 (fi_34_L11 K (l0) (1) M n c) (gx_neg (l0) (fun z4 => fi_34_L11 K (z4) (0) M n c))
theorem h_34_L0 {G : gxG} (hG : gxG0 G) {K : Nat → Nat → Nat → Nat → Bool} (l0 M n c : Nat) : gxJ G gY_34 K 0 [] [gI (l0), gB, gB, gB] M n c (fi_34_L0 K l0 M n c) := by
  unfold fi_34_L0
  refine gr_iconst (pc := 0) (z := 1) 1 (show decode (gy_b gY_34) 0 = .ok (.iconst (1), 1) by decide +kernel) kc_1 ?_
  refine gr_istore_n (pc := 1) (i := 1) (L' := [gI (l0), gI (1), gB, gB]) (show decode (gy_b gY_34) 1 = .ok (.istore_n 1, 1) by decide +kernel) rfl (by decide) rfl rfl ?_
  refine gr_iload_n (pc := 2) (i := 0) (l0) (show decode (gy_b gY_34) 2 = .ok (.iload_n 0, 1) by decide +kernel) rfl rfl ?_
  refine gr_iflt (pc := 3) (tgt := 11) (off := 8) hG.2.1 (show decode (gy_b gY_34) 3 = .ok (.ifCond .lt (8), 3) by decide +kernel) (by decide) ?_ ?_
  · exact h_34_L11 hG (l0) (1) M n c
  · refine gr_iconst (pc := 6) (z := 0) 0 (show decode (gy_b gY_34) 6 = .ok (.iconst (0), 1) by decide +kernel) kc_0 ?_
    refine gr_istore_n (pc := 7) (i := 1) (L' := [gI (l0), gI (0), gB, gB]) (show decode (gy_b gY_34) 7 = .ok (.istore_n 1, 1) by decide +kernel) rfl (by decide) rfl rfl ?_
    refine gr_iload_n (pc := 8) (i := 0) (l0) (show decode (gy_b gY_34) 8 = .ok (.iload_n 0, 1) by decide +kernel) rfl rfl ?_
    refine gr_ineg (pc := 9) (show decode (gy_b gY_34) 9 = .ok (.ineg, 1) by decide +kernel) ?_
    intro z4
    refine gr_istore_n (pc := 10) (i := 0) (L' := [gI (z4), gI (0), gB, gB]) (show decode (gy_b gY_34) 10 = .ok (.istore_n 0, 1) by decide +kernel) rfl (by decide) rfl rfl ?_
    exact h_34_L11 hG (z4) (0) M n c
noncomputable def fi_34 (l0 M n c : Nat) (K : Nat → Nat → Nat → Nat → Bool) : Bool := fi_34_L0 K l0 M n c
theorem hm_34 {G : gxG} (hG : gxG0 G) (l0 : Nat) : gxM G gY_34 yJ6_stringSize_0f7a4 [gI (l0)] (fi_34 l0) := gxM_of (L := [gI (l0), gB, gB, gB]) hG 3 (by decide +kernel) rfl rfl rfl rfl (List.forall_mem_cons.mpr ⟨rfl, fun _ h => nomatch h⟩) (fun M n c K => h_34_L0 hG  l0 M n c)
/-! java/lang/Integer getChars (II[B)I -/
def gY_35 : gxY := (false, prog_27_method_12_code, 7, (Option.some Jvm.ClassFile.FieldType.int), "java/lang/Integer", 1, 40, 0, [], "getChars")
theorem ok_35 {Y : gxY} (h1 : gy_f gY_35 + 1 ≤ gy_f Y) (h2 : 8 + (gy_l gY_35 + 11) + gy_k gY_35 ≤ gy_k Y) : gh_ok Y gY_35 yJ6_getChars_ba4f3 3 := ⟨wd_641, wd_70, ⟨by decide, by decide⟩, by decide +kernel, h1, h2⟩
noncomputable def fi_35_L104 (K : Nat → Nat → Nat → Nat → Bool) (l5 l6 M n c : Nat) : Bool := gx_eq (l6) 0 (gx_rt gx_f0 (l5) (K (l5) M n c)) (false)
theorem h_35_L104 {G : gxG} (hG : gxG0 G) {K : Nat → Nat → Nat → Nat → Bool} (l5 l6 M n c : Nat) : gxJ G gY_35 K 104 [] [gB, gB, gB, gB, gB, gI (l5), gI (l6)] M n c (fi_35_L104 K l5 l6 M n c) := by
  unfold fi_35_L104
  refine gr_iload (pc := 104) (i := 6) (l6) (show decode (gy_b gY_35) 104 = .ok (.iload 6, 2) by decide +kernel) rfl ?_
  refine gr_ifeq (pc := 106) (tgt := 118) (off := 12) hG.2.1 (show decode (gy_b gY_35) 106 = .ok (.ifCond .eq (12), 3) by decide +kernel) (by decide) ?_ ?_
  · refine gr_iload (pc := 118) (i := 5) (l5) (show decode (gy_b gY_35) 118 = .ok (.iload 5, 2) by decide +kernel) rfl ?_
    exact gr_ireturn (pc := 120) (show decode (gy_b gY_35) 120 = .ok (.ireturn, 1) by decide +kernel) rfl rfl (by decide) gv_0
  · exact gj_false
noncomputable def fi_35_L22 (K : Nat → Nat → Nat → Nat → Bool) (l0 l2 l5 l6 M n c : Nat) : Bool := gx_lt (4294967196) (l0) (gx_add (l5) 4294967295 (fun z1 => gx_neg (l0) (fun z2 => gx_dgo (z2) (fun v3 => gx_ast (l2) (z1) (v3) M gx_f3 (fun M4 => gx_lt (l0) (4294967287) (gx_add (z1) 4294967295 (fun z5 => gx_neg (l0) (fun z6 => gx_dgt (z6) (fun v7 => gx_ast (l2) (z5) (v7) M4 gx_f3 (fun M8 => fi_35_L104 K (z5) (l6) M8 n c))))) (fi_35_L104 K (z1) (l6) M4 n c)))))) (false)
theorem h_35_L22 {G : gxG} (hG : gxG0 G) {K : Nat → Nat → Nat → Nat → Bool} (l0 l2 l5 l6 M n c : Nat) : gxJ G gY_35 K 22 [] [gI (l0), gB, gR 67 (l2), gB, gB, gI (l5), gI (l6)] M n c (fi_35_L22 K l0 l2 l5 l6 M n c) := by
  unfold fi_35_L22
  refine gr_iload_n (pc := 22) (i := 0) (l0) (show decode (gy_b gY_35) 22 = .ok (.iload_n 0, 1) by decide +kernel) rfl rfl ?_
  refine gr_bipush (pc := 23) (z := -100) 4294967196 (show decode (gy_b gY_35) 23 = .ok (.bipush (-100), 2) by decide +kernel) (by decide +kernel) ?_
  refine gr_icmp_gt (pc := 25) (tgt := 72) (off := 47) hG.2.1 (show decode (gy_b gY_35) 25 = .ok (.if_icmp .gt (47), 3) by decide +kernel) (by decide) ?_ ?_
  · refine gr_aload_n (pc := 72) (i := 2) 67 (l2) (show decode (gy_b gY_35) 72 = .ok (.aload_n 2, 1) by decide +kernel) rfl rfl ?_
    refine gr_iinc (pc := 73) (i := 5) (d := 4294967295) (z := -1) (L' := fun z1 => [gI (l0), gB, gR 67 (l2), gB, gB, gI (z1), gI (l6)]) (show decode (gy_b gY_35) 73 = .ok (.iinc 5 (-1), 3) by decide +kernel) (by decide +kernel) (by decide) rfl rfl (fun _ => rfl) ?_
    intro z1
    refine gr_iload (pc := 76) (i := 5) (z1) (show decode (gy_b gY_35) 76 = .ok (.iload 5, 2) by decide +kernel) rfl ?_
    refine gr_digits (pc := 78) (index := 83) (show decode (gy_b gY_35) 78 = .ok (.getstatic 83, 3) by decide +kernel) wd_642 ?_
    refine gr_iload_n (pc := 81) (i := 0) (l0) (show decode (gy_b gY_35) 81 = .ok (.iload_n 0, 1) by decide +kernel) rfl rfl ?_
    refine gr_ineg (pc := 82) (show decode (gy_b gY_35) 82 = .ok (.ineg, 1) by decide +kernel) ?_
    intro z2
    refine gr_dgo (pc := 83) hG.2.1 (show decode (gy_b gY_35) 83 = .ok (.baload, 1) by decide +kernel) ?_
    intro v3
    refine gr_bast (pc := 84) hG.2.1 (show decode (gy_b gY_35) 84 = .ok (.bastore, 1) by decide +kernel) ?_
    intro M4
    refine gr_iload_n (pc := 85) (i := 0) (l0) (show decode (gy_b gY_35) 85 = .ok (.iload_n 0, 1) by decide +kernel) rfl rfl ?_
    refine gr_bipush (pc := 86) (z := -9) 4294967287 (show decode (gy_b gY_35) 86 = .ok (.bipush (-9), 2) by decide +kernel) (by decide +kernel) ?_
    refine gr_icmp_ge (pc := 88) (tgt := 104) (off := 16) hG.2.1 (show decode (gy_b gY_35) 88 = .ok (.if_icmp .ge (16), 3) by decide +kernel) (by decide) ?_ ?_
    · refine gr_wk [false, true, false, true, true, true, true] rfl ?_
      exact h_35_L104 hG (z1) (l6) M4 n c
    · refine gr_aload_n (pc := 91) (i := 2) 67 (l2) (show decode (gy_b gY_35) 91 = .ok (.aload_n 2, 1) by decide +kernel) rfl rfl ?_
      refine gr_iinc (pc := 92) (i := 5) (d := 4294967295) (z := -1) (L' := fun z5 => [gI (l0), gB, gR 67 (l2), gB, gB, gI (z5), gI (l6)]) (show decode (gy_b gY_35) 92 = .ok (.iinc 5 (-1), 3) by decide +kernel) (by decide +kernel) (by decide) rfl rfl (fun _ => rfl) ?_
      intro z5
      refine gr_iload (pc := 95) (i := 5) (z5) (show decode (gy_b gY_35) 95 = .ok (.iload 5, 2) by decide +kernel) rfl ?_
      refine gr_tens (pc := 97) (index := 87) (show decode (gy_b gY_35) 97 = .ok (.getstatic 87, 3) by decide +kernel) wd_644 ?_
      refine gr_iload_n (pc := 100) (i := 0) (l0) (show decode (gy_b gY_35) 100 = .ok (.iload_n 0, 1) by decide +kernel) rfl rfl ?_
      refine gr_ineg (pc := 101) (show decode (gy_b gY_35) 101 = .ok (.ineg, 1) by decide +kernel) ?_
      intro z6
      refine gr_dgt (pc := 102) hG.2.1 (show decode (gy_b gY_35) 102 = .ok (.baload, 1) by decide +kernel) ?_
      intro v7
      refine gr_bast (pc := 103) hG.2.1 (show decode (gy_b gY_35) 103 = .ok (.bastore, 1) by decide +kernel) ?_
      intro M8
      refine gr_wk [false, true, false, true, true, true, true] rfl ?_
      exact h_35_L104 hG (z5) (l6) M8 n c
  · exact gj_false
noncomputable def fi_35_L0 (K : Nat → Nat → Nat → Nat → Bool) (l0 l1 l2 M n c : Nat) : Bool := gx_lt (l0) 0 (false) (gx_eq (0) 0 (gx_neg (l0) (fun z9 => fi_35_L22 K (z9) (l2) (l1) (0) M n c)) (fi_35_L22 K (l0) (l2) (l1) (0) M n c))
theorem h_35_L0 {G : gxG} (hG : gxG0 G) {K : Nat → Nat → Nat → Nat → Bool} (l0 l1 l2 M n c : Nat) : gxJ G gY_35 K 0 [] [gI (l0), gI (l1), gR 67 (l2), gB, gB, gB, gB] M n c (fi_35_L0 K l0 l1 l2 M n c) := by
  unfold fi_35_L0
  refine gr_iload_n (pc := 0) (i := 1) (l1) (show decode (gy_b gY_35) 0 = .ok (.iload_n 1, 1) by decide +kernel) rfl rfl ?_
  refine gr_istore (pc := 1) (i := 5) (L' := [gI (l0), gI (l1), gR 67 (l2), gB, gB, gI (l1), gB]) (show decode (gy_b gY_35) 1 = .ok (.istore 5, 2) by decide +kernel) (by decide) rfl rfl ?_
  refine gr_iload_n (pc := 3) (i := 0) (l0) (show decode (gy_b gY_35) 3 = .ok (.iload_n 0, 1) by decide +kernel) rfl rfl ?_
  refine gr_ifge (pc := 4) (tgt := 11) (off := 7) hG.2.1 (show decode (gy_b gY_35) 4 = .ok (.ifCond .ge (7), 3) by decide +kernel) (by decide) ?_ ?_
  · refine gr_iconst (pc := 11) (z := 0) 0 (show decode (gy_b gY_35) 11 = .ok (.iconst (0), 1) by decide +kernel) kc_0 ?_
    refine gr_istore (pc := 12) (i := 6) (L' := [gI (l0), gI (l1), gR 67 (l2), gB, gB, gI (l1), gI (0)]) (show decode (gy_b gY_35) 12 = .ok (.istore 6, 2) by decide +kernel) (by decide) rfl rfl ?_
    refine gr_iload (pc := 14) (i := 6) (0) (show decode (gy_b gY_35) 14 = .ok (.iload 6, 2) by decide +kernel) rfl ?_
    refine gr_ifne (pc := 16) (tgt := 22) (off := 6) hG.2.1 (show decode (gy_b gY_35) 16 = .ok (.ifCond .ne (6), 3) by decide +kernel) (by decide) ?_ ?_
    · refine gr_wk [true, false, true, true, true, true, true] rfl ?_
      exact h_35_L22 hG (l0) (l2) (l1) (0) M n c
    · refine gr_iload_n (pc := 19) (i := 0) (l0) (show decode (gy_b gY_35) 19 = .ok (.iload_n 0, 1) by decide +kernel) rfl rfl ?_
      refine gr_ineg (pc := 20) (show decode (gy_b gY_35) 20 = .ok (.ineg, 1) by decide +kernel) ?_
      intro z9
      refine gr_istore_n (pc := 21) (i := 0) (L' := [gI (z9), gI (l1), gR 67 (l2), gB, gB, gI (l1), gI (0)]) (show decode (gy_b gY_35) 21 = .ok (.istore_n 0, 1) by decide +kernel) rfl (by decide) rfl rfl ?_
      refine gr_wk [true, false, true, true, true, true, true] rfl ?_
      exact h_35_L22 hG (z9) (l2) (l1) (0) M n c
  · exact gj_false
noncomputable def fi_35 (l0 l1 l2 M n c : Nat) (K : Nat → Nat → Nat → Nat → Bool) : Bool := fi_35_L0 K l0 l1 l2 M n c
theorem hm_35 {G : gxG} (hG : gxG0 G) (l0 l1 l2 : Nat) : gxM G gY_35 yJ6_getChars_ba4f3 [gI (l0), gI (l1), gR 67 (l2)] (fi_35 l0 l1 l2) := gxM_of (L := [gI (l0), gI (l1), gR 67 (l2), gB, gB, gB, gB]) hG 4 (by decide +kernel) rfl rfl rfl rfl (List.forall_mem_cons.mpr ⟨rfl, List.forall_mem_cons.mpr ⟨rfl, List.forall_mem_cons.mpr ⟨rfl, fun _ h => nomatch h⟩⟩⟩) (fun M n c K => h_35_L0 hG  l0 l1 l2 M n c)
/-! java/lang/AbstractStringBuilder append (I)Ljava/lang/AbstractStringBuilder; -/
def gY_36 : gxY := (false, prog_18_method_32_code, 4, (Option.some (Jvm.ClassFile.FieldType.object "java/lang/AbstractStringBuilder")), "java/lang/AbstractStringBuilder", 2, 66, 17, [], "append")
theorem ok_36 {Y : gxY} (h1 : gy_f gY_36 + 1 ≤ gy_f Y) (h2 : 8 + (gy_l gY_36 + 11) + gy_k gY_36 ≤ gy_k Y) : gh_ok Y gY_36 yJ5_append_c97b9 1 := ⟨wd_635, wd_59, ⟨by decide, by decide⟩, by decide +kernel, h1, h2⟩
noncomputable def fi_36_L53 (K : Nat → Nat → Nat → Nat → Bool) (l0 M n c : Nat) : Bool := gx_rt gx_f0 (l0) (K (l0) M n c)
theorem h_36_L53 {G : gxG} (hG : gxG0 G) {K : Nat → Nat → Nat → Nat → Bool} (l0 M n c : Nat) : gxJ G gY_36 K 53 [] [gR 9 (l0), gB, gB, gB] M n c (fi_36_L53 K l0 M n c) := by
  unfold fi_36_L53
  refine gr_aload_n (pc := 53) (i := 0) 9 (l0) (show decode (gy_b gY_36) 53 = .ok (.aload_n 0, 1) by decide +kernel) rfl rfl ?_
  exact gr_areturn (pc := 54) (t := 9) (show decode (gy_b gY_36) 54 = .ok (.areturn, 1) by decide +kernel) rfl rfl (Or.inl ⟨_, rfl⟩)
noncomputable def fi_36_L0 (K : Nat → Nat → Nat → Nat → Bool) (l0 l1 M n c : Nat) : Bool := gx_get (l0) 3 M (fun v1 => fi_34 (l1) M n c (fun v2 M3 n4 c5 => gx_add (v1) (v2) (fun z6 => gx_nn (l0) (fi_13 (l0) (z6) M3 n4 c5 (fun v7 M8 n9 c10 => gx_nn (l0) (fi_19 (l0) M8 n9 c10 (fun v11 M12 n13 c14 => gx_eq (v11) 0 (false) (gx_get (l0) 0 M12 (fun v15 => fi_35 (l1) (z6) (v15) M12 n13 c14 (fun v16 M17 n18 c19 => gx_put (l0) 3 (z6) M17 gx_f0 (fun M20 => fi_36_L53 K (l0) M20 n18 c19)))))))))))
theorem h_36_L0 {G : gxG} (hG : gxG0 G) {K : Nat → Nat → Nat → Nat → Bool} (l0 l1 M n c : Nat) : gxJ G gY_36 K 0 [] [gR 9 (l0), gI (l1), gB, gB] M n c (fi_36_L0 K l0 l1 M n c) := by
  unfold fi_36_L0
  refine gr_aload_n (pc := 0) (i := 0) 9 (l0) (show decode (gy_b gY_36) 0 = .ok (.aload_n 0, 1) by decide +kernel) rfl rfl ?_
  refine gr_getf (pc := 1) (index := 79) (t := 9) (j := 3) (σ := 0) (sv := gI) (show decode (gy_b gY_36) 1 = .ok (.getfield 79, 3) by decide +kernel) rfl rfl (fun _ => rfl) wd_411 (by decide) ?_
  intro v1
  refine gr_istore_n (pc := 4) (i := 2) (L' := [gR 9 (l0), gI (l1), gI (v1), gB]) (show decode (gy_b gY_36) 4 = .ok (.istore_n 2, 1) by decide +kernel) rfl (by decide) rfl rfl ?_
  refine gr_iload_n (pc := 5) (i := 2) (v1) (show decode (gy_b gY_36) 5 = .ok (.iload_n 2, 1) by decide +kernel) rfl rfl ?_
  refine gr_iload_n (pc := 6) (i := 1) (l1) (show decode (gy_b gY_36) 6 = .ok (.iload_n 1, 1) by decide +kernel) rfl rfl ?_
  refine gj_c0 (pc := 7) (Y' := gY_34) (y := yJ6_stringSize_0f7a4) (vs := [gI (l1)]) (rest := [gI (v1)]) (rs := fun v2 => [gI (v2), gI (v1)]) [gI (l1)] rfl (hm_34 hG (l1)) rfl (gh_S (vs := [gI (l1)]) (rest := [gI (v1)]) (show decode (gy_b gY_36) 7 = .ok (.invokestatic 245, 3) by decide +kernel) rfl (ok_34 (by decide) (by decide)) rfl rfl wd_636 wd_637 (Nat.le_of_ble_eq_true rfl)) (fun _ => rfl) ?_
  intro v2 M3 n4 c5
  refine gr_iadd (pc := 10) (show decode (gy_b gY_36) 10 = .ok (.iadd, 1) by decide +kernel) ?_
  intro z6
  refine gr_istore_n (pc := 11) (i := 3) (L' := [gR 9 (l0), gI (l1), gI (v1), gI (z6)]) (show decode (gy_b gY_36) 11 = .ok (.istore_n 3, 1) by decide +kernel) rfl (by decide) rfl rfl ?_
  refine gr_aload_n (pc := 12) (i := 0) 9 (l0) (show decode (gy_b gY_36) 12 = .ok (.aload_n 0, 1) by decide +kernel) rfl rfl ?_
  refine gr_iload_n (pc := 13) (i := 3) (z6) (show decode (gy_b gY_36) 13 = .ok (.iload_n 3, 1) by decide +kernel) rfl rfl ?_
  refine gj_nn (fun hx14 => ?_)
  refine gj_c0 (pc := 14) (Y' := gY_13) (y := yJ5_ensureCapacityInternal_d00df) (vs := [gR 9 (l0), gI (z6)]) (rest := []) (rs := fun v7 => []) [gI (z6), gR 9 (l0)] rfl (hm_13 hG (l0) (z6)) rfl (gh_V (t := 9) (vs := [gI (z6)]) (rest := []) (show decode (gy_b gY_36) 14 = .ok (.invokevirtual 100, 3) by decide +kernel) rfl hx14 rfl rfl (ok_13 (by decide) (by decide)) wd_434 wd_436 wd_0 (Nat.le_of_ble_eq_true rfl)) (fun _ => rfl) ?_
  intro v7 M8 n9 c10
  refine gr_aload_n (pc := 17) (i := 0) 9 (l0) (show decode (gy_b gY_36) 17 = .ok (.aload_n 0, 1) by decide +kernel) rfl rfl ?_
  refine gj_nn (fun hx18 => ?_)
  refine gj_c0 (pc := 18) (Y' := gY_19) (y := yJ5_isLatin1_aae02) (vs := [gR 9 (l0)]) (rest := []) (rs := fun v11 => [gI (v11)]) [gR 9 (l0)] rfl (hm_19 hG (l0)) rfl (gh_V (t := 9) (vs := []) (rest := []) (show decode (gy_b gY_36) 18 = .ok (.invokevirtual 83, 3) by decide +kernel) rfl hx18 rfl rfl (ok_19 (by decide) (by decide)) wd_469 wd_470 wd_472 (Nat.le_of_ble_eq_true rfl)) (fun _ => rfl) ?_
  intro v11 M12 n13 c14
  refine gr_ifeq (pc := 21) (tgt := 37) (off := 16) hG.2.1 (show decode (gy_b gY_36) 21 = .ok (.ifCond .eq (16), 3) by decide +kernel) (by decide) ?_ ?_
  · exact gj_false
  · refine gr_iload_n (pc := 24) (i := 1) (l1) (show decode (gy_b gY_36) 24 = .ok (.iload_n 1, 1) by decide +kernel) rfl rfl ?_
    refine gr_iload_n (pc := 25) (i := 3) (z6) (show decode (gy_b gY_36) 25 = .ok (.iload_n 3, 1) by decide +kernel) rfl rfl ?_
    refine gr_aload_n (pc := 26) (i := 0) 9 (l0) (show decode (gy_b gY_36) 26 = .ok (.aload_n 0, 1) by decide +kernel) rfl rfl ?_
    refine gr_getf (pc := 27) (index := 15) (t := 9) (j := 0) (σ := 75) (sv := (gR 67)) (show decode (gy_b gY_36) 27 = .ok (.getfield 15, 3) by decide +kernel) rfl rfl (fun _ => rfl) wd_408 (by decide) ?_
    intro v15
    refine gj_c0 (pc := 30) (Y' := gY_35) (y := yJ6_getChars_ba4f3) (vs := [gI (l1), gI (z6), gR 67 (v15)]) (rest := []) (rs := fun v16 => [gI (v16)]) [gR 67 (v15), gI (z6), gI (l1)] rfl (hm_35 hG (l1) (z6) (v15)) rfl (gh_S (vs := [gI (l1), gI (z6), gR 67 (v15)]) (rest := []) (show decode (gy_b gY_36) 30 = .ok (.invokestatic 248, 3) by decide +kernel) rfl (ok_35 (by decide) (by decide)) rfl rfl wd_639 wd_640 (Nat.le_of_ble_eq_true rfl)) (fun _ => rfl) ?_
    intro v16 M17 n18 c19
    refine gr_pop (b := gB) (pc := 33) (show decode (gy_b gY_36) 33 = .ok (.pop, 1) by decide +kernel) rfl ?_
    refine gr_goto (pc := 34) (tgt := 48) (off := 14) (show decode (gy_b gY_36) 34 = .ok (.goto (14), 3) by decide +kernel) (by decide) ?_
    refine gr_aload_n (pc := 48) (i := 0) 9 (l0) (show decode (gy_b gY_36) 48 = .ok (.aload_n 0, 1) by decide +kernel) rfl rfl ?_
    refine gr_iload_n (pc := 49) (i := 3) (z6) (show decode (gy_b gY_36) 49 = .ok (.iload_n 3, 1) by decide +kernel) rfl rfl ?_
    refine gr_putf (pc := 50) (index := 79) (t := 9) (j := 3) (σ := 0) (sv := gI) (f := gx_f0) (ty := .int) (show decode (gy_b gY_36) 50 = .ok (.putfield 79, 3) by decide +kernel) rfl rfl (fun _ => rfl) wd_411 rfl gv_0 rfl ?_
    intro M20
    refine gr_wk [true, false, false, false] rfl ?_
    exact h_36_L53 hG (l0) M20 n18 c19
noncomputable def fi_36 (l0 l1 M n c : Nat) (K : Nat → Nat → Nat → Nat → Bool) : Bool := fi_36_L0 K l0 l1 M n c
theorem hm_36 {G : gxG} (hG : gxG0 G) (l0 l1 : Nat) : gxM G gY_36 yJ5_append_c97b9 [gR 9 (l0), gI (l1)] (fi_36 l0 l1) := gxM_of (L := [gR 9 (l0), gI (l1), gB, gB]) hG 2 (by decide +kernel) rfl rfl rfl rfl (List.forall_mem_cons.mpr ⟨rfl, List.forall_mem_cons.mpr ⟨rfl, fun _ h => nomatch h⟩⟩) (fun M n c K => h_36_L0 hG  l0 l1 M n c)
/-! java/lang/StringBuilder append (I)Ljava/lang/StringBuilder; -/
def gY_37 : gxY := (false, prog_33_method_15_code, 2, (Option.some (Jvm.ClassFile.FieldType.object "java/lang/StringBuilder")), "java/lang/StringBuilder", 3, 89, 17, [], "append")
theorem ok_37 {Y : gxY} (h1 : gy_f gY_37 + 1 ≤ gy_f Y) (h2 : 8 + (gy_l gY_37 + 11) + gy_k gY_37 ≤ gy_k Y) : gh_ok Y gY_37 yJ4_append_bf812 1 := ⟨wd_632, wd_60, ⟨by decide, by decide⟩, by decide +kernel, h1, h2⟩
noncomputable def fi_37_L0 (K : Nat → Nat → Nat → Nat → Bool) (l0 l1 M n c : Nat) : Bool := gx_nn (l0) (fi_36 (l0) (l1) M n c (fun v1 M2 n3 c4 => gx_rt gx_f0 (l0) (K (l0) M2 n3 c4)))
theorem h_37_L0 {G : gxG} (hG : gxG0 G) {K : Nat → Nat → Nat → Nat → Bool} (l0 l1 M n c : Nat) : gxJ G gY_37 K 0 [] [gR 9 (l0), gI (l1)] M n c (fi_37_L0 K l0 l1 M n c) := by
  unfold fi_37_L0
  refine gr_aload_n (pc := 0) (i := 0) 9 (l0) (show decode (gy_b gY_37) 0 = .ok (.aload_n 0, 1) by decide +kernel) rfl rfl ?_
  refine gr_iload_n (pc := 1) (i := 1) (l1) (show decode (gy_b gY_37) 1 = .ok (.iload_n 1, 1) by decide +kernel) rfl rfl ?_
  refine gj_nn (fun hx2 => ?_)
  refine gj_c0 (pc := 2) (Y' := gY_36) (y := yJ5_append_c97b9) (vs := [gR 9 (l0), gI (l1)]) (rest := []) (rs := fun v1 => [gR 9 (v1)]) [gI (l1), gR 9 (l0)] rfl (hm_36 hG (l0) (l1)) rfl (gh_SU (t := 9) (vs := [gI (l1)]) (rest := []) (show decode (gy_b gY_37) 2 = .ok (.invokespecial 53, 3) by decide +kernel) rfl hx2 rfl (ok_36 (by decide) (by decide)) rfl rfl (by decide) wd_633 wd_1374 wd_420 wd_634 (Nat.le_of_ble_eq_true rfl)) (fun _ => rfl) ?_
  intro v1 M2 n3 c4
  refine gr_pop (b := gB) (pc := 5) (show decode (gy_b gY_37) 5 = .ok (.pop, 1) by decide +kernel) rfl ?_
  refine gr_aload_n (pc := 6) (i := 0) 9 (l0) (show decode (gy_b gY_37) 6 = .ok (.aload_n 0, 1) by decide +kernel) rfl rfl ?_
  exact gr_areturn (pc := 7) (t := 9) (show decode (gy_b gY_37) 7 = .ok (.areturn, 1) by decide +kernel) rfl rfl (Or.inl ⟨_, rfl⟩)
noncomputable def fi_37 (l0 l1 M n c : Nat) (K : Nat → Nat → Nat → Nat → Bool) : Bool := fi_37_L0 K l0 l1 M n c
theorem hm_37 {G : gxG} (hG : gxG0 G) (l0 l1 : Nat) : gxM G gY_37 yJ4_append_bf812 [gR 9 (l0), gI (l1)] (fi_37 l0 l1) := gxM_of (L := [gR 9 (l0), gI (l1)]) hG 0 (by decide +kernel) rfl rfl rfl rfl (List.forall_mem_cons.mpr ⟨rfl, List.forall_mem_cons.mpr ⟨rfl, fun _ h => nomatch h⟩⟩) (fun M n c K => h_37_L0 hG  l0 l1 M n c)
/-! Farfiles clientOf (I)LFarfiles$Client; -/
def gY_38 : gxY := (false, prog_1_method_8_code, 2, (Option.some (Jvm.ClassFile.FieldType.object "Farfiles$Client")), "Farfiles", 1, 40, 11, [], "clientOf")
theorem ok_38 {Y : gxY} (h1 : gy_f gY_38 + 1 ≤ gy_f Y) (h2 : 8 + (gy_l gY_38 + 11) + gy_k gY_38 ≤ gy_k Y) : gh_ok Y gY_38 yX7_clientOf 1 := ⟨wd_665, wd_51, ⟨by decide, by decide⟩, by decide +kernel, h1, h2⟩
noncomputable def fi_38_L0 (K : Nat → Nat → Nat → Nat → Bool) (l0 l1 M n c : Nat) : Bool := gx_lt (l1) 0 (false) (gx_lt (l1) (4) (gx_get (l0) 3 M (fun v1 => gx_ald (v1) (l1) M (fun v2 => gx_rt gx_f0 (v2) (K (v2) M n c)))) (false))
theorem h_38_L0 {G : gxG} (hG : gxG0 G) {K : Nat → Nat → Nat → Nat → Bool} (l0 l1 M n c : Nat) : gxJ G gY_38 K 0 [] [gR 7 (l0), gI (l1)] M n c (fi_38_L0 K l0 l1 M n c) := by
  unfold fi_38_L0
  refine gr_iload_n (pc := 0) (i := 1) (l1) (show decode (gy_b gY_38) 0 = .ok (.iload_n 1, 1) by decide +kernel) rfl rfl ?_
  refine gr_iflt (pc := 1) (tgt := 9) (off := 8) hG.2.1 (show decode (gy_b gY_38) 1 = .ok (.ifCond .lt (8), 3) by decide +kernel) (by decide) ?_ ?_
  · exact gj_false
  · refine gr_iload_n (pc := 4) (i := 1) (l1) (show decode (gy_b gY_38) 4 = .ok (.iload_n 1, 1) by decide +kernel) rfl rfl ?_
    refine gr_iconst (pc := 5) (z := 4) 4 (show decode (gy_b gY_38) 5 = .ok (.iconst (4), 1) by decide +kernel) kc_4 ?_
    refine gr_icmp_lt (pc := 6) (tgt := 19) (off := 13) hG.2.1 (show decode (gy_b gY_38) 6 = .ok (.if_icmp .lt (13), 3) by decide +kernel) (by decide) ?_ ?_
    · refine gr_aload_n (pc := 19) (i := 0) 7 (l0) (show decode (gy_b gY_38) 19 = .ok (.aload_n 0, 1) by decide +kernel) rfl rfl ?_
      refine gr_getf (pc := 20) (index := 32) (t := 7) (j := 3) (σ := 79) (sv := (gR 71)) (show decode (gy_b gY_38) 20 = .ok (.getfield 32, 3) by decide +kernel) rfl rfl (fun _ => rfl) wd_297 (by decide) ?_
      intro v1
      refine gr_iload_n (pc := 23) (i := 1) (l1) (show decode (gy_b gY_38) 23 = .ok (.iload_n 1, 1) by decide +kernel) rfl rfl ?_
      refine gr_aald (pc := 24) (κ := 7) (t := 3) (C := "Farfiles$Client") (show decode (gy_b gY_38) 24 = .ok (.aaload, 1) by decide +kernel) ⟨by decide, by decide, rfl⟩ rfl ?_
      intro v2
      exact gr_areturn (pc := 25) (t := 3) (show decode (gy_b gY_38) 25 = .ok (.areturn, 1) by decide +kernel) rfl rfl (Or.inl ⟨_, rfl⟩)
    · exact gj_false
noncomputable def fi_38 (l0 l1 M n c : Nat) (K : Nat → Nat → Nat → Nat → Bool) : Bool := fi_38_L0 K l0 l1 M n c
theorem hm_38 {G : gxG} (hG : gxG0 G) (l0 l1 : Nat) : gxM G gY_38 yX7_clientOf [gR 7 (l0), gI (l1)] (fi_38 l0 l1) := gxM_of (L := [gR 7 (l0), gI (l1)]) hG 0 (by decide +kernel) rfl rfl rfl rfl (List.forall_mem_cons.mpr ⟨rfl, List.forall_mem_cons.mpr ⟨rfl, fun _ h => nomatch h⟩⟩) (fun M n c K => h_38_L0 hG  l0 l1 M n c)
