/-! METHODS 3 -/
set_option maxRecDepth 100000
/-! Farfiles takePath ()I -/
def gY_59 : gxY := (false, prog_1_method_31_code, 2, (Option.some Jvm.ClassFile.FieldType.int), "Farfiles", 5, 132, 0, [], "takePath")
theorem ok_59 {Y : gxY} (h1 : gy_f gY_59 + 1 ≤ gy_f Y) (h2 : 8 + (gy_l gY_59 + 11) + gy_k gY_59 ≤ gy_k Y) : gh_ok Y gY_59 yX7_takePath 0 := ⟨wd_826, wd_51, ⟨by decide, by decide⟩, by decide +kernel, h1, h2⟩
noncomputable def fi_59_L0 (K : Nat → Nat → Nat → Nat → Bool) (l0 M n c : Nat) : Bool := gx_get (l0) 8 M (fun v1 => gx_get (l0) 0 M (fun v2 => gx_nn (v1) (fi_58 (v1) (v2) (0) (0) M n c (fun v3 M4 n5 c6 => gx_get (l0) 0 M4 (fun v7 => gx_nn (v7) (fi_41 (v7) M4 n5 c6 (fun v8 M9 n10 c11 => gx_lt (v3) 0 (false) (gx_rt gx_f0 (0) (K (0) M9 n10 c11)))))))))
theorem h_59_L0 {G : gxG} (hG : gxG0 G) {K : Nat → Nat → Nat → Nat → Bool} (l0 M n c : Nat) : gxJ G gY_59 K 0 [] [gR 7 (l0), gB] M n c (fi_59_L0 K l0 M n c) := by
  unfold fi_59_L0
  refine gr_aload_n (pc := 0) (i := 0) 7 (l0) (show decode (gy_b gY_59) 0 = .ok (.aload_n 0, 1) by decide +kernel) rfl rfl ?_
  refine gr_getf (pc := 1) (index := 55) (t := 7) (j := 8) (σ := 14) (sv := (gR 6)) (show decode (gy_b gY_59) 1 = .ok (.getfield 55, 3) by decide +kernel) rfl rfl (fun _ => rfl) wd_302 (by decide) ?_
  intro v1
  refine gr_aload_n (pc := 4) (i := 0) 7 (l0) (show decode (gy_b gY_59) 4 = .ok (.aload_n 0, 1) by decide +kernel) rfl rfl ?_
  refine gr_getf (pc := 5) (index := 10) (t := 7) (j := 0) (σ := 12) (sv := (gR 4)) (show decode (gy_b gY_59) 5 = .ok (.getfield 10, 3) by decide +kernel) rfl rfl (fun _ => rfl) wd_294 (by decide) ?_
  intro v2
  refine gr_iconst (pc := 8) (z := 0) 0 (show decode (gy_b gY_59) 8 = .ok (.iconst (0), 1) by decide +kernel) kc_0 ?_
  refine gr_iconst (pc := 9) (z := 0) 0 (show decode (gy_b gY_59) 9 = .ok (.iconst (0), 1) by decide +kernel) kc_0 ?_
  refine gj_nn (fun hx10 => ?_)
  refine gj_c0 (pc := 10) (Y' := gY_58) (y := yX6_readFrom) (vs := [gR 6 (v1), gR 4 (v2), gI (0), gI (0)]) (rest := []) (rs := fun v3 => [gI (v3)]) [gI (0), gI (0), gR 4 (v2), gR 6 (v1)] rfl (hm_58 hG (v1) (v2) (0) (0)) rfl (gh_V (t := 6) (vs := [gR 4 (v2), gI (0), gI (0)]) (rest := []) (show decode (gy_b gY_59) 10 = .ok (.invokevirtual 234, 3) by decide +kernel) rfl hx10 rfl rfl (ok_58 (by decide) (by decide)) wd_827 wd_828 wd_829 (Nat.le_of_ble_eq_true rfl)) (fun _ => rfl) ?_
  intro v3 M4 n5 c6
  refine gr_istore_n (pc := 13) (i := 1) (L' := [gR 7 (l0), gI (v3)]) (show decode (gy_b gY_59) 13 = .ok (.istore_n 1, 1) by decide +kernel) rfl (by decide) rfl rfl ?_
  refine gr_aload_n (pc := 14) (i := 0) 7 (l0) (show decode (gy_b gY_59) 14 = .ok (.aload_n 0, 1) by decide +kernel) rfl rfl ?_
  refine gr_getf (pc := 15) (index := 10) (t := 7) (j := 0) (σ := 12) (sv := (gR 4)) (show decode (gy_b gY_59) 15 = .ok (.getfield 10, 3) by decide +kernel) rfl rfl (fun _ => rfl) wd_294 (by decide) ?_
  intro v7
  refine gj_nn (fun hx18 => ?_)
  refine gj_c0 (pc := 18) (Y' := gY_41) (y := yX4_empty) (vs := [gR 4 (v7)]) (rest := []) (rs := fun v8 => []) [gR 4 (v7)] rfl (hm_41 hG (v7)) rfl (gh_V (t := 4) (vs := []) (rest := []) (show decode (gy_b gY_59) 18 = .ok (.invokevirtual 147, 3) by decide +kernel) rfl hx18 rfl rfl (ok_41 (by decide) (by decide)) wd_744 wd_745 wd_746 (Nat.le_of_ble_eq_true rfl)) (fun _ => rfl) ?_
  intro v8 M9 n10 c11
  refine gr_iload_n (pc := 21) (i := 1) (v3) (show decode (gy_b gY_59) 21 = .ok (.iload_n 1, 1) by decide +kernel) rfl rfl ?_
  refine gr_ifge (pc := 22) (tgt := 29) (off := 7) hG.2.1 (show decode (gy_b gY_59) 22 = .ok (.ifCond .ge (7), 3) by decide +kernel) (by decide) ?_ ?_
  · refine gr_iconst (pc := 29) (z := 0) 0 (show decode (gy_b gY_59) 29 = .ok (.iconst (0), 1) by decide +kernel) kc_0 ?_
    exact gr_ireturn (pc := 30) (show decode (gy_b gY_59) 30 = .ok (.ireturn, 1) by decide +kernel) rfl rfl (by decide) gv_0
  · exact gj_false
noncomputable def fi_59 (l0 M n c : Nat) (K : Nat → Nat → Nat → Nat → Bool) : Bool := fi_59_L0 K l0 M n c
theorem hm_59 {G : gxG} (hG : gxG0 G) (l0 : Nat) : gxM G gY_59 yX7_takePath [gR 7 (l0)] (fi_59 l0) := gxM_of (L := [gR 7 (l0), gB]) hG 1 (by decide +kernel) rfl rfl rfl rfl (List.forall_mem_cons.mpr ⟨rfl, fun _ h => nomatch h⟩) (fun M n c K => h_59_L0 hG  l0 M n c)
/-! Farfiles signOfName (II)C -/
def gY_60 : gxY := (false, prog_1_method_4_code, 2, (Option.some Jvm.ClassFile.FieldType.char), "Farfiles", 1, 40, 1, [], "signOfName")
theorem ok_60 {Y : gxY} (h1 : gy_f gY_60 + 1 ≤ gy_f Y) (h2 : 8 + (gy_l gY_60 + 11) + gy_k gY_60 ≤ gy_k Y) : gh_ok Y gY_60 yX7_signOfName 2 := ⟨wd_866, wd_51, ⟨by decide, by decide⟩, by decide +kernel, h1, h2⟩
noncomputable def fi_60_L0 (K : Nat → Nat → Nat → Nat → Bool) (l0 l1 M n c : Nat) : Bool := gx_lt (l1) 0 (false) (gx_lt (l1) (3) (gx_mul (8) (l1) (fun z1 => gx_sub (16) (z1) (fun z2 => gx_shr (l0) (z2) (fun z3 => gx_and (z3) (255) (fun z4 => gx_i2c (z4) (fun z5 => gx_rt gx_f1 (z5) (K (z5) M n c))))))) (false))
theorem h_60_L0 {G : gxG} (hG : gxG0 G) {K : Nat → Nat → Nat → Nat → Bool} (l0 l1 M n c : Nat) : gxJ G gY_60 K 0 [] [gI (l0), gI (l1)] M n c (fi_60_L0 K l0 l1 M n c) := by
  unfold fi_60_L0
  refine gr_iload_n (pc := 0) (i := 1) (l1) (show decode (gy_b gY_60) 0 = .ok (.iload_n 1, 1) by decide +kernel) rfl rfl ?_
  refine gr_iflt (pc := 1) (tgt := 26) (off := 25) hG.2.1 (show decode (gy_b gY_60) 1 = .ok (.ifCond .lt (25), 3) by decide +kernel) (by decide) ?_ ?_
  · exact gj_false
  · refine gr_iload_n (pc := 4) (i := 1) (l1) (show decode (gy_b gY_60) 4 = .ok (.iload_n 1, 1) by decide +kernel) rfl rfl ?_
    refine gr_iconst (pc := 5) (z := 3) 3 (show decode (gy_b gY_60) 5 = .ok (.iconst (3), 1) by decide +kernel) kc_3 ?_
    refine gr_icmp_ge (pc := 6) (tgt := 26) (off := 20) hG.2.1 (show decode (gy_b gY_60) 6 = .ok (.if_icmp .ge (20), 3) by decide +kernel) (by decide) ?_ ?_
    · exact gj_false
    · refine gr_iload_n (pc := 9) (i := 0) (l0) (show decode (gy_b gY_60) 9 = .ok (.iload_n 0, 1) by decide +kernel) rfl rfl ?_
      refine gr_bipush (pc := 10) (z := 16) 16 (show decode (gy_b gY_60) 10 = .ok (.bipush (16), 2) by decide +kernel) (by decide +kernel) ?_
      refine gr_bipush (pc := 12) (z := 8) 8 (show decode (gy_b gY_60) 12 = .ok (.bipush (8), 2) by decide +kernel) (by decide +kernel) ?_
      refine gr_iload_n (pc := 14) (i := 1) (l1) (show decode (gy_b gY_60) 14 = .ok (.iload_n 1, 1) by decide +kernel) rfl rfl ?_
      refine gr_imul (pc := 15) (show decode (gy_b gY_60) 15 = .ok (.imul, 1) by decide +kernel) ?_
      intro z1
      refine gr_isub (pc := 16) hG.2.1 (show decode (gy_b gY_60) 16 = .ok (.isub, 1) by decide +kernel) ?_
      intro z2
      refine gr_ishr (pc := 17) hG.2.1 (show decode (gy_b gY_60) 17 = .ok (.ishr, 1) by decide +kernel) ?_
      intro z3
      refine gr_sipush (pc := 18) (z := 255) 255 (show decode (gy_b gY_60) 18 = .ok (.sipush (255), 3) by decide +kernel) (by decide +kernel) ?_
      refine gr_iand (pc := 21) hG.2.1 (show decode (gy_b gY_60) 21 = .ok (.iand, 1) by decide +kernel) ?_
      intro z4
      refine gr_i2c (pc := 22) hG.2.1 (show decode (gy_b gY_60) 22 = .ok (.i2c, 1) by decide +kernel) ?_
      intro z5
      refine gr_goto (pc := 23) (tgt := 27) (off := 4) (show decode (gy_b gY_60) 23 = .ok (.goto (4), 3) by decide +kernel) (by decide) ?_
      exact gr_ireturn (pc := 27) (show decode (gy_b gY_60) 27 = .ok (.ireturn, 1) by decide +kernel) rfl rfl (by decide) (gv_1 hG.2.1)
noncomputable def fi_60 (l0 l1 M n c : Nat) (K : Nat → Nat → Nat → Nat → Bool) : Bool := fi_60_L0 K l0 l1 M n c
theorem hm_60 {G : gxG} (hG : gxG0 G) (l0 l1 : Nat) : gxM G gY_60 yX7_signOfName [gI (l0), gI (l1)] (fi_60 l0 l1) := gxM_of (L := [gI (l0), gI (l1)]) hG 0 (by decide +kernel) rfl rfl rfl rfl (List.forall_mem_cons.mpr ⟨rfl, List.forall_mem_cons.mpr ⟨rfl, fun _ h => nomatch h⟩⟩) (fun M n c K => h_60_L0 hG  l0 l1 M n c)
/-! Farfiles$Path faultOfLastName ()I -/
def gY_61 : gxY := (false, prog_8_method_6_code, 2, (Option.some Jvm.ClassFile.FieldType.int), "Farfiles$Path", 2, 61, 0, [], "faultOfLastName")
theorem ok_61 {Y : gxY} (h1 : gy_f gY_61 + 1 ≤ gy_f Y) (h2 : 8 + (gy_l gY_61 + 11) + gy_k gY_61 ≤ gy_k Y) : gh_ok Y gY_61 yX6_faultOfLastName 0 := ⟨wd_863, wd_57, ⟨by decide, by decide⟩, by decide +kernel, h1, h2⟩
noncomputable def fi_61_L32 (K : Nat → Nat → Nat → Nat → Bool) (M n c : Nat) : Bool := gx_rt gx_f0 (0) (K (0) M n c)
theorem h_61_L32 {G : gxG} (hG : gxG0 G) {K : Nat → Nat → Nat → Nat → Bool} (M n c : Nat) : gxJ G gY_61 K 32 [] [gB, gB] M n c (fi_61_L32 K M n c) := by
  unfold fi_61_L32
  refine gr_iconst (pc := 32) (z := 0) 0 (show decode (gy_b gY_61) 32 = .ok (.iconst (0), 1) by decide +kernel) kc_0 ?_
  exact gr_ireturn (pc := 33) (show decode (gy_b gY_61) 33 = .ok (.ireturn, 1) by decide +kernel) rfl rfl (by decide) gv_0
noncomputable def fi_61_L0 (K : Nat → Nat → Nat → Nat → Bool) (l0 M n c : Nat) : Bool := gx_get (l0) 3 M (fun v1 => gx_sub (v1) (1) (fun z2 => gx_lt (z2) 0 (fi_61_L32 K  M n c) (gx_lt (z2) (20) (gx_get (l0) 0 M (fun v3 => gx_ald (v3) (z2) M (fun v4 => fi_60 (v4) (0) M n c (fun v5 M6 n7 c8 => gx_eq (v5) (35) (false) (fi_61_L32 K  M6 n7 c8))))) (fi_61_L32 K  M n c))))
theorem h_61_L0 {G : gxG} (hG : gxG0 G) {K : Nat → Nat → Nat → Nat → Bool} (l0 M n c : Nat) : gxJ G gY_61 K 0 [] [gR 6 (l0), gB] M n c (fi_61_L0 K l0 M n c) := by
  unfold fi_61_L0
  refine gr_aload_n (pc := 0) (i := 0) 6 (l0) (show decode (gy_b gY_61) 0 = .ok (.aload_n 0, 1) by decide +kernel) rfl rfl ?_
  refine gr_getf (pc := 1) (index := 21) (t := 6) (j := 3) (σ := 0) (sv := gI) (show decode (gy_b gY_61) 1 = .ok (.getfield 21, 3) by decide +kernel) rfl rfl (fun _ => rfl) wd_229 (by decide) ?_
  intro v1
  refine gr_iconst (pc := 4) (z := 1) 1 (show decode (gy_b gY_61) 4 = .ok (.iconst (1), 1) by decide +kernel) kc_1 ?_
  refine gr_isub (pc := 5) hG.2.1 (show decode (gy_b gY_61) 5 = .ok (.isub, 1) by decide +kernel) ?_
  intro z2
  refine gr_istore_n (pc := 6) (i := 1) (L' := [gR 6 (l0), gI (z2)]) (show decode (gy_b gY_61) 6 = .ok (.istore_n 1, 1) by decide +kernel) rfl (by decide) rfl rfl ?_
  refine gr_iload_n (pc := 7) (i := 1) (z2) (show decode (gy_b gY_61) 7 = .ok (.iload_n 1, 1) by decide +kernel) rfl rfl ?_
  refine gr_iflt (pc := 8) (tgt := 32) (off := 24) hG.2.1 (show decode (gy_b gY_61) 8 = .ok (.ifCond .lt (24), 3) by decide +kernel) (by decide) ?_ ?_
  · refine gr_wk [false, false] rfl ?_
    exact h_61_L32 hG  M n c
  · refine gr_iload_n (pc := 11) (i := 1) (z2) (show decode (gy_b gY_61) 11 = .ok (.iload_n 1, 1) by decide +kernel) rfl rfl ?_
    refine gr_bipush (pc := 12) (z := 20) 20 (show decode (gy_b gY_61) 12 = .ok (.bipush (20), 2) by decide +kernel) (by decide +kernel) ?_
    refine gr_icmp_ge (pc := 14) (tgt := 32) (off := 18) hG.2.1 (show decode (gy_b gY_61) 14 = .ok (.if_icmp .ge (18), 3) by decide +kernel) (by decide) ?_ ?_
    · refine gr_wk [false, false] rfl ?_
      exact h_61_L32 hG  M n c
    · refine gr_aload_n (pc := 17) (i := 0) 6 (l0) (show decode (gy_b gY_61) 17 = .ok (.aload_n 0, 1) by decide +kernel) rfl rfl ?_
      refine gr_getf (pc := 18) (index := 9) (t := 6) (j := 0) (σ := 72) (sv := (gR 64)) (show decode (gy_b gY_61) 18 = .ok (.getfield 9, 3) by decide +kernel) rfl rfl (fun _ => rfl) wd_226 (by decide) ?_
      intro v3
      refine gr_iload_n (pc := 21) (i := 1) (z2) (show decode (gy_b gY_61) 21 = .ok (.iload_n 1, 1) by decide +kernel) rfl rfl ?_
      refine gr_iald (pc := 22) (show decode (gy_b gY_61) 22 = .ok (.iaload, 1) by decide +kernel) ?_
      intro v4
      refine gr_iconst (pc := 23) (z := 0) 0 (show decode (gy_b gY_61) 23 = .ok (.iconst (0), 1) by decide +kernel) kc_0 ?_
      refine gj_c0 (pc := 24) (Y' := gY_60) (y := yX7_signOfName) (vs := [gI (v4), gI (0)]) (rest := []) (rs := fun v5 => [gI (v5)]) [gI (0), gI (v4)] rfl (hm_60 hG (v4) (0)) rfl (gh_SN (vs := [gI (v4), gI (0)]) (rest := []) (show decode (gy_b gY_61) 24 = .ok (.invokestatic 61, 3) by decide +kernel) rfl (ok_60 (by decide) (by decide)) rfl rfl wd_864 wd_865 (Nat.le_of_ble_eq_true rfl)) (fun _ => rfl) ?_
      intro v5 M6 n7 c8
      refine gr_bipush (pc := 27) (z := 35) 35 (show decode (gy_b gY_61) 27 = .ok (.bipush (35), 2) by decide +kernel) (by decide +kernel) ?_
      refine gr_icmp_eq (pc := 29) (tgt := 34) (off := 5) hG.2.1 (show decode (gy_b gY_61) 29 = .ok (.if_icmp .eq (5), 3) by decide +kernel) (by decide) ?_ ?_
      · exact gj_false
      · refine gr_wk [false, false] rfl ?_
        exact h_61_L32 hG  M6 n7 c8
noncomputable def fi_61 (l0 M n c : Nat) (K : Nat → Nat → Nat → Nat → Bool) : Bool := fi_61_L0 K l0 M n c
theorem hm_61 {G : gxG} (hG : gxG0 G) (l0 : Nat) : gxM G gY_61 yX6_faultOfLastName [gR 6 (l0)] (fi_61 l0) := gxM_of (L := [gR 6 (l0), gB]) hG 1 (by decide +kernel) rfl rfl rfl rfl (List.forall_mem_cons.mpr ⟨rfl, fun _ h => nomatch h⟩) (fun M n c K => h_61_L0 hG  l0 M n c)
/-! Farfiles takePathOfLetters ()I -/
def gY_62 : gxY := (false, prog_1_method_32_code, 2, (Option.some Jvm.ClassFile.FieldType.int), "Farfiles", 6, 153, 0, [], "takePathOfLetters")
theorem ok_62 {Y : gxY} (h1 : gy_f gY_62 + 1 ≤ gy_f Y) (h2 : 8 + (gy_l gY_62 + 11) + gy_k gY_62 ≤ gy_k Y) : gh_ok Y gY_62 yX7_takePathOfLetters 0 := ⟨wd_822, wd_51, ⟨by decide, by decide⟩, by decide +kernel, h1, h2⟩
noncomputable def fi_62_L0 (K : Nat → Nat → Nat → Nat → Bool) (l0 M n c : Nat) : Bool := gx_nn (l0) (fi_59 (l0) M n c (fun v1 M2 n3 c4 => gx_lt (v1) 0 (false) (gx_get (l0) 8 M2 (fun v5 => gx_nn (v5) (fi_61 (v5) M2 n3 c4 (fun v6 M7 n8 c9 => gx_rt gx_f0 (v6) (K (v6) M7 n8 c9)))))))
theorem h_62_L0 {G : gxG} (hG : gxG0 G) {K : Nat → Nat → Nat → Nat → Bool} (l0 M n c : Nat) : gxJ G gY_62 K 0 [] [gR 7 (l0), gB] M n c (fi_62_L0 K l0 M n c) := by
  unfold fi_62_L0
  refine gr_aload_n (pc := 0) (i := 0) 7 (l0) (show decode (gy_b gY_62) 0 = .ok (.aload_n 0, 1) by decide +kernel) rfl rfl ?_
  refine gj_nn (fun hx1 => ?_)
  refine gj_c0 (pc := 1) (Y' := gY_59) (y := yX7_takePath) (vs := [gR 7 (l0)]) (rest := []) (rs := fun v1 => [gI (v1)]) [gR 7 (l0)] rfl (hm_59 hG (l0)) rfl (gh_V (t := 7) (vs := []) (rest := []) (show decode (gy_b gY_62) 1 = .ok (.invokevirtual 238, 3) by decide +kernel) rfl hx1 rfl rfl (ok_59 (by decide) (by decide)) wd_823 wd_825 wd_14 (Nat.le_of_ble_eq_true rfl)) (fun _ => rfl) ?_
  intro v1 M2 n3 c4
  refine gr_istore_n (pc := 4) (i := 1) (L' := [gR 7 (l0), gI (v1)]) (show decode (gy_b gY_62) 4 = .ok (.istore_n 1, 1) by decide +kernel) rfl (by decide) rfl rfl ?_
  refine gr_iload_n (pc := 5) (i := 1) (v1) (show decode (gy_b gY_62) 5 = .ok (.iload_n 1, 1) by decide +kernel) rfl rfl ?_
  refine gr_ifge (pc := 6) (tgt := 13) (off := 7) hG.2.1 (show decode (gy_b gY_62) 6 = .ok (.ifCond .ge (7), 3) by decide +kernel) (by decide) ?_ ?_
  · refine gr_aload_n (pc := 13) (i := 0) 7 (l0) (show decode (gy_b gY_62) 13 = .ok (.aload_n 0, 1) by decide +kernel) rfl rfl ?_
    refine gr_getf (pc := 14) (index := 55) (t := 7) (j := 8) (σ := 14) (sv := (gR 6)) (show decode (gy_b gY_62) 14 = .ok (.getfield 55, 3) by decide +kernel) rfl rfl (fun _ => rfl) wd_302 (by decide) ?_
    intro v5
    refine gj_nn (fun hx17 => ?_)
    refine gj_c0 (pc := 17) (Y' := gY_61) (y := yX6_faultOfLastName) (vs := [gR 6 (v5)]) (rest := []) (rs := fun v6 => [gI (v6)]) [gR 6 (v5)] rfl (hm_61 hG (v5)) rfl (gh_V (t := 6) (vs := []) (rest := []) (show decode (gy_b gY_62) 17 = .ok (.invokevirtual 241, 3) by decide +kernel) rfl hx17 rfl rfl (ok_61 (by decide) (by decide)) wd_860 wd_861 wd_862 (Nat.le_of_ble_eq_true rfl)) (fun _ => rfl) ?_
    intro v6 M7 n8 c9
    exact gr_ireturn (pc := 20) (show decode (gy_b gY_62) 20 = .ok (.ireturn, 1) by decide +kernel) rfl rfl (by decide) gv_0
  · exact gj_false
noncomputable def fi_62 (l0 M n c : Nat) (K : Nat → Nat → Nat → Nat → Bool) : Bool := fi_62_L0 K l0 M n c
theorem hm_62 {G : gxG} (hG : gxG0 G) (l0 : Nat) : gxM G gY_62 yX7_takePathOfLetters [gR 7 (l0)] (fi_62 l0) := gxM_of (L := [gR 7 (l0), gB]) hG 1 (by decide +kernel) rfl rfl rfl rfl (List.forall_mem_cons.mpr ⟨rfl, fun _ h => nomatch h⟩) (fun M n c K => h_62_L0 hG  l0 M n c)
/-! Farfiles isObject (I)Z -/
def gY_63 : gxY := (false, prog_1_method_6_code, 1, (Option.some Jvm.ClassFile.FieldType.boolean), "Farfiles", 1, 40, 2, [], "isObject")
theorem ok_63 {Y : gxY} (h1 : gy_f gY_63 + 1 ≤ gy_f Y) (h2 : 8 + (gy_l gY_63 + 11) + gy_k gY_63 ≤ gy_k Y) : gh_ok Y gY_63 yX7_isObject 1 := ⟨wd_905, wd_51, ⟨by decide, by decide⟩, by decide +kernel, h1, h2⟩
noncomputable def fi_63_L0 (K : Nat → Nat → Nat → Nat → Bool) (l0 M n c : Nat) : Bool := gx_lt (l0) 0 (false) (gx_lt (l0) (49) (gx_rt gx_f2 (1) (K (1) M n c)) (false))
theorem h_63_L0 {G : gxG} (hG : gxG0 G) {K : Nat → Nat → Nat → Nat → Bool} (l0 M n c : Nat) : gxJ G gY_63 K 0 [] [gI (l0)] M n c (fi_63_L0 K l0 M n c) := by
  unfold fi_63_L0
  refine gr_iload_n (pc := 0) (i := 0) (l0) (show decode (gy_b gY_63) 0 = .ok (.iload_n 0, 1) by decide +kernel) rfl rfl ?_
  refine gr_iflt (pc := 1) (tgt := 14) (off := 13) hG.2.1 (show decode (gy_b gY_63) 1 = .ok (.ifCond .lt (13), 3) by decide +kernel) (by decide) ?_ ?_
  · exact gj_false
  · refine gr_iload_n (pc := 4) (i := 0) (l0) (show decode (gy_b gY_63) 4 = .ok (.iload_n 0, 1) by decide +kernel) rfl rfl ?_
    refine gr_bipush (pc := 5) (z := 49) 49 (show decode (gy_b gY_63) 5 = .ok (.bipush (49), 2) by decide +kernel) (by decide +kernel) ?_
    refine gr_icmp_ge (pc := 7) (tgt := 14) (off := 7) hG.2.1 (show decode (gy_b gY_63) 7 = .ok (.if_icmp .ge (7), 3) by decide +kernel) (by decide) ?_ ?_
    · exact gj_false
    · refine gr_iconst (pc := 10) (z := 1) 1 (show decode (gy_b gY_63) 10 = .ok (.iconst (1), 1) by decide +kernel) kc_1 ?_
      refine gr_goto (pc := 11) (tgt := 15) (off := 4) (show decode (gy_b gY_63) 11 = .ok (.goto (4), 3) by decide +kernel) (by decide) ?_
      exact gr_ireturn (pc := 15) (show decode (gy_b gY_63) 15 = .ok (.ireturn, 1) by decide +kernel) rfl rfl (by decide) gv_2f
noncomputable def fi_63 (l0 M n c : Nat) (K : Nat → Nat → Nat → Nat → Bool) : Bool := fi_63_L0 K l0 M n c
theorem hm_63 {G : gxG} (hG : gxG0 G) (l0 : Nat) : gxM G gY_63 yX7_isObject [gI (l0)] (fi_63 l0) := gxM_of (L := [gI (l0)]) hG 0 (by decide +kernel) rfl rfl rfl rfl (List.forall_mem_cons.mpr ⟨rfl, fun _ h => nomatch h⟩) (fun M n c K => h_63_L0 hG  l0 M n c)
/-! Farfiles$Client hasHold (I)Z -/
def gY_64 : gxY := (false, prog_5_method_4_code, 2, (Option.some Jvm.ClassFile.FieldType.boolean), "Farfiles$Client", 2, 60, 2, [], "hasHold")
theorem ok_64 {Y : gxY} (h1 : gy_f gY_64 + 1 ≤ gy_f Y) (h2 : 8 + (gy_l gY_64 + 11) + gy_k gY_64 ≤ gy_k Y) : gh_ok Y gY_64 yX3_hasHold 1 := ⟨wd_902, wd_58, ⟨by decide, by decide⟩, by decide +kernel, h1, h2⟩
noncomputable def fi_64_L21 (K : Nat → Nat → Nat → Nat → Bool) (s0 M n c : Nat) : Bool := gx_rt gx_f2 (s0) (K (s0) M n c)
theorem h_64_L21 {G : gxG} (hG : gxG0 G) {K : Nat → Nat → Nat → Nat → Bool} (s0 M n c : Nat) : gxJ G gY_64 K 21 [gI (s0)] [gB, gB] M n c (fi_64_L21 K s0 M n c) := by
  unfold fi_64_L21
  exact gr_ireturn (pc := 21) (show decode (gy_b gY_64) 21 = .ok (.ireturn, 1) by decide +kernel) rfl rfl (by decide) gv_2f
noncomputable def fi_64_L20 (K : Nat → Nat → Nat → Nat → Bool) (M n c : Nat) : Bool := fi_64_L21 K (0) M n c
theorem h_64_L20 {G : gxG} (hG : gxG0 G) {K : Nat → Nat → Nat → Nat → Bool} (M n c : Nat) : gxJ G gY_64 K 20 [] [gB, gB] M n c (fi_64_L20 K M n c) := by
  unfold fi_64_L20
  refine gr_iconst (pc := 20) (z := 0) 0 (show decode (gy_b gY_64) 20 = .ok (.iconst (0), 1) by decide +kernel) kc_0 ?_
  exact h_64_L21 hG (0) M n c
noncomputable def fi_64_L0 (K : Nat → Nat → Nat → Nat → Bool) (l0 l1 M n c : Nat) : Bool := fi_63 (l1) M n c (fun v1 M2 n3 c4 => gx_eq (v1) 0 (fi_64_L20 K  M2 n3 c4) (gx_get (l0) 2 M2 (fun v5 => gx_ald (v5) (l1) M2 (fun v6 => gx_eq (v6) 0 (fi_64_L20 K  M2 n3 c4) (fi_64_L21 K (1) M2 n3 c4)))))
theorem h_64_L0 {G : gxG} (hG : gxG0 G) {K : Nat → Nat → Nat → Nat → Bool} (l0 l1 M n c : Nat) : gxJ G gY_64 K 0 [] [gR 3 (l0), gI (l1)] M n c (fi_64_L0 K l0 l1 M n c) := by
  unfold fi_64_L0
  refine gr_iload_n (pc := 0) (i := 1) (l1) (show decode (gy_b gY_64) 0 = .ok (.iload_n 1, 1) by decide +kernel) rfl rfl ?_
  refine gj_c0 (pc := 1) (Y' := gY_63) (y := yX7_isObject) (vs := [gI (l1)]) (rest := []) (rs := fun v1 => [gI (v1)]) [gI (l1)] rfl (hm_63 hG (l1)) rfl (gh_SN (vs := [gI (l1)]) (rest := []) (show decode (gy_b gY_64) 1 = .ok (.invokestatic 39, 3) by decide +kernel) rfl (ok_63 (by decide) (by decide)) rfl rfl wd_903 wd_904 (Nat.le_of_ble_eq_true rfl)) (fun _ => rfl) ?_
  intro v1 M2 n3 c4
  refine gr_ifeq (pc := 4) (tgt := 20) (off := 16) hG.2.1 (show decode (gy_b gY_64) 4 = .ok (.ifCond .eq (16), 3) by decide +kernel) (by decide) ?_ ?_
  · refine gr_wk [false, false] rfl ?_
    exact h_64_L20 hG  M2 n3 c4
  · refine gr_aload_n (pc := 7) (i := 0) 3 (l0) (show decode (gy_b gY_64) 7 = .ok (.aload_n 0, 1) by decide +kernel) rfl rfl ?_
    refine gr_getf (pc := 8) (index := 15) (t := 3) (j := 2) (σ := 74) (sv := (gR 66)) (show decode (gy_b gY_64) 8 = .ok (.getfield 15, 3) by decide +kernel) rfl rfl (fun _ => rfl) wd_256 (by decide) ?_
    intro v5
    refine gr_iload_n (pc := 11) (i := 1) (l1) (show decode (gy_b gY_64) 11 = .ok (.iload_n 1, 1) by decide +kernel) rfl rfl ?_
    refine gr_zald (pc := 12) (show decode (gy_b gY_64) 12 = .ok (.baload, 1) by decide +kernel) ?_
    intro v6
    refine gr_ifeq (pc := 13) (tgt := 20) (off := 7) hG.2.1 (show decode (gy_b gY_64) 13 = .ok (.ifCond .eq (7), 3) by decide +kernel) (by decide) ?_ ?_
    · refine gr_wk [false, false] rfl ?_
      exact h_64_L20 hG  M2 n3 c4
    · refine gr_iconst (pc := 16) (z := 1) 1 (show decode (gy_b gY_64) 16 = .ok (.iconst (1), 1) by decide +kernel) kc_1 ?_
      refine gr_goto (pc := 17) (tgt := 21) (off := 4) (show decode (gy_b gY_64) 17 = .ok (.goto (4), 3) by decide +kernel) (by decide) ?_
      refine gr_wk [false, false] rfl ?_
      exact h_64_L21 hG (1) M2 n3 c4
noncomputable def fi_64 (l0 l1 M n c : Nat) (K : Nat → Nat → Nat → Nat → Bool) : Bool := fi_64_L0 K l0 l1 M n c
theorem hm_64 {G : gxG} (hG : gxG0 G) (l0 l1 : Nat) : gxM G gY_64 yX3_hasHold [gR 3 (l0), gI (l1)] (fi_64 l0 l1) := gxM_of (L := [gR 3 (l0), gI (l1)]) hG 0 (by decide +kernel) rfl rfl rfl rfl (List.forall_mem_cons.mpr ⟨rfl, List.forall_mem_cons.mpr ⟨rfl, fun _ h => nomatch h⟩⟩) (fun M n c K => h_64_L0 hG  l0 l1 M n c)
/-! Farfiles$Client nearBits ()I -/
def gY_65 : gxY := (false, prog_5_method_2_code, 3, (Option.some Jvm.ClassFile.FieldType.int), "Farfiles$Client", 1, 40, 0, [], "nearBits")
theorem ok_65 {Y : gxY} (h1 : gy_f gY_65 + 1 ≤ gy_f Y) (h2 : 8 + (gy_l gY_65 + 11) + gy_k gY_65 ≤ gy_k Y) : gh_ok Y gY_65 yX3_nearBits 0 := ⟨wd_909, wd_58, ⟨by decide, by decide⟩, by decide +kernel, h1, h2⟩
noncomputable def fi_65_L24 (K : Nat → Nat → Nat → Nat → Bool) (ih_4 : Nat → Nat → Nat → Nat → Nat → Nat → Bool) (l0 l1 l2 M n c : Nat) : Bool := gx_add (l2) 1 (fun z3 => ih_4 (l0) (l1) (z3) M n c)
theorem h_65_L24 {G : gxG} (hG : gxG0 G) {K : Nat → Nat → Nat → Nat → Bool} {ih_4 : Nat → Nat → Nat → Nat → Nat → Nat → Bool} (hi_4 : ∀ l0 l1 l2 M n c : Nat, gxJ G gY_65 K 4 [] [gR 3 (l0), gI (l1), gI (l2)] M n c (ih_4 l0 l1 l2 M n c)) (l0 l1 l2 M n c : Nat) : gxJ G gY_65 K 24 [] [gR 3 (l0), gI (l1), gI (l2)] M n c (fi_65_L24 K ih_4 l0 l1 l2 M n c) := by
  unfold fi_65_L24
  refine gr_iinc (pc := 24) (i := 2) (d := 1) (z := 1) (L' := fun z3 => [gR 3 (l0), gI (l1), gI (z3)]) (show decode (gy_b gY_65) 24 = .ok (.iinc 2 (1), 3) by decide +kernel) (by decide +kernel) (by decide) rfl rfl (fun _ => rfl) ?_
  intro z3
  refine gr_goto (pc := 27) (tgt := 4) (off := -23) (show decode (gy_b gY_65) 27 = .ok (.goto (-23), 3) by decide +kernel) (by decide) ?_
  exact hi_4 (l0) (l1) (z3) M n c
noncomputable def fi_65_B4 (K : Nat → Nat → Nat → Nat → Bool) (ih_4 : Nat → Nat → Nat → Nat → Nat → Nat → Bool) (l0 l1 l2 M n c : Nat) : Bool := gx_lt (l2) (3) (gx_get (l0) 1 M (fun v1 => gx_ald (v1) (l2) M (fun v2 => gx_eq (v2) 0 (fi_65_L24 K ih_4 (l0) (l1) (l2) M n c) (gx_shl (1) (l2) (fun z4 => gx_or (l1) (z4) (fun z5 => fi_65_L24 K ih_4 (l0) (z5) (l2) M n c)))))) (gx_rt gx_f0 (l1) (K (l1) M n c))
theorem hb_65_B4 {G : gxG} (hG : gxG0 G) {K : Nat → Nat → Nat → Nat → Bool} {ih_4 : Nat → Nat → Nat → Nat → Nat → Nat → Bool} (hi_4 : ∀ l0 l1 l2 M n c : Nat, gxJ G gY_65 K 4 [] [gR 3 (l0), gI (l1), gI (l2)] M n c (ih_4 l0 l1 l2 M n c)) (l0 l1 l2 M n c : Nat) : gxJ G gY_65 K 4 [] [gR 3 (l0), gI (l1), gI (l2)] M n c (fi_65_B4 K ih_4 l0 l1 l2 M n c) := by
  unfold fi_65_B4
  refine gr_iload_n (pc := 4) (i := 2) (l2) (show decode (gy_b gY_65) 4 = .ok (.iload_n 2, 1) by decide +kernel) rfl rfl ?_
  refine gr_iconst (pc := 5) (z := 3) 3 (show decode (gy_b gY_65) 5 = .ok (.iconst (3), 1) by decide +kernel) kc_3 ?_
  refine gr_icmp_ge (pc := 6) (tgt := 30) (off := 24) hG.2.1 (show decode (gy_b gY_65) 6 = .ok (.if_icmp .ge (24), 3) by decide +kernel) (by decide) ?_ ?_
  · refine gr_iload_n (pc := 30) (i := 1) (l1) (show decode (gy_b gY_65) 30 = .ok (.iload_n 1, 1) by decide +kernel) rfl rfl ?_
    exact gr_ireturn (pc := 31) (show decode (gy_b gY_65) 31 = .ok (.ireturn, 1) by decide +kernel) rfl rfl (by decide) gv_0
  · refine gr_aload_n (pc := 9) (i := 0) 3 (l0) (show decode (gy_b gY_65) 9 = .ok (.aload_n 0, 1) by decide +kernel) rfl rfl ?_
    refine gr_getf (pc := 10) (index := 9) (t := 3) (j := 1) (σ := 74) (sv := (gR 66)) (show decode (gy_b gY_65) 10 = .ok (.getfield 9, 3) by decide +kernel) rfl rfl (fun _ => rfl) wd_254 (by decide) ?_
    intro v1
    refine gr_iload_n (pc := 13) (i := 2) (l2) (show decode (gy_b gY_65) 13 = .ok (.iload_n 2, 1) by decide +kernel) rfl rfl ?_
    refine gr_zald (pc := 14) (show decode (gy_b gY_65) 14 = .ok (.baload, 1) by decide +kernel) ?_
    intro v2
    refine gr_ifeq (pc := 15) (tgt := 24) (off := 9) hG.2.1 (show decode (gy_b gY_65) 15 = .ok (.ifCond .eq (9), 3) by decide +kernel) (by decide) ?_ ?_
    · exact h_65_L24 hG hi_4 (l0) (l1) (l2) M n c
    · refine gr_iload_n (pc := 18) (i := 1) (l1) (show decode (gy_b gY_65) 18 = .ok (.iload_n 1, 1) by decide +kernel) rfl rfl ?_
      refine gr_iconst (pc := 19) (z := 1) 1 (show decode (gy_b gY_65) 19 = .ok (.iconst (1), 1) by decide +kernel) kc_1 ?_
      refine gr_iload_n (pc := 20) (i := 2) (l2) (show decode (gy_b gY_65) 20 = .ok (.iload_n 2, 1) by decide +kernel) rfl rfl ?_
      refine gr_ishl (pc := 21) (show decode (gy_b gY_65) 21 = .ok (.ishl, 1) by decide +kernel) ?_
      intro z4
      refine gr_ior (pc := 22) hG.2.1 (show decode (gy_b gY_65) 22 = .ok (.ior, 1) by decide +kernel) ?_
      intro z5
      refine gr_istore_n (pc := 23) (i := 1) (L' := [gR 3 (l0), gI (z5), gI (l2)]) (show decode (gy_b gY_65) 23 = .ok (.istore_n 1, 1) by decide +kernel) rfl (by decide) rfl rfl ?_
      exact h_65_L24 hG hi_4 (l0) (z5) (l2) M n c
noncomputable def fi_65_W4 (K : Nat → Nat → Nat → Nat → Bool) (u : Nat) : Nat → Nat → Nat → Nat → Nat → Nat → Bool := Nat.rec (motive := fun _ => Nat → Nat → Nat → Nat → Nat → Nat → Bool) (fun _ _ _ _ _ _ => false) (fun _ ih => fi_65_B4 K ih) u
theorem hw_65_4 {G : gxG} (hG : gxG0 G) {K : Nat → Nat → Nat → Nat → Bool} (u : Nat) : ∀ l0 l1 l2 M n c : Nat, gxJ G gY_65 K 4 [] [gR 3 (l0), gI (l1), gI (l2)] M n c (fi_65_W4 K u l0 l1 l2 M n c) := by
  induction u with
  | zero => intro l0 l1 l2 M n c; exact gj_false
  | succ u ih => intro l0 l1 l2 M n c; exact hb_65_B4 hG ih l0 l1 l2 M n c
noncomputable def fi_65_L0 (K : Nat → Nat → Nat → Nat → Bool) (l0 M n c : Nat) : Bool := fi_65_W4 K 65536 (l0) (0) (0) M n c
theorem h_65_L0 {G : gxG} (hG : gxG0 G) {K : Nat → Nat → Nat → Nat → Bool} (l0 M n c : Nat) : gxJ G gY_65 K 0 [] [gR 3 (l0), gB, gB] M n c (fi_65_L0 K l0 M n c) := by
  unfold fi_65_L0
  refine gr_iconst (pc := 0) (z := 0) 0 (show decode (gy_b gY_65) 0 = .ok (.iconst (0), 1) by decide +kernel) kc_0 ?_
  refine gr_istore_n (pc := 1) (i := 1) (L' := [gR 3 (l0), gI (0), gB]) (show decode (gy_b gY_65) 1 = .ok (.istore_n 1, 1) by decide +kernel) rfl (by decide) rfl rfl ?_
  refine gr_iconst (pc := 2) (z := 0) 0 (show decode (gy_b gY_65) 2 = .ok (.iconst (0), 1) by decide +kernel) kc_0 ?_
  refine gr_istore_n (pc := 3) (i := 2) (L' := [gR 3 (l0), gI (0), gI (0)]) (show decode (gy_b gY_65) 3 = .ok (.istore_n 2, 1) by decide +kernel) rfl (by decide) rfl rfl ?_
  exact hw_65_4 hG 65536 (l0) (0) (0) M n c
noncomputable def fi_65 (l0 M n c : Nat) (K : Nat → Nat → Nat → Nat → Bool) : Bool := fi_65_L0 K l0 M n c
theorem hm_65 {G : gxG} (hG : gxG0 G) (l0 : Nat) : gxM G gY_65 yX3_nearBits [gR 3 (l0)] (fi_65 l0) := gxM_of (L := [gR 3 (l0), gB, gB]) hG 2 (by decide +kernel) rfl rfl rfl rfl (List.forall_mem_cons.mpr ⟨rfl, fun _ h => nomatch h⟩) (fun M n c K => h_65_L0 hG  l0 M n c)
/-! Farfiles$Client hasRoom (LFarfiles$Log;)Z -/
def gY_66 : gxY := (false, prog_5_method_7_code, 2, (Option.some Jvm.ClassFile.FieldType.boolean), "Farfiles$Client", 1, 40, 2, [], "hasRoom")
theorem ok_66 {Y : gxY} (h1 : gy_f gY_66 + 1 ≤ gy_f Y) (h2 : 8 + (gy_l gY_66 + 11) + gy_k gY_66 ≤ gy_k Y) : gh_ok Y gY_66 yX3_hasRoom 1 := ⟨wd_913, wd_58, ⟨by decide, by decide⟩, by decide +kernel, h1, h2⟩
noncomputable def fi_66_L0 (K : Nat → Nat → Nat → Nat → Bool) (l0 l1 M n c : Nat) : Bool := gx_get (l0) 7 M (fun v1 => gx_lt (v1) (8) (gx_rt gx_f2 (1) (K (1) M n c)) (false))
theorem h_66_L0 {G : gxG} (hG : gxG0 G) {K : Nat → Nat → Nat → Nat → Bool} (l0 l1 M n c : Nat) : gxJ G gY_66 K 0 [] [gR 3 (l0), gR 5 (l1)] M n c (fi_66_L0 K l0 l1 M n c) := by
  unfold fi_66_L0
  refine gr_aload_n (pc := 0) (i := 0) 3 (l0) (show decode (gy_b gY_66) 0 = .ok (.aload_n 0, 1) by decide +kernel) rfl rfl ?_
  refine gr_getf (pc := 1) (index := 66) (t := 3) (j := 7) (σ := 0) (sv := gI) (show decode (gy_b gY_66) 1 = .ok (.getfield 66, 3) by decide +kernel) rfl rfl (fun _ => rfl) wd_263 (by decide) ?_
  intro v1
  refine gr_bipush (pc := 4) (z := 8) 8 (show decode (gy_b gY_66) 4 = .ok (.bipush (8), 2) by decide +kernel) (by decide +kernel) ?_
  refine gr_icmp_lt (pc := 6) (tgt := 18) (off := 12) hG.2.1 (show decode (gy_b gY_66) 6 = .ok (.if_icmp .lt (12), 3) by decide +kernel) (by decide) ?_ ?_
  · refine gr_iconst (pc := 18) (z := 1) 1 (show decode (gy_b gY_66) 18 = .ok (.iconst (1), 1) by decide +kernel) kc_1 ?_
    refine gr_goto (pc := 19) (tgt := 23) (off := 4) (show decode (gy_b gY_66) 19 = .ok (.goto (4), 3) by decide +kernel) (by decide) ?_
    exact gr_ireturn (pc := 23) (show decode (gy_b gY_66) 23 = .ok (.ireturn, 1) by decide +kernel) rfl rfl (by decide) gv_2f
  · exact gj_false
noncomputable def fi_66 (l0 l1 M n c : Nat) (K : Nat → Nat → Nat → Nat → Bool) : Bool := fi_66_L0 K l0 l1 M n c
theorem hm_66 {G : gxG} (hG : gxG0 G) (l0 l1 : Nat) : gxM G gY_66 yX3_hasRoom [gR 3 (l0), gR 5 (l1)] (fi_66 l0 l1) := gxM_of (L := [gR 3 (l0), gR 5 (l1)]) hG 0 (by decide +kernel) rfl rfl rfl rfl (List.forall_mem_cons.mpr ⟨rfl, List.forall_mem_cons.mpr ⟨rfl, fun _ h => nomatch h⟩⟩) (fun M n c K => h_66_L0 hG  l0 l1 M n c)
/-! Farfiles$Client takeUp (LFarfiles$Log;I)V -/
def gY_67 : gxY := (false, prog_5_method_10_code, 3, (Option.none : Option FieldType), "Farfiles$Client", 2, 60, 5, [], "takeUp")
theorem ok_67 {Y : gxY} (h1 : gy_f gY_67 + 1 ≤ gy_f Y) (h2 : 8 + (gy_l gY_67 + 11) + gy_k gY_67 ≤ gy_k Y) : gh_ok Y gY_67 yX3_takeUp 2 := ⟨wd_937, wd_58, ⟨by decide, by decide⟩, by decide +kernel, h1, h2⟩
noncomputable def fi_67_L53 (K : Nat → Nat → Nat → Nat → Bool) (l0 l2 M n c : Nat) : Bool := gx_get (l0) 8 M (fun v7 => gx_add (v7) (1) (fun z8 => gx_put (l0) 8 (z8) M gx_f0 (fun M9 => gx_get (l0) 4 M9 (fun v10 => gx_get (l0) 8 M9 (fun v11 => gx_ast (v10) (l2) (v11) M9 gx_f0 (fun M12 => K 0 M12 n c))))))
theorem h_67_L53 {G : gxG} (hG : gxG0 G) {K : Nat → Nat → Nat → Nat → Bool} (l0 l2 M n c : Nat) : gxJ G gY_67 K 53 [] [gR 3 (l0), gB, gI (l2)] M n c (fi_67_L53 K l0 l2 M n c) := by
  unfold fi_67_L53
  refine gr_aload_n (pc := 53) (i := 0) 3 (l0) (show decode (gy_b gY_67) 53 = .ok (.aload_n 0, 1) by decide +kernel) rfl rfl ?_
  refine gr_dup (b := gB) (pc := 54) (show decode (gy_b gY_67) 54 = .ok (.dup, 1) by decide +kernel) rfl ?_
  refine gr_getf (pc := 55) (index := 43) (t := 3) (j := 8) (σ := 0) (sv := gI) (show decode (gy_b gY_67) 55 = .ok (.getfield 43, 3) by decide +kernel) rfl rfl (fun _ => rfl) wd_265 (by decide) ?_
  intro v7
  refine gr_iconst (pc := 58) (z := 1) 1 (show decode (gy_b gY_67) 58 = .ok (.iconst (1), 1) by decide +kernel) kc_1 ?_
  refine gr_iadd (pc := 59) (show decode (gy_b gY_67) 59 = .ok (.iadd, 1) by decide +kernel) ?_
  intro z8
  refine gr_putf (pc := 60) (index := 43) (t := 3) (j := 8) (σ := 0) (sv := gI) (f := gx_f0) (ty := .int) (show decode (gy_b gY_67) 60 = .ok (.putfield 43, 3) by decide +kernel) rfl rfl (fun _ => rfl) wd_265 rfl gv_0 rfl ?_
  intro M9
  refine gr_aload_n (pc := 63) (i := 0) 3 (l0) (show decode (gy_b gY_67) 63 = .ok (.aload_n 0, 1) by decide +kernel) rfl rfl ?_
  refine gr_getf (pc := 64) (index := 22) (t := 3) (j := 4) (σ := 72) (sv := (gR 64)) (show decode (gy_b gY_67) 64 = .ok (.getfield 22, 3) by decide +kernel) rfl rfl (fun _ => rfl) wd_258 (by decide) ?_
  intro v10
  refine gr_iload_n (pc := 67) (i := 2) (l2) (show decode (gy_b gY_67) 67 = .ok (.iload_n 2, 1) by decide +kernel) rfl rfl ?_
  refine gr_aload_n (pc := 68) (i := 0) 3 (l0) (show decode (gy_b gY_67) 68 = .ok (.aload_n 0, 1) by decide +kernel) rfl rfl ?_
  refine gr_getf (pc := 69) (index := 43) (t := 3) (j := 8) (σ := 0) (sv := gI) (show decode (gy_b gY_67) 69 = .ok (.getfield 43, 3) by decide +kernel) rfl rfl (fun _ => rfl) wd_265 (by decide) ?_
  intro v11
  refine gr_iast (pc := 72) hG.2.1 (show decode (gy_b gY_67) 72 = .ok (.iastore, 1) by decide +kernel) ?_
  intro M12
  exact gr_return (pc := 73) (show decode (gy_b gY_67) 73 = .ok (.return_, 1) by decide +kernel) rfl rfl
noncomputable def fi_67_L0 (K : Nat → Nat → Nat → Nat → Bool) (l0 l1 l2 M n c : Nat) : Bool := fi_63 (l2) M n c (fun v1 M2 n3 c4 => gx_eq (v1) 0 (false) (gx_get (l0) 2 M2 (fun v5 => gx_ald (v5) (l2) M2 (fun v6 => gx_eq (v6) 0 (gx_get (l0) 7 M2 (fun v13 => gx_lt (v13) (8) (gx_get (l0) 2 M2 (fun v14 => gx_ast (v14) (l2) (1) M2 gx_f2 (fun M15 => gx_get (l0) 7 M15 (fun v16 => gx_add (v16) (1) (fun z17 => gx_put (l0) 7 (z17) M15 gx_f0 (fun M18 => fi_67_L53 K (l0) (l2) M18 n3 c4)))))) (false))) (fi_67_L53 K (l0) (l2) M2 n3 c4)))))
theorem h_67_L0 {G : gxG} (hG : gxG0 G) {K : Nat → Nat → Nat → Nat → Bool} (l0 l1 l2 M n c : Nat) : gxJ G gY_67 K 0 [] [gR 3 (l0), gR 5 (l1), gI (l2)] M n c (fi_67_L0 K l0 l1 l2 M n c) := by
  unfold fi_67_L0
  refine gr_iload_n (pc := 0) (i := 2) (l2) (show decode (gy_b gY_67) 0 = .ok (.iload_n 2, 1) by decide +kernel) rfl rfl ?_
  refine gj_c0 (pc := 1) (Y' := gY_63) (y := yX7_isObject) (vs := [gI (l2)]) (rest := []) (rs := fun v1 => [gI (v1)]) [gI (l2)] rfl (hm_63 hG (l2)) rfl (gh_SN (vs := [gI (l2)]) (rest := []) (show decode (gy_b gY_67) 1 = .ok (.invokestatic 39, 3) by decide +kernel) rfl (ok_63 (by decide) (by decide)) rfl rfl wd_903 wd_904 (Nat.le_of_ble_eq_true rfl)) (fun _ => rfl) ?_
  intro v1 M2 n3 c4
  refine gr_ifne (pc := 4) (tgt := 8) (off := 4) hG.2.1 (show decode (gy_b gY_67) 4 = .ok (.ifCond .ne (4), 3) by decide +kernel) (by decide) ?_ ?_
  · refine gr_aload_n (pc := 8) (i := 0) 3 (l0) (show decode (gy_b gY_67) 8 = .ok (.aload_n 0, 1) by decide +kernel) rfl rfl ?_
    refine gr_getf (pc := 9) (index := 15) (t := 3) (j := 2) (σ := 74) (sv := (gR 66)) (show decode (gy_b gY_67) 9 = .ok (.getfield 15, 3) by decide +kernel) rfl rfl (fun _ => rfl) wd_256 (by decide) ?_
    intro v5
    refine gr_iload_n (pc := 12) (i := 2) (l2) (show decode (gy_b gY_67) 12 = .ok (.iload_n 2, 1) by decide +kernel) rfl rfl ?_
    refine gr_zald (pc := 13) (show decode (gy_b gY_67) 13 = .ok (.baload, 1) by decide +kernel) ?_
    intro v6
    refine gr_ifne (pc := 14) (tgt := 53) (off := 39) hG.2.1 (show decode (gy_b gY_67) 14 = .ok (.ifCond .ne (39), 3) by decide +kernel) (by decide) ?_ ?_
    · refine gr_wk [true, false, true] rfl ?_
      exact h_67_L53 hG (l0) (l2) M2 n3 c4
    · refine gr_aload_n (pc := 17) (i := 0) 3 (l0) (show decode (gy_b gY_67) 17 = .ok (.aload_n 0, 1) by decide +kernel) rfl rfl ?_
      refine gr_getf (pc := 18) (index := 66) (t := 3) (j := 7) (σ := 0) (sv := gI) (show decode (gy_b gY_67) 18 = .ok (.getfield 66, 3) by decide +kernel) rfl rfl (fun _ => rfl) wd_263 (by decide) ?_
      intro v13
      refine gr_bipush (pc := 21) (z := 8) 8 (show decode (gy_b gY_67) 21 = .ok (.bipush (8), 2) by decide +kernel) (by decide +kernel) ?_
      refine gr_icmp_lt (pc := 23) (tgt := 36) (off := 13) hG.2.1 (show decode (gy_b gY_67) 23 = .ok (.if_icmp .lt (13), 3) by decide +kernel) (by decide) ?_ ?_
      · refine gr_aload_n (pc := 36) (i := 0) 3 (l0) (show decode (gy_b gY_67) 36 = .ok (.aload_n 0, 1) by decide +kernel) rfl rfl ?_
        refine gr_getf (pc := 37) (index := 15) (t := 3) (j := 2) (σ := 74) (sv := (gR 66)) (show decode (gy_b gY_67) 37 = .ok (.getfield 15, 3) by decide +kernel) rfl rfl (fun _ => rfl) wd_256 (by decide) ?_
        intro v14
        refine gr_iload_n (pc := 40) (i := 2) (l2) (show decode (gy_b gY_67) 40 = .ok (.iload_n 2, 1) by decide +kernel) rfl rfl ?_
        refine gr_iconst (pc := 41) (z := 1) 1 (show decode (gy_b gY_67) 41 = .ok (.iconst (1), 1) by decide +kernel) kc_1 ?_
        refine gr_zast (pc := 42) hG.2.1 (show decode (gy_b gY_67) 42 = .ok (.bastore, 1) by decide +kernel) ?_
        intro M15
        refine gr_aload_n (pc := 43) (i := 0) 3 (l0) (show decode (gy_b gY_67) 43 = .ok (.aload_n 0, 1) by decide +kernel) rfl rfl ?_
        refine gr_dup (b := gB) (pc := 44) (show decode (gy_b gY_67) 44 = .ok (.dup, 1) by decide +kernel) rfl ?_
        refine gr_getf (pc := 45) (index := 66) (t := 3) (j := 7) (σ := 0) (sv := gI) (show decode (gy_b gY_67) 45 = .ok (.getfield 66, 3) by decide +kernel) rfl rfl (fun _ => rfl) wd_263 (by decide) ?_
        intro v16
        refine gr_iconst (pc := 48) (z := 1) 1 (show decode (gy_b gY_67) 48 = .ok (.iconst (1), 1) by decide +kernel) kc_1 ?_
        refine gr_iadd (pc := 49) (show decode (gy_b gY_67) 49 = .ok (.iadd, 1) by decide +kernel) ?_
        intro z17
        refine gr_putf (pc := 50) (index := 66) (t := 3) (j := 7) (σ := 0) (sv := gI) (f := gx_f0) (ty := .int) (show decode (gy_b gY_67) 50 = .ok (.putfield 66, 3) by decide +kernel) rfl rfl (fun _ => rfl) wd_263 rfl gv_0 rfl ?_
        intro M18
        refine gr_wk [true, false, true] rfl ?_
        exact h_67_L53 hG (l0) (l2) M18 n3 c4
      · exact gj_false
  · exact gj_false
noncomputable def fi_67 (l0 l1 l2 M n c : Nat) (K : Nat → Nat → Nat → Nat → Bool) : Bool := fi_67_L0 K l0 l1 l2 M n c
theorem hm_67 {G : gxG} (hG : gxG0 G) (l0 l1 l2 : Nat) : gxM G gY_67 yX3_takeUp [gR 3 (l0), gR 5 (l1), gI (l2)] (fi_67 l0 l1 l2) := gxM_of (L := [gR 3 (l0), gR 5 (l1), gI (l2)]) hG 0 (by decide +kernel) rfl rfl rfl rfl (List.forall_mem_cons.mpr ⟨rfl, List.forall_mem_cons.mpr ⟨rfl, List.forall_mem_cons.mpr ⟨rfl, fun _ h => nomatch h⟩⟩⟩) (fun M n c K => h_67_L0 hG  l0 l1 l2 M n c)
/-! Farfiles$Client isNear (I)Z -/
def gY_68 : gxY := (false, prog_5_method_3_code, 2, (Option.some Jvm.ClassFile.FieldType.boolean), "Farfiles$Client", 1, 40, 2, [], "isNear")
theorem ok_68 {Y : gxY} (h1 : gy_f gY_68 + 1 ≤ gy_f Y) (h2 : 8 + (gy_l gY_68 + 11) + gy_k gY_68 ≤ gy_k Y) : gh_ok Y gY_68 yX3_isNear 1 := ⟨wd_951, wd_58, ⟨by decide, by decide⟩, by decide +kernel, h1, h2⟩
noncomputable def fi_68_L23 (K : Nat → Nat → Nat → Nat → Bool) (s0 M n c : Nat) : Bool := gx_rt gx_f2 (s0) (K (s0) M n c)
theorem h_68_L23 {G : gxG} (hG : gxG0 G) {K : Nat → Nat → Nat → Nat → Bool} (s0 M n c : Nat) : gxJ G gY_68 K 23 [gI (s0)] [gB, gB] M n c (fi_68_L23 K s0 M n c) := by
  unfold fi_68_L23
  exact gr_ireturn (pc := 23) (show decode (gy_b gY_68) 23 = .ok (.ireturn, 1) by decide +kernel) rfl rfl (by decide) gv_2f
noncomputable def fi_68_L22 (K : Nat → Nat → Nat → Nat → Bool) (M n c : Nat) : Bool := fi_68_L23 K (0) M n c
theorem h_68_L22 {G : gxG} (hG : gxG0 G) {K : Nat → Nat → Nat → Nat → Bool} (M n c : Nat) : gxJ G gY_68 K 22 [] [gB, gB] M n c (fi_68_L22 K M n c) := by
  unfold fi_68_L22
  refine gr_iconst (pc := 22) (z := 0) 0 (show decode (gy_b gY_68) 22 = .ok (.iconst (0), 1) by decide +kernel) kc_0 ?_
  exact h_68_L23 hG (0) M n c
noncomputable def fi_68_L0 (K : Nat → Nat → Nat → Nat → Bool) (l0 l1 M n c : Nat) : Bool := gx_lt (l1) 0 (fi_68_L22 K  M n c) (gx_lt (l1) (3) (gx_get (l0) 1 M (fun v1 => gx_ald (v1) (l1) M (fun v2 => gx_eq (v2) 0 (fi_68_L22 K  M n c) (fi_68_L23 K (1) M n c)))) (fi_68_L22 K  M n c))
theorem h_68_L0 {G : gxG} (hG : gxG0 G) {K : Nat → Nat → Nat → Nat → Bool} (l0 l1 M n c : Nat) : gxJ G gY_68 K 0 [] [gR 3 (l0), gI (l1)] M n c (fi_68_L0 K l0 l1 M n c) := by
  unfold fi_68_L0
  refine gr_iload_n (pc := 0) (i := 1) (l1) (show decode (gy_b gY_68) 0 = .ok (.iload_n 1, 1) by decide +kernel) rfl rfl ?_
  refine gr_iflt (pc := 1) (tgt := 22) (off := 21) hG.2.1 (show decode (gy_b gY_68) 1 = .ok (.ifCond .lt (21), 3) by decide +kernel) (by decide) ?_ ?_
  · refine gr_wk [false, false] rfl ?_
    exact h_68_L22 hG  M n c
  · refine gr_iload_n (pc := 4) (i := 1) (l1) (show decode (gy_b gY_68) 4 = .ok (.iload_n 1, 1) by decide +kernel) rfl rfl ?_
    refine gr_iconst (pc := 5) (z := 3) 3 (show decode (gy_b gY_68) 5 = .ok (.iconst (3), 1) by decide +kernel) kc_3 ?_
    refine gr_icmp_ge (pc := 6) (tgt := 22) (off := 16) hG.2.1 (show decode (gy_b gY_68) 6 = .ok (.if_icmp .ge (16), 3) by decide +kernel) (by decide) ?_ ?_
    · refine gr_wk [false, false] rfl ?_
      exact h_68_L22 hG  M n c
    · refine gr_aload_n (pc := 9) (i := 0) 3 (l0) (show decode (gy_b gY_68) 9 = .ok (.aload_n 0, 1) by decide +kernel) rfl rfl ?_
      refine gr_getf (pc := 10) (index := 9) (t := 3) (j := 1) (σ := 74) (sv := (gR 66)) (show decode (gy_b gY_68) 10 = .ok (.getfield 9, 3) by decide +kernel) rfl rfl (fun _ => rfl) wd_254 (by decide) ?_
      intro v1
      refine gr_iload_n (pc := 13) (i := 1) (l1) (show decode (gy_b gY_68) 13 = .ok (.iload_n 1, 1) by decide +kernel) rfl rfl ?_
      refine gr_zald (pc := 14) (show decode (gy_b gY_68) 14 = .ok (.baload, 1) by decide +kernel) ?_
      intro v2
      refine gr_ifeq (pc := 15) (tgt := 22) (off := 7) hG.2.1 (show decode (gy_b gY_68) 15 = .ok (.ifCond .eq (7), 3) by decide +kernel) (by decide) ?_ ?_
      · refine gr_wk [false, false] rfl ?_
        exact h_68_L22 hG  M n c
      · refine gr_iconst (pc := 18) (z := 1) 1 (show decode (gy_b gY_68) 18 = .ok (.iconst (1), 1) by decide +kernel) kc_1 ?_
        refine gr_goto (pc := 19) (tgt := 23) (off := 4) (show decode (gy_b gY_68) 19 = .ok (.goto (4), 3) by decide +kernel) (by decide) ?_
        refine gr_wk [false, false] rfl ?_
        exact h_68_L23 hG (1) M n c
noncomputable def fi_68 (l0 l1 M n c : Nat) (K : Nat → Nat → Nat → Nat → Bool) : Bool := fi_68_L0 K l0 l1 M n c
theorem hm_68 {G : gxG} (hG : gxG0 G) (l0 l1 : Nat) : gxM G gY_68 yX3_isNear [gR 3 (l0), gI (l1)] (fi_68 l0 l1) := gxM_of (L := [gR 3 (l0), gI (l1)]) hG 0 (by decide +kernel) rfl rfl rfl rfl (List.forall_mem_cons.mpr ⟨rfl, List.forall_mem_cons.mpr ⟨rfl, fun _ h => nomatch h⟩⟩) (fun M n c K => h_68_L0 hG  l0 l1 M n c)
/-! Farfiles$ActSet has (I)Z -/
def gY_69 : gxY := (false, prog_3_method_2_code, 2, (Option.some Jvm.ClassFile.FieldType.boolean), "Farfiles$ActSet", 1, 40, 2, [], "has")
theorem ok_69 {Y : gxY} (h1 : gy_f gY_69 + 1 ≤ gy_f Y) (h2 : 8 + (gy_l gY_69 + 11) + gy_k gY_69 ≤ gy_k Y) : gh_ok Y gY_69 yX1_has 1 := ⟨wd_925, wd_55, ⟨by decide, by decide⟩, by decide +kernel, h1, h2⟩
noncomputable def fi_69_L37 (K : Nat → Nat → Nat → Nat → Bool) (s0 M n c : Nat) : Bool := gx_rt gx_f2 (s0) (K (s0) M n c)
theorem h_69_L37 {G : gxG} (hG : gxG0 G) {K : Nat → Nat → Nat → Nat → Bool} (s0 M n c : Nat) : gxJ G gY_69 K 37 [gI (s0)] [gB, gB] M n c (fi_69_L37 K s0 M n c) := by
  unfold fi_69_L37
  exact gr_ireturn (pc := 37) (show decode (gy_b gY_69) 37 = .ok (.ireturn, 1) by decide +kernel) rfl rfl (by decide) gv_2f
noncomputable def fi_69_L36 (K : Nat → Nat → Nat → Nat → Bool) (M n c : Nat) : Bool := fi_69_L37 K (0) M n c
theorem h_69_L36 {G : gxG} (hG : gxG0 G) {K : Nat → Nat → Nat → Nat → Bool} (M n c : Nat) : gxJ G gY_69 K 36 [] [gB, gB] M n c (fi_69_L36 K M n c) := by
  unfold fi_69_L36
  refine gr_iconst (pc := 36) (z := 0) 0 (show decode (gy_b gY_69) 36 = .ok (.iconst (0), 1) by decide +kernel) kc_0 ?_
  exact h_69_L37 hG (0) M n c
noncomputable def fi_69_L0 (K : Nat → Nat → Nat → Nat → Bool) (l0 l1 M n c : Nat) : Bool := gx_lt (l1) 0 (fi_69_L36 K  M n c) (gx_lt (l1) (250) (gx_get (l0) 0 M (fun v1 => gx_shr (l1) (6) (fun z2 => gx_ald (v1) (z2) M (fun v3 => gx_and (l1) (63) (fun z4 => gx_lus (v3) (z4) (fun z5 => gx_lcm (Nat.land (z5) (1)) (0) (fun z6 => gx_eq (z6) 0 (fi_69_L36 K  M n c) (fi_69_L37 K (1) M n c)))))))) (fi_69_L36 K  M n c))
theorem h_69_L0 {G : gxG} (hG : gxG0 G) {K : Nat → Nat → Nat → Nat → Bool} (l0 l1 M n c : Nat) : gxJ G gY_69 K 0 [] [gR 1 (l0), gI (l1)] M n c (fi_69_L0 K l0 l1 M n c) := by
  unfold fi_69_L0
  refine gr_iload_n (pc := 0) (i := 1) (l1) (show decode (gy_b gY_69) 0 = .ok (.iload_n 1, 1) by decide +kernel) rfl rfl ?_
  refine gr_iflt (pc := 1) (tgt := 36) (off := 35) hG.2.1 (show decode (gy_b gY_69) 1 = .ok (.ifCond .lt (35), 3) by decide +kernel) (by decide) ?_ ?_
  · refine gr_wk [false, false] rfl ?_
    exact h_69_L36 hG  M n c
  · refine gr_iload_n (pc := 4) (i := 1) (l1) (show decode (gy_b gY_69) 4 = .ok (.iload_n 1, 1) by decide +kernel) rfl rfl ?_
    refine gr_sipush (pc := 5) (z := 250) 250 (show decode (gy_b gY_69) 5 = .ok (.sipush (250), 3) by decide +kernel) (by decide +kernel) ?_
    refine gr_icmp_ge (pc := 8) (tgt := 36) (off := 28) hG.2.1 (show decode (gy_b gY_69) 8 = .ok (.if_icmp .ge (28), 3) by decide +kernel) (by decide) ?_ ?_
    · refine gr_wk [false, false] rfl ?_
      exact h_69_L36 hG  M n c
    · refine gr_aload_n (pc := 11) (i := 0) 1 (l0) (show decode (gy_b gY_69) 11 = .ok (.aload_n 0, 1) by decide +kernel) rfl rfl ?_
      refine gr_getf (pc := 12) (index := 9) (t := 1) (j := 0) (σ := 76) (sv := (gR 68)) (show decode (gy_b gY_69) 12 = .ok (.getfield 9, 3) by decide +kernel) rfl rfl (fun _ => rfl) wd_130 (by decide) ?_
      intro v1
      refine gr_iload_n (pc := 15) (i := 1) (l1) (show decode (gy_b gY_69) 15 = .ok (.iload_n 1, 1) by decide +kernel) rfl rfl ?_
      refine gr_bipush (pc := 16) (z := 6) 6 (show decode (gy_b gY_69) 16 = .ok (.bipush (6), 2) by decide +kernel) (by decide +kernel) ?_
      refine gr_ishr (pc := 18) hG.2.1 (show decode (gy_b gY_69) 18 = .ok (.ishr, 1) by decide +kernel) ?_
      intro z2
      refine gr_lald (pc := 19) (show decode (gy_b gY_69) 19 = .ok (.laload, 1) by decide +kernel) ?_
      intro v3
      refine gr_iload_n (pc := 20) (i := 1) (l1) (show decode (gy_b gY_69) 20 = .ok (.iload_n 1, 1) by decide +kernel) rfl rfl ?_
      refine gr_bipush (pc := 21) (z := 63) 63 (show decode (gy_b gY_69) 21 = .ok (.bipush (63), 2) by decide +kernel) (by decide +kernel) ?_
      refine gr_iand (pc := 23) hG.2.1 (show decode (gy_b gY_69) 23 = .ok (.iand, 1) by decide +kernel) ?_
      intro z4
      refine gr_lushr (pc := 24) (show decode (gy_b gY_69) 24 = .ok (.lushr, 1) by decide +kernel) ?_
      intro z5
      refine gr_lconst (pc := 25) (z := 1) 1 (show decode (gy_b gY_69) 25 = .ok (.lconst 1, 1) by decide +kernel) (by decide +kernel) ?_
      refine gr_land (pc := 26) (show decode (gy_b gY_69) 26 = .ok (.land, 1) by decide +kernel) ?_
      refine gr_lconst (pc := 27) (z := 0) 0 (show decode (gy_b gY_69) 27 = .ok (.lconst 0, 1) by decide +kernel) (by decide +kernel) ?_
      refine gr_lcmp (pc := 28) (show decode (gy_b gY_69) 28 = .ok (.lcmp, 1) by decide +kernel) ?_
      intro z6
      refine gr_ifeq (pc := 29) (tgt := 36) (off := 7) hG.2.1 (show decode (gy_b gY_69) 29 = .ok (.ifCond .eq (7), 3) by decide +kernel) (by decide) ?_ ?_
      · refine gr_wk [false, false] rfl ?_
        exact h_69_L36 hG  M n c
      · refine gr_iconst (pc := 32) (z := 1) 1 (show decode (gy_b gY_69) 32 = .ok (.iconst (1), 1) by decide +kernel) kc_1 ?_
        refine gr_goto (pc := 33) (tgt := 37) (off := 4) (show decode (gy_b gY_69) 33 = .ok (.goto (4), 3) by decide +kernel) (by decide) ?_
        refine gr_wk [false, false] rfl ?_
        exact h_69_L37 hG (1) M n c
noncomputable def fi_69 (l0 l1 M n c : Nat) (K : Nat → Nat → Nat → Nat → Bool) : Bool := fi_69_L0 K l0 l1 M n c
theorem hm_69 {G : gxG} (hG : gxG0 G) (l0 l1 : Nat) : gxM G gY_69 yX1_has [gR 1 (l0), gI (l1)] (fi_69 l0 l1) := gxM_of (L := [gR 1 (l0), gI (l1)]) hG 0 (by decide +kernel) rfl rfl rfl rfl (List.forall_mem_cons.mpr ⟨rfl, List.forall_mem_cons.mpr ⟨rfl, fun _ h => nomatch h⟩⟩) (fun M n c K => h_69_L0 hG  l0 l1 M n c)
/-! Farfiles$Log at (I)LFarfiles$Act; -/
def gY_70 : gxY := (false, prog_7_method_2_code, 3, (Option.some (Jvm.ClassFile.FieldType.object "Farfiles$Act")), "Farfiles$Log", 1, 40, 8, [], "at")
theorem ok_70 {Y : gxY} (h1 : gy_f gY_70 + 1 ≤ gy_f Y) (h2 : 8 + (gy_l gY_70 + 11) + gy_k gY_70 ≤ gy_k Y) : gh_ok Y gY_70 yX5_at 1 := ⟨wd_929, wd_53, ⟨by decide, by decide⟩, by decide +kernel, h1, h2⟩
noncomputable def fi_70_L0 (K : Nat → Nat → Nat → Nat → Bool) (l0 l1 M n c : Nat) : Bool := gx_lt (l1) 0 (false) (gx_get (l0) 4 M (fun v1 => gx_lt (l1) (v1) (gx_lt (l1) (250) (gx_get (l0) 0 M (fun v2 => gx_ald (v2) (l1) M (fun v3 => gx_nul (v3) (false) (gx_rt gx_f0 (v3) (K (v3) M n c))))) (false)) (false)))
theorem h_70_L0 {G : gxG} (hG : gxG0 G) {K : Nat → Nat → Nat → Nat → Bool} (l0 l1 M n c : Nat) : gxJ G gY_70 K 0 [] [gR 5 (l0), gI (l1), gB] M n c (fi_70_L0 K l0 l1 M n c) := by
  unfold fi_70_L0
  refine gr_iload_n (pc := 0) (i := 1) (l1) (show decode (gy_b gY_70) 0 = .ok (.iload_n 1, 1) by decide +kernel) rfl rfl ?_
  refine gr_iflt (pc := 1) (tgt := 19) (off := 18) hG.2.1 (show decode (gy_b gY_70) 1 = .ok (.ifCond .lt (18), 3) by decide +kernel) (by decide) ?_ ?_
  · exact gj_false
  · refine gr_iload_n (pc := 4) (i := 1) (l1) (show decode (gy_b gY_70) 4 = .ok (.iload_n 1, 1) by decide +kernel) rfl rfl ?_
    refine gr_aload_n (pc := 5) (i := 0) 5 (l0) (show decode (gy_b gY_70) 5 = .ok (.aload_n 0, 1) by decide +kernel) rfl rfl ?_
    refine gr_getf (pc := 6) (index := 38) (t := 5) (j := 4) (σ := 0) (sv := gI) (show decode (gy_b gY_70) 6 = .ok (.getfield 38, 3) by decide +kernel) rfl rfl (fun _ => rfl) wd_179 (by decide) ?_
    intro v1
    refine gr_icmp_ge (pc := 9) (tgt := 19) (off := 10) hG.2.1 (show decode (gy_b gY_70) 9 = .ok (.if_icmp .ge (10), 3) by decide +kernel) (by decide) ?_ ?_
    · exact gj_false
    · refine gr_iload_n (pc := 12) (i := 1) (l1) (show decode (gy_b gY_70) 12 = .ok (.iload_n 1, 1) by decide +kernel) rfl rfl ?_
      refine gr_sipush (pc := 13) (z := 250) 250 (show decode (gy_b gY_70) 13 = .ok (.sipush (250), 3) by decide +kernel) (by decide +kernel) ?_
      refine gr_icmp_lt (pc := 16) (tgt := 24) (off := 8) hG.2.1 (show decode (gy_b gY_70) 16 = .ok (.if_icmp .lt (8), 3) by decide +kernel) (by decide) ?_ ?_
      · refine gr_aload_n (pc := 24) (i := 0) 5 (l0) (show decode (gy_b gY_70) 24 = .ok (.aload_n 0, 1) by decide +kernel) rfl rfl ?_
        refine gr_getf (pc := 25) (index := 11) (t := 5) (j := 0) (σ := 77) (sv := (gR 69)) (show decode (gy_b gY_70) 25 = .ok (.getfield 11, 3) by decide +kernel) rfl rfl (fun _ => rfl) wd_175 (by decide) ?_
        intro v2
        refine gr_iload_n (pc := 28) (i := 1) (l1) (show decode (gy_b gY_70) 28 = .ok (.iload_n 1, 1) by decide +kernel) rfl rfl ?_
        refine gr_aald (pc := 29) (κ := 5) (t := 0) (C := "Farfiles$Act") (show decode (gy_b gY_70) 29 = .ok (.aaload, 1) by decide +kernel) ⟨by decide, by decide, rfl⟩ rfl ?_
        intro v3
        refine gr_astore_n (pc := 30) (i := 2) (L' := [gR 5 (l0), gI (l1), gR 0 (v3)]) (show decode (gy_b gY_70) 30 = .ok (.astore_n 2, 1) by decide +kernel) rfl (by decide) rfl rfl ?_
        refine gr_aload_n (pc := 31) (i := 2) 0 (v3) (show decode (gy_b gY_70) 31 = .ok (.aload_n 2, 1) by decide +kernel) rfl rfl ?_
        refine gr_ifnonnull (pc := 32) (tgt := 42) (off := 10) (show decode (gy_b gY_70) 32 = .ok (.ifnonnull (10), 3) by decide +kernel) (by decide) ?_ ?_
        · refine gr_aload_n (pc := 42) (i := 2) 0 (v3) (show decode (gy_b gY_70) 42 = .ok (.aload_n 2, 1) by decide +kernel) rfl rfl ?_
          exact gr_areturn (pc := 43) (t := 0) (show decode (gy_b gY_70) 43 = .ok (.areturn, 1) by decide +kernel) rfl rfl (Or.inl ⟨_, rfl⟩)
        · exact gj_false
      · exact gj_false
noncomputable def fi_70 (l0 l1 M n c : Nat) (K : Nat → Nat → Nat → Nat → Bool) : Bool := fi_70_L0 K l0 l1 M n c
theorem hm_70 {G : gxG} (hG : gxG0 G) (l0 l1 : Nat) : gxM G gY_70 yX5_at [gR 5 (l0), gI (l1)] (fi_70 l0 l1) := gxM_of (L := [gR 5 (l0), gI (l1), gB]) hG 1 (by decide +kernel) rfl rfl rfl rfl (List.forall_mem_cons.mpr ⟨rfl, List.forall_mem_cons.mpr ⟨rfl, fun _ h => nomatch h⟩⟩) (fun M n c K => h_70_L0 hG  l0 l1 M n c)
/-! Farfiles$ActSet put (I)V -/
def gY_71 : gxY := (false, prog_3_method_3_code, 2, (Option.none : Option FieldType), "Farfiles$ActSet", 1, 40, 5, [], "put")
theorem ok_71 {Y : gxY} (h1 : gy_f gY_71 + 1 ≤ gy_f Y) (h2 : 8 + (gy_l gY_71 + 11) + gy_k gY_71 ≤ gy_k Y) : gh_ok Y gY_71 yX1_put 1 := ⟨wd_959, wd_55, ⟨by decide, by decide⟩, by decide +kernel, h1, h2⟩
noncomputable def fi_71_L29 (K : Nat → Nat → Nat → Nat → Bool) (M n c : Nat) : Bool := K 0 M n c
theorem h_71_L29 {G : gxG} (hG : gxG0 G) {K : Nat → Nat → Nat → Nat → Bool} (M n c : Nat) : gxJ G gY_71 K 29 [] [gB, gB] M n c (fi_71_L29 K M n c) := by
  unfold fi_71_L29
  exact gr_return (pc := 29) (show decode (gy_b gY_71) 29 = .ok (.return_, 1) by decide +kernel) rfl rfl
noncomputable def fi_71_L0 (K : Nat → Nat → Nat → Nat → Bool) (l0 l1 M n c : Nat) : Bool := gx_lt (l1) 0 (fi_71_L29 K  M n c) (gx_lt (l1) (250) (gx_get (l0) 0 M (fun v1 => gx_shr (l1) (6) (fun z2 => gx_ald (v1) (z2) M (fun v3 => gx_and (l1) (63) (fun z4 => gx_lsh (1) (z4) (fun z5 => gx_ast (v1) (z2) (Nat.lor (v3) (z5)) M gx_f0 (fun M6 => fi_71_L29 K  M6 n c))))))) (fi_71_L29 K  M n c))
theorem h_71_L0 {G : gxG} (hG : gxG0 G) {K : Nat → Nat → Nat → Nat → Bool} (l0 l1 M n c : Nat) : gxJ G gY_71 K 0 [] [gR 1 (l0), gI (l1)] M n c (fi_71_L0 K l0 l1 M n c) := by
  unfold fi_71_L0
  refine gr_iload_n (pc := 0) (i := 1) (l1) (show decode (gy_b gY_71) 0 = .ok (.iload_n 1, 1) by decide +kernel) rfl rfl ?_
  refine gr_iflt (pc := 1) (tgt := 29) (off := 28) hG.2.1 (show decode (gy_b gY_71) 1 = .ok (.ifCond .lt (28), 3) by decide +kernel) (by decide) ?_ ?_
  · refine gr_wk [false, false] rfl ?_
    exact h_71_L29 hG  M n c
  · refine gr_iload_n (pc := 4) (i := 1) (l1) (show decode (gy_b gY_71) 4 = .ok (.iload_n 1, 1) by decide +kernel) rfl rfl ?_
    refine gr_sipush (pc := 5) (z := 250) 250 (show decode (gy_b gY_71) 5 = .ok (.sipush (250), 3) by decide +kernel) (by decide +kernel) ?_
    refine gr_icmp_ge (pc := 8) (tgt := 29) (off := 21) hG.2.1 (show decode (gy_b gY_71) 8 = .ok (.if_icmp .ge (21), 3) by decide +kernel) (by decide) ?_ ?_
    · refine gr_wk [false, false] rfl ?_
      exact h_71_L29 hG  M n c
    · refine gr_aload_n (pc := 11) (i := 0) 1 (l0) (show decode (gy_b gY_71) 11 = .ok (.aload_n 0, 1) by decide +kernel) rfl rfl ?_
      refine gr_getf (pc := 12) (index := 9) (t := 1) (j := 0) (σ := 76) (sv := (gR 68)) (show decode (gy_b gY_71) 12 = .ok (.getfield 9, 3) by decide +kernel) rfl rfl (fun _ => rfl) wd_130 (by decide) ?_
      intro v1
      refine gr_iload_n (pc := 15) (i := 1) (l1) (show decode (gy_b gY_71) 15 = .ok (.iload_n 1, 1) by decide +kernel) rfl rfl ?_
      refine gr_bipush (pc := 16) (z := 6) 6 (show decode (gy_b gY_71) 16 = .ok (.bipush (6), 2) by decide +kernel) (by decide +kernel) ?_
      refine gr_ishr (pc := 18) hG.2.1 (show decode (gy_b gY_71) 18 = .ok (.ishr, 1) by decide +kernel) ?_
      intro z2
      refine gr_dup2_11 (pc := 19) (show decode (gy_b gY_71) 19 = .ok (.dup2, 1) by decide +kernel) rfl rfl ?_
      refine gr_lald (pc := 20) (show decode (gy_b gY_71) 20 = .ok (.laload, 1) by decide +kernel) ?_
      intro v3
      refine gr_lconst (pc := 21) (z := 1) 1 (show decode (gy_b gY_71) 21 = .ok (.lconst 1, 1) by decide +kernel) (by decide +kernel) ?_
      refine gr_iload_n (pc := 22) (i := 1) (l1) (show decode (gy_b gY_71) 22 = .ok (.iload_n 1, 1) by decide +kernel) rfl rfl ?_
      refine gr_bipush (pc := 23) (z := 63) 63 (show decode (gy_b gY_71) 23 = .ok (.bipush (63), 2) by decide +kernel) (by decide +kernel) ?_
      refine gr_iand (pc := 25) hG.2.1 (show decode (gy_b gY_71) 25 = .ok (.iand, 1) by decide +kernel) ?_
      intro z4
      refine gr_lshl (pc := 26) (show decode (gy_b gY_71) 26 = .ok (.lshl, 1) by decide +kernel) ?_
      intro z5
      refine gr_lor (pc := 27) (show decode (gy_b gY_71) 27 = .ok (.lor, 1) by decide +kernel) ?_
      refine gr_last (pc := 28) hG.2.1 (show decode (gy_b gY_71) 28 = .ok (.lastore, 1) by decide +kernel) ?_
      intro M6
      refine gr_wk [false, false] rfl ?_
      exact h_71_L29 hG  M6 n c
noncomputable def fi_71 (l0 l1 M n c : Nat) (K : Nat → Nat → Nat → Nat → Bool) : Bool := fi_71_L0 K l0 l1 M n c
theorem hm_71 {G : gxG} (hG : gxG0 G) (l0 l1 : Nat) : gxM G gY_71 yX1_put [gR 1 (l0), gI (l1)] (fi_71 l0 l1) := gxM_of (L := [gR 1 (l0), gI (l1)]) hG 0 (by decide +kernel) rfl rfl rfl rfl (List.forall_mem_cons.mpr ⟨rfl, List.forall_mem_cons.mpr ⟨rfl, fun _ h => nomatch h⟩⟩) (fun M n c K => h_71_L0 hG  l0 l1 M n c)
/-! Farfiles$Client learn (LFarfiles$Log;LFarfiles$ActSet;I)V -/
def gY_72 : gxY := (false, prog_5_method_12_code, 5, (Option.none : Option FieldType), "Farfiles$Client", 2, 62, 5, [], "learn")
theorem ok_72 {Y : gxY} (h1 : gy_f gY_72 + 1 ≤ gy_f Y) (h2 : 8 + (gy_l gY_72 + 11) + gy_k gY_72 ≤ gy_k Y) : gh_ok Y gY_72 yX3_learn 3 := ⟨wd_955, wd_58, ⟨by decide, by decide⟩, by decide +kernel, h1, h2⟩
noncomputable def fi_72_L43 (K : Nat → Nat → Nat → Nat → Bool) (ih_3 : Nat → Nat → Nat → Nat → Nat → Nat → Nat → Nat → Bool) (l0 l1 l2 l3 l4 M n c : Nat) : Bool := gx_add (l4) 1 (fun z6 => ih_3 (l0) (l1) (l2) (l3) (z6) M n c)
theorem h_72_L43 {G : gxG} (hG : gxG0 G) {K : Nat → Nat → Nat → Nat → Bool} {ih_3 : Nat → Nat → Nat → Nat → Nat → Nat → Nat → Nat → Bool} (hi_3 : ∀ l0 l1 l2 l3 l4 M n c : Nat, gxJ G gY_72 K 3 [] [gR 3 (l0), gR 5 (l1), gR 1 (l2), gI (l3), gI (l4)] M n c (ih_3 l0 l1 l2 l3 l4 M n c)) (l0 l1 l2 l3 l4 M n c : Nat) : gxJ G gY_72 K 43 [] [gR 3 (l0), gR 5 (l1), gR 1 (l2), gI (l3), gI (l4)] M n c (fi_72_L43 K ih_3 l0 l1 l2 l3 l4 M n c) := by
  unfold fi_72_L43
  refine gr_iinc (pc := 43) (i := 4) (d := 1) (z := 1) (L' := fun z6 => [gR 3 (l0), gR 5 (l1), gR 1 (l2), gI (l3), gI (z6)]) (show decode (gy_b gY_72) 43 = .ok (.iinc 4 (1), 3) by decide +kernel) (by decide +kernel) (by decide) rfl rfl (fun _ => rfl) ?_
  intro z6
  refine gr_goto (pc := 46) (tgt := 3) (off := -43) (show decode (gy_b gY_72) 46 = .ok (.goto (-43), 3) by decide +kernel) (by decide) ?_
  exact hi_3 (l0) (l1) (l2) (l3) (z6) M n c
noncomputable def fi_72_B3 (K : Nat → Nat → Nat → Nat → Bool) (ih_3 : Nat → Nat → Nat → Nat → Nat → Nat → Nat → Nat → Bool) (l0 l1 l2 l3 l4 M n c : Nat) : Bool := gx_get (l1) 4 M (fun v1 => gx_lt (l4) (v1) (gx_nn (l2) (fi_69 (l2) (l4) M n c (fun v2 M3 n4 c5 => gx_eq (v2) 0 (fi_72_L43 K ih_3 (l0) (l1) (l2) (l3) (l4) M3 n4 c5) (gx_nn (l1) (fi_70 (l1) (l4) M3 n4 c5 (fun v7 M8 n9 c10 => gx_get (v7) 1 M8 (fun v11 => gx_eq (v11) (l3) (gx_get (l0) 5 M8 (fun v12 => gx_nn (v12) (fi_71 (v12) (l4) M8 n9 c10 (fun v13 M14 n15 c16 => fi_72_L43 K ih_3 (l0) (l1) (l2) (l3) (l4) M14 n15 c16)))) (fi_72_L43 K ih_3 (l0) (l1) (l2) (l3) (l4) M8 n9 c10)))))))) (K 0 M n c))
theorem hb_72_B3 {G : gxG} (hG : gxG0 G) {K : Nat → Nat → Nat → Nat → Bool} {ih_3 : Nat → Nat → Nat → Nat → Nat → Nat → Nat → Nat → Bool} (hi_3 : ∀ l0 l1 l2 l3 l4 M n c : Nat, gxJ G gY_72 K 3 [] [gR 3 (l0), gR 5 (l1), gR 1 (l2), gI (l3), gI (l4)] M n c (ih_3 l0 l1 l2 l3 l4 M n c)) (l0 l1 l2 l3 l4 M n c : Nat) : gxJ G gY_72 K 3 [] [gR 3 (l0), gR 5 (l1), gR 1 (l2), gI (l3), gI (l4)] M n c (fi_72_B3 K ih_3 l0 l1 l2 l3 l4 M n c) := by
  unfold fi_72_B3
  refine gr_iload (pc := 3) (i := 4) (l4) (show decode (gy_b gY_72) 3 = .ok (.iload 4, 2) by decide +kernel) rfl ?_
  refine gr_aload_n (pc := 5) (i := 1) 5 (l1) (show decode (gy_b gY_72) 5 = .ok (.aload_n 1, 1) by decide +kernel) rfl rfl ?_
  refine gr_getfN (pc := 6) (index := 49) (t := 5) (j := 4) (σ := 0) (sv := gI) (show decode (gy_b gY_72) 6 = .ok (.getfield 49, 3) by decide +kernel) rfl rfl (fun _ => rfl) wd_180 (by decide) ?_
  intro v1
  refine gr_icmp_ge (pc := 9) (tgt := 49) (off := 40) hG.2.1 (show decode (gy_b gY_72) 9 = .ok (.if_icmp .ge (40), 3) by decide +kernel) (by decide) ?_ ?_
  · exact gr_return (pc := 49) (show decode (gy_b gY_72) 49 = .ok (.return_, 1) by decide +kernel) rfl rfl
  · refine gr_aload_n (pc := 12) (i := 2) 1 (l2) (show decode (gy_b gY_72) 12 = .ok (.aload_n 2, 1) by decide +kernel) rfl rfl ?_
    refine gr_iload (pc := 13) (i := 4) (l4) (show decode (gy_b gY_72) 13 = .ok (.iload 4, 2) by decide +kernel) rfl ?_
    refine gj_nn (fun hx15 => ?_)
    refine gj_c0 (pc := 15) (Y' := gY_69) (y := yX1_has) (vs := [gR 1 (l2), gI (l4)]) (rest := []) (rs := fun v2 => [gI (v2)]) [gI (l4), gR 1 (l2)] rfl (hm_69 hG (l2) (l4)) rfl (gh_V (t := 1) (vs := [gI (l4)]) (rest := []) (show decode (gy_b gY_72) 15 = .ok (.invokevirtual 54, 3) by decide +kernel) rfl hx15 rfl rfl (ok_69 (by decide) (by decide)) wd_922 wd_923 wd_924 (Nat.le_of_ble_eq_true rfl)) (fun _ => rfl) ?_
    intro v2 M3 n4 c5
    refine gr_ifeq (pc := 18) (tgt := 43) (off := 25) hG.2.1 (show decode (gy_b gY_72) 18 = .ok (.ifCond .eq (25), 3) by decide +kernel) (by decide) ?_ ?_
    · exact h_72_L43 hG hi_3 (l0) (l1) (l2) (l3) (l4) M3 n4 c5
    · refine gr_aload_n (pc := 21) (i := 1) 5 (l1) (show decode (gy_b gY_72) 21 = .ok (.aload_n 1, 1) by decide +kernel) rfl rfl ?_
      refine gr_iload (pc := 22) (i := 4) (l4) (show decode (gy_b gY_72) 22 = .ok (.iload 4, 2) by decide +kernel) rfl ?_
      refine gj_nn (fun hx24 => ?_)
      refine gj_c0 (pc := 24) (Y' := gY_70) (y := yX5_at) (vs := [gR 5 (l1), gI (l4)]) (rest := []) (rs := fun v7 => [gR 0 (v7)]) [gI (l4), gR 5 (l1)] rfl (hm_70 hG (l1) (l4)) rfl (gh_V (t := 5) (vs := [gI (l4)]) (rest := []) (show decode (gy_b gY_72) 24 = .ok (.invokevirtual 57, 3) by decide +kernel) rfl hx24 rfl rfl (ok_70 (by decide) (by decide)) wd_926 wd_927 wd_928 (Nat.le_of_ble_eq_true rfl)) (fun _ => rfl) ?_
      intro v7 M8 n9 c10
      refine gr_getfN (pc := 27) (index := 61) (t := 0) (j := 1) (σ := 0) (sv := gI) (show decode (gy_b gY_72) 27 = .ok (.getfield 61, 3) by decide +kernel) rfl rfl (fun _ => rfl) wd_139 (by decide) ?_
      intro v11
      refine gr_iload_n (pc := 30) (i := 3) (l3) (show decode (gy_b gY_72) 30 = .ok (.iload_n 3, 1) by decide +kernel) rfl rfl ?_
      refine gr_icmp_ne (pc := 31) (tgt := 43) (off := 12) hG.2.1 (show decode (gy_b gY_72) 31 = .ok (.if_icmp .ne (12), 3) by decide +kernel) (by decide) ?_ ?_
      · exact h_72_L43 hG hi_3 (l0) (l1) (l2) (l3) (l4) M8 n9 c10
      · refine gr_aload_n (pc := 34) (i := 0) 3 (l0) (show decode (gy_b gY_72) 34 = .ok (.aload_n 0, 1) by decide +kernel) rfl rfl ?_
        refine gr_getf (pc := 35) (index := 28) (t := 3) (j := 5) (σ := 9) (sv := (gR 1)) (show decode (gy_b gY_72) 35 = .ok (.getfield 28, 3) by decide +kernel) rfl rfl (fun _ => rfl) wd_259 (by decide) ?_
        intro v12
        refine gr_iload (pc := 38) (i := 4) (l4) (show decode (gy_b gY_72) 38 = .ok (.iload 4, 2) by decide +kernel) rfl ?_
        refine gj_nn (fun hx40 => ?_)
        refine gj_c0 (pc := 40) (Y' := gY_71) (y := yX1_put) (vs := [gR 1 (v12), gI (l4)]) (rest := []) (rs := fun v13 => []) [gI (l4), gR 1 (v12)] rfl (hm_71 hG (v12) (l4)) rfl (gh_V (t := 1) (vs := [gI (l4)]) (rest := []) (show decode (gy_b gY_72) 40 = .ok (.invokevirtual 92, 3) by decide +kernel) rfl hx40 rfl rfl (ok_71 (by decide) (by decide)) wd_956 wd_957 wd_958 (Nat.le_of_ble_eq_true rfl)) (fun _ => rfl) ?_
        intro v13 M14 n15 c16
        exact h_72_L43 hG hi_3 (l0) (l1) (l2) (l3) (l4) M14 n15 c16
noncomputable def fi_72_W3 (K : Nat → Nat → Nat → Nat → Bool) (u : Nat) : Nat → Nat → Nat → Nat → Nat → Nat → Nat → Nat → Bool := Nat.rec (motive := fun _ => Nat → Nat → Nat → Nat → Nat → Nat → Nat → Nat → Bool) (fun _ _ _ _ _ _ _ _ => false) (fun _ ih => fi_72_B3 K ih) u
theorem hw_72_3 {G : gxG} (hG : gxG0 G) {K : Nat → Nat → Nat → Nat → Bool} (u : Nat) : ∀ l0 l1 l2 l3 l4 M n c : Nat, gxJ G gY_72 K 3 [] [gR 3 (l0), gR 5 (l1), gR 1 (l2), gI (l3), gI (l4)] M n c (fi_72_W3 K u l0 l1 l2 l3 l4 M n c) := by
  induction u with
  | zero => intro l0 l1 l2 l3 l4 M n c; exact gj_false
  | succ u ih => intro l0 l1 l2 l3 l4 M n c; exact hb_72_B3 hG ih l0 l1 l2 l3 l4 M n c
noncomputable def fi_72_L0 (K : Nat → Nat → Nat → Nat → Bool) (l0 l1 l2 l3 M n c : Nat) : Bool := fi_72_W3 K 65536 (l0) (l1) (l2) (l3) (0) M n c
theorem h_72_L0 {G : gxG} (hG : gxG0 G) {K : Nat → Nat → Nat → Nat → Bool} (l0 l1 l2 l3 M n c : Nat) : gxJ G gY_72 K 0 [] [gR 3 (l0), gR 5 (l1), gR 1 (l2), gI (l3), gB] M n c (fi_72_L0 K l0 l1 l2 l3 M n c) := by
  unfold fi_72_L0
  refine gr_iconst (pc := 0) (z := 0) 0 (show decode (gy_b gY_72) 0 = .ok (.iconst (0), 1) by decide +kernel) kc_0 ?_
  refine gr_istore (pc := 1) (i := 4) (L' := [gR 3 (l0), gR 5 (l1), gR 1 (l2), gI (l3), gI (0)]) (show decode (gy_b gY_72) 1 = .ok (.istore 4, 2) by decide +kernel) (by decide) rfl rfl ?_
  exact hw_72_3 hG 65536 (l0) (l1) (l2) (l3) (0) M n c
noncomputable def fi_72 (l0 l1 l2 l3 M n c : Nat) (K : Nat → Nat → Nat → Nat → Bool) : Bool := fi_72_L0 K l0 l1 l2 l3 M n c
theorem hm_72 {G : gxG} (hG : gxG0 G) (l0 l1 l2 l3 : Nat) : gxM G gY_72 yX3_learn [gR 3 (l0), gR 5 (l1), gR 1 (l2), gI (l3)] (fi_72 l0 l1 l2 l3) := gxM_of (L := [gR 3 (l0), gR 5 (l1), gR 1 (l2), gI (l3), gB]) hG 1 (by decide +kernel) rfl rfl rfl rfl (List.forall_mem_cons.mpr ⟨rfl, List.forall_mem_cons.mpr ⟨rfl, List.forall_mem_cons.mpr ⟨rfl, List.forall_mem_cons.mpr ⟨rfl, fun _ h => nomatch h⟩⟩⟩⟩) (fun M n c K => h_72_L0 hG  l0 l1 l2 l3 M n c)
/-! Farfiles lookAt (LFarfiles$Client;I)V -/
def gY_73 : gxY := (false, prog_1_method_24_code, 5, (Option.none : Option FieldType), "Farfiles", 3, 86, 5, [], "lookAt")
theorem ok_73 {Y : gxY} (h1 : gy_f gY_73 + 1 ≤ gy_f Y) (h2 : 8 + (gy_l gY_73 + 11) + gy_k gY_73 ≤ gy_k Y) : gh_ok Y gY_73 yX7_lookAt 2 := ⟨wd_898, wd_51, ⟨by decide, by decide⟩, by decide +kernel, h1, h2⟩
noncomputable def fi_73_L87 (K : Nat → Nat → Nat → Nat → Bool) (ih_56 : Nat → Nat → Nat → Nat → Nat → Nat → Nat → Bool) (l0 l1 l2 l4 M n c : Nat) : Bool := gx_add (l4) 1 (fun z14 => ih_56 (l0) (l1) (l2) (z14) M n c)
theorem h_73_L87 {G : gxG} (hG : gxG0 G) {K : Nat → Nat → Nat → Nat → Bool} {ih_56 : Nat → Nat → Nat → Nat → Nat → Nat → Nat → Bool} (hi_56 : ∀ l0 l1 l2 l4 M n c : Nat, gxJ G gY_73 K 56 [] [gR 7 (l0), gR 3 (l1), gI (l2), gB, gI (l4)] M n c (ih_56 l0 l1 l2 l4 M n c)) (l0 l1 l2 l4 M n c : Nat) : gxJ G gY_73 K 87 [] [gR 7 (l0), gR 3 (l1), gI (l2), gB, gI (l4)] M n c (fi_73_L87 K ih_56 l0 l1 l2 l4 M n c) := by
  unfold fi_73_L87
  refine gr_iinc (pc := 87) (i := 4) (d := 1) (z := 1) (L' := fun z14 => [gR 7 (l0), gR 3 (l1), gI (l2), gB, gI (z14)]) (show decode (gy_b gY_73) 87 = .ok (.iinc 4 (1), 3) by decide +kernel) (by decide +kernel) (by decide) rfl rfl (fun _ => rfl) ?_
  intro z14
  refine gr_goto (pc := 90) (tgt := 56) (off := -34) (show decode (gy_b gY_73) 90 = .ok (.goto (-34), 3) by decide +kernel) (by decide) ?_
  exact hi_56 (l0) (l1) (l2) (z14) M n c
noncomputable def fi_73_B56 (K : Nat → Nat → Nat → Nat → Bool) (ih_56 : Nat → Nat → Nat → Nat → Nat → Nat → Nat → Bool) (l0 l1 l2 l4 M n c : Nat) : Bool := gx_lt (l4) (3) (gx_nn (l1) (fi_68 (l1) (l4) M n c (fun v10 M11 n12 c13 => gx_eq (v10) 0 (fi_73_L87 K ih_56 (l0) (l1) (l2) (l4) M11 n12 c13) (gx_get (l0) 1 M11 (fun v15 => gx_get (l0) 4 M11 (fun v16 => gx_ald (v16) (l4) M11 (fun v17 => gx_nn (l1) (fi_72 (l1) (v15) (v17) (l2) M11 n12 c13 (fun v18 M19 n20 c21 => fi_73_L87 K ih_56 (l0) (l1) (l2) (l4) M19 n20 c21))))))))) (K 0 M n c)
theorem hb_73_B56 {G : gxG} (hG : gxG0 G) {K : Nat → Nat → Nat → Nat → Bool} {ih_56 : Nat → Nat → Nat → Nat → Nat → Nat → Nat → Bool} (hi_56 : ∀ l0 l1 l2 l4 M n c : Nat, gxJ G gY_73 K 56 [] [gR 7 (l0), gR 3 (l1), gI (l2), gB, gI (l4)] M n c (ih_56 l0 l1 l2 l4 M n c)) (l0 l1 l2 l4 M n c : Nat) : gxJ G gY_73 K 56 [] [gR 7 (l0), gR 3 (l1), gI (l2), gB, gI (l4)] M n c (fi_73_B56 K ih_56 l0 l1 l2 l4 M n c) := by
  unfold fi_73_B56
  refine gr_iload (pc := 56) (i := 4) (l4) (show decode (gy_b gY_73) 56 = .ok (.iload 4, 2) by decide +kernel) rfl ?_
  refine gr_iconst (pc := 58) (z := 3) 3 (show decode (gy_b gY_73) 58 = .ok (.iconst (3), 1) by decide +kernel) kc_3 ?_
  refine gr_icmp_ge (pc := 59) (tgt := 93) (off := 34) hG.2.1 (show decode (gy_b gY_73) 59 = .ok (.if_icmp .ge (34), 3) by decide +kernel) (by decide) ?_ ?_
  · exact gr_return (pc := 93) (show decode (gy_b gY_73) 93 = .ok (.return_, 1) by decide +kernel) rfl rfl
  · refine gr_aload_n (pc := 62) (i := 1) 3 (l1) (show decode (gy_b gY_73) 62 = .ok (.aload_n 1, 1) by decide +kernel) rfl rfl ?_
    refine gr_iload (pc := 63) (i := 4) (l4) (show decode (gy_b gY_73) 63 = .ok (.iload 4, 2) by decide +kernel) rfl ?_
    refine gj_nn (fun hx65 => ?_)
    refine gj_c0 (pc := 65) (Y' := gY_68) (y := yX3_isNear) (vs := [gR 3 (l1), gI (l4)]) (rest := []) (rs := fun v10 => [gI (v10)]) [gI (l4), gR 3 (l1)] rfl (hm_68 hG (l1) (l4)) rfl (gh_V (t := 3) (vs := [gI (l4)]) (rest := []) (show decode (gy_b gY_73) 65 = .ok (.invokevirtual 191, 3) by decide +kernel) rfl hx65 rfl rfl (ok_68 (by decide) (by decide)) wd_948 wd_949 wd_950 (Nat.le_of_ble_eq_true rfl)) (fun _ => rfl) ?_
    intro v10 M11 n12 c13
    refine gr_ifeq (pc := 68) (tgt := 87) (off := 19) hG.2.1 (show decode (gy_b gY_73) 68 = .ok (.ifCond .eq (19), 3) by decide +kernel) (by decide) ?_ ?_
    · exact h_73_L87 hG hi_56 (l0) (l1) (l2) (l4) M11 n12 c13
    · refine gr_aload_n (pc := 71) (i := 1) 3 (l1) (show decode (gy_b gY_73) 71 = .ok (.aload_n 1, 1) by decide +kernel) rfl rfl ?_
      refine gr_aload_n (pc := 72) (i := 0) 7 (l0) (show decode (gy_b gY_73) 72 = .ok (.aload_n 0, 1) by decide +kernel) rfl rfl ?_
      refine gr_getf (pc := 73) (index := 19) (t := 7) (j := 1) (σ := 13) (sv := (gR 5)) (show decode (gy_b gY_73) 73 = .ok (.getfield 19, 3) by decide +kernel) rfl rfl (fun _ => rfl) wd_295 (by decide) ?_
      intro v15
      refine gr_aload_n (pc := 76) (i := 0) 7 (l0) (show decode (gy_b gY_73) 76 = .ok (.aload_n 0, 1) by decide +kernel) rfl rfl ?_
      refine gr_getf (pc := 77) (index := 38) (t := 7) (j := 4) (σ := 78) (sv := (gR 70)) (show decode (gy_b gY_73) 77 = .ok (.getfield 38, 3) by decide +kernel) rfl rfl (fun _ => rfl) wd_298 (by decide) ?_
      intro v16
      refine gr_iload (pc := 80) (i := 4) (l4) (show decode (gy_b gY_73) 80 = .ok (.iload 4, 2) by decide +kernel) rfl ?_
      refine gr_aald (pc := 82) (κ := 6) (t := 1) (C := "Farfiles$ActSet") (show decode (gy_b gY_73) 82 = .ok (.aaload, 1) by decide +kernel) ⟨by decide, by decide, rfl⟩ rfl ?_
      intro v17
      refine gr_iload_n (pc := 83) (i := 2) (l2) (show decode (gy_b gY_73) 83 = .ok (.iload_n 2, 1) by decide +kernel) rfl rfl ?_
      refine gj_nn (fun hx84 => ?_)
      refine gj_c0 (pc := 84) (Y' := gY_72) (y := yX3_learn) (vs := [gR 3 (l1), gR 5 (v15), gR 1 (v17), gI (l2)]) (rest := []) (rs := fun v18 => []) [gI (l2), gR 1 (v17), gR 5 (v15), gR 3 (l1)] rfl (hm_72 hG (l1) (v15) (v17) (l2)) rfl (gh_V (t := 3) (vs := [gR 5 (v15), gR 1 (v17), gI (l2)]) (rest := []) (show decode (gy_b gY_73) 84 = .ok (.invokevirtual 194, 3) by decide +kernel) rfl hx84 rfl rfl (ok_72 (by decide) (by decide)) wd_952 wd_953 wd_954 (Nat.le_of_ble_eq_true rfl)) (fun _ => rfl) ?_
      intro v18 M19 n20 c21
      exact h_73_L87 hG hi_56 (l0) (l1) (l2) (l4) M19 n20 c21
noncomputable def fi_73_W56 (K : Nat → Nat → Nat → Nat → Bool) (u : Nat) : Nat → Nat → Nat → Nat → Nat → Nat → Nat → Bool := Nat.rec (motive := fun _ => Nat → Nat → Nat → Nat → Nat → Nat → Nat → Bool) (fun _ _ _ _ _ _ _ => false) (fun _ ih => fi_73_B56 K ih) u
theorem hw_73_56 {G : gxG} (hG : gxG0 G) {K : Nat → Nat → Nat → Nat → Bool} (u : Nat) : ∀ l0 l1 l2 l4 M n c : Nat, gxJ G gY_73 K 56 [] [gR 7 (l0), gR 3 (l1), gI (l2), gB, gI (l4)] M n c (fi_73_W56 K u l0 l1 l2 l4 M n c) := by
  induction u with
  | zero => intro l0 l1 l2 l4 M n c; exact gj_false
  | succ u ih => intro l0 l1 l2 l4 M n c; exact hb_73_B56 hG ih l0 l1 l2 l4 M n c
noncomputable def fi_73_L44 (K : Nat → Nat → Nat → Nat → Bool) (l0 l1 l2 M n c : Nat) : Bool := gx_get (l0) 1 M (fun v5 => gx_nn (l1) (fi_67 (l1) (v5) (l2) M n c (fun v6 M7 n8 c9 => fi_73_W56 K 65536 (l0) (l1) (l2) (0) M7 n8 c9)))
theorem h_73_L44 {G : gxG} (hG : gxG0 G) {K : Nat → Nat → Nat → Nat → Bool} (l0 l1 l2 M n c : Nat) : gxJ G gY_73 K 44 [] [gR 7 (l0), gR 3 (l1), gI (l2), gB, gB] M n c (fi_73_L44 K l0 l1 l2 M n c) := by
  unfold fi_73_L44
  refine gr_aload_n (pc := 44) (i := 1) 3 (l1) (show decode (gy_b gY_73) 44 = .ok (.aload_n 1, 1) by decide +kernel) rfl rfl ?_
  refine gr_aload_n (pc := 45) (i := 0) 7 (l0) (show decode (gy_b gY_73) 45 = .ok (.aload_n 0, 1) by decide +kernel) rfl rfl ?_
  refine gr_getf (pc := 46) (index := 19) (t := 7) (j := 1) (σ := 13) (sv := (gR 5)) (show decode (gy_b gY_73) 46 = .ok (.getfield 19, 3) by decide +kernel) rfl rfl (fun _ => rfl) wd_295 (by decide) ?_
  intro v5
  refine gr_iload_n (pc := 49) (i := 2) (l2) (show decode (gy_b gY_73) 49 = .ok (.iload_n 2, 1) by decide +kernel) rfl rfl ?_
  refine gj_nn (fun hx50 => ?_)
  refine gj_c0 (pc := 50) (Y' := gY_67) (y := yX3_takeUp) (vs := [gR 3 (l1), gR 5 (v5), gI (l2)]) (rest := []) (rs := fun v6 => []) [gI (l2), gR 5 (v5), gR 3 (l1)] rfl (hm_67 hG (l1) (v5) (l2)) rfl (gh_V (t := 3) (vs := [gR 5 (v5), gI (l2)]) (rest := []) (show decode (gy_b gY_73) 50 = .ok (.invokevirtual 187, 3) by decide +kernel) rfl hx50 rfl rfl (ok_67 (by decide) (by decide)) wd_934 wd_935 wd_936 (Nat.le_of_ble_eq_true rfl)) (fun _ => rfl) ?_
  intro v6 M7 n8 c9
  refine gr_iconst (pc := 53) (z := 0) 0 (show decode (gy_b gY_73) 53 = .ok (.iconst (0), 1) by decide +kernel) kc_0 ?_
  refine gr_istore (pc := 54) (i := 4) (L' := [gR 7 (l0), gR 3 (l1), gI (l2), gB, gI (0)]) (show decode (gy_b gY_73) 54 = .ok (.istore 4, 2) by decide +kernel) (by decide) rfl rfl ?_
  exact hw_73_56 hG 65536 (l0) (l1) (l2) (0) M7 n8 c9
noncomputable def fi_73_L23 (K : Nat → Nat → Nat → Nat → Bool) (l0 l1 l2 l3 M n c : Nat) : Bool := gx_eq (l3) 0 (gx_get (l0) 1 M (fun v22 => gx_nn (l1) (fi_66 (l1) (v22) M n c (fun v23 M24 n25 c26 => gx_eq (v23) 0 (false) (fi_73_L44 K (l0) (l1) (l2) M24 n25 c26))))) (fi_73_L44 K (l0) (l1) (l2) M n c)
theorem h_73_L23 {G : gxG} (hG : gxG0 G) {K : Nat → Nat → Nat → Nat → Bool} (l0 l1 l2 l3 M n c : Nat) : gxJ G gY_73 K 23 [] [gR 7 (l0), gR 3 (l1), gI (l2), gI (l3), gB] M n c (fi_73_L23 K l0 l1 l2 l3 M n c) := by
  unfold fi_73_L23
  refine gr_iload_n (pc := 23) (i := 3) (l3) (show decode (gy_b gY_73) 23 = .ok (.iload_n 3, 1) by decide +kernel) rfl rfl ?_
  refine gr_ifne (pc := 24) (tgt := 44) (off := 20) hG.2.1 (show decode (gy_b gY_73) 24 = .ok (.ifCond .ne (20), 3) by decide +kernel) (by decide) ?_ ?_
  · refine gr_wk [true, true, true, false, true] rfl ?_
    exact h_73_L44 hG (l0) (l1) (l2) M n c
  · refine gr_aload_n (pc := 27) (i := 1) 3 (l1) (show decode (gy_b gY_73) 27 = .ok (.aload_n 1, 1) by decide +kernel) rfl rfl ?_
    refine gr_aload_n (pc := 28) (i := 0) 7 (l0) (show decode (gy_b gY_73) 28 = .ok (.aload_n 0, 1) by decide +kernel) rfl rfl ?_
    refine gr_getf (pc := 29) (index := 19) (t := 7) (j := 1) (σ := 13) (sv := (gR 5)) (show decode (gy_b gY_73) 29 = .ok (.getfield 19, 3) by decide +kernel) rfl rfl (fun _ => rfl) wd_295 (by decide) ?_
    intro v22
    refine gj_nn (fun hx32 => ?_)
    refine gj_c0 (pc := 32) (Y' := gY_66) (y := yX3_hasRoom) (vs := [gR 3 (l1), gR 5 (v22)]) (rest := []) (rs := fun v23 => [gI (v23)]) [gR 5 (v22), gR 3 (l1)] rfl (hm_66 hG (l1) (v22)) rfl (gh_V (t := 3) (vs := [gR 5 (v22)]) (rest := []) (show decode (gy_b gY_73) 32 = .ok (.invokevirtual 183, 3) by decide +kernel) rfl hx32 rfl rfl (ok_66 (by decide) (by decide)) wd_910 wd_911 wd_912 (Nat.le_of_ble_eq_true rfl)) (fun _ => rfl) ?_
    intro v23 M24 n25 c26
    refine gr_ifne (pc := 35) (tgt := 44) (off := 9) hG.2.1 (show decode (gy_b gY_73) 35 = .ok (.ifCond .ne (9), 3) by decide +kernel) (by decide) ?_ ?_
    · refine gr_wk [true, true, true, false, true] rfl ?_
      exact h_73_L44 hG (l0) (l1) (l2) M24 n25 c26
    · exact gj_false
noncomputable def fi_73_L0 (K : Nat → Nat → Nat → Nat → Bool) (l0 l1 l2 M n c : Nat) : Bool := gx_nn (l1) (fi_64 (l1) (l2) M n c (fun v1 M2 n3 c4 => gx_eq (v1) 0 (gx_nn (l1) (fi_65 (l1) M2 n3 c4 (fun v27 M28 n29 c30 => gx_eq (v27) 0 (false) (fi_73_L23 K (l0) (l1) (l2) (v1) M28 n29 c30)))) (fi_73_L23 K (l0) (l1) (l2) (v1) M2 n3 c4)))
theorem h_73_L0 {G : gxG} (hG : gxG0 G) {K : Nat → Nat → Nat → Nat → Bool} (l0 l1 l2 M n c : Nat) : gxJ G gY_73 K 0 [] [gR 7 (l0), gR 3 (l1), gI (l2), gB, gB] M n c (fi_73_L0 K l0 l1 l2 M n c) := by
  unfold fi_73_L0
  refine gr_aload_n (pc := 0) (i := 1) 3 (l1) (show decode (gy_b gY_73) 0 = .ok (.aload_n 1, 1) by decide +kernel) rfl rfl ?_
  refine gr_iload_n (pc := 1) (i := 2) (l2) (show decode (gy_b gY_73) 1 = .ok (.iload_n 2, 1) by decide +kernel) rfl rfl ?_
  refine gj_nn (fun hx2 => ?_)
  refine gj_c0 (pc := 2) (Y' := gY_64) (y := yX3_hasHold) (vs := [gR 3 (l1), gI (l2)]) (rest := []) (rs := fun v1 => [gI (v1)]) [gI (l2), gR 3 (l1)] rfl (hm_64 hG (l1) (l2)) rfl (gh_V (t := 3) (vs := [gI (l2)]) (rest := []) (show decode (gy_b gY_73) 2 = .ok (.invokevirtual 177, 3) by decide +kernel) rfl hx2 rfl rfl (ok_64 (by decide) (by decide)) wd_899 wd_900 wd_901 (Nat.le_of_ble_eq_true rfl)) (fun _ => rfl) ?_
  intro v1 M2 n3 c4
  refine gr_istore_n (pc := 5) (i := 3) (L' := [gR 7 (l0), gR 3 (l1), gI (l2), gI (v1), gB]) (show decode (gy_b gY_73) 5 = .ok (.istore_n 3, 1) by decide +kernel) rfl (by decide) rfl rfl ?_
  refine gr_iload_n (pc := 6) (i := 3) (v1) (show decode (gy_b gY_73) 6 = .ok (.iload_n 3, 1) by decide +kernel) rfl rfl ?_
  refine gr_ifne (pc := 7) (tgt := 23) (off := 16) hG.2.1 (show decode (gy_b gY_73) 7 = .ok (.ifCond .ne (16), 3) by decide +kernel) (by decide) ?_ ?_
  · exact h_73_L23 hG (l0) (l1) (l2) (v1) M2 n3 c4
  · refine gr_aload_n (pc := 10) (i := 1) 3 (l1) (show decode (gy_b gY_73) 10 = .ok (.aload_n 1, 1) by decide +kernel) rfl rfl ?_
    refine gj_nn (fun hx11 => ?_)
    refine gj_c0 (pc := 11) (Y' := gY_65) (y := yX3_nearBits) (vs := [gR 3 (l1)]) (rest := []) (rs := fun v27 => [gI (v27)]) [gR 3 (l1)] rfl (hm_65 hG (l1)) rfl (gh_V (t := 3) (vs := []) (rest := []) (show decode (gy_b gY_73) 11 = .ok (.invokevirtual 165, 3) by decide +kernel) rfl hx11 rfl rfl (ok_65 (by decide) (by decide)) wd_906 wd_907 wd_908 (Nat.le_of_ble_eq_true rfl)) (fun _ => rfl) ?_
    intro v27 M28 n29 c30
    refine gr_ifne (pc := 14) (tgt := 23) (off := 9) hG.2.1 (show decode (gy_b gY_73) 14 = .ok (.ifCond .ne (9), 3) by decide +kernel) (by decide) ?_ ?_
    · exact h_73_L23 hG (l0) (l1) (l2) (v1) M28 n29 c30
    · exact gj_false
noncomputable def fi_73 (l0 l1 l2 M n c : Nat) (K : Nat → Nat → Nat → Nat → Bool) : Bool := fi_73_L0 K l0 l1 l2 M n c
theorem hm_73 {G : gxG} (hG : gxG0 G) (l0 l1 l2 : Nat) : gxM G gY_73 yX7_lookAt [gR 7 (l0), gR 3 (l1), gI (l2)] (fi_73 l0 l1 l2) := gxM_of (L := [gR 7 (l0), gR 3 (l1), gI (l2), gB, gB]) hG 2 (by decide +kernel) rfl rfl rfl rfl (List.forall_mem_cons.mpr ⟨rfl, List.forall_mem_cons.mpr ⟨rfl, List.forall_mem_cons.mpr ⟨rfl, fun _ h => nomatch h⟩⟩⟩) (fun M n c K => h_73_L0 hG  l0 l1 l2 M n c)
/-! Farfiles$Path lookedAt (I)V -/
def gY_74 : gxY := (false, prog_8_method_9_code, 2, (Option.none : Option FieldType), "Farfiles$Path", 1, 40, 5, [], "lookedAt")
theorem ok_74 {Y : gxY} (h1 : gy_f gY_74 + 1 ≤ gy_f Y) (h2 : 8 + (gy_l gY_74 + 11) + gy_k gY_74 ≤ gy_k Y) : gh_ok Y gY_74 yX6_lookedAt 1 := ⟨wd_963, wd_57, ⟨by decide, by decide⟩, by decide +kernel, h1, h2⟩
noncomputable def fi_74_L36 (K : Nat → Nat → Nat → Nat → Bool) (M n c : Nat) : Bool := K 0 M n c
theorem h_74_L36 {G : gxG} (hG : gxG0 G) {K : Nat → Nat → Nat → Nat → Bool} (M n c : Nat) : gxJ G gY_74 K 36 [] [gB, gB] M n c (fi_74_L36 K M n c) := by
  unfold fi_74_L36
  exact gr_return (pc := 36) (show decode (gy_b gY_74) 36 = .ok (.return_, 1) by decide +kernel) rfl rfl
noncomputable def fi_74_L0 (K : Nat → Nat → Nat → Nat → Bool) (l0 l1 M n c : Nat) : Bool := gx_get (l0) 4 M (fun v1 => gx_lt (v1) 0 (fi_74_L36 K  M n c) (gx_get (l0) 4 M (fun v2 => gx_lt (20) (v2) (fi_74_L36 K  M n c) (gx_get (l0) 2 M (fun v3 => gx_get (l0) 4 M (fun v4 => gx_ast (v3) (v4) (l1) M gx_f0 (fun M5 => gx_get (l0) 4 M5 (fun v6 => gx_add (v6) (1) (fun z7 => gx_put (l0) 4 (z7) M5 gx_f0 (fun M8 => fi_74_L36 K  M8 n c))))))))))
theorem h_74_L0 {G : gxG} (hG : gxG0 G) {K : Nat → Nat → Nat → Nat → Bool} (l0 l1 M n c : Nat) : gxJ G gY_74 K 0 [] [gR 6 (l0), gI (l1)] M n c (fi_74_L0 K l0 l1 M n c) := by
  unfold fi_74_L0
  refine gr_aload_n (pc := 0) (i := 0) 6 (l0) (show decode (gy_b gY_74) 0 = .ok (.aload_n 0, 1) by decide +kernel) rfl rfl ?_
  refine gr_getf (pc := 1) (index := 25) (t := 6) (j := 4) (σ := 0) (sv := gI) (show decode (gy_b gY_74) 1 = .ok (.getfield 25, 3) by decide +kernel) rfl rfl (fun _ => rfl) wd_231 (by decide) ?_
  intro v1
  refine gr_iflt (pc := 4) (tgt := 36) (off := 32) hG.2.1 (show decode (gy_b gY_74) 4 = .ok (.ifCond .lt (32), 3) by decide +kernel) (by decide) ?_ ?_
  · refine gr_wk [false, false] rfl ?_
    exact h_74_L36 hG  M n c
  · refine gr_aload_n (pc := 7) (i := 0) 6 (l0) (show decode (gy_b gY_74) 7 = .ok (.aload_n 0, 1) by decide +kernel) rfl rfl ?_
    refine gr_getf (pc := 8) (index := 25) (t := 6) (j := 4) (σ := 0) (sv := gI) (show decode (gy_b gY_74) 8 = .ok (.getfield 25, 3) by decide +kernel) rfl rfl (fun _ => rfl) wd_231 (by decide) ?_
    intro v2
    refine gr_bipush (pc := 11) (z := 20) 20 (show decode (gy_b gY_74) 11 = .ok (.bipush (20), 2) by decide +kernel) (by decide +kernel) ?_
    refine gr_icmp_gt (pc := 13) (tgt := 36) (off := 23) hG.2.1 (show decode (gy_b gY_74) 13 = .ok (.if_icmp .gt (23), 3) by decide +kernel) (by decide) ?_ ?_
    · refine gr_wk [false, false] rfl ?_
      exact h_74_L36 hG  M n c
    · refine gr_aload_n (pc := 16) (i := 0) 6 (l0) (show decode (gy_b gY_74) 16 = .ok (.aload_n 0, 1) by decide +kernel) rfl rfl ?_
      refine gr_getf (pc := 17) (index := 18) (t := 6) (j := 2) (σ := 72) (sv := (gR 64)) (show decode (gy_b gY_74) 17 = .ok (.getfield 18, 3) by decide +kernel) rfl rfl (fun _ => rfl) wd_228 (by decide) ?_
      intro v3
      refine gr_aload_n (pc := 20) (i := 0) 6 (l0) (show decode (gy_b gY_74) 20 = .ok (.aload_n 0, 1) by decide +kernel) rfl rfl ?_
      refine gr_getf (pc := 21) (index := 25) (t := 6) (j := 4) (σ := 0) (sv := gI) (show decode (gy_b gY_74) 21 = .ok (.getfield 25, 3) by decide +kernel) rfl rfl (fun _ => rfl) wd_231 (by decide) ?_
      intro v4
      refine gr_iload_n (pc := 24) (i := 1) (l1) (show decode (gy_b gY_74) 24 = .ok (.iload_n 1, 1) by decide +kernel) rfl rfl ?_
      refine gr_iast (pc := 25) hG.2.1 (show decode (gy_b gY_74) 25 = .ok (.iastore, 1) by decide +kernel) ?_
      intro M5
      refine gr_aload_n (pc := 26) (i := 0) 6 (l0) (show decode (gy_b gY_74) 26 = .ok (.aload_n 0, 1) by decide +kernel) rfl rfl ?_
      refine gr_dup (b := gB) (pc := 27) (show decode (gy_b gY_74) 27 = .ok (.dup, 1) by decide +kernel) rfl ?_
      refine gr_getf (pc := 28) (index := 25) (t := 6) (j := 4) (σ := 0) (sv := gI) (show decode (gy_b gY_74) 28 = .ok (.getfield 25, 3) by decide +kernel) rfl rfl (fun _ => rfl) wd_231 (by decide) ?_
      intro v6
      refine gr_iconst (pc := 31) (z := 1) 1 (show decode (gy_b gY_74) 31 = .ok (.iconst (1), 1) by decide +kernel) kc_1 ?_
      refine gr_iadd (pc := 32) (show decode (gy_b gY_74) 32 = .ok (.iadd, 1) by decide +kernel) ?_
      intro z7
      refine gr_putf (pc := 33) (index := 25) (t := 6) (j := 4) (σ := 0) (sv := gI) (f := gx_f0) (ty := .int) (show decode (gy_b gY_74) 33 = .ok (.putfield 25, 3) by decide +kernel) rfl rfl (fun _ => rfl) wd_231 rfl gv_0 rfl ?_
      intro M8
      refine gr_wk [false, false] rfl ?_
      exact h_74_L36 hG  M8 n c
noncomputable def fi_74 (l0 l1 M n c : Nat) (K : Nat → Nat → Nat → Nat → Bool) : Bool := fi_74_L0 K l0 l1 M n c
theorem hm_74 {G : gxG} (hG : gxG0 G) (l0 l1 : Nat) : gxM G gY_74 yX6_lookedAt [gR 6 (l0), gI (l1)] (fi_74 l0 l1) := gxM_of (L := [gR 6 (l0), gI (l1)]) hG 0 (by decide +kernel) rfl rfl rfl rfl (List.forall_mem_cons.mpr ⟨rfl, List.forall_mem_cons.mpr ⟨rfl, fun _ h => nomatch h⟩⟩) (fun M n c K => h_74_L0 hG  l0 l1 M n c)
/-! Farfiles$Path nameAt (I)I -/
def gY_75 : gxY := (false, prog_8_method_7_code, 2, (Option.some Jvm.ClassFile.FieldType.int), "Farfiles$Path", 1, 40, 0, [], "nameAt")
theorem ok_75 {Y : gxY} (h1 : gy_f gY_75 + 1 ≤ gy_f Y) (h2 : 8 + (gy_l gY_75 + 11) + gy_k gY_75 ≤ gy_k Y) : gh_ok Y gY_75 yX6_nameAt 1 := ⟨wd_967, wd_57, ⟨by decide, by decide⟩, by decide +kernel, h1, h2⟩
noncomputable def fi_75_L0 (K : Nat → Nat → Nat → Nat → Bool) (l0 l1 M n c : Nat) : Bool := gx_lt (l1) 0 (false) (gx_get (l0) 3 M (fun v1 => gx_lt (l1) (v1) (gx_lt (l1) (20) (gx_get (l0) 0 M (fun v2 => gx_ald (v2) (l1) M (fun v3 => gx_rt gx_f0 (v3) (K (v3) M n c)))) (false)) (false)))
theorem h_75_L0 {G : gxG} (hG : gxG0 G) {K : Nat → Nat → Nat → Nat → Bool} (l0 l1 M n c : Nat) : gxJ G gY_75 K 0 [] [gR 6 (l0), gI (l1)] M n c (fi_75_L0 K l0 l1 M n c) := by
  unfold fi_75_L0
  refine gr_iload_n (pc := 0) (i := 1) (l1) (show decode (gy_b gY_75) 0 = .ok (.iload_n 1, 1) by decide +kernel) rfl rfl ?_
  refine gr_iflt (pc := 1) (tgt := 27) (off := 26) hG.2.1 (show decode (gy_b gY_75) 1 = .ok (.ifCond .lt (26), 3) by decide +kernel) (by decide) ?_ ?_
  · exact gj_false
  · refine gr_iload_n (pc := 4) (i := 1) (l1) (show decode (gy_b gY_75) 4 = .ok (.iload_n 1, 1) by decide +kernel) rfl rfl ?_
    refine gr_aload_n (pc := 5) (i := 0) 6 (l0) (show decode (gy_b gY_75) 5 = .ok (.aload_n 0, 1) by decide +kernel) rfl rfl ?_
    refine gr_getf (pc := 6) (index := 21) (t := 6) (j := 3) (σ := 0) (sv := gI) (show decode (gy_b gY_75) 6 = .ok (.getfield 21, 3) by decide +kernel) rfl rfl (fun _ => rfl) wd_229 (by decide) ?_
    intro v1
    refine gr_icmp_ge (pc := 9) (tgt := 27) (off := 18) hG.2.1 (show decode (gy_b gY_75) 9 = .ok (.if_icmp .ge (18), 3) by decide +kernel) (by decide) ?_ ?_
    · exact gj_false
    · refine gr_iload_n (pc := 12) (i := 1) (l1) (show decode (gy_b gY_75) 12 = .ok (.iload_n 1, 1) by decide +kernel) rfl rfl ?_
      refine gr_bipush (pc := 13) (z := 20) 20 (show decode (gy_b gY_75) 13 = .ok (.bipush (20), 2) by decide +kernel) (by decide +kernel) ?_
      refine gr_icmp_ge (pc := 15) (tgt := 27) (off := 12) hG.2.1 (show decode (gy_b gY_75) 15 = .ok (.if_icmp .ge (12), 3) by decide +kernel) (by decide) ?_ ?_
      · exact gj_false
      · refine gr_aload_n (pc := 18) (i := 0) 6 (l0) (show decode (gy_b gY_75) 18 = .ok (.aload_n 0, 1) by decide +kernel) rfl rfl ?_
        refine gr_getf (pc := 19) (index := 9) (t := 6) (j := 0) (σ := 72) (sv := (gR 64)) (show decode (gy_b gY_75) 19 = .ok (.getfield 9, 3) by decide +kernel) rfl rfl (fun _ => rfl) wd_226 (by decide) ?_
        intro v2
        refine gr_iload_n (pc := 22) (i := 1) (l1) (show decode (gy_b gY_75) 22 = .ok (.iload_n 1, 1) by decide +kernel) rfl rfl ?_
        refine gr_iald (pc := 23) (show decode (gy_b gY_75) 23 = .ok (.iaload, 1) by decide +kernel) ?_
        intro v3
        refine gr_goto (pc := 24) (tgt := 28) (off := 4) (show decode (gy_b gY_75) 24 = .ok (.goto (4), 3) by decide +kernel) (by decide) ?_
        exact gr_ireturn (pc := 28) (show decode (gy_b gY_75) 28 = .ok (.ireturn, 1) by decide +kernel) rfl rfl (by decide) gv_0
noncomputable def fi_75 (l0 l1 M n c : Nat) (K : Nat → Nat → Nat → Nat → Bool) : Bool := fi_75_L0 K l0 l1 M n c
theorem hm_75 {G : gxG} (hG : gxG0 G) (l0 l1 : Nat) : gxM G gY_75 yX6_nameAt [gR 6 (l0), gI (l1)] (fi_75 l0 l1) := gxM_of (L := [gR 6 (l0), gI (l1)]) hG 0 (by decide +kernel) rfl rfl rfl rfl (List.forall_mem_cons.mpr ⟨rfl, List.forall_mem_cons.mpr ⟨rfl, fun _ h => nomatch h⟩⟩) (fun M n c K => h_75_L0 hG  l0 l1 M n c)
/-! Farfiles hasDirectory (I)Z -/
def gY_76 : gxY := (false, prog_1_method_13_code, 2, (Option.some Jvm.ClassFile.FieldType.boolean), "Farfiles", 2, 60, 2, [], "hasDirectory")
theorem ok_76 {Y : gxY} (h1 : gy_f gY_76 + 1 ≤ gy_f Y) (h2 : 8 + (gy_l gY_76 + 11) + gy_k gY_76 ≤ gy_k Y) : gh_ok Y gY_76 yX7_hasDirectory 1 := ⟨wd_975, wd_51, ⟨by decide, by decide⟩, by decide +kernel, h1, h2⟩
noncomputable def fi_76_L21 (K : Nat → Nat → Nat → Nat → Bool) (s0 M n c : Nat) : Bool := gx_rt gx_f2 (s0) (K (s0) M n c)
theorem h_76_L21 {G : gxG} (hG : gxG0 G) {K : Nat → Nat → Nat → Nat → Bool} (s0 M n c : Nat) : gxJ G gY_76 K 21 [gI (s0)] [gB, gB] M n c (fi_76_L21 K s0 M n c) := by
  unfold fi_76_L21
  exact gr_ireturn (pc := 21) (show decode (gy_b gY_76) 21 = .ok (.ireturn, 1) by decide +kernel) rfl rfl (by decide) gv_2f
noncomputable def fi_76_L20 (K : Nat → Nat → Nat → Nat → Bool) (M n c : Nat) : Bool := fi_76_L21 K (0) M n c
theorem h_76_L20 {G : gxG} (hG : gxG0 G) {K : Nat → Nat → Nat → Nat → Bool} (M n c : Nat) : gxJ G gY_76 K 20 [] [gB, gB] M n c (fi_76_L20 K M n c) := by
  unfold fi_76_L20
  refine gr_iconst (pc := 20) (z := 0) 0 (show decode (gy_b gY_76) 20 = .ok (.iconst (0), 1) by decide +kernel) kc_0 ?_
  exact h_76_L21 hG (0) M n c
noncomputable def fi_76_L0 (K : Nat → Nat → Nat → Nat → Bool) (l0 l1 M n c : Nat) : Bool := fi_63 (l1) M n c (fun v1 M2 n3 c4 => gx_eq (v1) 0 (fi_76_L20 K  M2 n3 c4) (gx_get (l0) 7 M2 (fun v5 => gx_ald (v5) (l1) M2 (fun v6 => gx_eq (v6) 0 (fi_76_L20 K  M2 n3 c4) (fi_76_L21 K (1) M2 n3 c4)))))
theorem h_76_L0 {G : gxG} (hG : gxG0 G) {K : Nat → Nat → Nat → Nat → Bool} (l0 l1 M n c : Nat) : gxJ G gY_76 K 0 [] [gR 7 (l0), gI (l1)] M n c (fi_76_L0 K l0 l1 M n c) := by
  unfold fi_76_L0
  refine gr_iload_n (pc := 0) (i := 1) (l1) (show decode (gy_b gY_76) 0 = .ok (.iload_n 1, 1) by decide +kernel) rfl rfl ?_
  refine gj_c0 (pc := 1) (Y' := gY_63) (y := yX7_isObject) (vs := [gI (l1)]) (rest := []) (rs := fun v1 => [gI (v1)]) [gI (l1)] rfl (hm_63 hG (l1)) rfl (gh_S (vs := [gI (l1)]) (rest := []) (show decode (gy_b gY_76) 1 = .ok (.invokestatic 123, 3) by decide +kernel) rfl (ok_63 (by decide) (by decide)) rfl rfl wd_976 wd_904 (Nat.le_of_ble_eq_true rfl)) (fun _ => rfl) ?_
  intro v1 M2 n3 c4
  refine gr_ifeq (pc := 4) (tgt := 20) (off := 16) hG.2.1 (show decode (gy_b gY_76) 4 = .ok (.ifCond .eq (16), 3) by decide +kernel) (by decide) ?_ ?_
  · refine gr_wk [false, false] rfl ?_
    exact h_76_L20 hG  M2 n3 c4
  · refine gr_aload_n (pc := 7) (i := 0) 7 (l0) (show decode (gy_b gY_76) 7 = .ok (.aload_n 0, 1) by decide +kernel) rfl rfl ?_
    refine gr_getf (pc := 8) (index := 49) (t := 7) (j := 7) (σ := 74) (sv := (gR 66)) (show decode (gy_b gY_76) 8 = .ok (.getfield 49, 3) by decide +kernel) rfl rfl (fun _ => rfl) wd_301 (by decide) ?_
    intro v5
    refine gr_iload_n (pc := 11) (i := 1) (l1) (show decode (gy_b gY_76) 11 = .ok (.iload_n 1, 1) by decide +kernel) rfl rfl ?_
    refine gr_zald (pc := 12) (show decode (gy_b gY_76) 12 = .ok (.baload, 1) by decide +kernel) ?_
    intro v6
    refine gr_ifeq (pc := 13) (tgt := 20) (off := 7) hG.2.1 (show decode (gy_b gY_76) 13 = .ok (.ifCond .eq (7), 3) by decide +kernel) (by decide) ?_ ?_
    · refine gr_wk [false, false] rfl ?_
      exact h_76_L20 hG  M2 n3 c4
    · refine gr_iconst (pc := 16) (z := 1) 1 (show decode (gy_b gY_76) 16 = .ok (.iconst (1), 1) by decide +kernel) kc_1 ?_
      refine gr_goto (pc := 17) (tgt := 21) (off := 4) (show decode (gy_b gY_76) 17 = .ok (.goto (4), 3) by decide +kernel) (by decide) ?_
      refine gr_wk [false, false] rfl ?_
      exact h_76_L21 hG (1) M2 n3 c4
noncomputable def fi_76 (l0 l1 M n c : Nat) (K : Nat → Nat → Nat → Nat → Bool) : Bool := fi_76_L0 K l0 l1 M n c
theorem hm_76 {G : gxG} (hG : gxG0 G) (l0 l1 : Nat) : gxM G gY_76 yX7_hasDirectory [gR 7 (l0), gI (l1)] (fi_76 l0 l1) := gxM_of (L := [gR 7 (l0), gI (l1)]) hG 0 (by decide +kernel) rfl rfl rfl rfl (List.forall_mem_cons.mpr ⟨rfl, List.forall_mem_cons.mpr ⟨rfl, fun _ h => nomatch h⟩⟩) (fun M n c K => h_76_L0 hG  l0 l1 M n c)
