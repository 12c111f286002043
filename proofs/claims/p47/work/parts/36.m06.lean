/-! METHODS 6 -/
set_option maxRecDepth 100000
/-! Farfiles goOn (LFarfiles$Client;LFarfiles$Path;I)I -/
def gY_103 : gxY := (true, prog_1_method_28_code, 5, (Option.some Jvm.ClassFile.FieldType.int), "Farfiles", 9, 155, 0, [], "goOn")
theorem ok_103 {Y : gxY} (h1 : gy_f gY_103 + 1 ≤ gy_f Y) (h2 : 8 + (gy_l gY_103 + 11) + gy_k gY_103 ≤ gy_k Y) : gh_ok Y gY_103 yX7_goOn 3 := ⟨wd_1106, wd_51, ⟨by decide, by decide⟩, by decide +kernel, h1, h2⟩
noncomputable def fi_103_L0 (K : Nat → Nat → Nat → Nat → Bool) (l0 l1 l2 l3 M n c : Nat) : Bool := gx_nn (l2) (fi_86 (l2) M n c (fun v1 M2 n3 c4 => gx_nn (l0) (fi_83 (l0) (l1) (l3) (v1) M2 n3 c4 (fun v5 M6 n7 c8 => gx_thr K v5 M6 n7 c8 (gx_nn (l0) (fi_73 (l0) (l1) (v5) M6 n7 c8 (fun v9 M10 n11 c12 => gx_rt gx_f0 (v5) (K (v5) M10 n11 c12))))))))
theorem h_103_L0 {G : gxG} (hG : gxG0 G) {K : Nat → Nat → Nat → Nat → Bool} (l0 l1 l2 l3 M n c : Nat) : gxJ G gY_103 K 0 [] [gR 7 (l0), gR 3 (l1), gR 6 (l2), gI (l3), gB] M n c (fi_103_L0 K l0 l1 l2 l3 M n c) := by
  unfold fi_103_L0
  refine gr_aload_n (pc := 0) (i := 0) 7 (l0) (show decode (gy_b gY_103) 0 = .ok (.aload_n 0, 1) by decide +kernel) rfl rfl ?_
  refine gr_aload_n (pc := 1) (i := 1) 3 (l1) (show decode (gy_b gY_103) 1 = .ok (.aload_n 1, 1) by decide +kernel) rfl rfl ?_
  refine gr_iload_n (pc := 2) (i := 3) (l3) (show decode (gy_b gY_103) 2 = .ok (.iload_n 3, 1) by decide +kernel) rfl rfl ?_
  refine gr_aload_n (pc := 3) (i := 2) 6 (l2) (show decode (gy_b gY_103) 3 = .ok (.aload_n 2, 1) by decide +kernel) rfl rfl ?_
  refine gj_nn (fun hx4 => ?_)
  refine gj_c0 (pc := 4) (Y' := gY_86) (y := yX6_lastName) (vs := [gR 6 (l2)]) (rest := [gI (l3), gR 3 (l1), gR 7 (l0)]) (rs := fun v1 => [gI (v1), gI (l3), gR 3 (l1), gR 7 (l0)]) [gR 6 (l2)] rfl (hm_86 hG (l2)) rfl (gh_V (t := 6) (vs := []) (rest := [gI (l3), gR 3 (l1), gR 7 (l0)]) (show decode (gy_b gY_103) 4 = .ok (.invokevirtual 228, 3) by decide +kernel) rfl hx4 rfl rfl (ok_86 (by decide) (by decide)) wd_1009 wd_1010 wd_1011 (Nat.le_of_ble_eq_true rfl)) (fun _ => rfl) ?_
  intro v1 M2 n3 c4
  refine gj_nn (fun hx7 => ?_)
  refine gj_c1 (pc := 7) (Y' := gY_83) (y := yX7_nextOf) (vs := [gR 7 (l0), gR 3 (l1), gI (l3), gI (v1)]) (rest := []) (rs := fun v5 => [gI (v5)]) [gI (v1), gI (l3), gR 3 (l1), gR 7 (l0)] rfl (hm_83 hG (l0) (l1) (l3) (v1)) rfl rfl (gh_V (t := 7) (vs := [gR 3 (l1), gI (l3), gI (v1)]) (rest := []) (show decode (gy_b gY_103) 7 = .ok (.invokevirtual 219, 3) by decide +kernel) rfl hx7 rfl rfl (ok_83 (by decide) (by decide)) wd_968 wd_970 wd_20 (Nat.le_of_ble_eq_true rfl)) (fun _ => rfl) ?_
  intro v5 M6 n7 c8
  refine gr_istore (pc := 10) (i := 4) (L' := [gR 7 (l0), gR 3 (l1), gR 6 (l2), gI (l3), gI (v5)]) (show decode (gy_b gY_103) 10 = .ok (.istore 4, 2) by decide +kernel) (by decide) rfl rfl ?_
  refine gr_aload_n (pc := 12) (i := 0) 7 (l0) (show decode (gy_b gY_103) 12 = .ok (.aload_n 0, 1) by decide +kernel) rfl rfl ?_
  refine gr_aload_n (pc := 13) (i := 1) 3 (l1) (show decode (gy_b gY_103) 13 = .ok (.aload_n 1, 1) by decide +kernel) rfl rfl ?_
  refine gr_iload (pc := 14) (i := 4) (v5) (show decode (gy_b gY_103) 14 = .ok (.iload 4, 2) by decide +kernel) rfl ?_
  refine gj_nn (fun hx16 => ?_)
  refine gj_c0 (pc := 16) (Y' := gY_73) (y := yX7_lookAt) (vs := [gR 7 (l0), gR 3 (l1), gI (v5)]) (rest := []) (rs := fun v9 => []) [gI (v5), gR 3 (l1), gR 7 (l0)] rfl (hm_73 hG (l0) (l1) (v5)) rfl (gh_V (t := 7) (vs := [gR 3 (l1), gI (v5)]) (rest := []) (show decode (gy_b gY_103) 16 = .ok (.invokevirtual 208, 3) by decide +kernel) rfl hx16 rfl rfl (ok_73 (by decide) (by decide)) wd_895 wd_897 wd_18 (Nat.le_of_ble_eq_true rfl)) (fun _ => rfl) ?_
  intro v9 M10 n11 c12
  refine gr_iload (pc := 19) (i := 4) (v5) (show decode (gy_b gY_103) 19 = .ok (.iload 4, 2) by decide +kernel) rfl ?_
  exact gr_ireturn (pc := 21) (show decode (gy_b gY_103) 21 = .ok (.ireturn, 1) by decide +kernel) rfl rfl (by decide) gv_0
noncomputable def fi_103 (l0 l1 l2 l3 M n c : Nat) (K : Nat → Nat → Nat → Nat → Bool) : Bool := fi_103_L0 K l0 l1 l2 l3 M n c
theorem hm_103 {G : gxG} (hG : gxG0 G) (l0 l1 l2 l3 : Nat) : gxM G gY_103 yX7_goOn [gR 7 (l0), gR 3 (l1), gR 6 (l2), gI (l3)] (fi_103 l0 l1 l2 l3) := gxM_of (L := [gR 7 (l0), gR 3 (l1), gR 6 (l2), gI (l3), gB]) hG 1 (by decide +kernel) rfl rfl rfl rfl (List.forall_mem_cons.mpr ⟨rfl, List.forall_mem_cons.mpr ⟨rfl, List.forall_mem_cons.mpr ⟨rfl, List.forall_mem_cons.mpr ⟨rfl, fun _ h => nomatch h⟩⟩⟩⟩) (fun M n c K => h_103_L0 hG  l0 l1 l2 l3 M n c)
/-! Farfiles store (I)I -/
def gY_104 : gxY := (false, prog_1_method_41_code, 9, (Option.some Jvm.ClassFile.FieldType.int), "Farfiles", 11, 203, 0, [], "store")
theorem ok_104 {Y : gxY} (h1 : gy_f gY_104 + 1 ≤ gy_f Y) (h2 : 8 + (gy_l gY_104 + 11) + gy_k gY_104 ≤ gy_k Y) : gh_ok Y gY_104 yX7_store 1 := ⟨wd_1097, wd_51, ⟨by decide, by decide⟩, by decide +kernel, h1, h2⟩
noncomputable def fi_104_L159 (K : Nat → Nat → Nat → Nat → Bool) (s0 s1 s2 M n c : Nat) : Bool := gx_nn (s0) (fi_94 (s0) (s1) (s2) M n c (fun v51 M52 n53 c54 => gx_rt gx_f0 (v51) (K (v51) M52 n53 c54)))
theorem h_104_L159 {G : gxG} (hG : gxG0 G) {K : Nat → Nat → Nat → Nat → Bool} (s0 s1 s2 M n c : Nat) : gxJ G gY_104 K 159 [gR 0 (s2), gR 3 (s1), gR 7 (s0)] [gB, gB, gB, gB, gB, gB, gB, gB, gB] M n c (fi_104_L159 K s0 s1 s2 M n c) := by
  unfold fi_104_L159
  refine gj_nn (fun hx159 => ?_)
  refine gj_c0 (pc := 159) (Y' := gY_94) (y := yX7_enter) (vs := [gR 7 (s0), gR 3 (s1), gR 0 (s2)]) (rest := []) (rs := fun v51 => [gI (v51)]) [gR 0 (s2), gR 3 (s1), gR 7 (s0)] rfl (hm_94 hG (s0) (s1) (s2)) rfl (gh_V (t := 7) (vs := [gR 3 (s1), gR 0 (s2)]) (rest := []) (show decode (gy_b gY_104) 159 = .ok (.invokevirtual 294, 3) by decide +kernel) rfl hx159 rfl rfl (ok_94 (by decide) (by decide)) wd_1033 wd_1035 wd_28 (Nat.le_of_ble_eq_true rfl)) (fun _ => rfl) ?_
  intro v51 M52 n53 c54
  exact gr_ireturn (pc := 162) (show decode (gy_b gY_104) 162 = .ok (.ireturn, 1) by decide +kernel) rfl rfl (by decide) gv_0
noncomputable def fi_104_L109 (K : Nat → Nat → Nat → Nat → Bool) (l0 l1 l2 l6 l7 s0 M n c : Nat) : Bool := gx_get (l0) 8 M (fun v31 => gx_nn (s0) (fi_103 (s0) (l2) (v31) (l7) M n c (fun v32 M33 n34 c35 => gx_nth v32 (gx_nn (l0) (fi_76 (l0) (v32) M33 n34 c35 (fun v36 M37 n38 c39 => gx_eq (v36) 0 (gx_nn (l0) (fi_89 (l0) (1) M37 n38 c39 (fun v40 M41 n42 c43 => gx_new 8 n42 c43 (fun v44 n45 c46 => gx_nn (v44) (fi_2 (v44) (l1) (v32) (115) (0) (4294967295) (l6) M41 n45 c46 (fun v47 M48 n49 c50 => fi_104_L159 K (l0) (l2) (v44) M48 n49 c50)))))) (false)))))))
theorem h_104_L109 {G : gxG} (hG : gxG0 G) {K : Nat → Nat → Nat → Nat → Bool} (l0 l1 l2 l6 l7 s0 M n c : Nat) : gxJ G gY_104 K 109 [gR 7 (s0)] [gR 7 (l0), gI (l1), gR 3 (l2), gB, gB, gB, gR 65 (l6), gI (l7), gB] M n c (fi_104_L109 K l0 l1 l2 l6 l7 s0 M n c) := by
  unfold fi_104_L109
  refine gr_aload_n (pc := 109) (i := 2) 3 (l2) (show decode (gy_b gY_104) 109 = .ok (.aload_n 2, 1) by decide +kernel) rfl rfl ?_
  refine gr_aload_n (pc := 110) (i := 0) 7 (l0) (show decode (gy_b gY_104) 110 = .ok (.aload_n 0, 1) by decide +kernel) rfl rfl ?_
  refine gr_getf (pc := 111) (index := 55) (t := 7) (j := 8) (σ := 14) (sv := (gR 6)) (show decode (gy_b gY_104) 111 = .ok (.getfield 55, 3) by decide +kernel) rfl rfl (fun _ => rfl) wd_302 (by decide) ?_
  intro v31
  refine gr_iload (pc := 114) (i := 7) (l7) (show decode (gy_b gY_104) 114 = .ok (.iload 7, 2) by decide +kernel) rfl ?_
  refine gj_nn (fun hx116 => ?_)
  refine gj_c2 (pc := 116) (Y' := gY_103) (y := yX7_goOn) (vs := [gR 7 (s0), gR 3 (l2), gR 6 (v31), gI (l7)]) (rest := []) (rs := fun v32 => [gI (v32)]) [gI (l7), gR 6 (v31), gR 3 (l2), gR 7 (s0)] rfl (hm_103 hG (s0) (l2) (v31) (l7)) (gh_V (t := 7) (vs := [gR 3 (l2), gR 6 (v31), gI (l7)]) (rest := []) (show decode (gy_b gY_104) 116 = .ok (.invokevirtual 330, 3) by decide +kernel) rfl hx116 rfl rfl (ok_103 (by decide) (by decide)) wd_1103 wd_1105 wd_32 (Nat.le_of_ble_eq_true rfl)) (fun _ => rfl) ?_
  intro v32 M33 n34 c35
  refine gr_istore (pc := 119) (i := 8) (L' := [gR 7 (l0), gI (l1), gR 3 (l2), gB, gB, gB, gR 65 (l6), gI (l7), gI (v32)]) (show decode (gy_b gY_104) 119 = .ok (.istore 8, 2) by decide +kernel) (by decide) rfl rfl ?_
  refine gr_aload_n (pc := 121) (i := 0) 7 (l0) (show decode (gy_b gY_104) 121 = .ok (.aload_n 0, 1) by decide +kernel) rfl rfl ?_
  refine gr_iload (pc := 122) (i := 8) (v32) (show decode (gy_b gY_104) 122 = .ok (.iload 8, 2) by decide +kernel) rfl ?_
  refine gj_nn (fun hx124 => ?_)
  refine gj_c0 (pc := 124) (Y' := gY_76) (y := yX7_hasDirectory) (vs := [gR 7 (l0), gI (v32)]) (rest := []) (rs := fun v36 => [gI (v36)]) [gI (v32), gR 7 (l0)] rfl (hm_76 hG (l0) (v32)) rfl (gh_V (t := 7) (vs := [gI (v32)]) (rest := []) (show decode (gy_b gY_104) 124 = .ok (.invokevirtual 198, 3) by decide +kernel) rfl hx124 rfl rfl (ok_76 (by decide) (by decide)) wd_972 wd_974 wd_21 (Nat.le_of_ble_eq_true rfl)) (fun _ => rfl) ?_
  intro v36 M37 n38 c39
  refine gr_ifeq (pc := 127) (tgt := 136) (off := 9) hG.2.1 (show decode (gy_b gY_104) 127 = .ok (.ifCond .eq (9), 3) by decide +kernel) (by decide) ?_ ?_
  · refine gr_aload_n (pc := 136) (i := 0) 7 (l0) (show decode (gy_b gY_104) 136 = .ok (.aload_n 0, 1) by decide +kernel) rfl rfl ?_
    refine gr_iconst (pc := 137) (z := 1) 1 (show decode (gy_b gY_104) 137 = .ok (.iconst (1), 1) by decide +kernel) kc_1 ?_
    refine gj_nn (fun hx138 => ?_)
    refine gj_c0 (pc := 138) (Y' := gY_89) (y := yX7_refuseIfTooFew) (vs := [gR 7 (l0), gI (1)]) (rest := []) (rs := fun v40 => []) [gI (1), gR 7 (l0)] rfl (hm_89 hG (l0) (1)) rfl (gh_V (t := 7) (vs := [gI (1)]) (rest := []) (show decode (gy_b gY_104) 138 = .ok (.invokevirtual 305, 3) by decide +kernel) rfl hx138 rfl rfl (ok_89 (by decide) (by decide)) wd_1018 wd_1020 wd_26 (Nat.le_of_ble_eq_true rfl)) (fun _ => rfl) ?_
    intro v40 M41 n42 c43
    refine gr_aload_n (pc := 141) (i := 0) 7 (l0) (show decode (gy_b gY_104) 141 = .ok (.aload_n 0, 1) by decide +kernel) rfl rfl ?_
    refine gr_aload_n (pc := 142) (i := 2) 3 (l2) (show decode (gy_b gY_104) 142 = .ok (.aload_n 2, 1) by decide +kernel) rfl rfl ?_
    refine gr_newo (pc := 143) (index := 245) (t := 0) (show decode (gy_b gY_104) 143 = .ok (.new 245, 3) by decide +kernel) rfl wd_1030 wd_117 wd_54 ?_
    intro v44 n45 c46
    refine gr_dup (b := gB) (pc := 146) (show decode (gy_b gY_104) 146 = .ok (.dup, 1) by decide +kernel) rfl ?_
    refine gr_iload_n (pc := 147) (i := 1) (l1) (show decode (gy_b gY_104) 147 = .ok (.iload_n 1, 1) by decide +kernel) rfl rfl ?_
    refine gr_iload (pc := 148) (i := 8) (v32) (show decode (gy_b gY_104) 148 = .ok (.iload 8, 2) by decide +kernel) rfl ?_
    refine gr_bipush (pc := 150) (z := 115) 115 (show decode (gy_b gY_104) 150 = .ok (.bipush (115), 2) by decide +kernel) (by decide +kernel) ?_
    refine gr_iconst (pc := 152) (z := 0) 0 (show decode (gy_b gY_104) 152 = .ok (.iconst (0), 1) by decide +kernel) kc_0 ?_
    refine gr_iconst (pc := 153) (z := -1) 4294967295 (show decode (gy_b gY_104) 153 = .ok (.iconst (-1), 1) by decide +kernel) kc_m1 ?_
    refine gr_aload (pc := 154) (i := 6) 65 (l6) (show decode (gy_b gY_104) 154 = .ok (.aload 6, 2) by decide +kernel) rfl ?_
    refine gj_nn (fun hx156 => ?_)
    refine gj_c0 (pc := 156) (Y' := gY_2) (y := yX0_init) (vs := [gR 0 (v44), gI (l1), gI (v32), gI (115), gI (0), gI (4294967295), gR 65 (l6)]) (rest := [gR 0 (v44), gR 3 (l2), gR 7 (l0)]) (rs := fun v47 => [gR 0 (v44), gR 3 (l2), gR 7 (l0)]) [gR 65 (l6), gI (4294967295), gI (0), gI (115), gI (v32), gI (l1), gR 0 (v44)] rfl (hm_2 hG (v44) (l1) (v32) (115) (0) (4294967295) (l6)) rfl (gh_I (t := 0) (vs := [gI (l1), gI (v32), gI (115), gI (0), gI (4294967295), gR 65 (l6)]) (rest := [gR 0 (v44), gR 3 (l2), gR 7 (l0)]) (show decode (gy_b gY_104) 156 = .ok (.invokespecial 291, 3) by decide +kernel) rfl hx156 rfl (ok_2 (by decide) (by decide)) rfl rfl rfl rfl wd_1032 wd_121 (Nat.le_of_ble_eq_true rfl)) (fun _ => rfl) ?_
    intro v47 M48 n49 c50
    refine gr_wk [false, false, false, true, true, true, false, false, false] rfl ?_
    exact h_104_L159 hG (l0) (l2) (v44) M48 n49 c50
  · exact gj_false
noncomputable def fi_104_L46 (K : Nat → Nat → Nat → Nat → Bool) (l0 l1 l2 l3 s0 s1 M n c : Nat) : Bool := gx_lt (s1) (s0) (false) (gx_lt (0) 0 (false) (gx_get (l0) 0 M (fun v15 => gx_add (l3) (1) (fun z16 => gx_nn (v15) (fi_102 (v15) (z16) M n c (fun v17 M18 n19 c20 => gx_get (l0) 0 M18 (fun v21 => gx_nn (v21) (fi_41 (v21) M18 n19 c20 (fun v22 M23 n24 c25 => gx_lt (0) 0 (false) (gx_get (l0) 8 M23 (fun v26 => gx_nn (l0) (fi_85 (l0) (l2) (v26) M23 n24 c25 (fun v27 M28 n29 c30 => gx_nth v27 (fi_104_L109 K (l0) (l1) (l2) (v17) (v27) (l0) M28 n29 c30))))))))))))))
theorem h_104_L46 {G : gxG} (hG : gxG0 G) {K : Nat → Nat → Nat → Nat → Bool} (l0 l1 l2 l3 s0 s1 M n c : Nat) : gxJ G gY_104 K 46 [gI (s1), gI (s0)] [gR 7 (l0), gI (l1), gR 3 (l2), gI (l3), gB, gB, gB, gB, gB] M n c (fi_104_L46 K l0 l1 l2 l3 s0 s1 M n c) := by
  unfold fi_104_L46
  refine gr_icmp_le (pc := 46) (tgt := 56) (off := 10) hG.2.1 (show decode (gy_b gY_104) 46 = .ok (.if_icmp .le (10), 3) by decide +kernel) (by decide) ?_ ?_
  · refine gr_iconst (pc := 56) (z := 0) 0 (show decode (gy_b gY_104) 56 = .ok (.iconst (0), 1) by decide +kernel) kc_0 ?_
    refine gr_istore (pc := 57) (i := 5) (L' := [gR 7 (l0), gI (l1), gR 3 (l2), gI (l3), gB, gI (0), gB, gB, gB]) (show decode (gy_b gY_104) 57 = .ok (.istore 5, 2) by decide +kernel) (by decide) rfl rfl ?_
    refine gr_iload (pc := 59) (i := 5) (0) (show decode (gy_b gY_104) 59 = .ok (.iload 5, 2) by decide +kernel) rfl ?_
    refine gr_ifge (pc := 61) (tgt := 70) (off := 9) hG.2.1 (show decode (gy_b gY_104) 61 = .ok (.ifCond .ge (9), 3) by decide +kernel) (by decide) ?_ ?_
    · refine gr_aload_n (pc := 70) (i := 0) 7 (l0) (show decode (gy_b gY_104) 70 = .ok (.aload_n 0, 1) by decide +kernel) rfl rfl ?_
      refine gr_getf (pc := 71) (index := 10) (t := 7) (j := 0) (σ := 12) (sv := (gR 4)) (show decode (gy_b gY_104) 71 = .ok (.getfield 10, 3) by decide +kernel) rfl rfl (fun _ => rfl) wd_294 (by decide) ?_
      intro v15
      refine gr_iload_n (pc := 74) (i := 3) (l3) (show decode (gy_b gY_104) 74 = .ok (.iload_n 3, 1) by decide +kernel) rfl rfl ?_
      refine gr_iconst (pc := 75) (z := 1) 1 (show decode (gy_b gY_104) 75 = .ok (.iconst (1), 1) by decide +kernel) kc_1 ?_
      refine gr_iadd (pc := 76) (show decode (gy_b gY_104) 76 = .ok (.iadd, 1) by decide +kernel) ?_
      intro z16
      refine gj_nn (fun hx77 => ?_)
      refine gj_c0 (pc := 77) (Y' := gY_102) (y := yX4_copyFrom) (vs := [gR 4 (v15), gI (z16)]) (rest := []) (rs := fun v17 => [gR 65 (v17)]) [gI (z16), gR 4 (v15)] rfl (hm_102 hG (v15) (z16)) rfl (gh_V (t := 4) (vs := [gI (z16)]) (rest := []) (show decode (gy_b gY_104) 77 = .ok (.invokevirtual 326, 3) by decide +kernel) rfl hx77 rfl rfl (ok_102 (by decide) (by decide)) wd_1098 wd_1099 wd_1100 (Nat.le_of_ble_eq_true rfl)) (fun _ => rfl) ?_
      intro v17 M18 n19 c20
      refine gr_astore (pc := 80) (i := 6) (L' := [gR 7 (l0), gI (l1), gR 3 (l2), gI (l3), gB, gI (0), gR 65 (v17), gB, gB]) (show decode (gy_b gY_104) 80 = .ok (.astore 6, 2) by decide +kernel) (by decide) rfl rfl ?_
      refine gr_aload_n (pc := 82) (i := 0) 7 (l0) (show decode (gy_b gY_104) 82 = .ok (.aload_n 0, 1) by decide +kernel) rfl rfl ?_
      refine gr_getf (pc := 83) (index := 10) (t := 7) (j := 0) (σ := 12) (sv := (gR 4)) (show decode (gy_b gY_104) 83 = .ok (.getfield 10, 3) by decide +kernel) rfl rfl (fun _ => rfl) wd_294 (by decide) ?_
      intro v21
      refine gj_nn (fun hx86 => ?_)
      refine gj_c0 (pc := 86) (Y' := gY_41) (y := yX4_empty) (vs := [gR 4 (v21)]) (rest := []) (rs := fun v22 => []) [gR 4 (v21)] rfl (hm_41 hG (v21)) rfl (gh_V (t := 4) (vs := []) (rest := []) (show decode (gy_b gY_104) 86 = .ok (.invokevirtual 147, 3) by decide +kernel) rfl hx86 rfl rfl (ok_41 (by decide) (by decide)) wd_744 wd_745 wd_746 (Nat.le_of_ble_eq_true rfl)) (fun _ => rfl) ?_
      intro v22 M23 n24 c25
      refine gr_iload (pc := 89) (i := 5) (0) (show decode (gy_b gY_104) 89 = .ok (.iload 5, 2) by decide +kernel) rfl ?_
      refine gr_ifge (pc := 91) (tgt := 97) (off := 6) hG.2.1 (show decode (gy_b gY_104) 91 = .ok (.ifCond .ge (6), 3) by decide +kernel) (by decide) ?_ ?_
      · refine gr_aload_n (pc := 97) (i := 0) 7 (l0) (show decode (gy_b gY_104) 97 = .ok (.aload_n 0, 1) by decide +kernel) rfl rfl ?_
        refine gr_aload_n (pc := 98) (i := 2) 3 (l2) (show decode (gy_b gY_104) 98 = .ok (.aload_n 2, 1) by decide +kernel) rfl rfl ?_
        refine gr_aload_n (pc := 99) (i := 0) 7 (l0) (show decode (gy_b gY_104) 99 = .ok (.aload_n 0, 1) by decide +kernel) rfl rfl ?_
        refine gr_getf (pc := 100) (index := 55) (t := 7) (j := 8) (σ := 14) (sv := (gR 6)) (show decode (gy_b gY_104) 100 = .ok (.getfield 55, 3) by decide +kernel) rfl rfl (fun _ => rfl) wd_302 (by decide) ?_
        intro v26
        refine gj_nn (fun hx103 => ?_)
        refine gj_c2 (pc := 103) (Y' := gY_85) (y := yX7_goToDirectory) (vs := [gR 7 (l0), gR 3 (l2), gR 6 (v26)]) (rest := []) (rs := fun v27 => [gI (v27)]) [gR 6 (v26), gR 3 (l2), gR 7 (l0)] rfl (hm_85 hG (l0) (l2) (v26)) (gh_V (t := 7) (vs := [gR 3 (l2), gR 6 (v26)]) (rest := []) (show decode (gy_b gY_104) 103 = .ok (.invokevirtual 318, 3) by decide +kernel) rfl hx103 rfl rfl (ok_85 (by decide) (by decide)) wd_867 wd_869 wd_15 (Nat.le_of_ble_eq_true rfl)) (fun _ => rfl) ?_
        intro v27 M28 n29 c30
        refine gr_istore (pc := 106) (i := 7) (L' := [gR 7 (l0), gI (l1), gR 3 (l2), gI (l3), gB, gI (0), gR 65 (v17), gI (v27), gB]) (show decode (gy_b gY_104) 106 = .ok (.istore 7, 2) by decide +kernel) (by decide) rfl rfl ?_
        refine gr_aload_n (pc := 108) (i := 0) 7 (l0) (show decode (gy_b gY_104) 108 = .ok (.aload_n 0, 1) by decide +kernel) rfl rfl ?_
        refine gr_wk [true, true, true, false, true, false, true, true, true] rfl ?_
        exact h_104_L109 hG (l0) (l1) (l2) (v17) (v27) (l0) M28 n29 c30
      · exact gj_false
    · exact gj_false
  · exact gj_false
noncomputable def fi_104_L0 (K : Nat → Nat → Nat → Nat → Bool) (l0 l1 M n c : Nat) : Bool := gx_nn (l0) (fi_51 (l0) (l1) M n c (fun v1 M2 n3 c4 => gx_get (l0) 8 M2 (fun v5 => gx_get (l0) 0 M2 (fun v6 => gx_nn (v5) (fi_58 (v5) (v6) (0) (61) M2 n3 c4 (fun v7 M8 n9 c10 => gx_add (v7) (1) (fun z11 => gx_add (z11) (16) (fun z12 => gx_lt (v7) 0 (false) (gx_get (l0) 0 M8 (fun v13 => gx_get (v13) 1 M8 (fun v14 => fi_104_L46 K (l0) (l1) (v1) (v7) (v14) (z12) M8 n9 c10)))))))))))
theorem h_104_L0 {G : gxG} (hG : gxG0 G) {K : Nat → Nat → Nat → Nat → Bool} (l0 l1 M n c : Nat) : gxJ G gY_104 K 0 [] [gR 7 (l0), gI (l1), gB, gB, gB, gB, gB, gB, gB] M n c (fi_104_L0 K l0 l1 M n c) := by
  unfold fi_104_L0
  refine gr_aload_n (pc := 0) (i := 0) 7 (l0) (show decode (gy_b gY_104) 0 = .ok (.aload_n 0, 1) by decide +kernel) rfl rfl ?_
  refine gr_iload_n (pc := 1) (i := 1) (l1) (show decode (gy_b gY_104) 1 = .ok (.iload_n 1, 1) by decide +kernel) rfl rfl ?_
  refine gj_nn (fun hx2 => ?_)
  refine gj_c0 (pc := 2) (Y' := gY_51) (y := yX7_callerOf) (vs := [gR 7 (l0), gI (l1)]) (rest := []) (rs := fun v1 => [gR 3 (v1)]) [gI (l1), gR 7 (l0)] rfl (hm_51 hG (l0) (l1)) rfl (gh_V (t := 7) (vs := [gI (l1)]) (rest := []) (show decode (gy_b gY_104) 2 = .ok (.invokevirtual 312, 3) by decide +kernel) rfl hx2 rfl rfl (ok_51 (by decide) (by decide)) wd_811 wd_813 wd_12 (Nat.le_of_ble_eq_true rfl)) (fun _ => rfl) ?_
  intro v1 M2 n3 c4
  refine gr_astore_n (pc := 5) (i := 2) (L' := [gR 7 (l0), gI (l1), gR 3 (v1), gB, gB, gB, gB, gB, gB]) (show decode (gy_b gY_104) 5 = .ok (.astore_n 2, 1) by decide +kernel) rfl (by decide) rfl rfl ?_
  refine gr_aload_n (pc := 6) (i := 0) 7 (l0) (show decode (gy_b gY_104) 6 = .ok (.aload_n 0, 1) by decide +kernel) rfl rfl ?_
  refine gr_getf (pc := 7) (index := 55) (t := 7) (j := 8) (σ := 14) (sv := (gR 6)) (show decode (gy_b gY_104) 7 = .ok (.getfield 55, 3) by decide +kernel) rfl rfl (fun _ => rfl) wd_302 (by decide) ?_
  intro v5
  refine gr_aload_n (pc := 10) (i := 0) 7 (l0) (show decode (gy_b gY_104) 10 = .ok (.aload_n 0, 1) by decide +kernel) rfl rfl ?_
  refine gr_getf (pc := 11) (index := 10) (t := 7) (j := 0) (σ := 12) (sv := (gR 4)) (show decode (gy_b gY_104) 11 = .ok (.getfield 10, 3) by decide +kernel) rfl rfl (fun _ => rfl) wd_294 (by decide) ?_
  intro v6
  refine gr_iconst (pc := 14) (z := 0) 0 (show decode (gy_b gY_104) 14 = .ok (.iconst (0), 1) by decide +kernel) kc_0 ?_
  refine gr_bipush (pc := 15) (z := 61) 61 (show decode (gy_b gY_104) 15 = .ok (.bipush (61), 2) by decide +kernel) (by decide +kernel) ?_
  refine gj_nn (fun hx17 => ?_)
  refine gj_c0 (pc := 17) (Y' := gY_58) (y := yX6_readFrom) (vs := [gR 6 (v5), gR 4 (v6), gI (0), gI (61)]) (rest := []) (rs := fun v7 => [gI (v7)]) [gI (61), gI (0), gR 4 (v6), gR 6 (v5)] rfl (hm_58 hG (v5) (v6) (0) (61)) rfl (gh_V (t := 6) (vs := [gR 4 (v6), gI (0), gI (61)]) (rest := []) (show decode (gy_b gY_104) 17 = .ok (.invokevirtual 234, 3) by decide +kernel) rfl hx17 rfl rfl (ok_58 (by decide) (by decide)) wd_827 wd_828 wd_829 (Nat.le_of_ble_eq_true rfl)) (fun _ => rfl) ?_
  intro v7 M8 n9 c10
  refine gr_istore_n (pc := 20) (i := 3) (L' := [gR 7 (l0), gI (l1), gR 3 (v1), gI (v7), gB, gB, gB, gB, gB]) (show decode (gy_b gY_104) 20 = .ok (.istore_n 3, 1) by decide +kernel) rfl (by decide) rfl rfl ?_
  refine gr_iload_n (pc := 21) (i := 3) (v7) (show decode (gy_b gY_104) 21 = .ok (.iload_n 3, 1) by decide +kernel) rfl rfl ?_
  refine gr_iconst (pc := 22) (z := 1) 1 (show decode (gy_b gY_104) 22 = .ok (.iconst (1), 1) by decide +kernel) kc_1 ?_
  refine gr_iadd (pc := 23) (show decode (gy_b gY_104) 23 = .ok (.iadd, 1) by decide +kernel) ?_
  intro z11
  refine gr_bipush (pc := 24) (z := 16) 16 (show decode (gy_b gY_104) 24 = .ok (.bipush (16), 2) by decide +kernel) (by decide +kernel) ?_
  refine gr_iadd (pc := 26) (show decode (gy_b gY_104) 26 = .ok (.iadd, 1) by decide +kernel) ?_
  intro z12
  refine gr_istore (pc := 27) (i := 4) (L' := [gR 7 (l0), gI (l1), gR 3 (v1), gI (v7), gI (z12), gB, gB, gB, gB]) (show decode (gy_b gY_104) 27 = .ok (.istore 4, 2) by decide +kernel) (by decide) rfl rfl ?_
  refine gr_iload_n (pc := 29) (i := 3) (v7) (show decode (gy_b gY_104) 29 = .ok (.iload_n 3, 1) by decide +kernel) rfl rfl ?_
  refine gr_ifge (pc := 30) (tgt := 37) (off := 7) hG.2.1 (show decode (gy_b gY_104) 30 = .ok (.ifCond .ge (7), 3) by decide +kernel) (by decide) ?_ ?_
  · refine gr_aload_n (pc := 37) (i := 0) 7 (l0) (show decode (gy_b gY_104) 37 = .ok (.aload_n 0, 1) by decide +kernel) rfl rfl ?_
    refine gr_getf (pc := 38) (index := 10) (t := 7) (j := 0) (σ := 12) (sv := (gR 4)) (show decode (gy_b gY_104) 38 = .ok (.getfield 10, 3) by decide +kernel) rfl rfl (fun _ => rfl) wd_294 (by decide) ?_
    intro v13
    refine gr_getfN (pc := 41) (index := 133) (t := 4) (j := 1) (σ := 0) (sv := gI) (show decode (gy_b gY_104) 41 = .ok (.getfield 133, 3) by decide +kernel) rfl rfl (fun _ => rfl) wd_102 (by decide) ?_
    intro v14
    refine gr_iload (pc := 44) (i := 4) (z12) (show decode (gy_b gY_104) 44 = .ok (.iload 4, 2) by decide +kernel) rfl ?_
    refine gr_wk [true, true, true, true, false, true, true, true, true] rfl ?_
    exact h_104_L46 hG (l0) (l1) (v1) (v7) (v14) (z12) M8 n9 c10
  · exact gj_false
noncomputable def fi_104 (l0 l1 M n c : Nat) (K : Nat → Nat → Nat → Nat → Bool) : Bool := fi_104_L0 K l0 l1 M n c
theorem hm_104 {G : gxG} (hG : gxG0 G) (l0 l1 : Nat) : gxM G gY_104 yX7_store [gR 7 (l0), gI (l1)] (fi_104 l0 l1) := gxM_of (L := [gR 7 (l0), gI (l1), gB, gB, gB, gB, gB, gB, gB]) hG 7 (by decide +kernel) rfl rfl rfl rfl (List.forall_mem_cons.mpr ⟨rfl, List.forall_mem_cons.mpr ⟨rfl, fun _ h => nomatch h⟩⟩) (fun M n c K => h_104_L0 hG  l0 l1 M n c)
/-! Farfiles actClient (I)I -/
def gY_105 : gxY := (false, prog_1_method_72_code, 2, (Option.some Jvm.ClassFile.FieldType.int), "Farfiles", 3, 83, 0, [], "actClient")
theorem ok_105 {Y : gxY} (h1 : gy_f gY_105 + 1 ≤ gy_f Y) (h2 : 8 + (gy_l gY_105 + 11) + gy_k gY_105 ≤ gy_k Y) : gh_ok Y gY_105 yX7_actClient 1 := ⟨wd_1110, wd_51, ⟨by decide, by decide⟩, by decide +kernel, h1, h2⟩
noncomputable def fi_105_L0 (K : Nat → Nat → Nat → Nat → Bool) (l0 l1 M n c : Nat) : Bool := gx_nn (l0) (fi_99 (l0) (l1) M n c (fun v1 M2 n3 c4 => gx_get (v1) 0 M2 (fun v5 => gx_rt gx_f0 (v5) (K (v5) M2 n3 c4))))
theorem h_105_L0 {G : gxG} (hG : gxG0 G) {K : Nat → Nat → Nat → Nat → Bool} (l0 l1 M n c : Nat) : gxJ G gY_105 K 0 [] [gR 7 (l0), gI (l1)] M n c (fi_105_L0 K l0 l1 M n c) := by
  unfold fi_105_L0
  refine gr_aload_n (pc := 0) (i := 0) 7 (l0) (show decode (gy_b gY_105) 0 = .ok (.aload_n 0, 1) by decide +kernel) rfl rfl ?_
  refine gr_iload_n (pc := 1) (i := 1) (l1) (show decode (gy_b gY_105) 1 = .ok (.iload_n 1, 1) by decide +kernel) rfl rfl ?_
  refine gj_nn (fun hx2 => ?_)
  refine gj_c0 (pc := 2) (Y' := gY_99) (y := yX7_actOf) (vs := [gR 7 (l0), gI (l1)]) (rest := []) (rs := fun v1 => [gR 0 (v1)]) [gI (l1), gR 7 (l0)] rfl (hm_99 hG (l0) (l1)) rfl (gh_V (t := 7) (vs := [gI (l1)]) (rest := []) (show decode (gy_b gY_105) 2 = .ok (.invokevirtual 421, 3) by decide +kernel) rfl hx2 rfl rfl (ok_99 (by decide) (by decide)) wd_1069 wd_1071 wd_31 (Nat.le_of_ble_eq_true rfl)) (fun _ => rfl) ?_
  intro v1 M2 n3 c4
  refine gr_getfN (pc := 5) (index := 452) (t := 0) (j := 0) (σ := 0) (sv := gI) (show decode (gy_b gY_105) 5 = .ok (.getfield 452, 3) by decide +kernel) rfl rfl (fun _ => rfl) wd_136 (by decide) ?_
  intro v5
  exact gr_ireturn (pc := 8) (show decode (gy_b gY_105) 8 = .ok (.ireturn, 1) by decide +kernel) rfl rfl (by decide) gv_0
noncomputable def fi_105 (l0 l1 M n c : Nat) (K : Nat → Nat → Nat → Nat → Bool) : Bool := fi_105_L0 K l0 l1 M n c
theorem hm_105 {G : gxG} (hG : gxG0 G) (l0 l1 : Nat) : gxM G gY_105 yX7_actClient [gR 7 (l0), gI (l1)] (fi_105 l0 l1) := gxM_of (L := [gR 7 (l0), gI (l1)]) hG 0 (by decide +kernel) rfl rfl rfl rfl (List.forall_mem_cons.mpr ⟨rfl, List.forall_mem_cons.mpr ⟨rfl, fun _ h => nomatch h⟩⟩) (fun M n c K => h_105_L0 hG  l0 l1 M n c)
/-! java/lang/Long bitCount (J)I -/
def gY_106 : gxY := (false, prog_28_method_50_code, 2, (Option.some Jvm.ClassFile.FieldType.int), "java/lang/Long", 1, 40, 0, [], "bitCount")
theorem ok_106 {Y : gxY} (h1 : gy_f gY_106 + 1 ≤ gy_f Y) (h2 : 8 + (gy_l gY_106 + 11) + gy_k gY_106 ≤ gy_k Y) : gh_ok Y gY_106 yJ13_bitCount_95d88 1 := ⟨wd_1125, wd_79, ⟨by decide, by decide⟩, by decide +kernel, h1, h2⟩
noncomputable def fi_106_L32 (K : Nat → Nat → Nat → Nat → Bool) (s0 s1 M n c : Nat) : Bool := gx_lus (Nat.land (s0) (s1)) (8) (fun z4 => gx_lus (Nat.mod (Nat.add (Nat.land (s0) (s1)) (z4)) 18446744073709551616) (16) (fun z5 => gx_lus (Nat.mod (Nat.add (Nat.mod (Nat.add (Nat.land (s0) (s1)) (z4)) 18446744073709551616) (z5)) 18446744073709551616) (32) (fun z6 => gx_and (Nat.mod (Nat.mod (Nat.add (Nat.mod (Nat.add (Nat.mod (Nat.add (Nat.land (s0) (s1)) (z4)) 18446744073709551616) (z5)) 18446744073709551616) (z6)) 18446744073709551616) 4294967296) (127) (fun z7 => gx_rt gx_f0 (z7) (K (z7) M n c)))))
theorem h_106_L32 {G : gxG} (hG : gxG0 G) {K : Nat → Nat → Nat → Nat → Bool} (s0 s1 M n c : Nat) : gxJ G gY_106 K 32 [gL (s1), gL (s0)] [gB, gB] M n c (fi_106_L32 K s0 s1 M n c) := by
  unfold fi_106_L32
  refine gr_land (pc := 32) (show decode (gy_b gY_106) 32 = .ok (.land, 1) by decide +kernel) ?_
  refine gr_lstore_n (pc := 33) (i := 0) (L' := [gL (Nat.land (s0) (s1)), gB]) (show decode (gy_b gY_106) 33 = .ok (.lstore_n 0, 1) by decide +kernel) rfl (by decide) rfl rfl ?_
  refine gr_lload_n (pc := 34) (i := 0) (Nat.land (s0) (s1)) (show decode (gy_b gY_106) 34 = .ok (.lload_n 0, 1) by decide +kernel) rfl rfl ?_
  refine gr_lload_n (pc := 35) (i := 0) (Nat.land (s0) (s1)) (show decode (gy_b gY_106) 35 = .ok (.lload_n 0, 1) by decide +kernel) rfl rfl ?_
  refine gr_bipush (pc := 36) (z := 8) 8 (show decode (gy_b gY_106) 36 = .ok (.bipush (8), 2) by decide +kernel) (by decide +kernel) ?_
  refine gr_lushr (pc := 38) (show decode (gy_b gY_106) 38 = .ok (.lushr, 1) by decide +kernel) ?_
  intro z4
  refine gr_ladd (pc := 39) (show decode (gy_b gY_106) 39 = .ok (.ladd, 1) by decide +kernel) ?_
  refine gr_lstore_n (pc := 40) (i := 0) (L' := [gL (Nat.mod (Nat.add (Nat.land (s0) (s1)) (z4)) 18446744073709551616), gB]) (show decode (gy_b gY_106) 40 = .ok (.lstore_n 0, 1) by decide +kernel) rfl (by decide) rfl rfl ?_
  refine gr_lload_n (pc := 41) (i := 0) (Nat.mod (Nat.add (Nat.land (s0) (s1)) (z4)) 18446744073709551616) (show decode (gy_b gY_106) 41 = .ok (.lload_n 0, 1) by decide +kernel) rfl rfl ?_
  refine gr_lload_n (pc := 42) (i := 0) (Nat.mod (Nat.add (Nat.land (s0) (s1)) (z4)) 18446744073709551616) (show decode (gy_b gY_106) 42 = .ok (.lload_n 0, 1) by decide +kernel) rfl rfl ?_
  refine gr_bipush (pc := 43) (z := 16) 16 (show decode (gy_b gY_106) 43 = .ok (.bipush (16), 2) by decide +kernel) (by decide +kernel) ?_
  refine gr_lushr (pc := 45) (show decode (gy_b gY_106) 45 = .ok (.lushr, 1) by decide +kernel) ?_
  intro z5
  refine gr_ladd (pc := 46) (show decode (gy_b gY_106) 46 = .ok (.ladd, 1) by decide +kernel) ?_
  refine gr_lstore_n (pc := 47) (i := 0) (L' := [gL (Nat.mod (Nat.add (Nat.mod (Nat.add (Nat.land (s0) (s1)) (z4)) 18446744073709551616) (z5)) 18446744073709551616), gB]) (show decode (gy_b gY_106) 47 = .ok (.lstore_n 0, 1) by decide +kernel) rfl (by decide) rfl rfl ?_
  refine gr_lload_n (pc := 48) (i := 0) (Nat.mod (Nat.add (Nat.mod (Nat.add (Nat.land (s0) (s1)) (z4)) 18446744073709551616) (z5)) 18446744073709551616) (show decode (gy_b gY_106) 48 = .ok (.lload_n 0, 1) by decide +kernel) rfl rfl ?_
  refine gr_lload_n (pc := 49) (i := 0) (Nat.mod (Nat.add (Nat.mod (Nat.add (Nat.land (s0) (s1)) (z4)) 18446744073709551616) (z5)) 18446744073709551616) (show decode (gy_b gY_106) 49 = .ok (.lload_n 0, 1) by decide +kernel) rfl rfl ?_
  refine gr_bipush (pc := 50) (z := 32) 32 (show decode (gy_b gY_106) 50 = .ok (.bipush (32), 2) by decide +kernel) (by decide +kernel) ?_
  refine gr_lushr (pc := 52) (show decode (gy_b gY_106) 52 = .ok (.lushr, 1) by decide +kernel) ?_
  intro z6
  refine gr_ladd (pc := 53) (show decode (gy_b gY_106) 53 = .ok (.ladd, 1) by decide +kernel) ?_
  refine gr_lstore_n (pc := 54) (i := 0) (L' := [gL (Nat.mod (Nat.add (Nat.mod (Nat.add (Nat.mod (Nat.add (Nat.land (s0) (s1)) (z4)) 18446744073709551616) (z5)) 18446744073709551616) (z6)) 18446744073709551616), gB]) (show decode (gy_b gY_106) 54 = .ok (.lstore_n 0, 1) by decide +kernel) rfl (by decide) rfl rfl ?_
  refine gr_lload_n (pc := 55) (i := 0) (Nat.mod (Nat.add (Nat.mod (Nat.add (Nat.mod (Nat.add (Nat.land (s0) (s1)) (z4)) 18446744073709551616) (z5)) 18446744073709551616) (z6)) 18446744073709551616) (show decode (gy_b gY_106) 55 = .ok (.lload_n 0, 1) by decide +kernel) rfl rfl ?_
  refine gr_l2i (pc := 56) (show decode (gy_b gY_106) 56 = .ok (.l2i, 1) by decide +kernel) ?_
  refine gr_bipush (pc := 57) (z := 127) 127 (show decode (gy_b gY_106) 57 = .ok (.bipush (127), 2) by decide +kernel) (by decide +kernel) ?_
  refine gr_iand (pc := 59) hG.2.1 (show decode (gy_b gY_106) 59 = .ok (.iand, 1) by decide +kernel) ?_
  intro z7
  exact gr_ireturn (pc := 60) (show decode (gy_b gY_106) 60 = .ok (.ireturn, 1) by decide +kernel) rfl rfl (by decide) gv_0
noncomputable def fi_106_L0 (K : Nat → Nat → Nat → Nat → Bool) (l0 M n c : Nat) : Bool := gx_lus (l0) (1) (fun z1 => gx_lus (gx_lsu (l0) (Nat.land (z1) (6148914691236517205))) (2) (fun z2 => gx_lus (Nat.mod (Nat.add (Nat.land (gx_lsu (l0) (Nat.land (z1) (6148914691236517205))) (3689348814741910323)) (Nat.land (z2) (3689348814741910323))) 18446744073709551616) (4) (fun z3 => fi_106_L32 K (Nat.mod (Nat.add (Nat.mod (Nat.add (Nat.land (gx_lsu (l0) (Nat.land (z1) (6148914691236517205))) (3689348814741910323)) (Nat.land (z2) (3689348814741910323))) 18446744073709551616) (z3)) 18446744073709551616) (1085102592571150095) M n c)))
theorem h_106_L0 {G : gxG} (hG : gxG0 G) {K : Nat → Nat → Nat → Nat → Bool} (l0 M n c : Nat) : gxJ G gY_106 K 0 [] [gL (l0), gB] M n c (fi_106_L0 K l0 M n c) := by
  unfold fi_106_L0
  refine gr_lload_n (pc := 0) (i := 0) (l0) (show decode (gy_b gY_106) 0 = .ok (.lload_n 0, 1) by decide +kernel) rfl rfl ?_
  refine gr_lload_n (pc := 1) (i := 0) (l0) (show decode (gy_b gY_106) 1 = .ok (.lload_n 0, 1) by decide +kernel) rfl rfl ?_
  refine gr_iconst (pc := 2) (z := 1) 1 (show decode (gy_b gY_106) 2 = .ok (.iconst (1), 1) by decide +kernel) kc_1 ?_
  refine gr_lushr (pc := 3) (show decode (gy_b gY_106) 3 = .ok (.lushr, 1) by decide +kernel) ?_
  intro z1
  refine gr_ldc2 (pc := 4) (index := 314) (z := 6148914691236517205) 6148914691236517205 (show decode (gy_b gY_106) 4 = .ok (.ldc2_w 314, 3) by decide +kernel) wd_1126 (by decide +kernel) ?_
  refine gr_land (pc := 7) (show decode (gy_b gY_106) 7 = .ok (.land, 1) by decide +kernel) ?_
  refine gr_lsub (pc := 8) (show decode (gy_b gY_106) 8 = .ok (.lsub, 1) by decide +kernel) ?_
  refine gr_lstore_n (pc := 9) (i := 0) (L' := [gL (gx_lsu (l0) (Nat.land (z1) (6148914691236517205))), gB]) (show decode (gy_b gY_106) 9 = .ok (.lstore_n 0, 1) by decide +kernel) rfl (by decide) rfl rfl ?_
  refine gr_lload_n (pc := 10) (i := 0) (gx_lsu (l0) (Nat.land (z1) (6148914691236517205))) (show decode (gy_b gY_106) 10 = .ok (.lload_n 0, 1) by decide +kernel) rfl rfl ?_
  refine gr_ldc2 (pc := 11) (index := 316) (z := 3689348814741910323) 3689348814741910323 (show decode (gy_b gY_106) 11 = .ok (.ldc2_w 316, 3) by decide +kernel) wd_1127 (by decide +kernel) ?_
  refine gr_land (pc := 14) (show decode (gy_b gY_106) 14 = .ok (.land, 1) by decide +kernel) ?_
  refine gr_lload_n (pc := 15) (i := 0) (gx_lsu (l0) (Nat.land (z1) (6148914691236517205))) (show decode (gy_b gY_106) 15 = .ok (.lload_n 0, 1) by decide +kernel) rfl rfl ?_
  refine gr_iconst (pc := 16) (z := 2) 2 (show decode (gy_b gY_106) 16 = .ok (.iconst (2), 1) by decide +kernel) kc_2 ?_
  refine gr_lushr (pc := 17) (show decode (gy_b gY_106) 17 = .ok (.lushr, 1) by decide +kernel) ?_
  intro z2
  refine gr_ldc2 (pc := 18) (index := 316) (z := 3689348814741910323) 3689348814741910323 (show decode (gy_b gY_106) 18 = .ok (.ldc2_w 316, 3) by decide +kernel) wd_1127 (by decide +kernel) ?_
  refine gr_land (pc := 21) (show decode (gy_b gY_106) 21 = .ok (.land, 1) by decide +kernel) ?_
  refine gr_ladd (pc := 22) (show decode (gy_b gY_106) 22 = .ok (.ladd, 1) by decide +kernel) ?_
  refine gr_lstore_n (pc := 23) (i := 0) (L' := [gL (Nat.mod (Nat.add (Nat.land (gx_lsu (l0) (Nat.land (z1) (6148914691236517205))) (3689348814741910323)) (Nat.land (z2) (3689348814741910323))) 18446744073709551616), gB]) (show decode (gy_b gY_106) 23 = .ok (.lstore_n 0, 1) by decide +kernel) rfl (by decide) rfl rfl ?_
  refine gr_lload_n (pc := 24) (i := 0) (Nat.mod (Nat.add (Nat.land (gx_lsu (l0) (Nat.land (z1) (6148914691236517205))) (3689348814741910323)) (Nat.land (z2) (3689348814741910323))) 18446744073709551616) (show decode (gy_b gY_106) 24 = .ok (.lload_n 0, 1) by decide +kernel) rfl rfl ?_
  refine gr_lload_n (pc := 25) (i := 0) (Nat.mod (Nat.add (Nat.land (gx_lsu (l0) (Nat.land (z1) (6148914691236517205))) (3689348814741910323)) (Nat.land (z2) (3689348814741910323))) 18446744073709551616) (show decode (gy_b gY_106) 25 = .ok (.lload_n 0, 1) by decide +kernel) rfl rfl ?_
  refine gr_iconst (pc := 26) (z := 4) 4 (show decode (gy_b gY_106) 26 = .ok (.iconst (4), 1) by decide +kernel) kc_4 ?_
  refine gr_lushr (pc := 27) (show decode (gy_b gY_106) 27 = .ok (.lushr, 1) by decide +kernel) ?_
  intro z3
  refine gr_ladd (pc := 28) (show decode (gy_b gY_106) 28 = .ok (.ladd, 1) by decide +kernel) ?_
  refine gr_ldc2 (pc := 29) (index := 318) (z := 1085102592571150095) 1085102592571150095 (show decode (gy_b gY_106) 29 = .ok (.ldc2_w 318, 3) by decide +kernel) wd_1128 (by decide +kernel) ?_
  refine gr_wk [false, true] rfl ?_
  exact h_106_L32 hG (Nat.mod (Nat.add (Nat.mod (Nat.add (Nat.land (gx_lsu (l0) (Nat.land (z1) (6148914691236517205))) (3689348814741910323)) (Nat.land (z2) (3689348814741910323))) 18446744073709551616) (z3)) 18446744073709551616) (1085102592571150095) M n c
noncomputable def fi_106 (l0 M n c : Nat) (K : Nat → Nat → Nat → Nat → Bool) : Bool := fi_106_L0 K l0 M n c
theorem hm_106 {G : gxG} (hG : gxG0 G) (l0 : Nat) : gxM G gY_106 yJ13_bitCount_95d88 [gL (l0)] (fi_106 l0) := gxM_of (L := [gL (l0), gB]) hG 0 (by decide +kernel) rfl rfl rfl rfl (List.forall_mem_cons.mpr ⟨rfl, fun _ h => nomatch h⟩) (fun M n c K => h_106_L0 hG  l0 M n c)
/-! Farfiles$ActSet size ()I -/
def gY_107 : gxY := (false, prog_3_method_8_code, 3, (Option.some Jvm.ClassFile.FieldType.int), "Farfiles$ActSet", 2, 61, 0, [], "size")
theorem ok_107 {Y : gxY} (h1 : gy_f gY_107 + 1 ≤ gy_f Y) (h2 : 8 + (gy_l gY_107 + 11) + gy_k gY_107 ≤ gy_k Y) : gh_ok Y gY_107 yX1_size 0 := ⟨wd_1122, wd_55, ⟨by decide, by decide⟩, by decide +kernel, h1, h2⟩
noncomputable def fi_107_B4 (K : Nat → Nat → Nat → Nat → Bool) (ih_4 : Nat → Nat → Nat → Nat → Nat → Nat → Bool) (l0 l1 l2 M n c : Nat) : Bool := gx_lt (l2) (4) (gx_get (l0) 0 M (fun v1 => gx_ald (v1) (l2) M (fun v2 => fi_106 (v2) M n c (fun v3 M4 n5 c6 => gx_add (l1) (v3) (fun z7 => gx_add (l2) 1 (fun z8 => ih_4 (l0) (z7) (z8) M4 n5 c6)))))) (gx_rt gx_f0 (l1) (K (l1) M n c))
theorem hb_107_B4 {G : gxG} (hG : gxG0 G) {K : Nat → Nat → Nat → Nat → Bool} {ih_4 : Nat → Nat → Nat → Nat → Nat → Nat → Bool} (hi_4 : ∀ l0 l1 l2 M n c : Nat, gxJ G gY_107 K 4 [] [gR 1 (l0), gI (l1), gI (l2)] M n c (ih_4 l0 l1 l2 M n c)) (l0 l1 l2 M n c : Nat) : gxJ G gY_107 K 4 [] [gR 1 (l0), gI (l1), gI (l2)] M n c (fi_107_B4 K ih_4 l0 l1 l2 M n c) := by
  unfold fi_107_B4
  refine gr_iload_n (pc := 4) (i := 2) (l2) (show decode (gy_b gY_107) 4 = .ok (.iload_n 2, 1) by decide +kernel) rfl rfl ?_
  refine gr_iconst (pc := 5) (z := 4) 4 (show decode (gy_b gY_107) 5 = .ok (.iconst (4), 1) by decide +kernel) kc_4 ?_
  refine gr_icmp_ge (pc := 6) (tgt := 27) (off := 21) hG.2.1 (show decode (gy_b gY_107) 6 = .ok (.if_icmp .ge (21), 3) by decide +kernel) (by decide) ?_ ?_
  · refine gr_iload_n (pc := 27) (i := 1) (l1) (show decode (gy_b gY_107) 27 = .ok (.iload_n 1, 1) by decide +kernel) rfl rfl ?_
    exact gr_ireturn (pc := 28) (show decode (gy_b gY_107) 28 = .ok (.ireturn, 1) by decide +kernel) rfl rfl (by decide) gv_0
  · refine gr_iload_n (pc := 9) (i := 1) (l1) (show decode (gy_b gY_107) 9 = .ok (.iload_n 1, 1) by decide +kernel) rfl rfl ?_
    refine gr_aload_n (pc := 10) (i := 0) 1 (l0) (show decode (gy_b gY_107) 10 = .ok (.aload_n 0, 1) by decide +kernel) rfl rfl ?_
    refine gr_getf (pc := 11) (index := 9) (t := 1) (j := 0) (σ := 76) (sv := (gR 68)) (show decode (gy_b gY_107) 11 = .ok (.getfield 9, 3) by decide +kernel) rfl rfl (fun _ => rfl) wd_130 (by decide) ?_
    intro v1
    refine gr_iload_n (pc := 14) (i := 2) (l2) (show decode (gy_b gY_107) 14 = .ok (.iload_n 2, 1) by decide +kernel) rfl rfl ?_
    refine gr_lald (pc := 15) (show decode (gy_b gY_107) 15 = .ok (.laload, 1) by decide +kernel) ?_
    intro v2
    refine gj_c0 (pc := 16) (Y' := gY_106) (y := yJ13_bitCount_95d88) (vs := [gL (v2)]) (rest := [gI (l1)]) (rs := fun v3 => [gI (v3), gI (l1)]) [gL (v2)] rfl (hm_106 hG (v2)) rfl (gh_S (vs := [gL (v2)]) (rest := [gI (l1)]) (show decode (gy_b gY_107) 16 = .ok (.invokestatic 17, 3) by decide +kernel) rfl (ok_106 (by decide) (by decide)) rfl rfl wd_1123 wd_1124 (Nat.le_of_ble_eq_true rfl)) (fun _ => rfl) ?_
    intro v3 M4 n5 c6
    refine gr_iadd (pc := 19) (show decode (gy_b gY_107) 19 = .ok (.iadd, 1) by decide +kernel) ?_
    intro z7
    refine gr_istore_n (pc := 20) (i := 1) (L' := [gR 1 (l0), gI (z7), gI (l2)]) (show decode (gy_b gY_107) 20 = .ok (.istore_n 1, 1) by decide +kernel) rfl (by decide) rfl rfl ?_
    refine gr_iinc (pc := 21) (i := 2) (d := 1) (z := 1) (L' := fun z8 => [gR 1 (l0), gI (z7), gI (z8)]) (show decode (gy_b gY_107) 21 = .ok (.iinc 2 (1), 3) by decide +kernel) (by decide +kernel) (by decide) rfl rfl (fun _ => rfl) ?_
    intro z8
    refine gr_goto (pc := 24) (tgt := 4) (off := -20) (show decode (gy_b gY_107) 24 = .ok (.goto (-20), 3) by decide +kernel) (by decide) ?_
    exact hi_4 (l0) (z7) (z8) M4 n5 c6
noncomputable def fi_107_W4 (K : Nat → Nat → Nat → Nat → Bool) (u : Nat) : Nat → Nat → Nat → Nat → Nat → Nat → Bool := Nat.rec (motive := fun _ => Nat → Nat → Nat → Nat → Nat → Nat → Bool) (fun _ _ _ _ _ _ => false) (fun _ ih => fi_107_B4 K ih) u
theorem hw_107_4 {G : gxG} (hG : gxG0 G) {K : Nat → Nat → Nat → Nat → Bool} (u : Nat) : ∀ l0 l1 l2 M n c : Nat, gxJ G gY_107 K 4 [] [gR 1 (l0), gI (l1), gI (l2)] M n c (fi_107_W4 K u l0 l1 l2 M n c) := by
  induction u with
  | zero => intro l0 l1 l2 M n c; exact gj_false
  | succ u ih => intro l0 l1 l2 M n c; exact hb_107_B4 hG ih l0 l1 l2 M n c
noncomputable def fi_107_L0 (K : Nat → Nat → Nat → Nat → Bool) (l0 M n c : Nat) : Bool := fi_107_W4 K 65536 (l0) (0) (0) M n c
theorem h_107_L0 {G : gxG} (hG : gxG0 G) {K : Nat → Nat → Nat → Nat → Bool} (l0 M n c : Nat) : gxJ G gY_107 K 0 [] [gR 1 (l0), gB, gB] M n c (fi_107_L0 K l0 M n c) := by
  unfold fi_107_L0
  refine gr_iconst (pc := 0) (z := 0) 0 (show decode (gy_b gY_107) 0 = .ok (.iconst (0), 1) by decide +kernel) kc_0 ?_
  refine gr_istore_n (pc := 1) (i := 1) (L' := [gR 1 (l0), gI (0), gB]) (show decode (gy_b gY_107) 1 = .ok (.istore_n 1, 1) by decide +kernel) rfl (by decide) rfl rfl ?_
  refine gr_iconst (pc := 2) (z := 0) 0 (show decode (gy_b gY_107) 2 = .ok (.iconst (0), 1) by decide +kernel) kc_0 ?_
  refine gr_istore_n (pc := 3) (i := 2) (L' := [gR 1 (l0), gI (0), gI (0)]) (show decode (gy_b gY_107) 3 = .ok (.istore_n 2, 1) by decide +kernel) rfl (by decide) rfl rfl ?_
  exact hw_107_4 hG 65536 (l0) (0) (0) M n c
noncomputable def fi_107 (l0 M n c : Nat) (K : Nat → Nat → Nat → Nat → Bool) : Bool := fi_107_L0 K l0 M n c
theorem hm_107 {G : gxG} (hG : gxG0 G) (l0 : Nat) : gxM G gY_107 yX1_size [gR 1 (l0)] (fi_107 l0) := gxM_of (L := [gR 1 (l0), gB, gB]) hG 2 (by decide +kernel) rfl rfl rfl rfl (List.forall_mem_cons.mpr ⟨rfl, fun _ h => nomatch h⟩) (fun M n c K => h_107_L0 hG  l0 M n c)
/-! Farfiles outgoing (I)I -/
def gY_108 : gxY := (false, prog_1_method_59_code, 2, (Option.some Jvm.ClassFile.FieldType.int), "Farfiles", 3, 83, 0, [], "outgoing")
theorem ok_108 {Y : gxY} (h1 : gy_f gY_108 + 1 ≤ gy_f Y) (h2 : 8 + (gy_l gY_108 + 11) + gy_k gY_108 ≤ gy_k Y) : gh_ok Y gY_108 yX7_outgoing 1 := ⟨wd_1118, wd_51, ⟨by decide, by decide⟩, by decide +kernel, h1, h2⟩
noncomputable def fi_108_L0 (K : Nat → Nat → Nat → Nat → Bool) (l0 l1 M n c : Nat) : Bool := gx_nn (l0) (fi_38 (l0) (l1) M n c (fun v1 M2 n3 c4 => gx_get (v1) 6 M2 (fun v5 => gx_nn (v5) (fi_107 (v5) M2 n3 c4 (fun v6 M7 n8 c9 => gx_rt gx_f0 (v6) (K (v6) M7 n8 c9))))))
theorem h_108_L0 {G : gxG} (hG : gxG0 G) {K : Nat → Nat → Nat → Nat → Bool} (l0 l1 M n c : Nat) : gxJ G gY_108 K 0 [] [gR 7 (l0), gI (l1)] M n c (fi_108_L0 K l0 l1 M n c) := by
  unfold fi_108_L0
  refine gr_aload_n (pc := 0) (i := 0) 7 (l0) (show decode (gy_b gY_108) 0 = .ok (.aload_n 0, 1) by decide +kernel) rfl rfl ?_
  refine gr_iload_n (pc := 1) (i := 1) (l1) (show decode (gy_b gY_108) 1 = .ok (.iload_n 1, 1) by decide +kernel) rfl rfl ?_
  refine gj_nn (fun hx2 => ?_)
  refine gj_c0 (pc := 2) (Y' := gY_38) (y := yX7_clientOf) (vs := [gR 7 (l0), gI (l1)]) (rest := []) (rs := fun v1 => [gR 3 (v1)]) [gI (l1), gR 7 (l0)] rfl (hm_38 hG (l0) (l1)) rfl (gh_V (t := 7) (vs := [gI (l1)]) (rest := []) (show decode (gy_b gY_108) 2 = .ok (.invokevirtual 155, 3) by decide +kernel) rfl hx2 rfl rfl (ok_38 (by decide) (by decide)) wd_662 wd_664 wd_9 (Nat.le_of_ble_eq_true rfl)) (fun _ => rfl) ?_
  intro v1 M2 n3 c4
  refine gr_getfN (pc := 5) (index := 270) (t := 3) (j := 6) (σ := 9) (sv := (gR 1)) (show decode (gy_b gY_108) 5 = .ok (.getfield 270, 3) by decide +kernel) rfl rfl (fun _ => rfl) wd_262 (by decide) ?_
  intro v5
  refine gj_nn (fun hx8 => ?_)
  refine gj_c0 (pc := 8) (Y' := gY_107) (y := yX1_size) (vs := [gR 1 (v5)]) (rest := []) (rs := fun v6 => [gI (v6)]) [gR 1 (v5)] rfl (hm_107 hG (v5)) rfl (gh_V (t := 1) (vs := []) (rest := []) (show decode (gy_b gY_108) 8 = .ok (.invokevirtual 402, 3) by decide +kernel) rfl hx8 rfl rfl (ok_107 (by decide) (by decide)) wd_1119 wd_1120 wd_1121 (Nat.le_of_ble_eq_true rfl)) (fun _ => rfl) ?_
  intro v6 M7 n8 c9
  exact gr_ireturn (pc := 11) (show decode (gy_b gY_108) 11 = .ok (.ireturn, 1) by decide +kernel) rfl rfl (by decide) gv_0
noncomputable def fi_108 (l0 l1 M n c : Nat) (K : Nat → Nat → Nat → Nat → Bool) : Bool := fi_108_L0 K l0 l1 M n c
theorem hm_108 {G : gxG} (hG : gxG0 G) (l0 l1 : Nat) : gxM G gY_108 yX7_outgoing [gR 7 (l0), gI (l1)] (fi_108 l0 l1) := gxM_of (L := [gR 7 (l0), gI (l1)]) hG 0 (by decide +kernel) rfl rfl rfl rfl (List.forall_mem_cons.mpr ⟨rfl, List.forall_mem_cons.mpr ⟨rfl, fun _ h => nomatch h⟩⟩) (fun M n c K => h_108_L0 hG  l0 l1 M n c)
/-! Farfiles$ActSet takeOut (I)V -/
def gY_109 : gxY := (false, prog_3_method_4_code, 2, (Option.none : Option FieldType), "Farfiles$ActSet", 1, 40, 5, [], "takeOut")
theorem ok_109 {Y : gxY} (h1 : gy_f gY_109 + 1 ≤ gy_f Y) (h2 : 8 + (gy_l gY_109 + 11) + gy_k gY_109 ≤ gy_k Y) : gh_ok Y gY_109 yX1_takeOut 1 := ⟨wd_946, wd_55, ⟨by decide, by decide⟩, by decide +kernel, h1, h2⟩
noncomputable def fi_109_L33 (K : Nat → Nat → Nat → Nat → Bool) (M n c : Nat) : Bool := K 0 M n c
theorem h_109_L33 {G : gxG} (hG : gxG0 G) {K : Nat → Nat → Nat → Nat → Bool} (M n c : Nat) : gxJ G gY_109 K 33 [] [gB, gB] M n c (fi_109_L33 K M n c) := by
  unfold fi_109_L33
  exact gr_return (pc := 33) (show decode (gy_b gY_109) 33 = .ok (.return_, 1) by decide +kernel) rfl rfl
noncomputable def fi_109_L0 (K : Nat → Nat → Nat → Nat → Bool) (l0 l1 M n c : Nat) : Bool := gx_lt (l1) 0 (fi_109_L33 K  M n c) (gx_lt (l1) (250) (gx_get (l0) 0 M (fun v1 => gx_shr (l1) (6) (fun z2 => gx_ald (v1) (z2) M (fun v3 => gx_and (l1) (63) (fun z4 => gx_lsh (1) (z4) (fun z5 => gx_ast (v1) (z2) (Nat.land (v3) (Nat.xor (z5) (18446744073709551615))) M gx_f0 (fun M6 => fi_109_L33 K  M6 n c))))))) (fi_109_L33 K  M n c))
theorem h_109_L0 {G : gxG} (hG : gxG0 G) {K : Nat → Nat → Nat → Nat → Bool} (l0 l1 M n c : Nat) : gxJ G gY_109 K 0 [] [gR 1 (l0), gI (l1)] M n c (fi_109_L0 K l0 l1 M n c) := by
  unfold fi_109_L0
  refine gr_iload_n (pc := 0) (i := 1) (l1) (show decode (gy_b gY_109) 0 = .ok (.iload_n 1, 1) by decide +kernel) rfl rfl ?_
  refine gr_iflt (pc := 1) (tgt := 33) (off := 32) hG.2.1 (show decode (gy_b gY_109) 1 = .ok (.ifCond .lt (32), 3) by decide +kernel) (by decide) ?_ ?_
  · refine gr_wk [false, false] rfl ?_
    exact h_109_L33 hG  M n c
  · refine gr_iload_n (pc := 4) (i := 1) (l1) (show decode (gy_b gY_109) 4 = .ok (.iload_n 1, 1) by decide +kernel) rfl rfl ?_
    refine gr_sipush (pc := 5) (z := 250) 250 (show decode (gy_b gY_109) 5 = .ok (.sipush (250), 3) by decide +kernel) (by decide +kernel) ?_
    refine gr_icmp_ge (pc := 8) (tgt := 33) (off := 25) hG.2.1 (show decode (gy_b gY_109) 8 = .ok (.if_icmp .ge (25), 3) by decide +kernel) (by decide) ?_ ?_
    · refine gr_wk [false, false] rfl ?_
      exact h_109_L33 hG  M n c
    · refine gr_aload_n (pc := 11) (i := 0) 1 (l0) (show decode (gy_b gY_109) 11 = .ok (.aload_n 0, 1) by decide +kernel) rfl rfl ?_
      refine gr_getf (pc := 12) (index := 9) (t := 1) (j := 0) (σ := 76) (sv := (gR 68)) (show decode (gy_b gY_109) 12 = .ok (.getfield 9, 3) by decide +kernel) rfl rfl (fun _ => rfl) wd_130 (by decide) ?_
      intro v1
      refine gr_iload_n (pc := 15) (i := 1) (l1) (show decode (gy_b gY_109) 15 = .ok (.iload_n 1, 1) by decide +kernel) rfl rfl ?_
      refine gr_bipush (pc := 16) (z := 6) 6 (show decode (gy_b gY_109) 16 = .ok (.bipush (6), 2) by decide +kernel) (by decide +kernel) ?_
      refine gr_ishr (pc := 18) hG.2.1 (show decode (gy_b gY_109) 18 = .ok (.ishr, 1) by decide +kernel) ?_
      intro z2
      refine gr_dup2_11 (pc := 19) (show decode (gy_b gY_109) 19 = .ok (.dup2, 1) by decide +kernel) rfl rfl ?_
      refine gr_lald (pc := 20) (show decode (gy_b gY_109) 20 = .ok (.laload, 1) by decide +kernel) ?_
      intro v3
      refine gr_lconst (pc := 21) (z := 1) 1 (show decode (gy_b gY_109) 21 = .ok (.lconst 1, 1) by decide +kernel) (by decide +kernel) ?_
      refine gr_iload_n (pc := 22) (i := 1) (l1) (show decode (gy_b gY_109) 22 = .ok (.iload_n 1, 1) by decide +kernel) rfl rfl ?_
      refine gr_bipush (pc := 23) (z := 63) 63 (show decode (gy_b gY_109) 23 = .ok (.bipush (63), 2) by decide +kernel) (by decide +kernel) ?_
      refine gr_iand (pc := 25) hG.2.1 (show decode (gy_b gY_109) 25 = .ok (.iand, 1) by decide +kernel) ?_
      intro z4
      refine gr_lshl (pc := 26) (show decode (gy_b gY_109) 26 = .ok (.lshl, 1) by decide +kernel) ?_
      intro z5
      refine gr_ldc2 (pc := 27) (index := 15) (z := (-1)) 18446744073709551615 (show decode (gy_b gY_109) 27 = .ok (.ldc2_w 15, 3) by decide +kernel) wd_947 (by decide +kernel) ?_
      refine gr_lxor (pc := 30) (show decode (gy_b gY_109) 30 = .ok (.lxor, 1) by decide +kernel) ?_
      refine gr_land (pc := 31) (show decode (gy_b gY_109) 31 = .ok (.land, 1) by decide +kernel) ?_
      refine gr_last (pc := 32) hG.2.1 (show decode (gy_b gY_109) 32 = .ok (.lastore, 1) by decide +kernel) ?_
      intro M6
      refine gr_wk [false, false] rfl ?_
      exact h_109_L33 hG  M6 n c
noncomputable def fi_109 (l0 l1 M n c : Nat) (K : Nat → Nat → Nat → Nat → Bool) : Bool := fi_109_L0 K l0 l1 M n c
theorem hm_109 {G : gxG} (hG : gxG0 G) (l0 l1 : Nat) : gxM G gY_109 yX1_takeOut [gR 1 (l0), gI (l1)] (fi_109 l0 l1) := gxM_of (L := [gR 1 (l0), gI (l1)]) hG 0 (by decide +kernel) rfl rfl rfl rfl (List.forall_mem_cons.mpr ⟨rfl, List.forall_mem_cons.mpr ⟨rfl, fun _ h => nomatch h⟩⟩) (fun M n c K => h_109_L0 hG  l0 l1 M n c)
/-! Farfiles bringSome (LFarfiles$Client;I)I -/
def gY_110 : gxY := (false, prog_1_method_35_code, 6, (Option.some Jvm.ClassFile.FieldType.int), "Farfiles", 2, 61, 0, [], "bringSome")
theorem ok_110 {Y : gxY} (h1 : gy_f gY_110 + 1 ≤ gy_f Y) (h2 : 8 + (gy_l gY_110 + 11) + gy_k gY_110 ≤ gy_k Y) : gh_ok Y gY_110 yX7_bringSome 2 := ⟨wd_1059, wd_51, ⟨by decide, by decide⟩, by decide +kernel, h1, h2⟩
noncomputable def fi_110_L88 (K : Nat → Nat → Nat → Nat → Bool) (l3 M n c : Nat) : Bool := gx_rt gx_f0 (l3) (K (l3) M n c)
theorem h_110_L88 {G : gxG} (hG : gxG0 G) {K : Nat → Nat → Nat → Nat → Bool} (l3 M n c : Nat) : gxJ G gY_110 K 88 [] [gB, gB, gB, gI (l3), gB, gB] M n c (fi_110_L88 K l3 M n c) := by
  unfold fi_110_L88
  refine gr_iload_n (pc := 88) (i := 3) (l3) (show decode (gy_b gY_110) 88 = .ok (.iload_n 3, 1) by decide +kernel) rfl rfl ?_
  exact gr_ireturn (pc := 89) (show decode (gy_b gY_110) 89 = .ok (.ireturn, 1) by decide +kernel) rfl rfl (by decide) gv_0
noncomputable def fi_110_L82 (K : Nat → Nat → Nat → Nat → Bool) (ih_5 : Nat → Nat → Nat → Nat → Nat → Nat → Nat → Nat → Bool) (l0 l1 l2 l3 l4 M n c : Nat) : Bool := gx_add (l4) 1 (fun z8 => ih_5 (l0) (l1) (l2) (l3) (z8) M n c)
theorem h_110_L82 {G : gxG} (hG : gxG0 G) {K : Nat → Nat → Nat → Nat → Bool} {ih_5 : Nat → Nat → Nat → Nat → Nat → Nat → Nat → Nat → Bool} (hi_5 : ∀ l0 l1 l2 l3 l4 M n c : Nat, gxJ G gY_110 K 5 [] [gR 7 (l0), gR 3 (l1), gI (l2), gI (l3), gI (l4), gB] M n c (ih_5 l0 l1 l2 l3 l4 M n c)) (l0 l1 l2 l3 l4 M n c : Nat) : gxJ G gY_110 K 82 [] [gR 7 (l0), gR 3 (l1), gI (l2), gI (l3), gI (l4), gB] M n c (fi_110_L82 K ih_5 l0 l1 l2 l3 l4 M n c) := by
  unfold fi_110_L82
  refine gr_iinc (pc := 82) (i := 4) (d := 1) (z := 1) (L' := fun z8 => [gR 7 (l0), gR 3 (l1), gI (l2), gI (l3), gI (z8), gB]) (show decode (gy_b gY_110) 82 = .ok (.iinc 4 (1), 3) by decide +kernel) (by decide +kernel) (by decide) rfl rfl (fun _ => rfl) ?_
  intro z8
  refine gr_goto (pc := 85) (tgt := 5) (off := -80) (show decode (gy_b gY_110) 85 = .ok (.goto (-80), 3) by decide +kernel) (by decide) ?_
  exact hi_5 (l0) (l1) (l2) (l3) (z8) M n c
noncomputable def fi_110_L64 (K : Nat → Nat → Nat → Nat → Bool) (ih_5 : Nat → Nat → Nat → Nat → Nat → Nat → Nat → Nat → Bool) (ih_37 : Nat → Nat → Nat → Nat → Nat → Nat → Nat → Nat → Nat → Bool) (l0 l1 l2 l3 l4 l5 M n c : Nat) : Bool := gx_add (l5) 1 (fun z19 => ih_37 (l0) (l1) (l2) (l3) (l4) (z19) M n c)
theorem h_110_L64 {G : gxG} (hG : gxG0 G) {K : Nat → Nat → Nat → Nat → Bool} {ih_5 : Nat → Nat → Nat → Nat → Nat → Nat → Nat → Nat → Bool} (hi_5 : ∀ l0 l1 l2 l3 l4 M n c : Nat, gxJ G gY_110 K 5 [] [gR 7 (l0), gR 3 (l1), gI (l2), gI (l3), gI (l4), gB] M n c (ih_5 l0 l1 l2 l3 l4 M n c)) {ih_37 : Nat → Nat → Nat → Nat → Nat → Nat → Nat → Nat → Nat → Bool} (hi_37 : ∀ l0 l1 l2 l3 l4 l5 M n c : Nat, gxJ G gY_110 K 37 [] [gR 7 (l0), gR 3 (l1), gI (l2), gI (l3), gI (l4), gI (l5)] M n c (ih_37 l0 l1 l2 l3 l4 l5 M n c)) (l0 l1 l2 l3 l4 l5 M n c : Nat) : gxJ G gY_110 K 64 [] [gR 7 (l0), gR 3 (l1), gI (l2), gI (l3), gI (l4), gI (l5)] M n c (fi_110_L64 K ih_5 ih_37 l0 l1 l2 l3 l4 l5 M n c) := by
  unfold fi_110_L64
  refine gr_iinc (pc := 64) (i := 5) (d := 1) (z := 1) (L' := fun z19 => [gR 7 (l0), gR 3 (l1), gI (l2), gI (l3), gI (l4), gI (z19)]) (show decode (gy_b gY_110) 64 = .ok (.iinc 5 (1), 3) by decide +kernel) (by decide +kernel) (by decide) rfl rfl (fun _ => rfl) ?_
  intro z19
  refine gr_goto (pc := 67) (tgt := 37) (off := -30) (show decode (gy_b gY_110) 67 = .ok (.goto (-30), 3) by decide +kernel) (by decide) ?_
  exact hi_37 (l0) (l1) (l2) (l3) (l4) (z19) M n c
noncomputable def fi_110_B37 (K : Nat → Nat → Nat → Nat → Bool) (ih_5 : Nat → Nat → Nat → Nat → Nat → Nat → Nat → Nat → Bool) (ih_37 : Nat → Nat → Nat → Nat → Nat → Nat → Nat → Nat → Nat → Bool) (l0 l1 l2 l3 l4 l5 M n c : Nat) : Bool := gx_lt (l5) (3) (gx_nn (l1) (fi_68 (l1) (l5) M n c (fun v15 M16 n17 c18 => gx_eq (v15) 0 (fi_110_L64 K ih_5 ih_37 (l0) (l1) (l2) (l3) (l4) (l5) M16 n17 c18) (gx_get (l0) 4 M16 (fun v20 => gx_ald (v20) (l5) M16 (fun v21 => gx_nn (v21) (fi_71 (v21) (l4) M16 n17 c18 (fun v22 M23 n24 c25 => fi_110_L64 K ih_5 ih_37 (l0) (l1) (l2) (l3) (l4) (l5) M23 n24 c25)))))))) (gx_get (l1) 6 M (fun v9 => gx_nn (v9) (fi_109 (v9) (l4) M n c (fun v10 M11 n12 c13 => gx_add (l3) 1 (fun z14 => fi_110_L82 K ih_5 (l0) (l1) (l2) (z14) (l4) M11 n12 c13)))))
theorem hb_110_B37 {G : gxG} (hG : gxG0 G) {K : Nat → Nat → Nat → Nat → Bool} {ih_5 : Nat → Nat → Nat → Nat → Nat → Nat → Nat → Nat → Bool} (hi_5 : ∀ l0 l1 l2 l3 l4 M n c : Nat, gxJ G gY_110 K 5 [] [gR 7 (l0), gR 3 (l1), gI (l2), gI (l3), gI (l4), gB] M n c (ih_5 l0 l1 l2 l3 l4 M n c)) {ih_37 : Nat → Nat → Nat → Nat → Nat → Nat → Nat → Nat → Nat → Bool} (hi_37 : ∀ l0 l1 l2 l3 l4 l5 M n c : Nat, gxJ G gY_110 K 37 [] [gR 7 (l0), gR 3 (l1), gI (l2), gI (l3), gI (l4), gI (l5)] M n c (ih_37 l0 l1 l2 l3 l4 l5 M n c)) (l0 l1 l2 l3 l4 l5 M n c : Nat) : gxJ G gY_110 K 37 [] [gR 7 (l0), gR 3 (l1), gI (l2), gI (l3), gI (l4), gI (l5)] M n c (fi_110_B37 K ih_5 ih_37 l0 l1 l2 l3 l4 l5 M n c) := by
  unfold fi_110_B37
  refine gr_iload (pc := 37) (i := 5) (l5) (show decode (gy_b gY_110) 37 = .ok (.iload 5, 2) by decide +kernel) rfl ?_
  refine gr_iconst (pc := 39) (z := 3) 3 (show decode (gy_b gY_110) 39 = .ok (.iconst (3), 1) by decide +kernel) kc_3 ?_
  refine gr_icmp_ge (pc := 40) (tgt := 70) (off := 30) hG.2.1 (show decode (gy_b gY_110) 40 = .ok (.if_icmp .ge (30), 3) by decide +kernel) (by decide) ?_ ?_
  · refine gr_aload_n (pc := 70) (i := 1) 3 (l1) (show decode (gy_b gY_110) 70 = .ok (.aload_n 1, 1) by decide +kernel) rfl rfl ?_
    refine gr_getfN (pc := 71) (index := 270) (t := 3) (j := 6) (σ := 9) (sv := (gR 1)) (show decode (gy_b gY_110) 71 = .ok (.getfield 270, 3) by decide +kernel) rfl rfl (fun _ => rfl) wd_262 (by decide) ?_
    intro v9
    refine gr_iload (pc := 74) (i := 4) (l4) (show decode (gy_b gY_110) 74 = .ok (.iload 4, 2) by decide +kernel) rfl ?_
    refine gj_nn (fun hx76 => ?_)
    refine gj_c0 (pc := 76) (Y' := gY_109) (y := yX1_takeOut) (vs := [gR 1 (v9), gI (l4)]) (rest := []) (rs := fun v10 => []) [gI (l4), gR 1 (v9)] rfl (hm_109 hG (v9) (l4)) rfl (gh_V (t := 1) (vs := [gI (l4)]) (rest := []) (show decode (gy_b gY_110) 76 = .ok (.invokevirtual 281, 3) by decide +kernel) rfl hx76 rfl rfl (ok_109 (by decide) (by decide)) wd_1060 wd_944 wd_945 (Nat.le_of_ble_eq_true rfl)) (fun _ => rfl) ?_
    intro v10 M11 n12 c13
    refine gr_iinc (pc := 79) (i := 3) (d := 1) (z := 1) (L' := fun z14 => [gR 7 (l0), gR 3 (l1), gI (l2), gI (z14), gI (l4), gI (l5)]) (show decode (gy_b gY_110) 79 = .ok (.iinc 3 (1), 3) by decide +kernel) (by decide +kernel) (by decide) rfl rfl (fun _ => rfl) ?_
    intro z14
    refine gr_wk [true, true, true, true, true, false] rfl ?_
    exact h_110_L82 hG hi_5 (l0) (l1) (l2) (z14) (l4) M11 n12 c13
  · refine gr_aload_n (pc := 43) (i := 1) 3 (l1) (show decode (gy_b gY_110) 43 = .ok (.aload_n 1, 1) by decide +kernel) rfl rfl ?_
    refine gr_iload (pc := 44) (i := 5) (l5) (show decode (gy_b gY_110) 44 = .ok (.iload 5, 2) by decide +kernel) rfl ?_
    refine gj_nn (fun hx46 => ?_)
    refine gj_c0 (pc := 46) (Y' := gY_68) (y := yX3_isNear) (vs := [gR 3 (l1), gI (l5)]) (rest := []) (rs := fun v15 => [gI (v15)]) [gI (l5), gR 3 (l1)] rfl (hm_68 hG (l1) (l5)) rfl (gh_V (t := 3) (vs := [gI (l5)]) (rest := []) (show decode (gy_b gY_110) 46 = .ok (.invokevirtual 191, 3) by decide +kernel) rfl hx46 rfl rfl (ok_68 (by decide) (by decide)) wd_948 wd_949 wd_950 (Nat.le_of_ble_eq_true rfl)) (fun _ => rfl) ?_
    intro v15 M16 n17 c18
    refine gr_ifeq (pc := 49) (tgt := 64) (off := 15) hG.2.1 (show decode (gy_b gY_110) 49 = .ok (.ifCond .eq (15), 3) by decide +kernel) (by decide) ?_ ?_
    · exact h_110_L64 hG hi_5 hi_37 (l0) (l1) (l2) (l3) (l4) (l5) M16 n17 c18
    · refine gr_aload_n (pc := 52) (i := 0) 7 (l0) (show decode (gy_b gY_110) 52 = .ok (.aload_n 0, 1) by decide +kernel) rfl rfl ?_
      refine gr_getf (pc := 53) (index := 38) (t := 7) (j := 4) (σ := 78) (sv := (gR 70)) (show decode (gy_b gY_110) 53 = .ok (.getfield 38, 3) by decide +kernel) rfl rfl (fun _ => rfl) wd_298 (by decide) ?_
      intro v20
      refine gr_iload (pc := 56) (i := 5) (l5) (show decode (gy_b gY_110) 56 = .ok (.iload 5, 2) by decide +kernel) rfl ?_
      refine gr_aald (pc := 58) (κ := 6) (t := 1) (C := "Farfiles$ActSet") (show decode (gy_b gY_110) 58 = .ok (.aaload, 1) by decide +kernel) ⟨by decide, by decide, rfl⟩ rfl ?_
      intro v21
      refine gr_iload (pc := 59) (i := 4) (l4) (show decode (gy_b gY_110) 59 = .ok (.iload 4, 2) by decide +kernel) rfl ?_
      refine gj_nn (fun hx61 => ?_)
      refine gj_c0 (pc := 61) (Y' := gY_71) (y := yX1_put) (vs := [gR 1 (v21), gI (l4)]) (rest := []) (rs := fun v22 => []) [gI (l4), gR 1 (v21)] rfl (hm_71 hG (v21) (l4)) rfl (gh_V (t := 1) (vs := [gI (l4)]) (rest := []) (show decode (gy_b gY_110) 61 = .ok (.invokevirtual 261, 3) by decide +kernel) rfl hx61 rfl rfl (ok_71 (by decide) (by decide)) wd_1039 wd_957 wd_958 (Nat.le_of_ble_eq_true rfl)) (fun _ => rfl) ?_
      intro v22 M23 n24 c25
      exact h_110_L64 hG hi_5 hi_37 (l0) (l1) (l2) (l3) (l4) (l5) M23 n24 c25
noncomputable def fi_110_W37 (K : Nat → Nat → Nat → Nat → Bool) (ih_5 : Nat → Nat → Nat → Nat → Nat → Nat → Nat → Nat → Bool) (u : Nat) : Nat → Nat → Nat → Nat → Nat → Nat → Nat → Nat → Nat → Bool := Nat.rec (motive := fun _ => Nat → Nat → Nat → Nat → Nat → Nat → Nat → Nat → Nat → Bool) (fun _ _ _ _ _ _ _ _ _ => false) (fun _ ih => fi_110_B37 K ih_5 ih) u
theorem hw_110_37 {G : gxG} (hG : gxG0 G) {K : Nat → Nat → Nat → Nat → Bool} {ih_5 : Nat → Nat → Nat → Nat → Nat → Nat → Nat → Nat → Bool} (hi_5 : ∀ l0 l1 l2 l3 l4 M n c : Nat, gxJ G gY_110 K 5 [] [gR 7 (l0), gR 3 (l1), gI (l2), gI (l3), gI (l4), gB] M n c (ih_5 l0 l1 l2 l3 l4 M n c)) (u : Nat) : ∀ l0 l1 l2 l3 l4 l5 M n c : Nat, gxJ G gY_110 K 37 [] [gR 7 (l0), gR 3 (l1), gI (l2), gI (l3), gI (l4), gI (l5)] M n c (fi_110_W37 K ih_5 u l0 l1 l2 l3 l4 l5 M n c) := by
  induction u with
  | zero => intro l0 l1 l2 l3 l4 l5 M n c; exact gj_false
  | succ u ih => intro l0 l1 l2 l3 l4 l5 M n c; exact hb_110_B37 hG hi_5 ih l0 l1 l2 l3 l4 l5 M n c
noncomputable def fi_110_B5 (K : Nat → Nat → Nat → Nat → Bool) (ih_5 : Nat → Nat → Nat → Nat → Nat → Nat → Nat → Nat → Bool) (l0 l1 l2 l3 l4 M n c : Nat) : Bool := gx_get (l0) 1 M (fun v1 => gx_get (v1) 4 M (fun v2 => gx_lt (l4) (v2) (gx_lt (l3) (l2) (gx_get (l1) 6 M (fun v3 => gx_nn (v3) (fi_69 (v3) (l4) M n c (fun v4 M5 n6 c7 => gx_eq (v4) 0 (fi_110_L82 K ih_5 (l0) (l1) (l2) (l3) (l4) M5 n6 c7) (fi_110_W37 K ih_5 65536 (l0) (l1) (l2) (l3) (l4) (0) M5 n6 c7))))) (fi_110_L88 K (l3) M n c)) (fi_110_L88 K (l3) M n c)))
theorem hb_110_B5 {G : gxG} (hG : gxG0 G) {K : Nat → Nat → Nat → Nat → Bool} {ih_5 : Nat → Nat → Nat → Nat → Nat → Nat → Nat → Nat → Bool} (hi_5 : ∀ l0 l1 l2 l3 l4 M n c : Nat, gxJ G gY_110 K 5 [] [gR 7 (l0), gR 3 (l1), gI (l2), gI (l3), gI (l4), gB] M n c (ih_5 l0 l1 l2 l3 l4 M n c)) (l0 l1 l2 l3 l4 M n c : Nat) : gxJ G gY_110 K 5 [] [gR 7 (l0), gR 3 (l1), gI (l2), gI (l3), gI (l4), gB] M n c (fi_110_B5 K ih_5 l0 l1 l2 l3 l4 M n c) := by
  unfold fi_110_B5
  refine gr_iload (pc := 5) (i := 4) (l4) (show decode (gy_b gY_110) 5 = .ok (.iload 4, 2) by decide +kernel) rfl ?_
  refine gr_aload_n (pc := 7) (i := 0) 7 (l0) (show decode (gy_b gY_110) 7 = .ok (.aload_n 0, 1) by decide +kernel) rfl rfl ?_
  refine gr_getf (pc := 8) (index := 19) (t := 7) (j := 1) (σ := 13) (sv := (gR 5)) (show decode (gy_b gY_110) 8 = .ok (.getfield 19, 3) by decide +kernel) rfl rfl (fun _ => rfl) wd_295 (by decide) ?_
  intro v1
  refine gr_getfN (pc := 11) (index := 110) (t := 5) (j := 4) (σ := 0) (sv := gI) (show decode (gy_b gY_110) 11 = .ok (.getfield 110, 3) by decide +kernel) rfl rfl (fun _ => rfl) wd_181 (by decide) ?_
  intro v2
  refine gr_icmp_ge (pc := 14) (tgt := 88) (off := 74) hG.2.1 (show decode (gy_b gY_110) 14 = .ok (.if_icmp .ge (74), 3) by decide +kernel) (by decide) ?_ ?_
  · refine gr_wk [false, false, false, true, false, true] rfl ?_
    exact h_110_L88 hG (l3) M n c
  · refine gr_iload_n (pc := 17) (i := 3) (l3) (show decode (gy_b gY_110) 17 = .ok (.iload_n 3, 1) by decide +kernel) rfl rfl ?_
    refine gr_iload_n (pc := 18) (i := 2) (l2) (show decode (gy_b gY_110) 18 = .ok (.iload_n 2, 1) by decide +kernel) rfl rfl ?_
    refine gr_icmp_ge (pc := 19) (tgt := 88) (off := 69) hG.2.1 (show decode (gy_b gY_110) 19 = .ok (.if_icmp .ge (69), 3) by decide +kernel) (by decide) ?_ ?_
    · refine gr_wk [false, false, false, true, false, true] rfl ?_
      exact h_110_L88 hG (l3) M n c
    · refine gr_aload_n (pc := 22) (i := 1) 3 (l1) (show decode (gy_b gY_110) 22 = .ok (.aload_n 1, 1) by decide +kernel) rfl rfl ?_
      refine gr_getfN (pc := 23) (index := 270) (t := 3) (j := 6) (σ := 9) (sv := (gR 1)) (show decode (gy_b gY_110) 23 = .ok (.getfield 270, 3) by decide +kernel) rfl rfl (fun _ => rfl) wd_262 (by decide) ?_
      intro v3
      refine gr_iload (pc := 26) (i := 4) (l4) (show decode (gy_b gY_110) 26 = .ok (.iload 4, 2) by decide +kernel) rfl ?_
      refine gj_nn (fun hx28 => ?_)
      refine gj_c0 (pc := 28) (Y' := gY_69) (y := yX1_has) (vs := [gR 1 (v3), gI (l4)]) (rest := []) (rs := fun v4 => [gI (v4)]) [gI (l4), gR 1 (v3)] rfl (hm_69 hG (v3) (l4)) rfl (gh_V (t := 1) (vs := [gI (l4)]) (rest := []) (show decode (gy_b gY_110) 28 = .ok (.invokevirtual 255, 3) by decide +kernel) rfl hx28 rfl rfl (ok_69 (by decide) (by decide)) wd_1038 wd_923 wd_924 (Nat.le_of_ble_eq_true rfl)) (fun _ => rfl) ?_
      intro v4 M5 n6 c7
      refine gr_ifeq (pc := 31) (tgt := 82) (off := 51) hG.2.1 (show decode (gy_b gY_110) 31 = .ok (.ifCond .eq (51), 3) by decide +kernel) (by decide) ?_ ?_
      · exact h_110_L82 hG hi_5 (l0) (l1) (l2) (l3) (l4) M5 n6 c7
      · refine gr_iconst (pc := 34) (z := 0) 0 (show decode (gy_b gY_110) 34 = .ok (.iconst (0), 1) by decide +kernel) kc_0 ?_
        refine gr_istore (pc := 35) (i := 5) (L' := [gR 7 (l0), gR 3 (l1), gI (l2), gI (l3), gI (l4), gI (0)]) (show decode (gy_b gY_110) 35 = .ok (.istore 5, 2) by decide +kernel) (by decide) rfl rfl ?_
        exact hw_110_37 hG hi_5 65536 (l0) (l1) (l2) (l3) (l4) (0) M5 n6 c7
noncomputable def fi_110_W5 (K : Nat → Nat → Nat → Nat → Bool) (u : Nat) : Nat → Nat → Nat → Nat → Nat → Nat → Nat → Nat → Bool := Nat.rec (motive := fun _ => Nat → Nat → Nat → Nat → Nat → Nat → Nat → Nat → Bool) (fun _ _ _ _ _ _ _ _ => false) (fun _ ih => fi_110_B5 K ih) u
theorem hw_110_5 {G : gxG} (hG : gxG0 G) {K : Nat → Nat → Nat → Nat → Bool} (u : Nat) : ∀ l0 l1 l2 l3 l4 M n c : Nat, gxJ G gY_110 K 5 [] [gR 7 (l0), gR 3 (l1), gI (l2), gI (l3), gI (l4), gB] M n c (fi_110_W5 K u l0 l1 l2 l3 l4 M n c) := by
  induction u with
  | zero => intro l0 l1 l2 l3 l4 M n c; exact gj_false
  | succ u ih => intro l0 l1 l2 l3 l4 M n c; exact hb_110_B5 hG ih l0 l1 l2 l3 l4 M n c
noncomputable def fi_110_L0 (K : Nat → Nat → Nat → Nat → Bool) (l0 l1 l2 M n c : Nat) : Bool := fi_110_W5 K 65536 (l0) (l1) (l2) (0) (0) M n c
theorem h_110_L0 {G : gxG} (hG : gxG0 G) {K : Nat → Nat → Nat → Nat → Bool} (l0 l1 l2 M n c : Nat) : gxJ G gY_110 K 0 [] [gR 7 (l0), gR 3 (l1), gI (l2), gB, gB, gB] M n c (fi_110_L0 K l0 l1 l2 M n c) := by
  unfold fi_110_L0
  refine gr_iconst (pc := 0) (z := 0) 0 (show decode (gy_b gY_110) 0 = .ok (.iconst (0), 1) by decide +kernel) kc_0 ?_
  refine gr_istore_n (pc := 1) (i := 3) (L' := [gR 7 (l0), gR 3 (l1), gI (l2), gI (0), gB, gB]) (show decode (gy_b gY_110) 1 = .ok (.istore_n 3, 1) by decide +kernel) rfl (by decide) rfl rfl ?_
  refine gr_iconst (pc := 2) (z := 0) 0 (show decode (gy_b gY_110) 2 = .ok (.iconst (0), 1) by decide +kernel) kc_0 ?_
  refine gr_istore (pc := 3) (i := 4) (L' := [gR 7 (l0), gR 3 (l1), gI (l2), gI (0), gI (0), gB]) (show decode (gy_b gY_110) 3 = .ok (.istore 4, 2) by decide +kernel) (by decide) rfl rfl ?_
  exact hw_110_5 hG 65536 (l0) (l1) (l2) (0) (0) M n c
noncomputable def fi_110 (l0 l1 l2 M n c : Nat) (K : Nat → Nat → Nat → Nat → Bool) : Bool := fi_110_L0 K l0 l1 l2 M n c
theorem hm_110 {G : gxG} (hG : gxG0 G) (l0 l1 l2 : Nat) : gxM G gY_110 yX7_bringSome [gR 7 (l0), gR 3 (l1), gI (l2)] (fi_110 l0 l1 l2) := gxM_of (L := [gR 7 (l0), gR 3 (l1), gI (l2), gB, gB, gB]) hG 3 (by decide +kernel) rfl rfl rfl rfl (List.forall_mem_cons.mpr ⟨rfl, List.forall_mem_cons.mpr ⟨rfl, List.forall_mem_cons.mpr ⟨rfl, fun _ h => nomatch h⟩⟩⟩) (fun M n c K => h_110_L0 hG  l0 l1 l2 M n c)
/-! Farfiles bring (II)I -/
def gY_111 : gxY := (false, prog_1_method_60_code, 4, (Option.some Jvm.ClassFile.FieldType.int), "Farfiles", 3, 86, 0, [], "bring")
theorem ok_111 {Y : gxY} (h1 : gy_f gY_111 + 1 ≤ gy_f Y) (h2 : 8 + (gy_l gY_111 + 11) + gy_k gY_111 ≤ gy_k Y) : gh_ok Y gY_111 yX7_bring 2 := ⟨wd_1132, wd_51, ⟨by decide, by decide⟩, by decide +kernel, h1, h2⟩
noncomputable def fi_111_L0 (K : Nat → Nat → Nat → Nat → Bool) (l0 l1 l2 M n c : Nat) : Bool := gx_nn (l0) (fi_38 (l0) (l1) M n c (fun v1 M2 n3 c4 => gx_lt (l2) (1) (false) (gx_nn (v1) (fi_65 (v1) M2 n3 c4 (fun v5 M6 n7 c8 => gx_eq (v5) 0 (false) (gx_nn (l0) (fi_110 (l0) (v1) (l2) M6 n7 c8 (fun v9 M10 n11 c12 => gx_rt gx_f0 (v9) (K (v9) M10 n11 c12)))))))))
theorem h_111_L0 {G : gxG} (hG : gxG0 G) {K : Nat → Nat → Nat → Nat → Bool} (l0 l1 l2 M n c : Nat) : gxJ G gY_111 K 0 [] [gR 7 (l0), gI (l1), gI (l2), gB] M n c (fi_111_L0 K l0 l1 l2 M n c) := by
  unfold fi_111_L0
  refine gr_aload_n (pc := 0) (i := 0) 7 (l0) (show decode (gy_b gY_111) 0 = .ok (.aload_n 0, 1) by decide +kernel) rfl rfl ?_
  refine gr_iload_n (pc := 1) (i := 1) (l1) (show decode (gy_b gY_111) 1 = .ok (.iload_n 1, 1) by decide +kernel) rfl rfl ?_
  refine gj_nn (fun hx2 => ?_)
  refine gj_c0 (pc := 2) (Y' := gY_38) (y := yX7_clientOf) (vs := [gR 7 (l0), gI (l1)]) (rest := []) (rs := fun v1 => [gR 3 (v1)]) [gI (l1), gR 7 (l0)] rfl (hm_38 hG (l0) (l1)) rfl (gh_V (t := 7) (vs := [gI (l1)]) (rest := []) (show decode (gy_b gY_111) 2 = .ok (.invokevirtual 155, 3) by decide +kernel) rfl hx2 rfl rfl (ok_38 (by decide) (by decide)) wd_662 wd_664 wd_9 (Nat.le_of_ble_eq_true rfl)) (fun _ => rfl) ?_
  intro v1 M2 n3 c4
  refine gr_astore_n (pc := 5) (i := 3) (L' := [gR 7 (l0), gI (l1), gI (l2), gR 3 (v1)]) (show decode (gy_b gY_111) 5 = .ok (.astore_n 3, 1) by decide +kernel) rfl (by decide) rfl rfl ?_
  refine gr_iload_n (pc := 6) (i := 2) (l2) (show decode (gy_b gY_111) 6 = .ok (.iload_n 2, 1) by decide +kernel) rfl rfl ?_
  refine gr_iconst (pc := 7) (z := 1) 1 (show decode (gy_b gY_111) 7 = .ok (.iconst (1), 1) by decide +kernel) kc_1 ?_
  refine gr_icmp_ge (pc := 8) (tgt := 22) (off := 14) hG.2.1 (show decode (gy_b gY_111) 8 = .ok (.if_icmp .ge (14), 3) by decide +kernel) (by decide) ?_ ?_
  · refine gr_aload_n (pc := 22) (i := 3) 3 (v1) (show decode (gy_b gY_111) 22 = .ok (.aload_n 3, 1) by decide +kernel) rfl rfl ?_
    refine gj_nn (fun hx23 => ?_)
    refine gj_c0 (pc := 23) (Y' := gY_65) (y := yX3_nearBits) (vs := [gR 3 (v1)]) (rest := []) (rs := fun v5 => [gI (v5)]) [gR 3 (v1)] rfl (hm_65 hG (v1)) rfl (gh_V (t := 3) (vs := []) (rest := []) (show decode (gy_b gY_111) 23 = .ok (.invokevirtual 165, 3) by decide +kernel) rfl hx23 rfl rfl (ok_65 (by decide) (by decide)) wd_906 wd_907 wd_908 (Nat.le_of_ble_eq_true rfl)) (fun _ => rfl) ?_
    intro v5 M6 n7 c8
    refine gr_ifne (pc := 26) (tgt := 40) (off := 14) hG.2.1 (show decode (gy_b gY_111) 26 = .ok (.ifCond .ne (14), 3) by decide +kernel) (by decide) ?_ ?_
    · refine gr_aload_n (pc := 40) (i := 0) 7 (l0) (show decode (gy_b gY_111) 40 = .ok (.aload_n 0, 1) by decide +kernel) rfl rfl ?_
      refine gr_aload_n (pc := 41) (i := 3) 3 (v1) (show decode (gy_b gY_111) 41 = .ok (.aload_n 3, 1) by decide +kernel) rfl rfl ?_
      refine gr_iload_n (pc := 42) (i := 2) (l2) (show decode (gy_b gY_111) 42 = .ok (.iload_n 2, 1) by decide +kernel) rfl rfl ?_
      refine gj_nn (fun hx43 => ?_)
      refine gj_c0 (pc := 43) (Y' := gY_110) (y := yX7_bringSome) (vs := [gR 7 (l0), gR 3 (v1), gI (l2)]) (rest := []) (rs := fun v9 => [gI (v9)]) [gI (l2), gR 3 (v1), gR 7 (l0)] rfl (hm_110 hG (l0) (v1) (l2)) rfl (gh_V (t := 7) (vs := [gR 3 (v1), gI (l2)]) (rest := []) (show decode (gy_b gY_111) 43 = .ok (.invokevirtual 277, 3) by decide +kernel) rfl hx43 rfl rfl (ok_110 (by decide) (by decide)) wd_1056 wd_1058 wd_30 (Nat.le_of_ble_eq_true rfl)) (fun _ => rfl) ?_
      intro v9 M10 n11 c12
      exact gr_ireturn (pc := 46) (show decode (gy_b gY_111) 46 = .ok (.ireturn, 1) by decide +kernel) rfl rfl (by decide) gv_0
    · exact gj_false
  · exact gj_false
noncomputable def fi_111 (l0 l1 l2 M n c : Nat) (K : Nat → Nat → Nat → Nat → Bool) : Bool := fi_111_L0 K l0 l1 l2 M n c
theorem hm_111 {G : gxG} (hG : gxG0 G) (l0 l1 l2 : Nat) : gxM G gY_111 yX7_bring [gR 7 (l0), gI (l1), gI (l2)] (fi_111 l0 l1 l2) := gxM_of (L := [gR 7 (l0), gI (l1), gI (l2), gB]) hG 1 (by decide +kernel) rfl rfl rfl rfl (List.forall_mem_cons.mpr ⟨rfl, List.forall_mem_cons.mpr ⟨rfl, List.forall_mem_cons.mpr ⟨rfl, fun _ h => nomatch h⟩⟩⟩) (fun M n c K => h_111_L0 hG  l0 l1 l2 M n c)
/-! FarfilesLaw brings (I)V -/
def gY_112 : gxY := (false, method_10_code, 3, (Option.none : Option FieldType), "FarfilesLaw", 4, 109, 5, [], "brings")
theorem ok_112 {Y : gxY} (h1 : gy_f gY_112 + 1 ≤ gy_f Y) (h2 : 8 + (gy_l gY_112 + 11) + gy_k gY_112 ≤ gy_k Y) : gh_ok Y gY_112 yL_brings 1 := ⟨wd_1114, wd_50, ⟨by decide, by decide⟩, by decide +kernel, h1, h2⟩
noncomputable def fi_112_L22 (K : Nat → Nat → Nat → Nat → Bool) (M n c : Nat) : Bool := K 0 M n c
theorem h_112_L22 {G : gxG} (hG : gxG0 G) {K : Nat → Nat → Nat → Nat → Bool} (M n c : Nat) : gxJ G gY_112 K 22 [] [gB, gB, gB] M n c (fi_112_L22 K M n c) := by
  unfold fi_112_L22
  exact gr_return (pc := 22) (show decode (gy_b gY_112) 22 = .ok (.return_, 1) by decide +kernel) rfl rfl
noncomputable def fi_112_L0 (K : Nat → Nat → Nat → Nat → Bool) (l0 l1 M n c : Nat) : Bool := gx_get (l0) 3 M (fun v1 => gx_nn (v1) (fi_108 (v1) (l1) M n c (fun v2 M3 n4 c5 => gx_lt 0 (v2) (gx_get (l0) 3 M3 (fun v6 => gx_nn (v6) (fi_111 (v6) (l1) (99) M3 n4 c5 (fun v7 M8 n9 c10 => fi_112_L22 K  M8 n9 c10)))) (fi_112_L22 K  M3 n4 c5))))
theorem h_112_L0 {G : gxG} (hG : gxG0 G) {K : Nat → Nat → Nat → Nat → Bool} (l0 l1 M n c : Nat) : gxJ G gY_112 K 0 [] [gR 10 (l0), gI (l1), gB] M n c (fi_112_L0 K l0 l1 M n c) := by
  unfold fi_112_L0
  refine gr_aload_n (pc := 0) (i := 0) 10 (l0) (show decode (gy_b gY_112) 0 = .ok (.aload_n 0, 1) by decide +kernel) rfl rfl ?_
  refine gr_getf (pc := 1) (index := 10) (t := 10) (j := 3) (σ := 15) (sv := (gR 7)) (show decode (gy_b gY_112) 1 = .ok (.getfield 10, 3) by decide +kernel) rfl rfl (fun _ => rfl) wd_346 (by decide) ?_
  intro v1
  refine gr_iload_n (pc := 4) (i := 1) (l1) (show decode (gy_b gY_112) 4 = .ok (.iload_n 1, 1) by decide +kernel) rfl rfl ?_
  refine gj_nn (fun hx5 => ?_)
  refine gj_c0 (pc := 5) (Y' := gY_108) (y := yX7_outgoing) (vs := [gR 7 (v1), gI (l1)]) (rest := []) (rs := fun v2 => [gI (v2)]) [gI (l1), gR 7 (v1)] rfl (hm_108 hG (v1) (l1)) rfl (gh_V (t := 7) (vs := [gI (l1)]) (rest := []) (show decode (gy_b gY_112) 5 = .ok (.invokevirtual 89, 3) by decide +kernel) rfl hx5 rfl rfl (ok_108 (by decide) (by decide)) wd_1115 wd_1116 wd_1117 (Nat.le_of_ble_eq_true rfl)) (fun _ => rfl) ?_
  intro v2 M3 n4 c5
  refine gr_ifle (pc := 8) (tgt := 22) (off := 14) hG.2.1 (show decode (gy_b gY_112) 8 = .ok (.ifCond .le (14), 3) by decide +kernel) (by decide) ?_ ?_
  · refine gr_wk [false, false, true] rfl ?_
    exact h_112_L22 hG  M3 n4 c5
  · refine gr_aload_n (pc := 11) (i := 0) 10 (l0) (show decode (gy_b gY_112) 11 = .ok (.aload_n 0, 1) by decide +kernel) rfl rfl ?_
    refine gr_getf (pc := 12) (index := 10) (t := 10) (j := 3) (σ := 15) (sv := (gR 7)) (show decode (gy_b gY_112) 12 = .ok (.getfield 10, 3) by decide +kernel) rfl rfl (fun _ => rfl) wd_346 (by decide) ?_
    intro v6
    refine gr_iload_n (pc := 15) (i := 1) (l1) (show decode (gy_b gY_112) 15 = .ok (.iload_n 1, 1) by decide +kernel) rfl rfl ?_
    refine gr_bipush (pc := 16) (z := 99) 99 (show decode (gy_b gY_112) 16 = .ok (.bipush (99), 2) by decide +kernel) (by decide +kernel) ?_
    refine gj_nn (fun hx18 => ?_)
    refine gj_c0 (pc := 18) (Y' := gY_111) (y := yX7_bring) (vs := [gR 7 (v6), gI (l1), gI (99)]) (rest := []) (rs := fun v7 => [gI (v7)]) [gI (99), gI (l1), gR 7 (v6)] rfl (hm_111 hG (v6) (l1) (99)) rfl (gh_V (t := 7) (vs := [gI (l1), gI (99)]) (rest := []) (show decode (gy_b gY_112) 18 = .ok (.invokevirtual 92, 3) by decide +kernel) rfl hx18 rfl rfl (ok_111 (by decide) (by decide)) wd_1129 wd_1130 wd_1131 (Nat.le_of_ble_eq_true rfl)) (fun _ => rfl) ?_
    intro v7 M8 n9 c10
    refine gr_istore_n (pc := 21) (i := 2) (L' := [gR 10 (l0), gI (l1), gI (v7)]) (show decode (gy_b gY_112) 21 = .ok (.istore_n 2, 1) by decide +kernel) rfl (by decide) rfl rfl ?_
    refine gr_wk [false, false, false] rfl ?_
    exact h_112_L22 hG  M8 n9 c10
noncomputable def fi_112 (l0 l1 M n c : Nat) (K : Nat → Nat → Nat → Nat → Bool) : Bool := fi_112_L0 K l0 l1 M n c
theorem hm_112 {G : gxG} (hG : gxG0 G) (l0 l1 : Nat) : gxM G gY_112 yL_brings [gR 10 (l0), gI (l1)] (fi_112 l0 l1) := gxM_of (L := [gR 10 (l0), gI (l1), gB]) hG 1 (by decide +kernel) rfl rfl rfl rfl (List.forall_mem_cons.mpr ⟨rfl, List.forall_mem_cons.mpr ⟨rfl, fun _ h => nomatch h⟩⟩) (fun M n c K => h_112_L0 hG  l0 l1 M n c)
/-! Farfiles wireOf (II)I -/
def gY_113 : gxY := (false, prog_1_method_10_code, 3, (Option.some Jvm.ClassFile.FieldType.int), "Farfiles", 1, 40, 0, [], "wireOf")
theorem ok_113 {Y : gxY} (h1 : gy_f gY_113 + 1 ≤ gy_f Y) (h2 : 8 + (gy_l gY_113 + 11) + gy_k gY_113 ≤ gy_k Y) : gh_ok Y gY_113 yX7_wireOf 2 := ⟨wd_1146, wd_51, ⟨by decide, by decide⟩, by decide +kernel, h1, h2⟩
noncomputable def fi_113_L0 (K : Nat → Nat → Nat → Nat → Bool) (l0 l1 l2 M n c : Nat) : Bool := gx_lt (l1) 0 (false) (gx_lt (l1) (3) (gx_lt (l2) 0 (false) (gx_lt (l2) (3) (gx_eq (l1) (l2) (false) (gx_add (l1) (l2) (fun z1 => gx_sub (z1) (1) (fun z2 => gx_rt gx_f0 (z2) (K (z2) M n c))))) (false))) (false))
theorem h_113_L0 {G : gxG} (hG : gxG0 G) {K : Nat → Nat → Nat → Nat → Bool} (l0 l1 l2 M n c : Nat) : gxJ G gY_113 K 0 [] [gR 7 (l0), gI (l1), gI (l2)] M n c (fi_113_L0 K l0 l1 l2 M n c) := by
  unfold fi_113_L0
  refine gr_iload_n (pc := 0) (i := 1) (l1) (show decode (gy_b gY_113) 0 = .ok (.iload_n 1, 1) by decide +kernel) rfl rfl ?_
  refine gr_iflt (pc := 1) (tgt := 18) (off := 17) hG.2.1 (show decode (gy_b gY_113) 1 = .ok (.ifCond .lt (17), 3) by decide +kernel) (by decide) ?_ ?_
  · exact gj_false
  · refine gr_iload_n (pc := 4) (i := 1) (l1) (show decode (gy_b gY_113) 4 = .ok (.iload_n 1, 1) by decide +kernel) rfl rfl ?_
    refine gr_iconst (pc := 5) (z := 3) 3 (show decode (gy_b gY_113) 5 = .ok (.iconst (3), 1) by decide +kernel) kc_3 ?_
    refine gr_icmp_ge (pc := 6) (tgt := 18) (off := 12) hG.2.1 (show decode (gy_b gY_113) 6 = .ok (.if_icmp .ge (12), 3) by decide +kernel) (by decide) ?_ ?_
    · exact gj_false
    · refine gr_iload_n (pc := 9) (i := 2) (l2) (show decode (gy_b gY_113) 9 = .ok (.iload_n 2, 1) by decide +kernel) rfl rfl ?_
      refine gr_iflt (pc := 10) (tgt := 18) (off := 8) hG.2.1 (show decode (gy_b gY_113) 10 = .ok (.ifCond .lt (8), 3) by decide +kernel) (by decide) ?_ ?_
      · exact gj_false
      · refine gr_iload_n (pc := 13) (i := 2) (l2) (show decode (gy_b gY_113) 13 = .ok (.iload_n 2, 1) by decide +kernel) rfl rfl ?_
        refine gr_iconst (pc := 14) (z := 3) 3 (show decode (gy_b gY_113) 14 = .ok (.iconst (3), 1) by decide +kernel) kc_3 ?_
        refine gr_icmp_lt (pc := 15) (tgt := 28) (off := 13) hG.2.1 (show decode (gy_b gY_113) 15 = .ok (.if_icmp .lt (13), 3) by decide +kernel) (by decide) ?_ ?_
        · refine gr_iload_n (pc := 28) (i := 1) (l1) (show decode (gy_b gY_113) 28 = .ok (.iload_n 1, 1) by decide +kernel) rfl rfl ?_
          refine gr_iload_n (pc := 29) (i := 2) (l2) (show decode (gy_b gY_113) 29 = .ok (.iload_n 2, 1) by decide +kernel) rfl rfl ?_
          refine gr_icmp_ne (pc := 30) (tgt := 43) (off := 13) hG.2.1 (show decode (gy_b gY_113) 30 = .ok (.if_icmp .ne (13), 3) by decide +kernel) (by decide) ?_ ?_
          · refine gr_iload_n (pc := 43) (i := 1) (l1) (show decode (gy_b gY_113) 43 = .ok (.iload_n 1, 1) by decide +kernel) rfl rfl ?_
            refine gr_iload_n (pc := 44) (i := 2) (l2) (show decode (gy_b gY_113) 44 = .ok (.iload_n 2, 1) by decide +kernel) rfl rfl ?_
            refine gr_iadd (pc := 45) (show decode (gy_b gY_113) 45 = .ok (.iadd, 1) by decide +kernel) ?_
            intro z1
            refine gr_iconst (pc := 46) (z := 1) 1 (show decode (gy_b gY_113) 46 = .ok (.iconst (1), 1) by decide +kernel) kc_1 ?_
            refine gr_isub (pc := 47) hG.2.1 (show decode (gy_b gY_113) 47 = .ok (.isub, 1) by decide +kernel) ?_
            intro z2
            exact gr_ireturn (pc := 48) (show decode (gy_b gY_113) 48 = .ok (.ireturn, 1) by decide +kernel) rfl rfl (by decide) gv_0
          · exact gj_false
        · exact gj_false
noncomputable def fi_113 (l0 l1 l2 M n c : Nat) (K : Nat → Nat → Nat → Nat → Bool) : Bool := fi_113_L0 K l0 l1 l2 M n c
theorem hm_113 {G : gxG} (hG : gxG0 G) (l0 l1 l2 : Nat) : gxM G gY_113 yX7_wireOf [gR 7 (l0), gI (l1), gI (l2)] (fi_113 l0 l1 l2) := gxM_of (L := [gR 7 (l0), gI (l1), gI (l2)]) hG 0 (by decide +kernel) rfl rfl rfl rfl (List.forall_mem_cons.mpr ⟨rfl, List.forall_mem_cons.mpr ⟨rfl, List.forall_mem_cons.mpr ⟨rfl, fun _ h => nomatch h⟩⟩⟩) (fun M n c K => h_113_L0 hG  l0 l1 l2 M n c)
/-! Farfiles wire (IIZ)Z -/
def gY_114 : gxY := (false, prog_1_method_20_code, 6, (Option.some Jvm.ClassFile.FieldType.boolean), "Farfiles", 2, 62, 2, [], "wire")
theorem ok_114 {Y : gxY} (h1 : gy_f gY_114 + 1 ≤ gy_f Y) (h2 : 8 + (gy_l gY_114 + 11) + gy_k gY_114 ≤ gy_k Y) : gh_ok Y gY_114 yX7_wire 3 := ⟨wd_1142, wd_51, ⟨by decide, by decide⟩, by decide +kernel, h1, h2⟩
noncomputable def fi_114_L0 (K : Nat → Nat → Nat → Nat → Bool) (l0 l1 l2 l3 M n c : Nat) : Bool := gx_nn (l0) (fi_113 (l0) (l1) (l2) M n c (fun v1 M2 n3 c4 => gx_lt (v1) 0 (false) (gx_get (l0) 5 M2 (fun v5 => gx_len (v5) M2 (fun v6 => gx_lt (v1) (v6) (gx_get (l0) 5 M2 (fun v7 => gx_ald (v7) (v1) M2 (fun v8 => gx_get (l0) 5 M2 (fun v9 => gx_ast (v9) (v1) (l3) M2 gx_f2 (fun M10 => gx_rt gx_f2 (v8) (K (v8) M10 n3 c4)))))) (false))))))
theorem h_114_L0 {G : gxG} (hG : gxG0 G) {K : Nat → Nat → Nat → Nat → Bool} (l0 l1 l2 l3 M n c : Nat) : gxJ G gY_114 K 0 [] [gR 7 (l0), gI (l1), gI (l2), gI (l3), gB, gB] M n c (fi_114_L0 K l0 l1 l2 l3 M n c) := by
  unfold fi_114_L0
  refine gr_aload_n (pc := 0) (i := 0) 7 (l0) (show decode (gy_b gY_114) 0 = .ok (.aload_n 0, 1) by decide +kernel) rfl rfl ?_
  refine gr_iload_n (pc := 1) (i := 1) (l1) (show decode (gy_b gY_114) 1 = .ok (.iload_n 1, 1) by decide +kernel) rfl rfl ?_
  refine gr_iload_n (pc := 2) (i := 2) (l2) (show decode (gy_b gY_114) 2 = .ok (.iload_n 2, 1) by decide +kernel) rfl rfl ?_
  refine gj_nn (fun hx3 => ?_)
  refine gj_c0 (pc := 3) (Y' := gY_113) (y := yX7_wireOf) (vs := [gR 7 (l0), gI (l1), gI (l2)]) (rest := []) (rs := fun v1 => [gI (v1)]) [gI (l2), gI (l1), gR 7 (l0)] rfl (hm_113 hG (l0) (l1) (l2)) rfl (gh_V (t := 7) (vs := [gI (l1), gI (l2)]) (rest := []) (show decode (gy_b gY_114) 3 = .ok (.invokevirtual 162, 3) by decide +kernel) rfl hx3 rfl rfl (ok_113 (by decide) (by decide)) wd_1143 wd_1145 wd_35 (Nat.le_of_ble_eq_true rfl)) (fun _ => rfl) ?_
  intro v1 M2 n3 c4
  refine gr_istore (pc := 6) (i := 4) (L' := [gR 7 (l0), gI (l1), gI (l2), gI (l3), gI (v1), gB]) (show decode (gy_b gY_114) 6 = .ok (.istore 4, 2) by decide +kernel) (by decide) rfl rfl ?_
  refine gr_iload (pc := 8) (i := 4) (v1) (show decode (gy_b gY_114) 8 = .ok (.iload 4, 2) by decide +kernel) rfl ?_
  refine gr_iflt (pc := 10) (tgt := 23) (off := 13) hG.2.1 (show decode (gy_b gY_114) 10 = .ok (.ifCond .lt (13), 3) by decide +kernel) (by decide) ?_ ?_
  · exact gj_false
  · refine gr_iload (pc := 13) (i := 4) (v1) (show decode (gy_b gY_114) 13 = .ok (.iload 4, 2) by decide +kernel) rfl ?_
    refine gr_aload_n (pc := 15) (i := 0) 7 (l0) (show decode (gy_b gY_114) 15 = .ok (.aload_n 0, 1) by decide +kernel) rfl rfl ?_
    refine gr_getf (pc := 16) (index := 42) (t := 7) (j := 5) (σ := 74) (sv := (gR 66)) (show decode (gy_b gY_114) 16 = .ok (.getfield 42, 3) by decide +kernel) rfl rfl (fun _ => rfl) wd_299 (by decide) ?_
    intro v5
    refine gr_alen (pc := 19) (κ := 2) (show decode (gy_b gY_114) 19 = .ok (.arraylength, 1) by decide +kernel) (by decide) ?_
    intro v6
    refine gr_icmp_lt (pc := 20) (tgt := 25) (off := 5) hG.2.1 (show decode (gy_b gY_114) 20 = .ok (.if_icmp .lt (5), 3) by decide +kernel) (by decide) ?_ ?_
    · refine gr_aload_n (pc := 25) (i := 0) 7 (l0) (show decode (gy_b gY_114) 25 = .ok (.aload_n 0, 1) by decide +kernel) rfl rfl ?_
      refine gr_getf (pc := 26) (index := 42) (t := 7) (j := 5) (σ := 74) (sv := (gR 66)) (show decode (gy_b gY_114) 26 = .ok (.getfield 42, 3) by decide +kernel) rfl rfl (fun _ => rfl) wd_299 (by decide) ?_
      intro v7
      refine gr_iload (pc := 29) (i := 4) (v1) (show decode (gy_b gY_114) 29 = .ok (.iload 4, 2) by decide +kernel) rfl ?_
      refine gr_zald (pc := 31) (show decode (gy_b gY_114) 31 = .ok (.baload, 1) by decide +kernel) ?_
      intro v8
      refine gr_istore (pc := 32) (i := 5) (L' := [gR 7 (l0), gI (l1), gI (l2), gI (l3), gI (v1), gI (v8)]) (show decode (gy_b gY_114) 32 = .ok (.istore 5, 2) by decide +kernel) (by decide) rfl rfl ?_
      refine gr_aload_n (pc := 34) (i := 0) 7 (l0) (show decode (gy_b gY_114) 34 = .ok (.aload_n 0, 1) by decide +kernel) rfl rfl ?_
      refine gr_getf (pc := 35) (index := 42) (t := 7) (j := 5) (σ := 74) (sv := (gR 66)) (show decode (gy_b gY_114) 35 = .ok (.getfield 42, 3) by decide +kernel) rfl rfl (fun _ => rfl) wd_299 (by decide) ?_
      intro v9
      refine gr_iload (pc := 38) (i := 4) (v1) (show decode (gy_b gY_114) 38 = .ok (.iload 4, 2) by decide +kernel) rfl ?_
      refine gr_iload_n (pc := 40) (i := 3) (l3) (show decode (gy_b gY_114) 40 = .ok (.iload_n 3, 1) by decide +kernel) rfl rfl ?_
      refine gr_zast (pc := 41) hG.2.1 (show decode (gy_b gY_114) 41 = .ok (.bastore, 1) by decide +kernel) ?_
      intro M10
      refine gr_iload (pc := 42) (i := 5) (v8) (show decode (gy_b gY_114) 42 = .ok (.iload 5, 2) by decide +kernel) rfl ?_
      exact gr_ireturn (pc := 44) (show decode (gy_b gY_114) 44 = .ok (.ireturn, 1) by decide +kernel) rfl rfl (by decide) gv_2f
    · exact gj_false
noncomputable def fi_114 (l0 l1 l2 l3 M n c : Nat) (K : Nat → Nat → Nat → Nat → Bool) : Bool := fi_114_L0 K l0 l1 l2 l3 M n c
theorem hm_114 {G : gxG} (hG : gxG0 G) (l0 l1 l2 l3 : Nat) : gxM G gY_114 yX7_wire [gR 7 (l0), gI (l1), gI (l2), gI (l3)] (fi_114 l0 l1 l2 l3) := gxM_of (L := [gR 7 (l0), gI (l1), gI (l2), gI (l3), gB, gB]) hG 2 (by decide +kernel) rfl rfl rfl rfl (List.forall_mem_cons.mpr ⟨rfl, List.forall_mem_cons.mpr ⟨rfl, List.forall_mem_cons.mpr ⟨rfl, List.forall_mem_cons.mpr ⟨rfl, fun _ h => nomatch h⟩⟩⟩⟩) (fun M n c K => h_114_L0 hG  l0 l1 l2 l3 M n c)
/-! Farfiles serverOf (I)LFarfiles$ActSet; -/
def gY_115 : gxY := (false, prog_1_method_9_code, 2, (Option.some (Jvm.ClassFile.FieldType.object "Farfiles$ActSet")), "Farfiles", 1, 40, 9, [], "serverOf")
theorem ok_115 {Y : gxY} (h1 : gy_f gY_115 + 1 ≤ gy_f Y) (h2 : 8 + (gy_l gY_115 + 11) + gy_k gY_115 ≤ gy_k Y) : gh_ok Y gY_115 yX7_serverOf 1 := ⟨wd_1156, wd_51, ⟨by decide, by decide⟩, by decide +kernel, h1, h2⟩
noncomputable def fi_115_L0 (K : Nat → Nat → Nat → Nat → Bool) (l0 l1 M n c : Nat) : Bool := gx_lt (l1) 0 (false) (gx_lt (l1) (3) (gx_get (l0) 4 M (fun v1 => gx_ald (v1) (l1) M (fun v2 => gx_rt gx_f0 (v2) (K (v2) M n c)))) (false))
theorem h_115_L0 {G : gxG} (hG : gxG0 G) {K : Nat → Nat → Nat → Nat → Bool} (l0 l1 M n c : Nat) : gxJ G gY_115 K 0 [] [gR 7 (l0), gI (l1)] M n c (fi_115_L0 K l0 l1 M n c) := by
  unfold fi_115_L0
  refine gr_iload_n (pc := 0) (i := 1) (l1) (show decode (gy_b gY_115) 0 = .ok (.iload_n 1, 1) by decide +kernel) rfl rfl ?_
  refine gr_iflt (pc := 1) (tgt := 9) (off := 8) hG.2.1 (show decode (gy_b gY_115) 1 = .ok (.ifCond .lt (8), 3) by decide +kernel) (by decide) ?_ ?_
  · exact gj_false
  · refine gr_iload_n (pc := 4) (i := 1) (l1) (show decode (gy_b gY_115) 4 = .ok (.iload_n 1, 1) by decide +kernel) rfl rfl ?_
    refine gr_iconst (pc := 5) (z := 3) 3 (show decode (gy_b gY_115) 5 = .ok (.iconst (3), 1) by decide +kernel) kc_3 ?_
    refine gr_icmp_lt (pc := 6) (tgt := 19) (off := 13) hG.2.1 (show decode (gy_b gY_115) 6 = .ok (.if_icmp .lt (13), 3) by decide +kernel) (by decide) ?_ ?_
    · refine gr_aload_n (pc := 19) (i := 0) 7 (l0) (show decode (gy_b gY_115) 19 = .ok (.aload_n 0, 1) by decide +kernel) rfl rfl ?_
      refine gr_getf (pc := 20) (index := 38) (t := 7) (j := 4) (σ := 78) (sv := (gR 70)) (show decode (gy_b gY_115) 20 = .ok (.getfield 38, 3) by decide +kernel) rfl rfl (fun _ => rfl) wd_298 (by decide) ?_
      intro v1
      refine gr_iload_n (pc := 23) (i := 1) (l1) (show decode (gy_b gY_115) 23 = .ok (.iload_n 1, 1) by decide +kernel) rfl rfl ?_
      refine gr_aald (pc := 24) (κ := 6) (t := 1) (C := "Farfiles$ActSet") (show decode (gy_b gY_115) 24 = .ok (.aaload, 1) by decide +kernel) ⟨by decide, by decide, rfl⟩ rfl ?_
      intro v2
      exact gr_areturn (pc := 25) (t := 1) (show decode (gy_b gY_115) 25 = .ok (.areturn, 1) by decide +kernel) rfl rfl (Or.inl ⟨_, rfl⟩)
    · exact gj_false
noncomputable def fi_115 (l0 l1 M n c : Nat) (K : Nat → Nat → Nat → Nat → Bool) : Bool := fi_115_L0 K l0 l1 M n c
theorem hm_115 {G : gxG} (hG : gxG0 G) (l0 l1 : Nat) : gxM G gY_115 yX7_serverOf [gR 7 (l0), gI (l1)] (fi_115 l0 l1) := gxM_of (L := [gR 7 (l0), gI (l1)]) hG 0 (by decide +kernel) rfl rfl rfl rfl (List.forall_mem_cons.mpr ⟨rfl, List.forall_mem_cons.mpr ⟨rfl, fun _ h => nomatch h⟩⟩) (fun M n c K => h_115_L0 hG  l0 l1 M n c)
/-! Farfiles$ActSet countUnlike (LFarfiles$ActSet;)I -/
def gY_116 : gxY := (false, prog_3_method_9_code, 4, (Option.some Jvm.ClassFile.FieldType.int), "Farfiles$ActSet", 2, 61, 0, [], "countUnlike")
theorem ok_116 {Y : gxY} (h1 : gy_f gY_116 + 1 ≤ gy_f Y) (h2 : 8 + (gy_l gY_116 + 11) + gy_k gY_116 ≤ gy_k Y) : gh_ok Y gY_116 yX1_countUnlike 1 := ⟨wd_1160, wd_55, ⟨by decide, by decide⟩, by decide +kernel, h1, h2⟩
noncomputable def fi_116_B4 (K : Nat → Nat → Nat → Nat → Bool) (ih_4 : Nat → Nat → Nat → Nat → Nat → Nat → Nat → Bool) (l0 l1 l2 l3 M n c : Nat) : Bool := gx_lt (l3) (4) (gx_get (l0) 0 M (fun v1 => gx_ald (v1) (l3) M (fun v2 => gx_get (l1) 0 M (fun v3 => gx_ald (v3) (l3) M (fun v4 => fi_106 (Nat.xor (v2) (v4)) M n c (fun v5 M6 n7 c8 => gx_add (l2) (v5) (fun z9 => gx_add (l3) 1 (fun z10 => ih_4 (l0) (l1) (z9) (z10) M6 n7 c8)))))))) (gx_rt gx_f0 (l2) (K (l2) M n c))
theorem hb_116_B4 {G : gxG} (hG : gxG0 G) {K : Nat → Nat → Nat → Nat → Bool} {ih_4 : Nat → Nat → Nat → Nat → Nat → Nat → Nat → Bool} (hi_4 : ∀ l0 l1 l2 l3 M n c : Nat, gxJ G gY_116 K 4 [] [gR 1 (l0), gR 1 (l1), gI (l2), gI (l3)] M n c (ih_4 l0 l1 l2 l3 M n c)) (l0 l1 l2 l3 M n c : Nat) : gxJ G gY_116 K 4 [] [gR 1 (l0), gR 1 (l1), gI (l2), gI (l3)] M n c (fi_116_B4 K ih_4 l0 l1 l2 l3 M n c) := by
  unfold fi_116_B4
  refine gr_iload_n (pc := 4) (i := 3) (l3) (show decode (gy_b gY_116) 4 = .ok (.iload_n 3, 1) by decide +kernel) rfl rfl ?_
  refine gr_iconst (pc := 5) (z := 4) 4 (show decode (gy_b gY_116) 5 = .ok (.iconst (4), 1) by decide +kernel) kc_4 ?_
  refine gr_icmp_ge (pc := 6) (tgt := 34) (off := 28) hG.2.1 (show decode (gy_b gY_116) 6 = .ok (.if_icmp .ge (28), 3) by decide +kernel) (by decide) ?_ ?_
  · refine gr_iload_n (pc := 34) (i := 2) (l2) (show decode (gy_b gY_116) 34 = .ok (.iload_n 2, 1) by decide +kernel) rfl rfl ?_
    exact gr_ireturn (pc := 35) (show decode (gy_b gY_116) 35 = .ok (.ireturn, 1) by decide +kernel) rfl rfl (by decide) gv_0
  · refine gr_iload_n (pc := 9) (i := 2) (l2) (show decode (gy_b gY_116) 9 = .ok (.iload_n 2, 1) by decide +kernel) rfl rfl ?_
    refine gr_aload_n (pc := 10) (i := 0) 1 (l0) (show decode (gy_b gY_116) 10 = .ok (.aload_n 0, 1) by decide +kernel) rfl rfl ?_
    refine gr_getf (pc := 11) (index := 9) (t := 1) (j := 0) (σ := 76) (sv := (gR 68)) (show decode (gy_b gY_116) 11 = .ok (.getfield 9, 3) by decide +kernel) rfl rfl (fun _ => rfl) wd_130 (by decide) ?_
    intro v1
    refine gr_iload_n (pc := 14) (i := 3) (l3) (show decode (gy_b gY_116) 14 = .ok (.iload_n 3, 1) by decide +kernel) rfl rfl ?_
    refine gr_lald (pc := 15) (show decode (gy_b gY_116) 15 = .ok (.laload, 1) by decide +kernel) ?_
    intro v2
    refine gr_aload_n (pc := 16) (i := 1) 1 (l1) (show decode (gy_b gY_116) 16 = .ok (.aload_n 1, 1) by decide +kernel) rfl rfl ?_
    refine gr_getf (pc := 17) (index := 9) (t := 1) (j := 0) (σ := 76) (sv := (gR 68)) (show decode (gy_b gY_116) 17 = .ok (.getfield 9, 3) by decide +kernel) rfl rfl (fun _ => rfl) wd_130 (by decide) ?_
    intro v3
    refine gr_iload_n (pc := 20) (i := 3) (l3) (show decode (gy_b gY_116) 20 = .ok (.iload_n 3, 1) by decide +kernel) rfl rfl ?_
    refine gr_lald (pc := 21) (show decode (gy_b gY_116) 21 = .ok (.laload, 1) by decide +kernel) ?_
    intro v4
    refine gr_lxor (pc := 22) (show decode (gy_b gY_116) 22 = .ok (.lxor, 1) by decide +kernel) ?_
    refine gj_c0 (pc := 23) (Y' := gY_106) (y := yJ13_bitCount_95d88) (vs := [gL (Nat.xor (v2) (v4))]) (rest := [gI (l2)]) (rs := fun v5 => [gI (v5), gI (l2)]) [gL (Nat.xor (v2) (v4))] rfl (hm_106 hG (Nat.xor (v2) (v4))) rfl (gh_S (vs := [gL (Nat.xor (v2) (v4))]) (rest := [gI (l2)]) (show decode (gy_b gY_116) 23 = .ok (.invokestatic 17, 3) by decide +kernel) rfl (ok_106 (by decide) (by decide)) rfl rfl wd_1123 wd_1124 (Nat.le_of_ble_eq_true rfl)) (fun _ => rfl) ?_
    intro v5 M6 n7 c8
    refine gr_iadd (pc := 26) (show decode (gy_b gY_116) 26 = .ok (.iadd, 1) by decide +kernel) ?_
    intro z9
    refine gr_istore_n (pc := 27) (i := 2) (L' := [gR 1 (l0), gR 1 (l1), gI (z9), gI (l3)]) (show decode (gy_b gY_116) 27 = .ok (.istore_n 2, 1) by decide +kernel) rfl (by decide) rfl rfl ?_
    refine gr_iinc (pc := 28) (i := 3) (d := 1) (z := 1) (L' := fun z10 => [gR 1 (l0), gR 1 (l1), gI (z9), gI (z10)]) (show decode (gy_b gY_116) 28 = .ok (.iinc 3 (1), 3) by decide +kernel) (by decide +kernel) (by decide) rfl rfl (fun _ => rfl) ?_
    intro z10
    refine gr_goto (pc := 31) (tgt := 4) (off := -27) (show decode (gy_b gY_116) 31 = .ok (.goto (-27), 3) by decide +kernel) (by decide) ?_
    exact hi_4 (l0) (l1) (z9) (z10) M6 n7 c8
noncomputable def fi_116_W4 (K : Nat → Nat → Nat → Nat → Bool) (u : Nat) : Nat → Nat → Nat → Nat → Nat → Nat → Nat → Bool := Nat.rec (motive := fun _ => Nat → Nat → Nat → Nat → Nat → Nat → Nat → Bool) (fun _ _ _ _ _ _ _ => false) (fun _ ih => fi_116_B4 K ih) u
theorem hw_116_4 {G : gxG} (hG : gxG0 G) {K : Nat → Nat → Nat → Nat → Bool} (u : Nat) : ∀ l0 l1 l2 l3 M n c : Nat, gxJ G gY_116 K 4 [] [gR 1 (l0), gR 1 (l1), gI (l2), gI (l3)] M n c (fi_116_W4 K u l0 l1 l2 l3 M n c) := by
  induction u with
  | zero => intro l0 l1 l2 l3 M n c; exact gj_false
  | succ u ih => intro l0 l1 l2 l3 M n c; exact hb_116_B4 hG ih l0 l1 l2 l3 M n c
noncomputable def fi_116_L0 (K : Nat → Nat → Nat → Nat → Bool) (l0 l1 M n c : Nat) : Bool := fi_116_W4 K 65536 (l0) (l1) (0) (0) M n c
theorem h_116_L0 {G : gxG} (hG : gxG0 G) {K : Nat → Nat → Nat → Nat → Bool} (l0 l1 M n c : Nat) : gxJ G gY_116 K 0 [] [gR 1 (l0), gR 1 (l1), gB, gB] M n c (fi_116_L0 K l0 l1 M n c) := by
  unfold fi_116_L0
  refine gr_iconst (pc := 0) (z := 0) 0 (show decode (gy_b gY_116) 0 = .ok (.iconst (0), 1) by decide +kernel) kc_0 ?_
  refine gr_istore_n (pc := 1) (i := 2) (L' := [gR 1 (l0), gR 1 (l1), gI (0), gB]) (show decode (gy_b gY_116) 1 = .ok (.istore_n 2, 1) by decide +kernel) rfl (by decide) rfl rfl ?_
  refine gr_iconst (pc := 2) (z := 0) 0 (show decode (gy_b gY_116) 2 = .ok (.iconst (0), 1) by decide +kernel) kc_0 ?_
  refine gr_istore_n (pc := 3) (i := 3) (L' := [gR 1 (l0), gR 1 (l1), gI (0), gI (0)]) (show decode (gy_b gY_116) 3 = .ok (.istore_n 3, 1) by decide +kernel) rfl (by decide) rfl rfl ?_
  exact hw_116_4 hG 65536 (l0) (l1) (0) (0) M n c
noncomputable def fi_116 (l0 l1 M n c : Nat) (K : Nat → Nat → Nat → Nat → Bool) : Bool := fi_116_L0 K l0 l1 M n c
theorem hm_116 {G : gxG} (hG : gxG0 G) (l0 l1 : Nat) : gxM G gY_116 yX1_countUnlike [gR 1 (l0), gR 1 (l1)] (fi_116 l0 l1) := gxM_of (L := [gR 1 (l0), gR 1 (l1), gB, gB]) hG 2 (by decide +kernel) rfl rfl rfl rfl (List.forall_mem_cons.mpr ⟨rfl, List.forall_mem_cons.mpr ⟨rfl, fun _ h => nomatch h⟩⟩) (fun M n c K => h_116_L0 hG  l0 l1 M n c)
