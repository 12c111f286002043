/-! METHODS 7 -/
set_option maxRecDepth 100000
/-! Farfiles hear (II)I -/
def gY_117 : gxY := (false, prog_1_method_61_code, 7, (Option.some Jvm.ClassFile.FieldType.int), "Farfiles", 3, 84, 0, [], "hear")
theorem ok_117 {Y : gxY} (h1 : gy_f gY_117 + 1 ≤ gy_f Y) (h2 : 8 + (gy_l gY_117 + 11) + gy_k gY_117 ≤ gy_k Y) : gh_ok Y gY_117 yX7_hear 2 := ⟨wd_1151, wd_51, ⟨by decide, by decide⟩, by decide +kernel, h1, h2⟩
noncomputable def fi_117_L52 (K : Nat → Nat → Nat → Nat → Bool) (l4 s0 M n c : Nat) : Bool := gx_nn (l4) (fi_116 (l4) (s0) M n c (fun v17 M18 n19 c20 => gx_nn (l4) (fi_78 (l4) (s0) M18 n19 c20 (fun v21 M22 n23 c24 => gx_nn (s0) (fi_78 (s0) (l4) M22 n23 c24 (fun v25 M26 n27 c28 => gx_rt gx_f0 (v17) (K (v17) M26 n27 c28)))))))
theorem h_117_L52 {G : gxG} (hG : gxG0 G) {K : Nat → Nat → Nat → Nat → Bool} (l4 s0 M n c : Nat) : gxJ G gY_117 K 52 [gR 1 (s0)] [gB, gB, gB, gB, gR 1 (l4), gB, gB] M n c (fi_117_L52 K l4 s0 M n c) := by
  unfold fi_117_L52
  refine gr_astore (pc := 52) (i := 5) (L' := [gB, gB, gB, gB, gR 1 (l4), gR 1 (s0), gB]) (show decode (gy_b gY_117) 52 = .ok (.astore 5, 2) by decide +kernel) (by decide) rfl rfl ?_
  refine gr_aload (pc := 54) (i := 4) 1 (l4) (show decode (gy_b gY_117) 54 = .ok (.aload 4, 2) by decide +kernel) rfl ?_
  refine gr_aload (pc := 56) (i := 5) 1 (s0) (show decode (gy_b gY_117) 56 = .ok (.aload 5, 2) by decide +kernel) rfl ?_
  refine gj_nn (fun hx58 => ?_)
  refine gj_c0 (pc := 58) (Y' := gY_116) (y := yX1_countUnlike) (vs := [gR 1 (l4), gR 1 (s0)]) (rest := []) (rs := fun v17 => [gI (v17)]) [gR 1 (s0), gR 1 (l4)] rfl (hm_116 hG (l4) (s0)) rfl (gh_V (t := 1) (vs := [gR 1 (s0)]) (rest := []) (show decode (gy_b gY_117) 58 = .ok (.invokevirtual 413, 3) by decide +kernel) rfl hx58 rfl rfl (ok_116 (by decide) (by decide)) wd_1157 wd_1158 wd_1159 (Nat.le_of_ble_eq_true rfl)) (fun _ => rfl) ?_
  intro v17 M18 n19 c20
  refine gr_istore (pc := 61) (i := 6) (L' := [gB, gB, gB, gB, gR 1 (l4), gR 1 (s0), gI (v17)]) (show decode (gy_b gY_117) 61 = .ok (.istore 6, 2) by decide +kernel) (by decide) rfl rfl ?_
  refine gr_aload (pc := 63) (i := 4) 1 (l4) (show decode (gy_b gY_117) 63 = .ok (.aload 4, 2) by decide +kernel) rfl ?_
  refine gr_aload (pc := 65) (i := 5) 1 (s0) (show decode (gy_b gY_117) 65 = .ok (.aload 5, 2) by decide +kernel) rfl ?_
  refine gj_nn (fun hx67 => ?_)
  refine gj_c0 (pc := 67) (Y' := gY_78) (y := yX1_putAll) (vs := [gR 1 (l4), gR 1 (s0)]) (rest := []) (rs := fun v21 => []) [gR 1 (s0), gR 1 (l4)] rfl (hm_78 hG (l4) (s0)) rfl (gh_V (t := 1) (vs := [gR 1 (s0)]) (rest := []) (show decode (gy_b gY_117) 67 = .ok (.invokevirtual 417, 3) by decide +kernel) rfl hx67 rfl rfl (ok_78 (by decide) (by decide)) wd_1161 wd_992 wd_993 (Nat.le_of_ble_eq_true rfl)) (fun _ => rfl) ?_
  intro v21 M22 n23 c24
  refine gr_aload (pc := 70) (i := 5) 1 (s0) (show decode (gy_b gY_117) 70 = .ok (.aload 5, 2) by decide +kernel) rfl ?_
  refine gr_aload (pc := 72) (i := 4) 1 (l4) (show decode (gy_b gY_117) 72 = .ok (.aload 4, 2) by decide +kernel) rfl ?_
  refine gj_nn (fun hx74 => ?_)
  refine gj_c0 (pc := 74) (Y' := gY_78) (y := yX1_putAll) (vs := [gR 1 (s0), gR 1 (l4)]) (rest := []) (rs := fun v25 => []) [gR 1 (l4), gR 1 (s0)] rfl (hm_78 hG (s0) (l4)) rfl (gh_V (t := 1) (vs := [gR 1 (l4)]) (rest := []) (show decode (gy_b gY_117) 74 = .ok (.invokevirtual 417, 3) by decide +kernel) rfl hx74 rfl rfl (ok_78 (by decide) (by decide)) wd_1161 wd_992 wd_993 (Nat.le_of_ble_eq_true rfl)) (fun _ => rfl) ?_
  intro v25 M26 n27 c28
  refine gr_iload (pc := 77) (i := 6) (v17) (show decode (gy_b gY_117) 77 = .ok (.iload 6, 2) by decide +kernel) rfl ?_
  exact gr_ireturn (pc := 79) (show decode (gy_b gY_117) 79 = .ok (.ireturn, 1) by decide +kernel) rfl rfl (by decide) gv_0
noncomputable def fi_117_L0 (K : Nat → Nat → Nat → Nat → Bool) (l0 l1 l2 M n c : Nat) : Bool := gx_nn (l0) (fi_113 (l0) (l1) (l2) M n c (fun v1 M2 n3 c4 => gx_lt (v1) 0 (false) (gx_get (l0) 5 M2 (fun v5 => gx_len (v5) M2 (fun v6 => gx_lt (v1) (v6) (gx_get (l0) 5 M2 (fun v7 => gx_ald (v7) (v1) M2 (fun v8 => gx_eq (v8) 0 (false) (gx_nn (l0) (fi_115 (l0) (l1) M2 n3 c4 (fun v9 M10 n11 c12 => gx_nn (l0) (fi_115 (l0) (l2) M10 n11 c12 (fun v13 M14 n15 c16 => fi_117_L52 K (v9) (v13) M14 n15 c16)))))))) (false))))))
theorem h_117_L0 {G : gxG} (hG : gxG0 G) {K : Nat → Nat → Nat → Nat → Bool} (l0 l1 l2 M n c : Nat) : gxJ G gY_117 K 0 [] [gR 7 (l0), gI (l1), gI (l2), gB, gB, gB, gB] M n c (fi_117_L0 K l0 l1 l2 M n c) := by
  unfold fi_117_L0
  refine gr_aload_n (pc := 0) (i := 0) 7 (l0) (show decode (gy_b gY_117) 0 = .ok (.aload_n 0, 1) by decide +kernel) rfl rfl ?_
  refine gr_iload_n (pc := 1) (i := 1) (l1) (show decode (gy_b gY_117) 1 = .ok (.iload_n 1, 1) by decide +kernel) rfl rfl ?_
  refine gr_iload_n (pc := 2) (i := 2) (l2) (show decode (gy_b gY_117) 2 = .ok (.iload_n 2, 1) by decide +kernel) rfl rfl ?_
  refine gj_nn (fun hx3 => ?_)
  refine gj_c0 (pc := 3) (Y' := gY_113) (y := yX7_wireOf) (vs := [gR 7 (l0), gI (l1), gI (l2)]) (rest := []) (rs := fun v1 => [gI (v1)]) [gI (l2), gI (l1), gR 7 (l0)] rfl (hm_113 hG (l0) (l1) (l2)) rfl (gh_V (t := 7) (vs := [gI (l1), gI (l2)]) (rest := []) (show decode (gy_b gY_117) 3 = .ok (.invokevirtual 162, 3) by decide +kernel) rfl hx3 rfl rfl (ok_113 (by decide) (by decide)) wd_1143 wd_1145 wd_35 (Nat.le_of_ble_eq_true rfl)) (fun _ => rfl) ?_
  intro v1 M2 n3 c4
  refine gr_istore_n (pc := 6) (i := 3) (L' := [gR 7 (l0), gI (l1), gI (l2), gI (v1), gB, gB, gB]) (show decode (gy_b gY_117) 6 = .ok (.istore_n 3, 1) by decide +kernel) rfl (by decide) rfl rfl ?_
  refine gr_iload_n (pc := 7) (i := 3) (v1) (show decode (gy_b gY_117) 7 = .ok (.iload_n 3, 1) by decide +kernel) rfl rfl ?_
  refine gr_iflt (pc := 8) (tgt := 29) (off := 21) hG.2.1 (show decode (gy_b gY_117) 8 = .ok (.ifCond .lt (21), 3) by decide +kernel) (by decide) ?_ ?_
  · exact gj_false
  · refine gr_iload_n (pc := 11) (i := 3) (v1) (show decode (gy_b gY_117) 11 = .ok (.iload_n 3, 1) by decide +kernel) rfl rfl ?_
    refine gr_aload_n (pc := 12) (i := 0) 7 (l0) (show decode (gy_b gY_117) 12 = .ok (.aload_n 0, 1) by decide +kernel) rfl rfl ?_
    refine gr_getf (pc := 13) (index := 42) (t := 7) (j := 5) (σ := 74) (sv := (gR 66)) (show decode (gy_b gY_117) 13 = .ok (.getfield 42, 3) by decide +kernel) rfl rfl (fun _ => rfl) wd_299 (by decide) ?_
    intro v5
    refine gr_alen (pc := 16) (κ := 2) (show decode (gy_b gY_117) 16 = .ok (.arraylength, 1) by decide +kernel) (by decide) ?_
    intro v6
    refine gr_icmp_ge (pc := 17) (tgt := 29) (off := 12) hG.2.1 (show decode (gy_b gY_117) 17 = .ok (.if_icmp .ge (12), 3) by decide +kernel) (by decide) ?_ ?_
    · exact gj_false
    · refine gr_aload_n (pc := 20) (i := 0) 7 (l0) (show decode (gy_b gY_117) 20 = .ok (.aload_n 0, 1) by decide +kernel) rfl rfl ?_
      refine gr_getf (pc := 21) (index := 42) (t := 7) (j := 5) (σ := 74) (sv := (gR 66)) (show decode (gy_b gY_117) 21 = .ok (.getfield 42, 3) by decide +kernel) rfl rfl (fun _ => rfl) wd_299 (by decide) ?_
      intro v7
      refine gr_iload_n (pc := 24) (i := 3) (v1) (show decode (gy_b gY_117) 24 = .ok (.iload_n 3, 1) by decide +kernel) rfl rfl ?_
      refine gr_zald (pc := 25) (show decode (gy_b gY_117) 25 = .ok (.baload, 1) by decide +kernel) ?_
      intro v8
      refine gr_ifne (pc := 26) (tgt := 40) (off := 14) hG.2.1 (show decode (gy_b gY_117) 26 = .ok (.ifCond .ne (14), 3) by decide +kernel) (by decide) ?_ ?_
      · refine gr_aload_n (pc := 40) (i := 0) 7 (l0) (show decode (gy_b gY_117) 40 = .ok (.aload_n 0, 1) by decide +kernel) rfl rfl ?_
        refine gr_iload_n (pc := 41) (i := 1) (l1) (show decode (gy_b gY_117) 41 = .ok (.iload_n 1, 1) by decide +kernel) rfl rfl ?_
        refine gj_nn (fun hx42 => ?_)
        refine gj_c0 (pc := 42) (Y' := gY_115) (y := yX7_serverOf) (vs := [gR 7 (l0), gI (l1)]) (rest := []) (rs := fun v9 => [gR 1 (v9)]) [gI (l1), gR 7 (l0)] rfl (hm_115 hG (l0) (l1)) rfl (gh_V (t := 7) (vs := [gI (l1)]) (rest := []) (show decode (gy_b gY_117) 42 = .ok (.invokevirtual 409, 3) by decide +kernel) rfl hx42 rfl rfl (ok_115 (by decide) (by decide)) wd_1153 wd_1155 wd_36 (Nat.le_of_ble_eq_true rfl)) (fun _ => rfl) ?_
        intro v9 M10 n11 c12
        refine gr_astore (pc := 45) (i := 4) (L' := [gR 7 (l0), gI (l1), gI (l2), gI (v1), gR 1 (v9), gB, gB]) (show decode (gy_b gY_117) 45 = .ok (.astore 4, 2) by decide +kernel) (by decide) rfl rfl ?_
        refine gr_aload_n (pc := 47) (i := 0) 7 (l0) (show decode (gy_b gY_117) 47 = .ok (.aload_n 0, 1) by decide +kernel) rfl rfl ?_
        refine gr_iload_n (pc := 48) (i := 2) (l2) (show decode (gy_b gY_117) 48 = .ok (.iload_n 2, 1) by decide +kernel) rfl rfl ?_
        refine gj_nn (fun hx49 => ?_)
        refine gj_c0 (pc := 49) (Y' := gY_115) (y := yX7_serverOf) (vs := [gR 7 (l0), gI (l2)]) (rest := []) (rs := fun v13 => [gR 1 (v13)]) [gI (l2), gR 7 (l0)] rfl (hm_115 hG (l0) (l2)) rfl (gh_V (t := 7) (vs := [gI (l2)]) (rest := []) (show decode (gy_b gY_117) 49 = .ok (.invokevirtual 409, 3) by decide +kernel) rfl hx49 rfl rfl (ok_115 (by decide) (by decide)) wd_1153 wd_1155 wd_36 (Nat.le_of_ble_eq_true rfl)) (fun _ => rfl) ?_
        intro v13 M14 n15 c16
        refine gr_wk [false, false, false, false, true, true, true] rfl ?_
        exact h_117_L52 hG (v9) (v13) M14 n15 c16
      · exact gj_false
noncomputable def fi_117 (l0 l1 l2 M n c : Nat) (K : Nat → Nat → Nat → Nat → Bool) : Bool := fi_117_L0 K l0 l1 l2 M n c
theorem hm_117 {G : gxG} (hG : gxG0 G) (l0 l1 l2 : Nat) : gxM G gY_117 yX7_hear [gR 7 (l0), gI (l1), gI (l2)] (fi_117 l0 l1 l2) := gxM_of (L := [gR 7 (l0), gI (l1), gI (l2), gB, gB, gB, gB]) hG 4 (by decide +kernel) rfl rfl rfl rfl (List.forall_mem_cons.mpr ⟨rfl, List.forall_mem_cons.mpr ⟨rfl, List.forall_mem_cons.mpr ⟨rfl, fun _ h => nomatch h⟩⟩⟩) (fun M n c K => h_117_L0 hG  l0 l1 l2 M n c)
/-! Farfiles isAlike (II)Z -/
def gY_118 : gxY := (false, prog_1_method_64_code, 3, (Option.some Jvm.ClassFile.FieldType.boolean), "Farfiles", 3, 84, 2, [], "isAlike")
theorem ok_118 {Y : gxY} (h1 : gy_f gY_118 + 1 ≤ gy_f Y) (h2 : 8 + (gy_l gY_118 + 11) + gy_k gY_118 ≤ gy_k Y) : gh_ok Y gY_118 yX7_isAlike 2 := ⟨wd_1165, wd_51, ⟨by decide, by decide⟩, by decide +kernel, h1, h2⟩
noncomputable def fi_118_L0 (K : Nat → Nat → Nat → Nat → Bool) (l0 l1 l2 M n c : Nat) : Bool := gx_nn (l0) (fi_115 (l0) (l1) M n c (fun v1 M2 n3 c4 => gx_nn (l0) (fi_115 (l0) (l2) M2 n3 c4 (fun v5 M6 n7 c8 => gx_nn (v1) (fi_116 (v1) (v5) M6 n7 c8 (fun v9 M10 n11 c12 => gx_eq (v9) 0 (gx_rt gx_f2 (1) (K (1) M10 n11 c12)) (false)))))))
theorem h_118_L0 {G : gxG} (hG : gxG0 G) {K : Nat → Nat → Nat → Nat → Bool} (l0 l1 l2 M n c : Nat) : gxJ G gY_118 K 0 [] [gR 7 (l0), gI (l1), gI (l2)] M n c (fi_118_L0 K l0 l1 l2 M n c) := by
  unfold fi_118_L0
  refine gr_aload_n (pc := 0) (i := 0) 7 (l0) (show decode (gy_b gY_118) 0 = .ok (.aload_n 0, 1) by decide +kernel) rfl rfl ?_
  refine gr_iload_n (pc := 1) (i := 1) (l1) (show decode (gy_b gY_118) 1 = .ok (.iload_n 1, 1) by decide +kernel) rfl rfl ?_
  refine gj_nn (fun hx2 => ?_)
  refine gj_c0 (pc := 2) (Y' := gY_115) (y := yX7_serverOf) (vs := [gR 7 (l0), gI (l1)]) (rest := []) (rs := fun v1 => [gR 1 (v1)]) [gI (l1), gR 7 (l0)] rfl (hm_115 hG (l0) (l1)) rfl (gh_V (t := 7) (vs := [gI (l1)]) (rest := []) (show decode (gy_b gY_118) 2 = .ok (.invokevirtual 409, 3) by decide +kernel) rfl hx2 rfl rfl (ok_115 (by decide) (by decide)) wd_1153 wd_1155 wd_36 (Nat.le_of_ble_eq_true rfl)) (fun _ => rfl) ?_
  intro v1 M2 n3 c4
  refine gr_aload_n (pc := 5) (i := 0) 7 (l0) (show decode (gy_b gY_118) 5 = .ok (.aload_n 0, 1) by decide +kernel) rfl rfl ?_
  refine gr_iload_n (pc := 6) (i := 2) (l2) (show decode (gy_b gY_118) 6 = .ok (.iload_n 2, 1) by decide +kernel) rfl rfl ?_
  refine gj_nn (fun hx7 => ?_)
  refine gj_c0 (pc := 7) (Y' := gY_115) (y := yX7_serverOf) (vs := [gR 7 (l0), gI (l2)]) (rest := [gR 1 (v1)]) (rs := fun v5 => [gR 1 (v5), gR 1 (v1)]) [gI (l2), gR 7 (l0)] rfl (hm_115 hG (l0) (l2)) rfl (gh_V (t := 7) (vs := [gI (l2)]) (rest := [gR 1 (v1)]) (show decode (gy_b gY_118) 7 = .ok (.invokevirtual 409, 3) by decide +kernel) rfl hx7 rfl rfl (ok_115 (by decide) (by decide)) wd_1153 wd_1155 wd_36 (Nat.le_of_ble_eq_true rfl)) (fun _ => rfl) ?_
  intro v5 M6 n7 c8
  refine gj_nn (fun hx10 => ?_)
  refine gj_c0 (pc := 10) (Y' := gY_116) (y := yX1_countUnlike) (vs := [gR 1 (v1), gR 1 (v5)]) (rest := []) (rs := fun v9 => [gI (v9)]) [gR 1 (v5), gR 1 (v1)] rfl (hm_116 hG (v1) (v5)) rfl (gh_V (t := 1) (vs := [gR 1 (v5)]) (rest := []) (show decode (gy_b gY_118) 10 = .ok (.invokevirtual 413, 3) by decide +kernel) rfl hx10 rfl rfl (ok_116 (by decide) (by decide)) wd_1157 wd_1158 wd_1159 (Nat.le_of_ble_eq_true rfl)) (fun _ => rfl) ?_
  intro v9 M10 n11 c12
  refine gr_ifne (pc := 13) (tgt := 20) (off := 7) hG.2.1 (show decode (gy_b gY_118) 13 = .ok (.ifCond .ne (7), 3) by decide +kernel) (by decide) ?_ ?_
  · exact gj_false
  · refine gr_iconst (pc := 16) (z := 1) 1 (show decode (gy_b gY_118) 16 = .ok (.iconst (1), 1) by decide +kernel) kc_1 ?_
    refine gr_goto (pc := 17) (tgt := 21) (off := 4) (show decode (gy_b gY_118) 17 = .ok (.goto (4), 3) by decide +kernel) (by decide) ?_
    exact gr_ireturn (pc := 21) (show decode (gy_b gY_118) 21 = .ok (.ireturn, 1) by decide +kernel) rfl rfl (by decide) gv_2f
noncomputable def fi_118 (l0 l1 l2 M n c : Nat) (K : Nat → Nat → Nat → Nat → Bool) : Bool := fi_118_L0 K l0 l1 l2 M n c
theorem hm_118 {G : gxG} (hG : gxG0 G) (l0 l1 l2 : Nat) : gxM G gY_118 yX7_isAlike [gR 7 (l0), gI (l1), gI (l2)] (fi_118 l0 l1 l2) := gxM_of (L := [gR 7 (l0), gI (l1), gI (l2)]) hG 0 (by decide +kernel) rfl rfl rfl rfl (List.forall_mem_cons.mpr ⟨rfl, List.forall_mem_cons.mpr ⟨rfl, List.forall_mem_cons.mpr ⟨rfl, fun _ h => nomatch h⟩⟩⟩) (fun M n c K => h_118_L0 hG  l0 l1 l2 M n c)
/-! Farfiles known (I)I -/
def gY_119 : gxY := (false, prog_1_method_62_code, 2, (Option.some Jvm.ClassFile.FieldType.int), "Farfiles", 3, 83, 0, [], "known")
theorem ok_119 {Y : gxY} (h1 : gy_f gY_119 + 1 ≤ gy_f Y) (h2 : 8 + (gy_l gY_119 + 11) + gy_k gY_119 ≤ gy_k Y) : gh_ok Y gY_119 yX7_known 1 := ⟨wd_1169, wd_51, ⟨by decide, by decide⟩, by decide +kernel, h1, h2⟩
noncomputable def fi_119_L0 (K : Nat → Nat → Nat → Nat → Bool) (l0 l1 M n c : Nat) : Bool := gx_nn (l0) (fi_115 (l0) (l1) M n c (fun v1 M2 n3 c4 => gx_nn (v1) (fi_107 (v1) M2 n3 c4 (fun v5 M6 n7 c8 => gx_rt gx_f0 (v5) (K (v5) M6 n7 c8)))))
theorem h_119_L0 {G : gxG} (hG : gxG0 G) {K : Nat → Nat → Nat → Nat → Bool} (l0 l1 M n c : Nat) : gxJ G gY_119 K 0 [] [gR 7 (l0), gI (l1)] M n c (fi_119_L0 K l0 l1 M n c) := by
  unfold fi_119_L0
  refine gr_aload_n (pc := 0) (i := 0) 7 (l0) (show decode (gy_b gY_119) 0 = .ok (.aload_n 0, 1) by decide +kernel) rfl rfl ?_
  refine gr_iload_n (pc := 1) (i := 1) (l1) (show decode (gy_b gY_119) 1 = .ok (.iload_n 1, 1) by decide +kernel) rfl rfl ?_
  refine gj_nn (fun hx2 => ?_)
  refine gj_c0 (pc := 2) (Y' := gY_115) (y := yX7_serverOf) (vs := [gR 7 (l0), gI (l1)]) (rest := []) (rs := fun v1 => [gR 1 (v1)]) [gI (l1), gR 7 (l0)] rfl (hm_115 hG (l0) (l1)) rfl (gh_V (t := 7) (vs := [gI (l1)]) (rest := []) (show decode (gy_b gY_119) 2 = .ok (.invokevirtual 409, 3) by decide +kernel) rfl hx2 rfl rfl (ok_115 (by decide) (by decide)) wd_1153 wd_1155 wd_36 (Nat.le_of_ble_eq_true rfl)) (fun _ => rfl) ?_
  intro v1 M2 n3 c4
  refine gj_nn (fun hx5 => ?_)
  refine gj_c0 (pc := 5) (Y' := gY_107) (y := yX1_size) (vs := [gR 1 (v1)]) (rest := []) (rs := fun v5 => [gI (v5)]) [gR 1 (v1)] rfl (hm_107 hG (v1)) rfl (gh_V (t := 1) (vs := []) (rest := []) (show decode (gy_b gY_119) 5 = .ok (.invokevirtual 402, 3) by decide +kernel) rfl hx5 rfl rfl (ok_107 (by decide) (by decide)) wd_1119 wd_1120 wd_1121 (Nat.le_of_ble_eq_true rfl)) (fun _ => rfl) ?_
  intro v5 M6 n7 c8
  exact gr_ireturn (pc := 8) (show decode (gy_b gY_119) 8 = .ok (.ireturn, 1) by decide +kernel) rfl rfl (by decide) gv_0
noncomputable def fi_119 (l0 l1 M n c : Nat) (K : Nat → Nat → Nat → Nat → Bool) : Bool := fi_119_L0 K l0 l1 M n c
theorem hm_119 {G : gxG} (hG : gxG0 G) (l0 l1 : Nat) : gxM G gY_119 yX7_known [gR 7 (l0), gI (l1)] (fi_119 l0 l1) := gxM_of (L := [gR 7 (l0), gI (l1)]) hG 0 (by decide +kernel) rfl rfl rfl rfl (List.forall_mem_cons.mpr ⟨rfl, List.forall_mem_cons.mpr ⟨rfl, fun _ h => nomatch h⟩⟩) (fun M n c K => h_119_L0 hG  l0 l1 M n c)
/-! FarfilesLaw hears ()Z -/
def gY_120 : gxY := (false, method_11_code, 1, (Option.some Jvm.ClassFile.FieldType.boolean), "FarfilesLaw", 4, 110, 2, [], "hears")
theorem ok_120 {Y : gxY} (h1 : gy_f gY_120 + 1 ≤ gy_f Y) (h2 : 8 + (gy_l gY_120 + 11) + gy_k gY_120 ≤ gy_k Y) : gh_ok Y gY_120 yL_hears 0 := ⟨wd_1138, wd_50, ⟨by decide, by decide⟩, by decide +kernel, h1, h2⟩
noncomputable def fi_120_L80 (K : Nat → Nat → Nat → Nat → Bool) (l0 s0 s1 M n c : Nat) : Bool := gx_nn (s0) (fi_118 (s0) (s1) (2) M n c (fun v37 M38 n39 c40 => gx_eq (v37) 0 (false) (gx_get (l0) 3 M38 (fun v41 => gx_nn (v41) (fi_119 (v41) (0) M38 n39 c40 (fun v42 M43 n44 c45 => gx_get (l0) 3 M43 (fun v46 => gx_nn (v46) (fi_119 (v46) (2) M43 n44 c45 (fun v47 M48 n49 c50 => gx_eq (v42) (v47) (gx_get (l0) 3 M48 (fun v51 => gx_nn (v51) (fi_117 (v51) (0) (1) M48 n49 c50 (fun v52 M53 n54 c55 => gx_eq (v52) 0 (gx_rt gx_f2 (1) (K (1) M53 n54 c55)) (false))))) (false))))))))))
theorem h_120_L80 {G : gxG} (hG : gxG0 G) {K : Nat → Nat → Nat → Nat → Bool} (l0 s0 s1 M n c : Nat) : gxJ G gY_120 K 80 [gI (s1), gR 7 (s0)] [gR 10 (l0)] M n c (fi_120_L80 K l0 s0 s1 M n c) := by
  unfold fi_120_L80
  refine gr_iconst (pc := 80) (z := 2) 2 (show decode (gy_b gY_120) 80 = .ok (.iconst (2), 1) by decide +kernel) kc_2 ?_
  refine gj_nn (fun hx81 => ?_)
  refine gj_c0 (pc := 81) (Y' := gY_118) (y := yX7_isAlike) (vs := [gR 7 (s0), gI (s1), gI (2)]) (rest := []) (rs := fun v37 => [gI (v37)]) [gI (2), gI (s1), gR 7 (s0)] rfl (hm_118 hG (s0) (s1) (2)) rfl (gh_V (t := 7) (vs := [gI (s1), gI (2)]) (rest := []) (show decode (gy_b gY_120) 81 = .ok (.invokevirtual 101, 3) by decide +kernel) rfl hx81 rfl rfl (ok_118 (by decide) (by decide)) wd_1162 wd_1163 wd_1164 (Nat.le_of_ble_eq_true rfl)) (fun _ => rfl) ?_
  intro v37 M38 n39 c40
  refine gr_ifeq (pc := 84) (tgt := 122) (off := 38) hG.2.1 (show decode (gy_b gY_120) 84 = .ok (.ifCond .eq (38), 3) by decide +kernel) (by decide) ?_ ?_
  · exact gj_false
  · refine gr_aload_n (pc := 87) (i := 0) 10 (l0) (show decode (gy_b gY_120) 87 = .ok (.aload_n 0, 1) by decide +kernel) rfl rfl ?_
    refine gr_getf (pc := 88) (index := 10) (t := 10) (j := 3) (σ := 15) (sv := (gR 7)) (show decode (gy_b gY_120) 88 = .ok (.getfield 10, 3) by decide +kernel) rfl rfl (fun _ => rfl) wd_346 (by decide) ?_
    intro v41
    refine gr_iconst (pc := 91) (z := 0) 0 (show decode (gy_b gY_120) 91 = .ok (.iconst (0), 1) by decide +kernel) kc_0 ?_
    refine gj_nn (fun hx92 => ?_)
    refine gj_c0 (pc := 92) (Y' := gY_119) (y := yX7_known) (vs := [gR 7 (v41), gI (0)]) (rest := []) (rs := fun v42 => [gI (v42)]) [gI (0), gR 7 (v41)] rfl (hm_119 hG (v41) (0)) rfl (gh_V (t := 7) (vs := [gI (0)]) (rest := []) (show decode (gy_b gY_120) 92 = .ok (.invokevirtual 105, 3) by decide +kernel) rfl hx92 rfl rfl (ok_119 (by decide) (by decide)) wd_1166 wd_1167 wd_1168 (Nat.le_of_ble_eq_true rfl)) (fun _ => rfl) ?_
    intro v42 M43 n44 c45
    refine gr_aload_n (pc := 95) (i := 0) 10 (l0) (show decode (gy_b gY_120) 95 = .ok (.aload_n 0, 1) by decide +kernel) rfl rfl ?_
    refine gr_getf (pc := 96) (index := 10) (t := 10) (j := 3) (σ := 15) (sv := (gR 7)) (show decode (gy_b gY_120) 96 = .ok (.getfield 10, 3) by decide +kernel) rfl rfl (fun _ => rfl) wd_346 (by decide) ?_
    intro v46
    refine gr_iconst (pc := 99) (z := 2) 2 (show decode (gy_b gY_120) 99 = .ok (.iconst (2), 1) by decide +kernel) kc_2 ?_
    refine gj_nn (fun hx100 => ?_)
    refine gj_c0 (pc := 100) (Y' := gY_119) (y := yX7_known) (vs := [gR 7 (v46), gI (2)]) (rest := [gI (v42)]) (rs := fun v47 => [gI (v47), gI (v42)]) [gI (2), gR 7 (v46)] rfl (hm_119 hG (v46) (2)) rfl (gh_V (t := 7) (vs := [gI (2)]) (rest := [gI (v42)]) (show decode (gy_b gY_120) 100 = .ok (.invokevirtual 105, 3) by decide +kernel) rfl hx100 rfl rfl (ok_119 (by decide) (by decide)) wd_1166 wd_1167 wd_1168 (Nat.le_of_ble_eq_true rfl)) (fun _ => rfl) ?_
    intro v47 M48 n49 c50
    refine gr_icmp_ne (pc := 103) (tgt := 122) (off := 19) hG.2.1 (show decode (gy_b gY_120) 103 = .ok (.if_icmp .ne (19), 3) by decide +kernel) (by decide) ?_ ?_
    · exact gj_false
    · refine gr_aload_n (pc := 106) (i := 0) 10 (l0) (show decode (gy_b gY_120) 106 = .ok (.aload_n 0, 1) by decide +kernel) rfl rfl ?_
      refine gr_getf (pc := 107) (index := 10) (t := 10) (j := 3) (σ := 15) (sv := (gR 7)) (show decode (gy_b gY_120) 107 = .ok (.getfield 10, 3) by decide +kernel) rfl rfl (fun _ => rfl) wd_346 (by decide) ?_
      intro v51
      refine gr_iconst (pc := 110) (z := 0) 0 (show decode (gy_b gY_120) 110 = .ok (.iconst (0), 1) by decide +kernel) kc_0 ?_
      refine gr_iconst (pc := 111) (z := 1) 1 (show decode (gy_b gY_120) 111 = .ok (.iconst (1), 1) by decide +kernel) kc_1 ?_
      refine gj_nn (fun hx112 => ?_)
      refine gj_c0 (pc := 112) (Y' := gY_117) (y := yX7_hear) (vs := [gR 7 (v51), gI (0), gI (1)]) (rest := []) (rs := fun v52 => [gI (v52)]) [gI (1), gI (0), gR 7 (v51)] rfl (hm_117 hG (v51) (0) (1)) rfl (gh_V (t := 7) (vs := [gI (0), gI (1)]) (rest := []) (show decode (gy_b gY_120) 112 = .ok (.invokevirtual 98, 3) by decide +kernel) rfl hx112 rfl rfl (ok_117 (by decide) (by decide)) wd_1148 wd_1149 wd_1150 (Nat.le_of_ble_eq_true rfl)) (fun _ => rfl) ?_
      intro v52 M53 n54 c55
      refine gr_ifne (pc := 115) (tgt := 122) (off := 7) hG.2.1 (show decode (gy_b gY_120) 115 = .ok (.ifCond .ne (7), 3) by decide +kernel) (by decide) ?_ ?_
      · exact gj_false
      · refine gr_iconst (pc := 118) (z := 1) 1 (show decode (gy_b gY_120) 118 = .ok (.iconst (1), 1) by decide +kernel) kc_1 ?_
        refine gr_goto (pc := 119) (tgt := 123) (off := 4) (show decode (gy_b gY_120) 119 = .ok (.goto (4), 3) by decide +kernel) (by decide) ?_
        exact gr_ireturn (pc := 123) (show decode (gy_b gY_120) 123 = .ok (.ireturn, 1) by decide +kernel) rfl rfl (by decide) gv_2f
noncomputable def fi_120_L38 (K : Nat → Nat → Nat → Nat → Bool) (l0 s0 s1 M n c : Nat) : Bool := gx_nn (s0) (fi_117 (s0) (s1) (1) M n c (fun v17 M18 n19 c20 => gx_get (l0) 3 M18 (fun v21 => gx_nn (v21) (fi_117 (v21) (1) (2) M18 n19 c20 (fun v22 M23 n24 c25 => gx_get (l0) 3 M23 (fun v26 => gx_nn (v26) (fi_117 (v26) (0) (2) M23 n24 c25 (fun v27 M28 n29 c30 => gx_get (l0) 3 M28 (fun v31 => gx_nn (v31) (fi_118 (v31) (0) (1) M28 n29 c30 (fun v32 M33 n34 c35 => gx_eq (v32) 0 (false) (gx_get (l0) 3 M33 (fun v36 => fi_120_L80 K (l0) (v36) (1) M33 n34 c35)))))))))))))
theorem h_120_L38 {G : gxG} (hG : gxG0 G) {K : Nat → Nat → Nat → Nat → Bool} (l0 s0 s1 M n c : Nat) : gxJ G gY_120 K 38 [gI (s1), gR 7 (s0)] [gR 10 (l0)] M n c (fi_120_L38 K l0 s0 s1 M n c) := by
  unfold fi_120_L38
  refine gr_iconst (pc := 38) (z := 1) 1 (show decode (gy_b gY_120) 38 = .ok (.iconst (1), 1) by decide +kernel) kc_1 ?_
  refine gj_nn (fun hx39 => ?_)
  refine gj_c0 (pc := 39) (Y' := gY_117) (y := yX7_hear) (vs := [gR 7 (s0), gI (s1), gI (1)]) (rest := []) (rs := fun v17 => [gI (v17)]) [gI (1), gI (s1), gR 7 (s0)] rfl (hm_117 hG (s0) (s1) (1)) rfl (gh_V (t := 7) (vs := [gI (s1), gI (1)]) (rest := []) (show decode (gy_b gY_120) 39 = .ok (.invokevirtual 98, 3) by decide +kernel) rfl hx39 rfl rfl (ok_117 (by decide) (by decide)) wd_1148 wd_1149 wd_1150 (Nat.le_of_ble_eq_true rfl)) (fun _ => rfl) ?_
  intro v17 M18 n19 c20
  refine gr_pop (b := gB) (pc := 42) (show decode (gy_b gY_120) 42 = .ok (.pop, 1) by decide +kernel) rfl ?_
  refine gr_aload_n (pc := 43) (i := 0) 10 (l0) (show decode (gy_b gY_120) 43 = .ok (.aload_n 0, 1) by decide +kernel) rfl rfl ?_
  refine gr_getf (pc := 44) (index := 10) (t := 10) (j := 3) (σ := 15) (sv := (gR 7)) (show decode (gy_b gY_120) 44 = .ok (.getfield 10, 3) by decide +kernel) rfl rfl (fun _ => rfl) wd_346 (by decide) ?_
  intro v21
  refine gr_iconst (pc := 47) (z := 1) 1 (show decode (gy_b gY_120) 47 = .ok (.iconst (1), 1) by decide +kernel) kc_1 ?_
  refine gr_iconst (pc := 48) (z := 2) 2 (show decode (gy_b gY_120) 48 = .ok (.iconst (2), 1) by decide +kernel) kc_2 ?_
  refine gj_nn (fun hx49 => ?_)
  refine gj_c0 (pc := 49) (Y' := gY_117) (y := yX7_hear) (vs := [gR 7 (v21), gI (1), gI (2)]) (rest := []) (rs := fun v22 => [gI (v22)]) [gI (2), gI (1), gR 7 (v21)] rfl (hm_117 hG (v21) (1) (2)) rfl (gh_V (t := 7) (vs := [gI (1), gI (2)]) (rest := []) (show decode (gy_b gY_120) 49 = .ok (.invokevirtual 98, 3) by decide +kernel) rfl hx49 rfl rfl (ok_117 (by decide) (by decide)) wd_1148 wd_1149 wd_1150 (Nat.le_of_ble_eq_true rfl)) (fun _ => rfl) ?_
  intro v22 M23 n24 c25
  refine gr_pop (b := gB) (pc := 52) (show decode (gy_b gY_120) 52 = .ok (.pop, 1) by decide +kernel) rfl ?_
  refine gr_aload_n (pc := 53) (i := 0) 10 (l0) (show decode (gy_b gY_120) 53 = .ok (.aload_n 0, 1) by decide +kernel) rfl rfl ?_
  refine gr_getf (pc := 54) (index := 10) (t := 10) (j := 3) (σ := 15) (sv := (gR 7)) (show decode (gy_b gY_120) 54 = .ok (.getfield 10, 3) by decide +kernel) rfl rfl (fun _ => rfl) wd_346 (by decide) ?_
  intro v26
  refine gr_iconst (pc := 57) (z := 0) 0 (show decode (gy_b gY_120) 57 = .ok (.iconst (0), 1) by decide +kernel) kc_0 ?_
  refine gr_iconst (pc := 58) (z := 2) 2 (show decode (gy_b gY_120) 58 = .ok (.iconst (2), 1) by decide +kernel) kc_2 ?_
  refine gj_nn (fun hx59 => ?_)
  refine gj_c0 (pc := 59) (Y' := gY_117) (y := yX7_hear) (vs := [gR 7 (v26), gI (0), gI (2)]) (rest := []) (rs := fun v27 => [gI (v27)]) [gI (2), gI (0), gR 7 (v26)] rfl (hm_117 hG (v26) (0) (2)) rfl (gh_V (t := 7) (vs := [gI (0), gI (2)]) (rest := []) (show decode (gy_b gY_120) 59 = .ok (.invokevirtual 98, 3) by decide +kernel) rfl hx59 rfl rfl (ok_117 (by decide) (by decide)) wd_1148 wd_1149 wd_1150 (Nat.le_of_ble_eq_true rfl)) (fun _ => rfl) ?_
  intro v27 M28 n29 c30
  refine gr_pop (b := gB) (pc := 62) (show decode (gy_b gY_120) 62 = .ok (.pop, 1) by decide +kernel) rfl ?_
  refine gr_aload_n (pc := 63) (i := 0) 10 (l0) (show decode (gy_b gY_120) 63 = .ok (.aload_n 0, 1) by decide +kernel) rfl rfl ?_
  refine gr_getf (pc := 64) (index := 10) (t := 10) (j := 3) (σ := 15) (sv := (gR 7)) (show decode (gy_b gY_120) 64 = .ok (.getfield 10, 3) by decide +kernel) rfl rfl (fun _ => rfl) wd_346 (by decide) ?_
  intro v31
  refine gr_iconst (pc := 67) (z := 0) 0 (show decode (gy_b gY_120) 67 = .ok (.iconst (0), 1) by decide +kernel) kc_0 ?_
  refine gr_iconst (pc := 68) (z := 1) 1 (show decode (gy_b gY_120) 68 = .ok (.iconst (1), 1) by decide +kernel) kc_1 ?_
  refine gj_nn (fun hx69 => ?_)
  refine gj_c0 (pc := 69) (Y' := gY_118) (y := yX7_isAlike) (vs := [gR 7 (v31), gI (0), gI (1)]) (rest := []) (rs := fun v32 => [gI (v32)]) [gI (1), gI (0), gR 7 (v31)] rfl (hm_118 hG (v31) (0) (1)) rfl (gh_V (t := 7) (vs := [gI (0), gI (1)]) (rest := []) (show decode (gy_b gY_120) 69 = .ok (.invokevirtual 101, 3) by decide +kernel) rfl hx69 rfl rfl (ok_118 (by decide) (by decide)) wd_1162 wd_1163 wd_1164 (Nat.le_of_ble_eq_true rfl)) (fun _ => rfl) ?_
  intro v32 M33 n34 c35
  refine gr_ifeq (pc := 72) (tgt := 122) (off := 50) hG.2.1 (show decode (gy_b gY_120) 72 = .ok (.ifCond .eq (50), 3) by decide +kernel) (by decide) ?_ ?_
  · exact gj_false
  · refine gr_aload_n (pc := 75) (i := 0) 10 (l0) (show decode (gy_b gY_120) 75 = .ok (.aload_n 0, 1) by decide +kernel) rfl rfl ?_
    refine gr_getf (pc := 76) (index := 10) (t := 10) (j := 3) (σ := 15) (sv := (gR 7)) (show decode (gy_b gY_120) 76 = .ok (.getfield 10, 3) by decide +kernel) rfl rfl (fun _ => rfl) wd_346 (by decide) ?_
    intro v36
    refine gr_iconst (pc := 79) (z := 1) 1 (show decode (gy_b gY_120) 79 = .ok (.iconst (1), 1) by decide +kernel) kc_1 ?_
    exact h_120_L80 hG (l0) (v36) (1) M33 n34 c35
noncomputable def fi_120_L0 (K : Nat → Nat → Nat → Nat → Bool) (l0 M n c : Nat) : Bool := gx_get (l0) 3 M (fun v1 => gx_nn (v1) (fi_114 (v1) (0) (1) (1) M n c (fun v2 M3 n4 c5 => gx_get (l0) 3 M3 (fun v6 => gx_nn (v6) (fi_114 (v6) (1) (2) (1) M3 n4 c5 (fun v7 M8 n9 c10 => gx_get (l0) 3 M8 (fun v11 => gx_nn (v11) (fi_114 (v11) (0) (2) (1) M8 n9 c10 (fun v12 M13 n14 c15 => gx_get (l0) 3 M13 (fun v16 => fi_120_L38 K (l0) (v16) (0) M13 n14 c15))))))))))
theorem h_120_L0 {G : gxG} (hG : gxG0 G) {K : Nat → Nat → Nat → Nat → Bool} (l0 M n c : Nat) : gxJ G gY_120 K 0 [] [gR 10 (l0)] M n c (fi_120_L0 K l0 M n c) := by
  unfold fi_120_L0
  refine gr_aload_n (pc := 0) (i := 0) 10 (l0) (show decode (gy_b gY_120) 0 = .ok (.aload_n 0, 1) by decide +kernel) rfl rfl ?_
  refine gr_getf (pc := 1) (index := 10) (t := 10) (j := 3) (σ := 15) (sv := (gR 7)) (show decode (gy_b gY_120) 1 = .ok (.getfield 10, 3) by decide +kernel) rfl rfl (fun _ => rfl) wd_346 (by decide) ?_
  intro v1
  refine gr_iconst (pc := 4) (z := 0) 0 (show decode (gy_b gY_120) 4 = .ok (.iconst (0), 1) by decide +kernel) kc_0 ?_
  refine gr_iconst (pc := 5) (z := 1) 1 (show decode (gy_b gY_120) 5 = .ok (.iconst (1), 1) by decide +kernel) kc_1 ?_
  refine gr_iconst (pc := 6) (z := 1) 1 (show decode (gy_b gY_120) 6 = .ok (.iconst (1), 1) by decide +kernel) kc_1 ?_
  refine gj_nn (fun hx7 => ?_)
  refine gj_c0 (pc := 7) (Y' := gY_114) (y := yX7_wire) (vs := [gR 7 (v1), gI (0), gI (1), gI (1)]) (rest := []) (rs := fun v2 => [gI (v2)]) [gI (1), gI (1), gI (0), gR 7 (v1)] rfl (hm_114 hG (v1) (0) (1) (1)) rfl (gh_V (t := 7) (vs := [gI (0), gI (1), gI (1)]) (rest := []) (show decode (gy_b gY_120) 7 = .ok (.invokevirtual 95, 3) by decide +kernel) rfl hx7 rfl rfl (ok_114 (by decide) (by decide)) wd_1139 wd_1140 wd_1141 (Nat.le_of_ble_eq_true rfl)) (fun _ => rfl) ?_
  intro v2 M3 n4 c5
  refine gr_pop (b := gB) (pc := 10) (show decode (gy_b gY_120) 10 = .ok (.pop, 1) by decide +kernel) rfl ?_
  refine gr_aload_n (pc := 11) (i := 0) 10 (l0) (show decode (gy_b gY_120) 11 = .ok (.aload_n 0, 1) by decide +kernel) rfl rfl ?_
  refine gr_getf (pc := 12) (index := 10) (t := 10) (j := 3) (σ := 15) (sv := (gR 7)) (show decode (gy_b gY_120) 12 = .ok (.getfield 10, 3) by decide +kernel) rfl rfl (fun _ => rfl) wd_346 (by decide) ?_
  intro v6
  refine gr_iconst (pc := 15) (z := 1) 1 (show decode (gy_b gY_120) 15 = .ok (.iconst (1), 1) by decide +kernel) kc_1 ?_
  refine gr_iconst (pc := 16) (z := 2) 2 (show decode (gy_b gY_120) 16 = .ok (.iconst (2), 1) by decide +kernel) kc_2 ?_
  refine gr_iconst (pc := 17) (z := 1) 1 (show decode (gy_b gY_120) 17 = .ok (.iconst (1), 1) by decide +kernel) kc_1 ?_
  refine gj_nn (fun hx18 => ?_)
  refine gj_c0 (pc := 18) (Y' := gY_114) (y := yX7_wire) (vs := [gR 7 (v6), gI (1), gI (2), gI (1)]) (rest := []) (rs := fun v7 => [gI (v7)]) [gI (1), gI (2), gI (1), gR 7 (v6)] rfl (hm_114 hG (v6) (1) (2) (1)) rfl (gh_V (t := 7) (vs := [gI (1), gI (2), gI (1)]) (rest := []) (show decode (gy_b gY_120) 18 = .ok (.invokevirtual 95, 3) by decide +kernel) rfl hx18 rfl rfl (ok_114 (by decide) (by decide)) wd_1139 wd_1140 wd_1141 (Nat.le_of_ble_eq_true rfl)) (fun _ => rfl) ?_
  intro v7 M8 n9 c10
  refine gr_pop (b := gB) (pc := 21) (show decode (gy_b gY_120) 21 = .ok (.pop, 1) by decide +kernel) rfl ?_
  refine gr_aload_n (pc := 22) (i := 0) 10 (l0) (show decode (gy_b gY_120) 22 = .ok (.aload_n 0, 1) by decide +kernel) rfl rfl ?_
  refine gr_getf (pc := 23) (index := 10) (t := 10) (j := 3) (σ := 15) (sv := (gR 7)) (show decode (gy_b gY_120) 23 = .ok (.getfield 10, 3) by decide +kernel) rfl rfl (fun _ => rfl) wd_346 (by decide) ?_
  intro v11
  refine gr_iconst (pc := 26) (z := 0) 0 (show decode (gy_b gY_120) 26 = .ok (.iconst (0), 1) by decide +kernel) kc_0 ?_
  refine gr_iconst (pc := 27) (z := 2) 2 (show decode (gy_b gY_120) 27 = .ok (.iconst (2), 1) by decide +kernel) kc_2 ?_
  refine gr_iconst (pc := 28) (z := 1) 1 (show decode (gy_b gY_120) 28 = .ok (.iconst (1), 1) by decide +kernel) kc_1 ?_
  refine gj_nn (fun hx29 => ?_)
  refine gj_c0 (pc := 29) (Y' := gY_114) (y := yX7_wire) (vs := [gR 7 (v11), gI (0), gI (2), gI (1)]) (rest := []) (rs := fun v12 => [gI (v12)]) [gI (1), gI (2), gI (0), gR 7 (v11)] rfl (hm_114 hG (v11) (0) (2) (1)) rfl (gh_V (t := 7) (vs := [gI (0), gI (2), gI (1)]) (rest := []) (show decode (gy_b gY_120) 29 = .ok (.invokevirtual 95, 3) by decide +kernel) rfl hx29 rfl rfl (ok_114 (by decide) (by decide)) wd_1139 wd_1140 wd_1141 (Nat.le_of_ble_eq_true rfl)) (fun _ => rfl) ?_
  intro v12 M13 n14 c15
  refine gr_pop (b := gB) (pc := 32) (show decode (gy_b gY_120) 32 = .ok (.pop, 1) by decide +kernel) rfl ?_
  refine gr_aload_n (pc := 33) (i := 0) 10 (l0) (show decode (gy_b gY_120) 33 = .ok (.aload_n 0, 1) by decide +kernel) rfl rfl ?_
  refine gr_getf (pc := 34) (index := 10) (t := 10) (j := 3) (σ := 15) (sv := (gR 7)) (show decode (gy_b gY_120) 34 = .ok (.getfield 10, 3) by decide +kernel) rfl rfl (fun _ => rfl) wd_346 (by decide) ?_
  intro v16
  refine gr_iconst (pc := 37) (z := 0) 0 (show decode (gy_b gY_120) 37 = .ok (.iconst (0), 1) by decide +kernel) kc_0 ?_
  exact h_120_L38 hG (l0) (v16) (0) M13 n14 c15
noncomputable def fi_120 (l0 M n c : Nat) (K : Nat → Nat → Nat → Nat → Bool) : Bool := fi_120_L0 K l0 M n c
theorem hm_120 {G : gxG} (hG : gxG0 G) (l0 : Nat) : gxM G gY_120 yL_hears [gR 10 (l0)] (fi_120 l0) := gxM_of (L := [gR 10 (l0)]) hG 0 (by decide +kernel) rfl rfl rfl rfl (List.forall_mem_cons.mpr ⟨rfl, fun _ h => nomatch h⟩) (fun M n c K => h_120_L0 hG  l0 M n c)
/-! Farfiles$Answers empty ()V -/
def gY_121 : gxY := (false, prog_4_method_2_code, 1, (Option.none : Option FieldType), "Farfiles$Answers", 1, 40, 5, [], "empty")
theorem ok_121 {Y : gxY} (h1 : gy_f gY_121 + 1 ≤ gy_f Y) (h2 : 8 + (gy_l gY_121 + 11) + gy_k gY_121 ≤ gy_k Y) : gh_ok Y gY_121 yX2_empty 0 := ⟨wd_1193, wd_56, ⟨by decide, by decide⟩, by decide +kernel, h1, h2⟩
noncomputable def fi_121_L0 (K : Nat → Nat → Nat → Nat → Bool) (l0 M n c : Nat) : Bool := gx_put (l0) 3 (0) M gx_f0 (fun M1 => K 0 M1 n c)
theorem h_121_L0 {G : gxG} (hG : gxG0 G) {K : Nat → Nat → Nat → Nat → Bool} (l0 M n c : Nat) : gxJ G gY_121 K 0 [] [gR 2 (l0)] M n c (fi_121_L0 K l0 M n c) := by
  unfold fi_121_L0
  refine gr_aload_n (pc := 0) (i := 0) 2 (l0) (show decode (gy_b gY_121) 0 = .ok (.aload_n 0, 1) by decide +kernel) rfl rfl ?_
  refine gr_iconst (pc := 1) (z := 0) 0 (show decode (gy_b gY_121) 1 = .ok (.iconst (0), 1) by decide +kernel) kc_0 ?_
  refine gr_putf (pc := 2) (index := 24) (t := 2) (j := 3) (σ := 0) (sv := gI) (f := gx_f0) (ty := .int) (show decode (gy_b gY_121) 2 = .ok (.putfield 24, 3) by decide +kernel) rfl rfl (fun _ => rfl) wd_203 rfl gv_0 rfl ?_
  intro M1
  exact gr_return (pc := 5) (show decode (gy_b gY_121) 5 = .ok (.return_, 1) by decide +kernel) rfl rfl
noncomputable def fi_121 (l0 M n c : Nat) (K : Nat → Nat → Nat → Nat → Bool) : Bool := fi_121_L0 K l0 M n c
theorem hm_121 {G : gxG} (hG : gxG0 G) (l0 : Nat) : gxM G gY_121 yX2_empty [gR 2 (l0)] (fi_121 l0) := gxM_of (L := [gR 2 (l0)]) hG 0 (by decide +kernel) rfl rfl rfl rfl (List.forall_mem_cons.mpr ⟨rfl, fun _ h => nomatch h⟩) (fun M n c K => h_121_L0 hG  l0 M n c)
/-! Farfiles$Answers putAt (ILFarfiles$Act;II)V -/
def gY_122 : gxY := (false, prog_4_method_6_code, 6, (Option.none : Option FieldType), "Farfiles$Answers", 1, 40, 5, [], "putAt")
theorem ok_122 {Y : gxY} (h1 : gy_f gY_122 + 1 ≤ gy_f Y) (h2 : 8 + (gy_l gY_122 + 11) + gy_k gY_122 ≤ gy_k Y) : gh_ok Y gY_122 yX2_putAt 4 := ⟨wd_1201, wd_56, ⟨by decide, by decide⟩, by decide +kernel, h1, h2⟩
noncomputable def fi_122_L101 (K : Nat → Nat → Nat → Nat → Bool) (l0 l1 l3 l4 s0 s1 M n c : Nat) : Bool := gx_ast (s0) (s1) (l3) M gx_f0 (fun M7 => gx_get (l0) 2 M7 (fun v8 => gx_ast (v8) (l1) (l4) M7 gx_f0 (fun M9 => gx_get (l0) 3 M9 (fun v10 => gx_add (v10) (1) (fun z11 => gx_put (l0) 3 (z11) M9 gx_f0 (fun M12 => K 0 M12 n c))))))
theorem h_122_L101 {G : gxG} (hG : gxG0 G) {K : Nat → Nat → Nat → Nat → Bool} (l0 l1 l3 l4 s0 s1 M n c : Nat) : gxJ G gY_122 K 101 [gI (s1), gR 64 (s0)] [gR 2 (l0), gI (l1), gB, gI (l3), gI (l4), gB] M n c (fi_122_L101 K l0 l1 l3 l4 s0 s1 M n c) := by
  unfold fi_122_L101
  refine gr_iload_n (pc := 101) (i := 3) (l3) (show decode (gy_b gY_122) 101 = .ok (.iload_n 3, 1) by decide +kernel) rfl rfl ?_
  refine gr_iast (pc := 102) hG.2.1 (show decode (gy_b gY_122) 102 = .ok (.iastore, 1) by decide +kernel) ?_
  intro M7
  refine gr_aload_n (pc := 103) (i := 0) 2 (l0) (show decode (gy_b gY_122) 103 = .ok (.aload_n 0, 1) by decide +kernel) rfl rfl ?_
  refine gr_getf (pc := 104) (index := 21) (t := 2) (j := 2) (σ := 72) (sv := (gR 64)) (show decode (gy_b gY_122) 104 = .ok (.getfield 21, 3) by decide +kernel) rfl rfl (fun _ => rfl) wd_202 (by decide) ?_
  intro v8
  refine gr_iload_n (pc := 107) (i := 1) (l1) (show decode (gy_b gY_122) 107 = .ok (.iload_n 1, 1) by decide +kernel) rfl rfl ?_
  refine gr_iload (pc := 108) (i := 4) (l4) (show decode (gy_b gY_122) 108 = .ok (.iload 4, 2) by decide +kernel) rfl ?_
  refine gr_iast (pc := 110) hG.2.1 (show decode (gy_b gY_122) 110 = .ok (.iastore, 1) by decide +kernel) ?_
  intro M9
  refine gr_aload_n (pc := 111) (i := 0) 2 (l0) (show decode (gy_b gY_122) 111 = .ok (.aload_n 0, 1) by decide +kernel) rfl rfl ?_
  refine gr_dup (b := gB) (pc := 112) (show decode (gy_b gY_122) 112 = .ok (.dup, 1) by decide +kernel) rfl ?_
  refine gr_getf (pc := 113) (index := 24) (t := 2) (j := 3) (σ := 0) (sv := gI) (show decode (gy_b gY_122) 113 = .ok (.getfield 24, 3) by decide +kernel) rfl rfl (fun _ => rfl) wd_203 (by decide) ?_
  intro v10
  refine gr_iconst (pc := 116) (z := 1) 1 (show decode (gy_b gY_122) 116 = .ok (.iconst (1), 1) by decide +kernel) kc_1 ?_
  refine gr_iadd (pc := 117) (show decode (gy_b gY_122) 117 = .ok (.iadd, 1) by decide +kernel) ?_
  intro z11
  refine gr_putf (pc := 118) (index := 24) (t := 2) (j := 3) (σ := 0) (sv := gI) (f := gx_f0) (ty := .int) (show decode (gy_b gY_122) 118 = .ok (.putfield 24, 3) by decide +kernel) rfl rfl (fun _ => rfl) wd_203 rfl gv_0 rfl ?_
  intro M12
  exact gr_return (pc := 121) (show decode (gy_b gY_122) 121 = .ok (.return_, 1) by decide +kernel) rfl rfl
noncomputable def fi_122_L0 (K : Nat → Nat → Nat → Nat → Bool) (l0 l1 l2 l3 l4 M n c : Nat) : Bool := gx_lt (l1) 0 (false) (gx_get (l0) 3 M (fun v1 => gx_lt (v1) (l1) (false) (gx_get (l0) 3 M (fun v2 => gx_lt (v2) (250) (gx_get (l0) 3 M (fun v3 => gx_lt (l1) (v3) (false) (gx_get (l0) 0 M (fun v4 => gx_ast (v4) (l1) (l2) M gx_f0 (fun M5 => gx_get (l0) 1 M5 (fun v6 => fi_122_L101 K (l0) (l1) (l3) (l4) (v6) (l1) M5 n c)))))) (false)))))
theorem h_122_L0 {G : gxG} (hG : gxG0 G) {K : Nat → Nat → Nat → Nat → Bool} (l0 l1 l2 l3 l4 M n c : Nat) : gxJ G gY_122 K 0 [] [gR 2 (l0), gI (l1), gR 0 (l2), gI (l3), gI (l4), gB] M n c (fi_122_L0 K l0 l1 l2 l3 l4 M n c) := by
  unfold fi_122_L0
  refine gr_iload_n (pc := 0) (i := 1) (l1) (show decode (gy_b gY_122) 0 = .ok (.iload_n 1, 1) by decide +kernel) rfl rfl ?_
  refine gr_iflt (pc := 1) (tgt := 22) (off := 21) hG.2.1 (show decode (gy_b gY_122) 1 = .ok (.ifCond .lt (21), 3) by decide +kernel) (by decide) ?_ ?_
  · exact gj_false
  · refine gr_iload_n (pc := 4) (i := 1) (l1) (show decode (gy_b gY_122) 4 = .ok (.iload_n 1, 1) by decide +kernel) rfl rfl ?_
    refine gr_aload_n (pc := 5) (i := 0) 2 (l0) (show decode (gy_b gY_122) 5 = .ok (.aload_n 0, 1) by decide +kernel) rfl rfl ?_
    refine gr_getf (pc := 6) (index := 24) (t := 2) (j := 3) (σ := 0) (sv := gI) (show decode (gy_b gY_122) 6 = .ok (.getfield 24, 3) by decide +kernel) rfl rfl (fun _ => rfl) wd_203 (by decide) ?_
    intro v1
    refine gr_icmp_gt (pc := 9) (tgt := 22) (off := 13) hG.2.1 (show decode (gy_b gY_122) 9 = .ok (.if_icmp .gt (13), 3) by decide +kernel) (by decide) ?_ ?_
    · exact gj_false
    · refine gr_aload_n (pc := 12) (i := 0) 2 (l0) (show decode (gy_b gY_122) 12 = .ok (.aload_n 0, 1) by decide +kernel) rfl rfl ?_
      refine gr_getf (pc := 13) (index := 24) (t := 2) (j := 3) (σ := 0) (sv := gI) (show decode (gy_b gY_122) 13 = .ok (.getfield 24, 3) by decide +kernel) rfl rfl (fun _ => rfl) wd_203 (by decide) ?_
      intro v2
      refine gr_sipush (pc := 16) (z := 250) 250 (show decode (gy_b gY_122) 16 = .ok (.sipush (250), 3) by decide +kernel) (by decide +kernel) ?_
      refine gr_icmp_lt (pc := 19) (tgt := 23) (off := 4) hG.2.1 (show decode (gy_b gY_122) 19 = .ok (.if_icmp .lt (4), 3) by decide +kernel) (by decide) ?_ ?_
      · refine gr_aload_n (pc := 23) (i := 0) 2 (l0) (show decode (gy_b gY_122) 23 = .ok (.aload_n 0, 1) by decide +kernel) rfl rfl ?_
        refine gr_getf (pc := 24) (index := 24) (t := 2) (j := 3) (σ := 0) (sv := gI) (show decode (gy_b gY_122) 24 = .ok (.getfield 24, 3) by decide +kernel) rfl rfl (fun _ => rfl) wd_203 (by decide) ?_
        intro v3
        refine gr_istore (pc := 27) (i := 5) (L' := [gR 2 (l0), gI (l1), gR 0 (l2), gI (l3), gI (l4), gI (v3)]) (show decode (gy_b gY_122) 27 = .ok (.istore 5, 2) by decide +kernel) (by decide) rfl rfl ?_
        refine gr_iload (pc := 29) (i := 5) (v3) (show decode (gy_b gY_122) 29 = .ok (.iload 5, 2) by decide +kernel) rfl ?_
        refine gr_iload_n (pc := 31) (i := 1) (l1) (show decode (gy_b gY_122) 31 = .ok (.iload_n 1, 1) by decide +kernel) rfl rfl ?_
        refine gr_icmp_le (pc := 32) (tgt := 89) (off := 57) hG.2.1 (show decode (gy_b gY_122) 32 = .ok (.if_icmp .le (57), 3) by decide +kernel) (by decide) ?_ ?_
        · refine gr_aload_n (pc := 89) (i := 0) 2 (l0) (show decode (gy_b gY_122) 89 = .ok (.aload_n 0, 1) by decide +kernel) rfl rfl ?_
          refine gr_getf (pc := 90) (index := 11) (t := 2) (j := 0) (σ := 77) (sv := (gR 69)) (show decode (gy_b gY_122) 90 = .ok (.getfield 11, 3) by decide +kernel) rfl rfl (fun _ => rfl) wd_200 (by decide) ?_
          intro v4
          refine gr_iload_n (pc := 93) (i := 1) (l1) (show decode (gy_b gY_122) 93 = .ok (.iload_n 1, 1) by decide +kernel) rfl rfl ?_
          refine gr_aload_n (pc := 94) (i := 2) 0 (l2) (show decode (gy_b gY_122) 94 = .ok (.aload_n 2, 1) by decide +kernel) rfl rfl ?_
          refine gr_aast (pc := 95) (κ := 5) (t := 0) (show decode (gy_b gY_122) 95 = .ok (.aastore, 1) by decide +kernel) ⟨by decide, by decide, rfl⟩ rfl rfl ?_
          intro M5
          refine gr_aload_n (pc := 96) (i := 0) 2 (l0) (show decode (gy_b gY_122) 96 = .ok (.aload_n 0, 1) by decide +kernel) rfl rfl ?_
          refine gr_getf (pc := 97) (index := 17) (t := 2) (j := 1) (σ := 72) (sv := (gR 64)) (show decode (gy_b gY_122) 97 = .ok (.getfield 17, 3) by decide +kernel) rfl rfl (fun _ => rfl) wd_201 (by decide) ?_
          intro v6
          refine gr_iload_n (pc := 100) (i := 1) (l1) (show decode (gy_b gY_122) 100 = .ok (.iload_n 1, 1) by decide +kernel) rfl rfl ?_
          refine gr_wk [true, true, false, true, true, false] rfl ?_
          exact h_122_L101 hG (l0) (l1) (l3) (l4) (v6) (l1) M5 n c
        · exact gj_false
      · exact gj_false
noncomputable def fi_122 (l0 l1 l2 l3 l4 M n c : Nat) (K : Nat → Nat → Nat → Nat → Bool) : Bool := fi_122_L0 K l0 l1 l2 l3 l4 M n c
theorem hm_122 {G : gxG} (hG : gxG0 G) (l0 l1 l2 l3 l4 : Nat) : gxM G gY_122 yX2_putAt [gR 2 (l0), gI (l1), gR 0 (l2), gI (l3), gI (l4)] (fi_122 l0 l1 l2 l3 l4) := gxM_of (L := [gR 2 (l0), gI (l1), gR 0 (l2), gI (l3), gI (l4), gB]) hG 1 (by decide +kernel) rfl rfl rfl rfl (List.forall_mem_cons.mpr ⟨rfl, List.forall_mem_cons.mpr ⟨rfl, List.forall_mem_cons.mpr ⟨rfl, List.forall_mem_cons.mpr ⟨rfl, List.forall_mem_cons.mpr ⟨rfl, fun _ h => nomatch h⟩⟩⟩⟩⟩) (fun M n c K => h_122_L0 hG  l0 l1 l2 l3 l4 M n c)
/-! Farfiles$Answers putEntry (II)V -/
def gY_123 : gxY := (false, prog_4_method_4_code, 5, (Option.none : Option FieldType), "Farfiles$Answers", 2, 65, 5, [], "putEntry")
theorem ok_123 {Y : gxY} (h1 : gy_f gY_123 + 1 ≤ gy_f Y) (h2 : 8 + (gy_l gY_123 + 11) + gy_k gY_123 ≤ gy_k Y) : gh_ok Y gY_123 yX2_putEntry 2 := ⟨wd_1197, wd_56, ⟨by decide, by decide⟩, by decide +kernel, h1, h2⟩
noncomputable def fi_123_L0 (K : Nat → Nat → Nat → Nat → Bool) (l0 l1 l2 M n c : Nat) : Bool := gx_get (l0) 3 M (fun v1 => gx_lt (0) (v1) (false) (gx_nn (l0) (fi_122 (l0) (0) (0) (l1) (l2) M n c (fun v2 M3 n4 c5 => K 0 M3 n4 c5))))
theorem h_123_L0 {G : gxG} (hG : gxG0 G) {K : Nat → Nat → Nat → Nat → Bool} (l0 l1 l2 M n c : Nat) : gxJ G gY_123 K 0 [] [gR 2 (l0), gI (l1), gI (l2), gB, gB] M n c (fi_123_L0 K l0 l1 l2 M n c) := by
  unfold fi_123_L0
  refine gr_iconst (pc := 0) (z := 0) 0 (show decode (gy_b gY_123) 0 = .ok (.iconst (0), 1) by decide +kernel) kc_0 ?_
  refine gr_istore_n (pc := 1) (i := 3) (L' := [gR 2 (l0), gI (l1), gI (l2), gI (0), gB]) (show decode (gy_b gY_123) 1 = .ok (.istore_n 3, 1) by decide +kernel) rfl (by decide) rfl rfl ?_
  refine gr_iconst (pc := 2) (z := 0) 0 (show decode (gy_b gY_123) 2 = .ok (.iconst (0), 1) by decide +kernel) kc_0 ?_
  refine gr_istore (pc := 3) (i := 4) (L' := [gR 2 (l0), gI (l1), gI (l2), gI (0), gI (0)]) (show decode (gy_b gY_123) 3 = .ok (.istore 4, 2) by decide +kernel) (by decide) rfl rfl ?_
  refine gr_iload (pc := 5) (i := 4) (0) (show decode (gy_b gY_123) 5 = .ok (.iload 4, 2) by decide +kernel) rfl ?_
  refine gr_aload_n (pc := 7) (i := 0) 2 (l0) (show decode (gy_b gY_123) 7 = .ok (.aload_n 0, 1) by decide +kernel) rfl rfl ?_
  refine gr_getf (pc := 8) (index := 24) (t := 2) (j := 3) (σ := 0) (sv := gI) (show decode (gy_b gY_123) 8 = .ok (.getfield 24, 3) by decide +kernel) rfl rfl (fun _ => rfl) wd_203 (by decide) ?_
  intro v1
  refine gr_icmp_ge (pc := 11) (tgt := 67) (off := 56) hG.2.1 (show decode (gy_b gY_123) 11 = .ok (.if_icmp .ge (56), 3) by decide +kernel) (by decide) ?_ ?_
  · refine gr_aload_n (pc := 67) (i := 0) 2 (l0) (show decode (gy_b gY_123) 67 = .ok (.aload_n 0, 1) by decide +kernel) rfl rfl ?_
    refine gr_iload_n (pc := 68) (i := 3) (0) (show decode (gy_b gY_123) 68 = .ok (.iload_n 3, 1) by decide +kernel) rfl rfl ?_
    refine gr_null (pc := 69) 0 (show decode (gy_b gY_123) 69 = .ok (.aconst_null, 1) by decide +kernel) ?_
    refine gr_iload_n (pc := 70) (i := 1) (l1) (show decode (gy_b gY_123) 70 = .ok (.iload_n 1, 1) by decide +kernel) rfl rfl ?_
    refine gr_iload_n (pc := 71) (i := 2) (l2) (show decode (gy_b gY_123) 71 = .ok (.iload_n 2, 1) by decide +kernel) rfl rfl ?_
    refine gj_nn (fun hx72 => ?_)
    refine gj_c0 (pc := 72) (Y' := gY_122) (y := yX2_putAt) (vs := [gR 2 (l0), gI (0), gR 0 (0), gI (l1), gI (l2)]) (rest := []) (rs := fun v2 => []) [gI (l2), gI (l1), gR 0 (0), gI (0), gR 2 (l0)] rfl (hm_122 hG (l0) (0) (0) (l1) (l2)) rfl (gh_V (t := 2) (vs := [gI (0), gR 0 (0), gI (l1), gI (l2)]) (rest := []) (show decode (gy_b gY_123) 72 = .ok (.invokevirtual 40, 3) by decide +kernel) rfl hx72 rfl rfl (ok_122 (by decide) (by decide)) wd_1198 wd_1200 wd_40 (Nat.le_of_ble_eq_true rfl)) (fun _ => rfl) ?_
    intro v2 M3 n4 c5
    exact gr_return (pc := 75) (show decode (gy_b gY_123) 75 = .ok (.return_, 1) by decide +kernel) rfl rfl
  · exact gj_false
noncomputable def fi_123 (l0 l1 l2 M n c : Nat) (K : Nat → Nat → Nat → Nat → Bool) : Bool := fi_123_L0 K l0 l1 l2 M n c
theorem hm_123 {G : gxG} (hG : gxG0 G) (l0 l1 l2 : Nat) : gxM G gY_123 yX2_putEntry [gR 2 (l0), gI (l1), gI (l2)] (fi_123 l0 l1 l2) := gxM_of (L := [gR 2 (l0), gI (l1), gI (l2), gB, gB]) hG 2 (by decide +kernel) rfl rfl rfl rfl (List.forall_mem_cons.mpr ⟨rfl, List.forall_mem_cons.mpr ⟨rfl, List.forall_mem_cons.mpr ⟨rfl, fun _ h => nomatch h⟩⟩⟩) (fun M n c K => h_123_L0 hG  l0 l1 l2 M n c)
/-! Farfiles$Log tellDirectory (LFarfiles$ActSet;ILFarfiles$Answers;)V -/
def gY_124 : gxY := (false, prog_7_method_10_code, 6, (Option.none : Option FieldType), "Farfiles$Log", 3, 89, 5, [], "tellDirectory")
theorem ok_124 {Y : gxY} (h1 : gy_f gY_124 + 1 ≤ gy_f Y) (h2 : 8 + (gy_l gY_124 + 11) + gy_k gY_124 ≤ gy_k Y) : gh_ok Y gY_124 yX5_tellDirectory 3 := ⟨wd_1189, wd_53, ⟨by decide, by decide⟩, by decide +kernel, h1, h2⟩
noncomputable def fi_124_L57 (K : Nat → Nat → Nat → Nat → Bool) (ih_13 : Nat → Nat → Nat → Nat → Nat → Nat → Bool) (l0 l3 l4 M n c : Nat) : Bool := gx_add (l4) 1 (fun z15 => ih_13 (l0) (l3) (z15) M n c)
theorem h_124_L57 {G : gxG} (hG : gxG0 G) {K : Nat → Nat → Nat → Nat → Bool} {ih_13 : Nat → Nat → Nat → Nat → Nat → Nat → Bool} (hi_13 : ∀ l0 l3 l4 M n c : Nat, gxJ G gY_124 K 13 [] [gR 5 (l0), gB, gB, gR 2 (l3), gI (l4), gB] M n c (ih_13 l0 l3 l4 M n c)) (l0 l3 l4 M n c : Nat) : gxJ G gY_124 K 57 [] [gR 5 (l0), gB, gB, gR 2 (l3), gI (l4), gB] M n c (fi_124_L57 K ih_13 l0 l3 l4 M n c) := by
  unfold fi_124_L57
  refine gr_iinc (pc := 57) (i := 4) (d := 1) (z := 1) (L' := fun z15 => [gR 5 (l0), gB, gB, gR 2 (l3), gI (z15), gB]) (show decode (gy_b gY_124) 57 = .ok (.iinc 4 (1), 3) by decide +kernel) (by decide +kernel) (by decide) rfl rfl (fun _ => rfl) ?_
  intro z15
  refine gr_goto (pc := 60) (tgt := 13) (off := -47) (show decode (gy_b gY_124) 60 = .ok (.goto (-47), 3) by decide +kernel) (by decide) ?_
  exact hi_13 (l0) (l3) (z15) M n c
noncomputable def fi_124_B13 (K : Nat → Nat → Nat → Nat → Bool) (ih_13 : Nat → Nat → Nat → Nat → Nat → Nat → Bool) (l0 l3 l4 M n c : Nat) : Bool := gx_get (l0) 4 M (fun v9 => gx_lt (l4) (v9) (gx_get (l0) 2 M (fun v10 => gx_nn (v10) (fi_69 (v10) (l4) M n c (fun v11 M12 n13 c14 => gx_eq (v11) 0 (fi_124_L57 K ih_13 (l0) (l3) (l4) M12 n13 c14) (gx_nn (l0) (fi_70 (l0) (l4) M12 n13 c14 (fun v16 M17 n18 c19 => gx_nn (l0) (fi_81 (l0) (v16) M17 n18 c19 (fun v20 M21 n22 c23 => gx_get (v16) 4 M21 (fun v24 => gx_nn (l3) (fi_123 (l3) (v20) (v24) M21 n22 c23 (fun v25 M26 n27 c28 => fi_124_L57 K ih_13 (l0) (l3) (l4) M26 n27 c28)))))))))))) (K 0 M n c))
theorem hb_124_B13 {G : gxG} (hG : gxG0 G) {K : Nat → Nat → Nat → Nat → Bool} {ih_13 : Nat → Nat → Nat → Nat → Nat → Nat → Bool} (hi_13 : ∀ l0 l3 l4 M n c : Nat, gxJ G gY_124 K 13 [] [gR 5 (l0), gB, gB, gR 2 (l3), gI (l4), gB] M n c (ih_13 l0 l3 l4 M n c)) (l0 l3 l4 M n c : Nat) : gxJ G gY_124 K 13 [] [gR 5 (l0), gB, gB, gR 2 (l3), gI (l4), gB] M n c (fi_124_B13 K ih_13 l0 l3 l4 M n c) := by
  unfold fi_124_B13
  refine gr_iload (pc := 13) (i := 4) (l4) (show decode (gy_b gY_124) 13 = .ok (.iload 4, 2) by decide +kernel) rfl ?_
  refine gr_aload_n (pc := 15) (i := 0) 5 (l0) (show decode (gy_b gY_124) 15 = .ok (.aload_n 0, 1) by decide +kernel) rfl rfl ?_
  refine gr_getf (pc := 16) (index := 38) (t := 5) (j := 4) (σ := 0) (sv := gI) (show decode (gy_b gY_124) 16 = .ok (.getfield 38, 3) by decide +kernel) rfl rfl (fun _ => rfl) wd_179 (by decide) ?_
  intro v9
  refine gr_icmp_ge (pc := 19) (tgt := 63) (off := 44) hG.2.1 (show decode (gy_b gY_124) 19 = .ok (.if_icmp .ge (44), 3) by decide +kernel) (by decide) ?_ ?_
  · exact gr_return (pc := 63) (show decode (gy_b gY_124) 63 = .ok (.return_, 1) by decide +kernel) rfl rfl
  · refine gr_aload_n (pc := 22) (i := 0) 5 (l0) (show decode (gy_b gY_124) 22 = .ok (.aload_n 0, 1) by decide +kernel) rfl rfl ?_
    refine gr_getf (pc := 23) (index := 31) (t := 5) (j := 2) (σ := 9) (sv := (gR 1)) (show decode (gy_b gY_124) 23 = .ok (.getfield 31, 3) by decide +kernel) rfl rfl (fun _ => rfl) wd_177 (by decide) ?_
    intro v10
    refine gr_iload (pc := 26) (i := 4) (l4) (show decode (gy_b gY_124) 26 = .ok (.iload 4, 2) by decide +kernel) rfl ?_
    refine gj_nn (fun hx28 => ?_)
    refine gj_c0 (pc := 28) (Y' := gY_69) (y := yX1_has) (vs := [gR 1 (v10), gI (l4)]) (rest := []) (rs := fun v11 => [gI (v11)]) [gI (l4), gR 1 (v10)] rfl (hm_69 hG (v10) (l4)) rfl (gh_V (t := 1) (vs := [gI (l4)]) (rest := []) (show decode (gy_b gY_124) 28 = .ok (.invokevirtual 52, 3) by decide +kernel) rfl hx28 rfl rfl (ok_69 (by decide) (by decide)) wd_990 wd_923 wd_924 (Nat.le_of_ble_eq_true rfl)) (fun _ => rfl) ?_
    intro v11 M12 n13 c14
    refine gr_ifeq (pc := 31) (tgt := 57) (off := 26) hG.2.1 (show decode (gy_b gY_124) 31 = .ok (.ifCond .eq (26), 3) by decide +kernel) (by decide) ?_ ?_
    · exact h_124_L57 hG hi_13 (l0) (l3) (l4) M12 n13 c14
    · refine gr_aload_n (pc := 34) (i := 0) 5 (l0) (show decode (gy_b gY_124) 34 = .ok (.aload_n 0, 1) by decide +kernel) rfl rfl ?_
      refine gr_iload (pc := 35) (i := 4) (l4) (show decode (gy_b gY_124) 35 = .ok (.iload 4, 2) by decide +kernel) rfl ?_
      refine gj_nn (fun hx37 => ?_)
      refine gj_c0 (pc := 37) (Y' := gY_70) (y := yX5_at) (vs := [gR 5 (l0), gI (l4)]) (rest := []) (rs := fun v16 => [gR 0 (v16)]) [gI (l4), gR 5 (l0)] rfl (hm_70 hG (l0) (l4)) rfl (gh_V (t := 5) (vs := [gI (l4)]) (rest := []) (show decode (gy_b gY_124) 37 = .ok (.invokevirtual 45, 3) by decide +kernel) rfl hx37 rfl rfl (ok_70 (by decide) (by decide)) wd_989 wd_927 wd_928 (Nat.le_of_ble_eq_true rfl)) (fun _ => rfl) ?_
      intro v16 M17 n18 c19
      refine gr_astore (pc := 40) (i := 5) (L' := [gR 5 (l0), gB, gB, gR 2 (l3), gI (l4), gR 0 (v16)]) (show decode (gy_b gY_124) 40 = .ok (.astore 5, 2) by decide +kernel) (by decide) rfl rfl ?_
      refine gr_aload_n (pc := 42) (i := 3) 2 (l3) (show decode (gy_b gY_124) 42 = .ok (.aload_n 3, 1) by decide +kernel) rfl rfl ?_
      refine gr_aload_n (pc := 43) (i := 0) 5 (l0) (show decode (gy_b gY_124) 43 = .ok (.aload_n 0, 1) by decide +kernel) rfl rfl ?_
      refine gr_aload (pc := 44) (i := 5) 0 (v16) (show decode (gy_b gY_124) 44 = .ok (.aload 5, 2) by decide +kernel) rfl ?_
      refine gj_nn (fun hx46 => ?_)
      refine gj_c0 (pc := 46) (Y' := gY_81) (y := yX5_toldName) (vs := [gR 5 (l0), gR 0 (v16)]) (rest := [gR 2 (l3)]) (rs := fun v20 => [gI (v20), gR 2 (l3)]) [gR 0 (v16), gR 5 (l0)] rfl (hm_81 hG (l0) (v16)) rfl (gh_V (t := 5) (vs := [gR 0 (v16)]) (rest := [gR 2 (l3)]) (show decode (gy_b gY_124) 46 = .ok (.invokevirtual 91, 3) by decide +kernel) rfl hx46 rfl rfl (ok_81 (by decide) (by decide)) wd_1000 wd_1002 wd_23 (Nat.le_of_ble_eq_true rfl)) (fun _ => rfl) ?_
      intro v20 M21 n22 c23
      refine gr_aload (pc := 49) (i := 5) 0 (v16) (show decode (gy_b gY_124) 49 = .ok (.aload 5, 2) by decide +kernel) rfl ?_
      refine gr_getfN (pc := 51) (index := 80) (t := 0) (j := 4) (σ := 0) (sv := gI) (show decode (gy_b gY_124) 51 = .ok (.getfield 80, 3) by decide +kernel) rfl rfl (fun _ => rfl) wd_147 (by decide) ?_
      intro v24
      refine gj_nn (fun hx54 => ?_)
      refine gj_c0 (pc := 54) (Y' := gY_123) (y := yX2_putEntry) (vs := [gR 2 (l3), gI (v20), gI (v24)]) (rest := []) (rs := fun v25 => []) [gI (v24), gI (v20), gR 2 (l3)] rfl (hm_123 hG (l3) (v20) (v24)) rfl (gh_V (t := 2) (vs := [gI (v20), gI (v24)]) (rest := []) (show decode (gy_b gY_124) 54 = .ok (.invokevirtual 107, 3) by decide +kernel) rfl hx54 rfl rfl (ok_123 (by decide) (by decide)) wd_1194 wd_1195 wd_1196 (Nat.le_of_ble_eq_true rfl)) (fun _ => rfl) ?_
      intro v25 M26 n27 c28
      refine gr_wk [true, true, true, true, true, false] rfl ?_
      exact h_124_L57 hG hi_13 (l0) (l3) (l4) M26 n27 c28
noncomputable def fi_124_W13 (K : Nat → Nat → Nat → Nat → Bool) (u : Nat) : Nat → Nat → Nat → Nat → Nat → Nat → Bool := Nat.rec (motive := fun _ => Nat → Nat → Nat → Nat → Nat → Nat → Bool) (fun _ _ _ _ _ _ => false) (fun _ ih => fi_124_B13 K ih) u
theorem hw_124_13 {G : gxG} (hG : gxG0 G) {K : Nat → Nat → Nat → Nat → Bool} (u : Nat) : ∀ l0 l3 l4 M n c : Nat, gxJ G gY_124 K 13 [] [gR 5 (l0), gB, gB, gR 2 (l3), gI (l4), gB] M n c (fi_124_W13 K u l0 l3 l4 M n c) := by
  induction u with
  | zero => intro l0 l3 l4 M n c; exact gj_false
  | succ u ih => intro l0 l3 l4 M n c; exact hb_124_B13 hG ih l0 l3 l4 M n c
noncomputable def fi_124_L0 (K : Nat → Nat → Nat → Nat → Bool) (l0 l1 l2 l3 M n c : Nat) : Bool := gx_nn (l0) (fi_80 (l0) (l1) (l2) M n c (fun v1 M2 n3 c4 => gx_nn (l3) (fi_121 (l3) M2 n3 c4 (fun v5 M6 n7 c8 => fi_124_W13 K 65536 (l0) (l3) (0) M6 n7 c8))))
theorem h_124_L0 {G : gxG} (hG : gxG0 G) {K : Nat → Nat → Nat → Nat → Bool} (l0 l1 l2 l3 M n c : Nat) : gxJ G gY_124 K 0 [] [gR 5 (l0), gR 1 (l1), gI (l2), gR 2 (l3), gB, gB] M n c (fi_124_L0 K l0 l1 l2 l3 M n c) := by
  unfold fi_124_L0
  refine gr_aload_n (pc := 0) (i := 0) 5 (l0) (show decode (gy_b gY_124) 0 = .ok (.aload_n 0, 1) by decide +kernel) rfl rfl ?_
  refine gr_aload_n (pc := 1) (i := 1) 1 (l1) (show decode (gy_b gY_124) 1 = .ok (.aload_n 1, 1) by decide +kernel) rfl rfl ?_
  refine gr_iload_n (pc := 2) (i := 2) (l2) (show decode (gy_b gY_124) 2 = .ok (.iload_n 2, 1) by decide +kernel) rfl rfl ?_
  refine gj_nn (fun hx3 => ?_)
  refine gj_c0 (pc := 3) (Y' := gY_80) (y := yX5_gather) (vs := [gR 5 (l0), gR 1 (l1), gI (l2)]) (rest := []) (rs := fun v1 => []) [gI (l2), gR 1 (l1), gR 5 (l0)] rfl (hm_80 hG (l0) (l1) (l2)) rfl (gh_V (t := 5) (vs := [gR 1 (l1), gI (l2)]) (rest := []) (show decode (gy_b gY_124) 3 = .ok (.invokevirtual 87, 3) by decide +kernel) rfl hx3 rfl rfl (ok_80 (by decide) (by decide)) wd_981 wd_983 wd_22 (Nat.le_of_ble_eq_true rfl)) (fun _ => rfl) ?_
  intro v1 M2 n3 c4
  refine gr_aload_n (pc := 6) (i := 3) 2 (l3) (show decode (gy_b gY_124) 6 = .ok (.aload_n 3, 1) by decide +kernel) rfl rfl ?_
  refine gj_nn (fun hx7 => ?_)
  refine gj_c0 (pc := 7) (Y' := gY_121) (y := yX2_empty) (vs := [gR 2 (l3)]) (rest := []) (rs := fun v5 => []) [gR 2 (l3)] rfl (hm_121 hG (l3)) rfl (gh_V (t := 2) (vs := []) (rest := []) (show decode (gy_b gY_124) 7 = .ok (.invokevirtual 99, 3) by decide +kernel) rfl hx7 rfl rfl (ok_121 (by decide) (by decide)) wd_1190 wd_1191 wd_1192 (Nat.le_of_ble_eq_true rfl)) (fun _ => rfl) ?_
  intro v5 M6 n7 c8
  refine gr_iconst (pc := 10) (z := 0) 0 (show decode (gy_b gY_124) 10 = .ok (.iconst (0), 1) by decide +kernel) kc_0 ?_
  refine gr_istore (pc := 11) (i := 4) (L' := [gR 5 (l0), gR 1 (l1), gI (l2), gR 2 (l3), gI (0), gB]) (show decode (gy_b gY_124) 11 = .ok (.istore 4, 2) by decide +kernel) (by decide) rfl rfl ?_
  refine gr_wk [true, false, false, true, true, true] rfl ?_
  exact hw_124_13 hG 65536 (l0) (l3) (0) M6 n7 c8
noncomputable def fi_124 (l0 l1 l2 l3 M n c : Nat) (K : Nat → Nat → Nat → Nat → Bool) : Bool := fi_124_L0 K l0 l1 l2 l3 M n c
theorem hm_124 {G : gxG} (hG : gxG0 G) (l0 l1 l2 l3 : Nat) : gxM G gY_124 yX5_tellDirectory [gR 5 (l0), gR 1 (l1), gI (l2), gR 2 (l3)] (fi_124 l0 l1 l2 l3) := gxM_of (L := [gR 5 (l0), gR 1 (l1), gI (l2), gR 2 (l3), gB, gB]) hG 2 (by decide +kernel) rfl rfl rfl rfl (List.forall_mem_cons.mpr ⟨rfl, List.forall_mem_cons.mpr ⟨rfl, List.forall_mem_cons.mpr ⟨rfl, List.forall_mem_cons.mpr ⟨rfl, fun _ h => nomatch h⟩⟩⟩⟩) (fun M n c K => h_124_L0 hG  l0 l1 l2 l3 M n c)
/-! Farfiles$Answers hasPlace (I)Z -/
def gY_125 : gxY := (false, prog_4_method_7_code, 2, (Option.some Jvm.ClassFile.FieldType.boolean), "Farfiles$Answers", 1, 40, 2, [], "hasPlace")
theorem ok_125 {Y : gxY} (h1 : gy_f gY_125 + 1 ≤ gy_f Y) (h2 : 8 + (gy_l gY_125 + 11) + gy_k gY_125 ≤ gy_k Y) : gh_ok Y gY_125 yX2_hasPlace 1 := ⟨wd_1217, wd_56, ⟨by decide, by decide⟩, by decide +kernel, h1, h2⟩
noncomputable def fi_125_L0 (K : Nat → Nat → Nat → Nat → Bool) (l0 l1 M n c : Nat) : Bool := gx_lt (l1) 0 (false) (gx_get (l0) 3 M (fun v1 => gx_lt (l1) (v1) (gx_lt (l1) (250) (gx_rt gx_f2 (1) (K (1) M n c)) (false)) (false)))
theorem h_125_L0 {G : gxG} (hG : gxG0 G) {K : Nat → Nat → Nat → Nat → Bool} (l0 l1 M n c : Nat) : gxJ G gY_125 K 0 [] [gR 2 (l0), gI (l1)] M n c (fi_125_L0 K l0 l1 M n c) := by
  unfold fi_125_L0
  refine gr_iload_n (pc := 0) (i := 1) (l1) (show decode (gy_b gY_125) 0 = .ok (.iload_n 1, 1) by decide +kernel) rfl rfl ?_
  refine gr_iflt (pc := 1) (tgt := 23) (off := 22) hG.2.1 (show decode (gy_b gY_125) 1 = .ok (.ifCond .lt (22), 3) by decide +kernel) (by decide) ?_ ?_
  · exact gj_false
  · refine gr_iload_n (pc := 4) (i := 1) (l1) (show decode (gy_b gY_125) 4 = .ok (.iload_n 1, 1) by decide +kernel) rfl rfl ?_
    refine gr_aload_n (pc := 5) (i := 0) 2 (l0) (show decode (gy_b gY_125) 5 = .ok (.aload_n 0, 1) by decide +kernel) rfl rfl ?_
    refine gr_getf (pc := 6) (index := 24) (t := 2) (j := 3) (σ := 0) (sv := gI) (show decode (gy_b gY_125) 6 = .ok (.getfield 24, 3) by decide +kernel) rfl rfl (fun _ => rfl) wd_203 (by decide) ?_
    intro v1
    refine gr_icmp_ge (pc := 9) (tgt := 23) (off := 14) hG.2.1 (show decode (gy_b gY_125) 9 = .ok (.if_icmp .ge (14), 3) by decide +kernel) (by decide) ?_ ?_
    · exact gj_false
    · refine gr_iload_n (pc := 12) (i := 1) (l1) (show decode (gy_b gY_125) 12 = .ok (.iload_n 1, 1) by decide +kernel) rfl rfl ?_
      refine gr_sipush (pc := 13) (z := 250) 250 (show decode (gy_b gY_125) 13 = .ok (.sipush (250), 3) by decide +kernel) (by decide +kernel) ?_
      refine gr_icmp_ge (pc := 16) (tgt := 23) (off := 7) hG.2.1 (show decode (gy_b gY_125) 16 = .ok (.if_icmp .ge (7), 3) by decide +kernel) (by decide) ?_ ?_
      · exact gj_false
      · refine gr_iconst (pc := 19) (z := 1) 1 (show decode (gy_b gY_125) 19 = .ok (.iconst (1), 1) by decide +kernel) kc_1 ?_
        refine gr_goto (pc := 20) (tgt := 24) (off := 4) (show decode (gy_b gY_125) 20 = .ok (.goto (4), 3) by decide +kernel) (by decide) ?_
        exact gr_ireturn (pc := 24) (show decode (gy_b gY_125) 24 = .ok (.ireturn, 1) by decide +kernel) rfl rfl (by decide) gv_2f
noncomputable def fi_125 (l0 l1 M n c : Nat) (K : Nat → Nat → Nat → Nat → Bool) : Bool := fi_125_L0 K l0 l1 M n c
theorem hm_125 {G : gxG} (hG : gxG0 G) (l0 l1 : Nat) : gxM G gY_125 yX2_hasPlace [gR 2 (l0), gI (l1)] (fi_125 l0 l1) := gxM_of (L := [gR 2 (l0), gI (l1)]) hG 0 (by decide +kernel) rfl rfl rfl rfl (List.forall_mem_cons.mpr ⟨rfl, List.forall_mem_cons.mpr ⟨rfl, fun _ h => nomatch h⟩⟩) (fun M n c K => h_125_L0 hG  l0 l1 M n c)
/-! Farfiles$Answers textAt (I)[C -/
def gY_126 : gxY := (false, prog_4_method_8_code, 3, (Option.some (Jvm.ClassFile.FieldType.array Jvm.ClassFile.FieldType.char)), "Farfiles$Answers", 2, 61, 73, [], "textAt")
theorem ok_126 {Y : gxY} (h1 : gy_f gY_126 + 1 ≤ gy_f Y) (h2 : 8 + (gy_l gY_126 + 11) + gy_k gY_126 ≤ gy_k Y) : gh_ok Y gY_126 yX2_textAt 1 := ⟨wd_1213, wd_56, ⟨by decide, by decide⟩, by decide +kernel, h1, h2⟩
noncomputable def fi_126_L0 (K : Nat → Nat → Nat → Nat → Bool) (l0 l1 M n c : Nat) : Bool := gx_nn (l0) (fi_125 (l0) (l1) M n c (fun v1 M2 n3 c4 => gx_eq (v1) 0 (false) (gx_get (l0) 0 M2 (fun v5 => gx_ald (v5) (l1) M2 (fun v6 => gx_nul (v6) (false) (gx_get (v6) 5 M2 (fun v7 => gx_rt gx_f0 (v7) (K (v7) M2 n3 c4))))))))
theorem h_126_L0 {G : gxG} (hG : gxG0 G) {K : Nat → Nat → Nat → Nat → Bool} (l0 l1 M n c : Nat) : gxJ G gY_126 K 0 [] [gR 2 (l0), gI (l1), gB] M n c (fi_126_L0 K l0 l1 M n c) := by
  unfold fi_126_L0
  refine gr_aload_n (pc := 0) (i := 0) 2 (l0) (show decode (gy_b gY_126) 0 = .ok (.aload_n 0, 1) by decide +kernel) rfl rfl ?_
  refine gr_iload_n (pc := 1) (i := 1) (l1) (show decode (gy_b gY_126) 1 = .ok (.iload_n 1, 1) by decide +kernel) rfl rfl ?_
  refine gj_nn (fun hx2 => ?_)
  refine gj_c0 (pc := 2) (Y' := gY_125) (y := yX2_hasPlace) (vs := [gR 2 (l0), gI (l1)]) (rest := []) (rs := fun v1 => [gI (v1)]) [gI (l1), gR 2 (l0)] rfl (hm_125 hG (l0) (l1)) rfl (gh_V (t := 2) (vs := [gI (l1)]) (rest := []) (show decode (gy_b gY_126) 2 = .ok (.invokevirtual 44, 3) by decide +kernel) rfl hx2 rfl rfl (ok_125 (by decide) (by decide)) wd_1214 wd_1215 wd_1216 (Nat.le_of_ble_eq_true rfl)) (fun _ => rfl) ?_
  intro v1 M2 n3 c4
  refine gr_ifne (pc := 5) (tgt := 12) (off := 7) hG.2.1 (show decode (gy_b gY_126) 5 = .ok (.ifCond .ne (7), 3) by decide +kernel) (by decide) ?_ ?_
  · refine gr_aload_n (pc := 12) (i := 0) 2 (l0) (show decode (gy_b gY_126) 12 = .ok (.aload_n 0, 1) by decide +kernel) rfl rfl ?_
    refine gr_getf (pc := 13) (index := 11) (t := 2) (j := 0) (σ := 77) (sv := (gR 69)) (show decode (gy_b gY_126) 13 = .ok (.getfield 11, 3) by decide +kernel) rfl rfl (fun _ => rfl) wd_200 (by decide) ?_
    intro v5
    refine gr_iload_n (pc := 16) (i := 1) (l1) (show decode (gy_b gY_126) 16 = .ok (.iload_n 1, 1) by decide +kernel) rfl rfl ?_
    refine gr_aald (pc := 17) (κ := 5) (t := 0) (C := "Farfiles$Act") (show decode (gy_b gY_126) 17 = .ok (.aaload, 1) by decide +kernel) ⟨by decide, by decide, rfl⟩ rfl ?_
    intro v6
    refine gr_astore_n (pc := 18) (i := 2) (L' := [gR 2 (l0), gI (l1), gR 0 (v6)]) (show decode (gy_b gY_126) 18 = .ok (.astore_n 2, 1) by decide +kernel) rfl (by decide) rfl rfl ?_
    refine gr_aload_n (pc := 19) (i := 2) 0 (v6) (show decode (gy_b gY_126) 19 = .ok (.aload_n 2, 1) by decide +kernel) rfl rfl ?_
    refine gr_ifnonnull (pc := 20) (tgt := 29) (off := 9) (show decode (gy_b gY_126) 20 = .ok (.ifnonnull (9), 3) by decide +kernel) (by decide) ?_ ?_
    · refine gr_aload_n (pc := 29) (i := 2) 0 (v6) (show decode (gy_b gY_126) 29 = .ok (.aload_n 2, 1) by decide +kernel) rfl rfl ?_
      refine gr_getfN (pc := 30) (index := 28) (t := 0) (j := 5) (σ := 73) (sv := (gR 65)) (show decode (gy_b gY_126) 30 = .ok (.getfield 28, 3) by decide +kernel) rfl rfl (fun _ => rfl) wd_150 (by decide) ?_
      intro v7
      exact gr_areturn (pc := 33) (t := 65) (show decode (gy_b gY_126) 33 = .ok (.areturn, 1) by decide +kernel) rfl rfl (Or.inr ⟨_, rfl⟩)
    · exact gj_false
  · exact gj_false
noncomputable def fi_126 (l0 l1 M n c : Nat) (K : Nat → Nat → Nat → Nat → Bool) : Bool := fi_126_L0 K l0 l1 M n c
theorem hm_126 {G : gxG} (hG : gxG0 G) (l0 l1 : Nat) : gxM G gY_126 yX2_textAt [gR 2 (l0), gI (l1)] (fi_126 l0 l1) := gxM_of (L := [gR 2 (l0), gI (l1), gB]) hG 1 (by decide +kernel) rfl rfl rfl rfl (List.forall_mem_cons.mpr ⟨rfl, List.forall_mem_cons.mpr ⟨rfl, fun _ h => nomatch h⟩⟩) (fun M n c K => h_126_L0 hG  l0 l1 M n c)
/-! Farfiles compareTexts ([C[C)I -/
def gY_127 : gxY := (false, prog_1_method_5_code, 3, (Option.some Jvm.ClassFile.FieldType.int), "Farfiles", 1, 40, 0, [], "compareTexts")
theorem ok_127 {Y : gxY} (h1 : gy_f gY_127 + 1 ≤ gy_f Y) (h2 : 8 + (gy_l gY_127 + 11) + gy_k gY_127 ≤ gy_k Y) : gh_ok Y gY_127 yX7_compareTexts 2 := ⟨wd_1221, wd_51, ⟨by decide, by decide⟩, by decide +kernel, h1, h2⟩
noncomputable def fi_127_L36 (K : Nat → Nat → Nat → Nat → Bool) (M n c : Nat) : Bool := gx_rt gx_f0 (1) (K (1) M n c)
theorem h_127_L36 {G : gxG} (hG : gxG0 G) {K : Nat → Nat → Nat → Nat → Bool} (M n c : Nat) : gxJ G gY_127 K 36 [] [gB, gB, gB] M n c (fi_127_L36 K M n c) := by
  unfold fi_127_L36
  refine gr_iconst (pc := 36) (z := 1) 1 (show decode (gy_b gY_127) 36 = .ok (.iconst (1), 1) by decide +kernel) kc_1 ?_
  exact gr_ireturn (pc := 37) (show decode (gy_b gY_127) 37 = .ok (.ireturn, 1) by decide +kernel) rfl rfl (by decide) gv_0
noncomputable def fi_127_L0 (K : Nat → Nat → Nat → Nat → Bool) (l0 l1 M n c : Nat) : Bool := gx_len (l0) M (fun v1 => gx_lt (0) (v1) (gx_len (l1) M (fun v2 => gx_lt (0) (v2) (gx_ald (l0) (0) M (fun v3 => gx_ald (l1) (0) M (fun v4 => gx_eq (v3) (v4) (false) (gx_ald (l0) (0) M (fun v5 => gx_ald (l1) (0) M (fun v6 => gx_lt (v5) (v6) (false) (fi_127_L36 K  M n c))))))) (false))) (false))
theorem h_127_L0 {G : gxG} (hG : gxG0 G) {K : Nat → Nat → Nat → Nat → Bool} (l0 l1 M n c : Nat) : gxJ G gY_127 K 0 [] [gR 65 (l0), gR 65 (l1), gB] M n c (fi_127_L0 K l0 l1 M n c) := by
  unfold fi_127_L0
  refine gr_iconst (pc := 0) (z := 0) 0 (show decode (gy_b gY_127) 0 = .ok (.iconst (0), 1) by decide +kernel) kc_0 ?_
  refine gr_istore_n (pc := 1) (i := 2) (L' := [gR 65 (l0), gR 65 (l1), gI (0)]) (show decode (gy_b gY_127) 1 = .ok (.istore_n 2, 1) by decide +kernel) rfl (by decide) rfl rfl ?_
  refine gr_iload_n (pc := 2) (i := 2) (0) (show decode (gy_b gY_127) 2 = .ok (.iload_n 2, 1) by decide +kernel) rfl rfl ?_
  refine gr_aload_n (pc := 3) (i := 0) 65 (l0) (show decode (gy_b gY_127) 3 = .ok (.aload_n 0, 1) by decide +kernel) rfl rfl ?_
  refine gr_alen (pc := 4) (κ := 1) (show decode (gy_b gY_127) 4 = .ok (.arraylength, 1) by decide +kernel) (by decide) ?_
  intro v1
  refine gr_icmp_ge (pc := 5) (tgt := 44) (off := 39) hG.2.1 (show decode (gy_b gY_127) 5 = .ok (.if_icmp .ge (39), 3) by decide +kernel) (by decide) ?_ ?_
  · exact gj_false
  · refine gr_iload_n (pc := 8) (i := 2) (0) (show decode (gy_b gY_127) 8 = .ok (.iload_n 2, 1) by decide +kernel) rfl rfl ?_
    refine gr_aload_n (pc := 9) (i := 1) 65 (l1) (show decode (gy_b gY_127) 9 = .ok (.aload_n 1, 1) by decide +kernel) rfl rfl ?_
    refine gr_alen (pc := 10) (κ := 1) (show decode (gy_b gY_127) 10 = .ok (.arraylength, 1) by decide +kernel) (by decide) ?_
    intro v2
    refine gr_icmp_ge (pc := 11) (tgt := 44) (off := 33) hG.2.1 (show decode (gy_b gY_127) 11 = .ok (.if_icmp .ge (33), 3) by decide +kernel) (by decide) ?_ ?_
    · exact gj_false
    · refine gr_aload_n (pc := 14) (i := 0) 65 (l0) (show decode (gy_b gY_127) 14 = .ok (.aload_n 0, 1) by decide +kernel) rfl rfl ?_
      refine gr_iload_n (pc := 15) (i := 2) (0) (show decode (gy_b gY_127) 15 = .ok (.iload_n 2, 1) by decide +kernel) rfl rfl ?_
      refine gr_cald (pc := 16) (show decode (gy_b gY_127) 16 = .ok (.caload, 1) by decide +kernel) ?_
      intro v3
      refine gr_aload_n (pc := 17) (i := 1) 65 (l1) (show decode (gy_b gY_127) 17 = .ok (.aload_n 1, 1) by decide +kernel) rfl rfl ?_
      refine gr_iload_n (pc := 18) (i := 2) (0) (show decode (gy_b gY_127) 18 = .ok (.iload_n 2, 1) by decide +kernel) rfl rfl ?_
      refine gr_cald (pc := 19) (show decode (gy_b gY_127) 19 = .ok (.caload, 1) by decide +kernel) ?_
      intro v4
      refine gr_icmp_eq (pc := 20) (tgt := 38) (off := 18) hG.2.1 (show decode (gy_b gY_127) 20 = .ok (.if_icmp .eq (18), 3) by decide +kernel) (by decide) ?_ ?_
      · exact gj_false
      · refine gr_aload_n (pc := 23) (i := 0) 65 (l0) (show decode (gy_b gY_127) 23 = .ok (.aload_n 0, 1) by decide +kernel) rfl rfl ?_
        refine gr_iload_n (pc := 24) (i := 2) (0) (show decode (gy_b gY_127) 24 = .ok (.iload_n 2, 1) by decide +kernel) rfl rfl ?_
        refine gr_cald (pc := 25) (show decode (gy_b gY_127) 25 = .ok (.caload, 1) by decide +kernel) ?_
        intro v5
        refine gr_aload_n (pc := 26) (i := 1) 65 (l1) (show decode (gy_b gY_127) 26 = .ok (.aload_n 1, 1) by decide +kernel) rfl rfl ?_
        refine gr_iload_n (pc := 27) (i := 2) (0) (show decode (gy_b gY_127) 27 = .ok (.iload_n 2, 1) by decide +kernel) rfl rfl ?_
        refine gr_cald (pc := 28) (show decode (gy_b gY_127) 28 = .ok (.caload, 1) by decide +kernel) ?_
        intro v6
        refine gr_icmp_ge (pc := 29) (tgt := 36) (off := 7) hG.2.1 (show decode (gy_b gY_127) 29 = .ok (.if_icmp .ge (7), 3) by decide +kernel) (by decide) ?_ ?_
        · refine gr_wk [false, false, false] rfl ?_
          exact h_127_L36 hG  M n c
        · exact gj_false
noncomputable def fi_127 (l0 l1 M n c : Nat) (K : Nat → Nat → Nat → Nat → Bool) : Bool := fi_127_L0 K l0 l1 M n c
theorem hm_127 {G : gxG} (hG : gxG0 G) (l0 l1 : Nat) : gxM G gY_127 yX7_compareTexts [gR 65 (l0), gR 65 (l1)] (fi_127 l0 l1) := gxM_of (L := [gR 65 (l0), gR 65 (l1), gB]) hG 1 (by decide +kernel) rfl rfl rfl rfl (List.forall_mem_cons.mpr ⟨rfl, List.forall_mem_cons.mpr ⟨rfl, fun _ h => nomatch h⟩⟩) (fun M n c K => h_127_L0 hG  l0 l1 M n c)
/-! Farfiles$Answers putText (LFarfiles$Act;)V -/
def gY_128 : gxY := (false, prog_4_method_3_code, 5, (Option.none : Option FieldType), "Farfiles$Answers", 3, 83, 5, [], "putText")
theorem ok_128 {Y : gxY} (h1 : gy_f gY_128 + 1 ≤ gy_f Y) (h2 : 8 + (gy_l gY_128 + 11) + gy_k gY_128 ≤ gy_k Y) : gh_ok Y gY_128 yX2_putText 1 := ⟨wd_1209, wd_56, ⟨by decide, by decide⟩, by decide +kernel, h1, h2⟩
noncomputable def fi_128_L66 (K : Nat → Nat → Nat → Nat → Bool) (M n c : Nat) : Bool := K 0 M n c
theorem h_128_L66 {G : gxG} (hG : gxG0 G) {K : Nat → Nat → Nat → Nat → Bool} (M n c : Nat) : gxJ G gY_128 K 66 [] [gB, gB, gB, gB, gB] M n c (fi_128_L66 K M n c) := by
  unfold fi_128_L66
  exact gr_return (pc := 66) (show decode (gy_b gY_128) 66 = .ok (.return_, 1) by decide +kernel) rfl rfl
noncomputable def fi_128_L54 (K : Nat → Nat → Nat → Nat → Bool) (l0 l1 l2 l3 M n c : Nat) : Bool := gx_eq (l3) 0 (fi_128_L66 K  M n c) (gx_nn (l0) (fi_122 (l0) (l2) (l1) (0) (4294967295) M n c (fun v2 M3 n4 c5 => fi_128_L66 K  M3 n4 c5)))
theorem h_128_L54 {G : gxG} (hG : gxG0 G) {K : Nat → Nat → Nat → Nat → Bool} (l0 l1 l2 l3 M n c : Nat) : gxJ G gY_128 K 54 [] [gR 2 (l0), gR 0 (l1), gI (l2), gI (l3), gB] M n c (fi_128_L54 K l0 l1 l2 l3 M n c) := by
  unfold fi_128_L54
  refine gr_iload_n (pc := 54) (i := 3) (l3) (show decode (gy_b gY_128) 54 = .ok (.iload_n 3, 1) by decide +kernel) rfl rfl ?_
  refine gr_ifeq (pc := 55) (tgt := 66) (off := 11) hG.2.1 (show decode (gy_b gY_128) 55 = .ok (.ifCond .eq (11), 3) by decide +kernel) (by decide) ?_ ?_
  · refine gr_wk [false, false, false, false, true] rfl ?_
    exact h_128_L66 hG  M n c
  · refine gr_aload_n (pc := 58) (i := 0) 2 (l0) (show decode (gy_b gY_128) 58 = .ok (.aload_n 0, 1) by decide +kernel) rfl rfl ?_
    refine gr_iload_n (pc := 59) (i := 2) (l2) (show decode (gy_b gY_128) 59 = .ok (.iload_n 2, 1) by decide +kernel) rfl rfl ?_
    refine gr_aload_n (pc := 60) (i := 1) 0 (l1) (show decode (gy_b gY_128) 60 = .ok (.aload_n 1, 1) by decide +kernel) rfl rfl ?_
    refine gr_iconst (pc := 61) (z := 0) 0 (show decode (gy_b gY_128) 61 = .ok (.iconst (0), 1) by decide +kernel) kc_0 ?_
    refine gr_iconst (pc := 62) (z := -1) 4294967295 (show decode (gy_b gY_128) 62 = .ok (.iconst (-1), 1) by decide +kernel) kc_m1 ?_
    refine gj_nn (fun hx63 => ?_)
    refine gj_c0 (pc := 63) (Y' := gY_122) (y := yX2_putAt) (vs := [gR 2 (l0), gI (l2), gR 0 (l1), gI (0), gI (4294967295)]) (rest := []) (rs := fun v2 => []) [gI (4294967295), gI (0), gR 0 (l1), gI (l2), gR 2 (l0)] rfl (hm_122 hG (l0) (l2) (l1) (0) (4294967295)) rfl (gh_V (t := 2) (vs := [gI (l2), gR 0 (l1), gI (0), gI (4294967295)]) (rest := []) (show decode (gy_b gY_128) 63 = .ok (.invokevirtual 40, 3) by decide +kernel) rfl hx63 rfl rfl (ok_122 (by decide) (by decide)) wd_1198 wd_1200 wd_40 (Nat.le_of_ble_eq_true rfl)) (fun _ => rfl) ?_
    intro v2 M3 n4 c5
    refine gr_wk [false, false, false, false, true] rfl ?_
    exact h_128_L66 hG  M3 n4 c5
noncomputable def fi_128_B7 (K : Nat → Nat → Nat → Nat → Bool) (ih_7 : Nat → Nat → Nat → Nat → Nat → Nat → Nat → Nat → Bool) (l0 l1 l2 l3 l4 M n c : Nat) : Bool := gx_get (l0) 3 M (fun v1 => gx_lt (l4) (v1) (gx_lt 0 (l3) (gx_get (l1) 5 M (fun v6 => gx_nn (l0) (fi_126 (l0) (l4) M n c (fun v7 M8 n9 c10 => fi_127 (v6) (v7) M8 n9 c10 (fun v11 M12 n13 c14 => gx_lt 0 (v11) (gx_add (l4) (1) (fun z15 => gx_add (l4) 1 (fun z16 => ih_7 (l0) (l1) (z15) (v11) (z16) M12 n13 c14))) (false)))))) (fi_128_L54 K (l0) (l1) (l2) (l3) M n c)) (fi_128_L54 K (l0) (l1) (l2) (l3) M n c))
theorem hb_128_B7 {G : gxG} (hG : gxG0 G) {K : Nat → Nat → Nat → Nat → Bool} {ih_7 : Nat → Nat → Nat → Nat → Nat → Nat → Nat → Nat → Bool} (hi_7 : ∀ l0 l1 l2 l3 l4 M n c : Nat, gxJ G gY_128 K 7 [] [gR 2 (l0), gR 0 (l1), gI (l2), gI (l3), gI (l4)] M n c (ih_7 l0 l1 l2 l3 l4 M n c)) (l0 l1 l2 l3 l4 M n c : Nat) : gxJ G gY_128 K 7 [] [gR 2 (l0), gR 0 (l1), gI (l2), gI (l3), gI (l4)] M n c (fi_128_B7 K ih_7 l0 l1 l2 l3 l4 M n c) := by
  unfold fi_128_B7
  refine gr_iload (pc := 7) (i := 4) (l4) (show decode (gy_b gY_128) 7 = .ok (.iload 4, 2) by decide +kernel) rfl ?_
  refine gr_aload_n (pc := 9) (i := 0) 2 (l0) (show decode (gy_b gY_128) 9 = .ok (.aload_n 0, 1) by decide +kernel) rfl rfl ?_
  refine gr_getf (pc := 10) (index := 24) (t := 2) (j := 3) (σ := 0) (sv := gI) (show decode (gy_b gY_128) 10 = .ok (.getfield 24, 3) by decide +kernel) rfl rfl (fun _ => rfl) wd_203 (by decide) ?_
  intro v1
  refine gr_icmp_ge (pc := 13) (tgt := 54) (off := 41) hG.2.1 (show decode (gy_b gY_128) 13 = .ok (.if_icmp .ge (41), 3) by decide +kernel) (by decide) ?_ ?_
  · refine gr_wk [true, true, true, true, false] rfl ?_
    exact h_128_L54 hG (l0) (l1) (l2) (l3) M n c
  · refine gr_iload_n (pc := 16) (i := 3) (l3) (show decode (gy_b gY_128) 16 = .ok (.iload_n 3, 1) by decide +kernel) rfl rfl ?_
    refine gr_ifle (pc := 17) (tgt := 54) (off := 37) hG.2.1 (show decode (gy_b gY_128) 17 = .ok (.ifCond .le (37), 3) by decide +kernel) (by decide) ?_ ?_
    · refine gr_wk [true, true, true, true, false] rfl ?_
      exact h_128_L54 hG (l0) (l1) (l2) (l3) M n c
    · refine gr_aload_n (pc := 20) (i := 1) 0 (l1) (show decode (gy_b gY_128) 20 = .ok (.aload_n 1, 1) by decide +kernel) rfl rfl ?_
      refine gr_getfN (pc := 21) (index := 28) (t := 0) (j := 5) (σ := 73) (sv := (gR 65)) (show decode (gy_b gY_128) 21 = .ok (.getfield 28, 3) by decide +kernel) rfl rfl (fun _ => rfl) wd_150 (by decide) ?_
      intro v6
      refine gr_aload_n (pc := 24) (i := 0) 2 (l0) (show decode (gy_b gY_128) 24 = .ok (.aload_n 0, 1) by decide +kernel) rfl rfl ?_
      refine gr_iload (pc := 25) (i := 4) (l4) (show decode (gy_b gY_128) 25 = .ok (.iload 4, 2) by decide +kernel) rfl ?_
      refine gj_nn (fun hx27 => ?_)
      refine gj_c0 (pc := 27) (Y' := gY_126) (y := yX2_textAt) (vs := [gR 2 (l0), gI (l4)]) (rest := [gR 65 (v6)]) (rs := fun v7 => [gR 65 (v7), gR 65 (v6)]) [gI (l4), gR 2 (l0)] rfl (hm_126 hG (l0) (l4)) rfl (gh_V (t := 2) (vs := [gI (l4)]) (rest := [gR 65 (v6)]) (show decode (gy_b gY_128) 27 = .ok (.invokevirtual 32, 3) by decide +kernel) rfl hx27 rfl rfl (ok_126 (by decide) (by decide)) wd_1210 wd_1211 wd_1212 (Nat.le_of_ble_eq_true rfl)) (fun _ => rfl) ?_
      intro v7 M8 n9 c10
      refine gj_c0 (pc := 30) (Y' := gY_127) (y := yX7_compareTexts) (vs := [gR 65 (v6), gR 65 (v7)]) (rest := []) (rs := fun v11 => [gI (v11)]) [gR 65 (v7), gR 65 (v6)] rfl (hm_127 hG (v6) (v7)) rfl (gh_SN (vs := [gR 65 (v6), gR 65 (v7)]) (rest := []) (show decode (gy_b gY_128) 30 = .ok (.invokestatic 36, 3) by decide +kernel) rfl (ok_127 (by decide) (by decide)) rfl rfl wd_1219 wd_1220 (Nat.le_of_ble_eq_true rfl)) (fun _ => rfl) ?_
      intro v11 M12 n13 c14
      refine gr_istore_n (pc := 33) (i := 3) (L' := [gR 2 (l0), gR 0 (l1), gI (l2), gI (v11), gI (l4)]) (show decode (gy_b gY_128) 33 = .ok (.istore_n 3, 1) by decide +kernel) rfl (by decide) rfl rfl ?_
      refine gr_iload_n (pc := 34) (i := 3) (v11) (show decode (gy_b gY_128) 34 = .ok (.iload_n 3, 1) by decide +kernel) rfl rfl ?_
      refine gr_ifle (pc := 35) (tgt := 45) (off := 10) hG.2.1 (show decode (gy_b gY_128) 35 = .ok (.ifCond .le (10), 3) by decide +kernel) (by decide) ?_ ?_
      · exact gj_false
      · refine gr_iload (pc := 38) (i := 4) (l4) (show decode (gy_b gY_128) 38 = .ok (.iload 4, 2) by decide +kernel) rfl ?_
        refine gr_iconst (pc := 40) (z := 1) 1 (show decode (gy_b gY_128) 40 = .ok (.iconst (1), 1) by decide +kernel) kc_1 ?_
        refine gr_iadd (pc := 41) (show decode (gy_b gY_128) 41 = .ok (.iadd, 1) by decide +kernel) ?_
        intro z15
        refine gr_goto (pc := 42) (tgt := 47) (off := 5) (show decode (gy_b gY_128) 42 = .ok (.goto (5), 3) by decide +kernel) (by decide) ?_
        refine gr_istore_n (pc := 47) (i := 2) (L' := [gR 2 (l0), gR 0 (l1), gI (z15), gI (v11), gI (l4)]) (show decode (gy_b gY_128) 47 = .ok (.istore_n 2, 1) by decide +kernel) rfl (by decide) rfl rfl ?_
        refine gr_iinc (pc := 48) (i := 4) (d := 1) (z := 1) (L' := fun z16 => [gR 2 (l0), gR 0 (l1), gI (z15), gI (v11), gI (z16)]) (show decode (gy_b gY_128) 48 = .ok (.iinc 4 (1), 3) by decide +kernel) (by decide +kernel) (by decide) rfl rfl (fun _ => rfl) ?_
        intro z16
        refine gr_goto (pc := 51) (tgt := 7) (off := -44) (show decode (gy_b gY_128) 51 = .ok (.goto (-44), 3) by decide +kernel) (by decide) ?_
        exact hi_7 (l0) (l1) (z15) (v11) (z16) M12 n13 c14
noncomputable def fi_128_W7 (K : Nat → Nat → Nat → Nat → Bool) (u : Nat) : Nat → Nat → Nat → Nat → Nat → Nat → Nat → Nat → Bool := Nat.rec (motive := fun _ => Nat → Nat → Nat → Nat → Nat → Nat → Nat → Nat → Bool) (fun _ _ _ _ _ _ _ _ => false) (fun _ ih => fi_128_B7 K ih) u
theorem hw_128_7 {G : gxG} (hG : gxG0 G) {K : Nat → Nat → Nat → Nat → Bool} (u : Nat) : ∀ l0 l1 l2 l3 l4 M n c : Nat, gxJ G gY_128 K 7 [] [gR 2 (l0), gR 0 (l1), gI (l2), gI (l3), gI (l4)] M n c (fi_128_W7 K u l0 l1 l2 l3 l4 M n c) := by
  induction u with
  | zero => intro l0 l1 l2 l3 l4 M n c; exact gj_false
  | succ u ih => intro l0 l1 l2 l3 l4 M n c; exact hb_128_B7 hG ih l0 l1 l2 l3 l4 M n c
noncomputable def fi_128_L0 (K : Nat → Nat → Nat → Nat → Bool) (l0 l1 M n c : Nat) : Bool := fi_128_W7 K 65536 (l0) (l1) (0) (1) (0) M n c
theorem h_128_L0 {G : gxG} (hG : gxG0 G) {K : Nat → Nat → Nat → Nat → Bool} (l0 l1 M n c : Nat) : gxJ G gY_128 K 0 [] [gR 2 (l0), gR 0 (l1), gB, gB, gB] M n c (fi_128_L0 K l0 l1 M n c) := by
  unfold fi_128_L0
  refine gr_iconst (pc := 0) (z := 0) 0 (show decode (gy_b gY_128) 0 = .ok (.iconst (0), 1) by decide +kernel) kc_0 ?_
  refine gr_istore_n (pc := 1) (i := 2) (L' := [gR 2 (l0), gR 0 (l1), gI (0), gB, gB]) (show decode (gy_b gY_128) 1 = .ok (.istore_n 2, 1) by decide +kernel) rfl (by decide) rfl rfl ?_
  refine gr_iconst (pc := 2) (z := 1) 1 (show decode (gy_b gY_128) 2 = .ok (.iconst (1), 1) by decide +kernel) kc_1 ?_
  refine gr_istore_n (pc := 3) (i := 3) (L' := [gR 2 (l0), gR 0 (l1), gI (0), gI (1), gB]) (show decode (gy_b gY_128) 3 = .ok (.istore_n 3, 1) by decide +kernel) rfl (by decide) rfl rfl ?_
  refine gr_iconst (pc := 4) (z := 0) 0 (show decode (gy_b gY_128) 4 = .ok (.iconst (0), 1) by decide +kernel) kc_0 ?_
  refine gr_istore (pc := 5) (i := 4) (L' := [gR 2 (l0), gR 0 (l1), gI (0), gI (1), gI (0)]) (show decode (gy_b gY_128) 5 = .ok (.istore 4, 2) by decide +kernel) (by decide) rfl rfl ?_
  exact hw_128_7 hG 65536 (l0) (l1) (0) (1) (0) M n c
noncomputable def fi_128 (l0 l1 M n c : Nat) (K : Nat → Nat → Nat → Nat → Bool) : Bool := fi_128_L0 K l0 l1 M n c
theorem hm_128 {G : gxG} (hG : gxG0 G) (l0 l1 : Nat) : gxM G gY_128 yX2_putText [gR 2 (l0), gR 0 (l1)] (fi_128 l0 l1) := gxM_of (L := [gR 2 (l0), gR 0 (l1), gB, gB, gB]) hG 3 (by decide +kernel) rfl rfl rfl rfl (List.forall_mem_cons.mpr ⟨rfl, List.forall_mem_cons.mpr ⟨rfl, fun _ h => nomatch h⟩⟩) (fun M n c K => h_128_L0 hG  l0 l1 M n c)
/-! Farfiles$Log tellFile (LFarfiles$ActSet;ILFarfiles$Answers;)V -/
def gY_129 : gxY := (false, prog_7_method_9_code, 5, (Option.none : Option FieldType), "Farfiles$Log", 4, 107, 5, [], "tellFile")
theorem ok_129 {Y : gxY} (h1 : gy_f gY_129 + 1 ≤ gy_f Y) (h2 : 8 + (gy_l gY_129 + 11) + gy_k gY_129 ≤ gy_k Y) : gh_ok Y gY_129 yX5_tellFile 3 := ⟨wd_1205, wd_53, ⟨by decide, by decide⟩, by decide +kernel, h1, h2⟩
noncomputable def fi_129_L44 (K : Nat → Nat → Nat → Nat → Bool) (ih_13 : Nat → Nat → Nat → Nat → Nat → Nat → Bool) (l0 l3 l4 M n c : Nat) : Bool := gx_add (l4) 1 (fun z16 => ih_13 (l0) (l3) (z16) M n c)
theorem h_129_L44 {G : gxG} (hG : gxG0 G) {K : Nat → Nat → Nat → Nat → Bool} {ih_13 : Nat → Nat → Nat → Nat → Nat → Nat → Bool} (hi_13 : ∀ l0 l3 l4 M n c : Nat, gxJ G gY_129 K 13 [] [gR 5 (l0), gB, gB, gR 2 (l3), gI (l4)] M n c (ih_13 l0 l3 l4 M n c)) (l0 l3 l4 M n c : Nat) : gxJ G gY_129 K 44 [] [gR 5 (l0), gB, gB, gR 2 (l3), gI (l4)] M n c (fi_129_L44 K ih_13 l0 l3 l4 M n c) := by
  unfold fi_129_L44
  refine gr_iinc (pc := 44) (i := 4) (d := 1) (z := 1) (L' := fun z16 => [gR 5 (l0), gB, gB, gR 2 (l3), gI (z16)]) (show decode (gy_b gY_129) 44 = .ok (.iinc 4 (1), 3) by decide +kernel) (by decide +kernel) (by decide) rfl rfl (fun _ => rfl) ?_
  intro z16
  refine gr_goto (pc := 47) (tgt := 13) (off := -34) (show decode (gy_b gY_129) 47 = .ok (.goto (-34), 3) by decide +kernel) (by decide) ?_
  exact hi_13 (l0) (l3) (z16) M n c
noncomputable def fi_129_B13 (K : Nat → Nat → Nat → Nat → Bool) (ih_13 : Nat → Nat → Nat → Nat → Nat → Nat → Bool) (l0 l3 l4 M n c : Nat) : Bool := gx_get (l0) 4 M (fun v9 => gx_lt (l4) (v9) (gx_get (l0) 2 M (fun v11 => gx_nn (v11) (fi_69 (v11) (l4) M n c (fun v12 M13 n14 c15 => gx_eq (v12) 0 (fi_129_L44 K ih_13 (l0) (l3) (l4) M13 n14 c15) (gx_nn (l0) (fi_70 (l0) (l4) M13 n14 c15 (fun v17 M18 n19 c20 => gx_nn (l3) (fi_128 (l3) (v17) M18 n19 c20 (fun v21 M22 n23 c24 => fi_129_L44 K ih_13 (l0) (l3) (l4) M22 n23 c24))))))))) (gx_get (l3) 3 M (fun v10 => gx_eq (v10) 0 (false) (K 0 M n c))))
theorem hb_129_B13 {G : gxG} (hG : gxG0 G) {K : Nat → Nat → Nat → Nat → Bool} {ih_13 : Nat → Nat → Nat → Nat → Nat → Nat → Bool} (hi_13 : ∀ l0 l3 l4 M n c : Nat, gxJ G gY_129 K 13 [] [gR 5 (l0), gB, gB, gR 2 (l3), gI (l4)] M n c (ih_13 l0 l3 l4 M n c)) (l0 l3 l4 M n c : Nat) : gxJ G gY_129 K 13 [] [gR 5 (l0), gB, gB, gR 2 (l3), gI (l4)] M n c (fi_129_B13 K ih_13 l0 l3 l4 M n c) := by
  unfold fi_129_B13
  refine gr_iload (pc := 13) (i := 4) (l4) (show decode (gy_b gY_129) 13 = .ok (.iload 4, 2) by decide +kernel) rfl ?_
  refine gr_aload_n (pc := 15) (i := 0) 5 (l0) (show decode (gy_b gY_129) 15 = .ok (.aload_n 0, 1) by decide +kernel) rfl rfl ?_
  refine gr_getf (pc := 16) (index := 38) (t := 5) (j := 4) (σ := 0) (sv := gI) (show decode (gy_b gY_129) 16 = .ok (.getfield 38, 3) by decide +kernel) rfl rfl (fun _ => rfl) wd_179 (by decide) ?_
  intro v9
  refine gr_icmp_ge (pc := 19) (tgt := 50) (off := 31) hG.2.1 (show decode (gy_b gY_129) 19 = .ok (.if_icmp .ge (31), 3) by decide +kernel) (by decide) ?_ ?_
  · refine gr_aload_n (pc := 50) (i := 3) 2 (l3) (show decode (gy_b gY_129) 50 = .ok (.aload_n 3, 1) by decide +kernel) rfl rfl ?_
    refine gr_getfN (pc := 51) (index := 106) (t := 2) (j := 3) (σ := 0) (sv := gI) (show decode (gy_b gY_129) 51 = .ok (.getfield 106, 3) by decide +kernel) rfl rfl (fun _ => rfl) wd_204 (by decide) ?_
    intro v10
    refine gr_ifne (pc := 54) (tgt := 65) (off := 11) hG.2.1 (show decode (gy_b gY_129) 54 = .ok (.ifCond .ne (11), 3) by decide +kernel) (by decide) ?_ ?_
    · exact gr_return (pc := 65) (show decode (gy_b gY_129) 65 = .ok (.return_, 1) by decide +kernel) rfl rfl
    · exact gj_false
  · refine gr_aload_n (pc := 22) (i := 0) 5 (l0) (show decode (gy_b gY_129) 22 = .ok (.aload_n 0, 1) by decide +kernel) rfl rfl ?_
    refine gr_getf (pc := 23) (index := 31) (t := 5) (j := 2) (σ := 9) (sv := (gR 1)) (show decode (gy_b gY_129) 23 = .ok (.getfield 31, 3) by decide +kernel) rfl rfl (fun _ => rfl) wd_177 (by decide) ?_
    intro v11
    refine gr_iload (pc := 26) (i := 4) (l4) (show decode (gy_b gY_129) 26 = .ok (.iload 4, 2) by decide +kernel) rfl ?_
    refine gj_nn (fun hx28 => ?_)
    refine gj_c0 (pc := 28) (Y' := gY_69) (y := yX1_has) (vs := [gR 1 (v11), gI (l4)]) (rest := []) (rs := fun v12 => [gI (v12)]) [gI (l4), gR 1 (v11)] rfl (hm_69 hG (v11) (l4)) rfl (gh_V (t := 1) (vs := [gI (l4)]) (rest := []) (show decode (gy_b gY_129) 28 = .ok (.invokevirtual 52, 3) by decide +kernel) rfl hx28 rfl rfl (ok_69 (by decide) (by decide)) wd_990 wd_923 wd_924 (Nat.le_of_ble_eq_true rfl)) (fun _ => rfl) ?_
    intro v12 M13 n14 c15
    refine gr_ifeq (pc := 31) (tgt := 44) (off := 13) hG.2.1 (show decode (gy_b gY_129) 31 = .ok (.ifCond .eq (13), 3) by decide +kernel) (by decide) ?_ ?_
    · exact h_129_L44 hG hi_13 (l0) (l3) (l4) M13 n14 c15
    · refine gr_aload_n (pc := 34) (i := 3) 2 (l3) (show decode (gy_b gY_129) 34 = .ok (.aload_n 3, 1) by decide +kernel) rfl rfl ?_
      refine gr_aload_n (pc := 35) (i := 0) 5 (l0) (show decode (gy_b gY_129) 35 = .ok (.aload_n 0, 1) by decide +kernel) rfl rfl ?_
      refine gr_iload (pc := 36) (i := 4) (l4) (show decode (gy_b gY_129) 36 = .ok (.iload 4, 2) by decide +kernel) rfl ?_
      refine gj_nn (fun hx38 => ?_)
      refine gj_c0 (pc := 38) (Y' := gY_70) (y := yX5_at) (vs := [gR 5 (l0), gI (l4)]) (rest := [gR 2 (l3)]) (rs := fun v17 => [gR 0 (v17), gR 2 (l3)]) [gI (l4), gR 5 (l0)] rfl (hm_70 hG (l0) (l4)) rfl (gh_V (t := 5) (vs := [gI (l4)]) (rest := [gR 2 (l3)]) (show decode (gy_b gY_129) 38 = .ok (.invokevirtual 45, 3) by decide +kernel) rfl hx38 rfl rfl (ok_70 (by decide) (by decide)) wd_989 wd_927 wd_928 (Nat.le_of_ble_eq_true rfl)) (fun _ => rfl) ?_
      intro v17 M18 n19 c20
      refine gj_nn (fun hx41 => ?_)
      refine gj_c0 (pc := 41) (Y' := gY_128) (y := yX2_putText) (vs := [gR 2 (l3), gR 0 (v17)]) (rest := []) (rs := fun v21 => []) [gR 0 (v17), gR 2 (l3)] rfl (hm_128 hG (l3) (v17)) rfl (gh_V (t := 2) (vs := [gR 0 (v17)]) (rest := []) (show decode (gy_b gY_129) 41 = .ok (.invokevirtual 102, 3) by decide +kernel) rfl hx41 rfl rfl (ok_128 (by decide) (by decide)) wd_1206 wd_1207 wd_1208 (Nat.le_of_ble_eq_true rfl)) (fun _ => rfl) ?_
      intro v21 M22 n23 c24
      exact h_129_L44 hG hi_13 (l0) (l3) (l4) M22 n23 c24
noncomputable def fi_129_W13 (K : Nat → Nat → Nat → Nat → Bool) (u : Nat) : Nat → Nat → Nat → Nat → Nat → Nat → Bool := Nat.rec (motive := fun _ => Nat → Nat → Nat → Nat → Nat → Nat → Bool) (fun _ _ _ _ _ _ => false) (fun _ ih => fi_129_B13 K ih) u
theorem hw_129_13 {G : gxG} (hG : gxG0 G) {K : Nat → Nat → Nat → Nat → Bool} (u : Nat) : ∀ l0 l3 l4 M n c : Nat, gxJ G gY_129 K 13 [] [gR 5 (l0), gB, gB, gR 2 (l3), gI (l4)] M n c (fi_129_W13 K u l0 l3 l4 M n c) := by
  induction u with
  | zero => intro l0 l3 l4 M n c; exact gj_false
  | succ u ih => intro l0 l3 l4 M n c; exact hb_129_B13 hG ih l0 l3 l4 M n c
noncomputable def fi_129_L0 (K : Nat → Nat → Nat → Nat → Bool) (l0 l1 l2 l3 M n c : Nat) : Bool := gx_nn (l0) (fi_80 (l0) (l1) (l2) M n c (fun v1 M2 n3 c4 => gx_nn (l3) (fi_121 (l3) M2 n3 c4 (fun v5 M6 n7 c8 => fi_129_W13 K 65536 (l0) (l3) (0) M6 n7 c8))))
theorem h_129_L0 {G : gxG} (hG : gxG0 G) {K : Nat → Nat → Nat → Nat → Bool} (l0 l1 l2 l3 M n c : Nat) : gxJ G gY_129 K 0 [] [gR 5 (l0), gR 1 (l1), gI (l2), gR 2 (l3), gB] M n c (fi_129_L0 K l0 l1 l2 l3 M n c) := by
  unfold fi_129_L0
  refine gr_aload_n (pc := 0) (i := 0) 5 (l0) (show decode (gy_b gY_129) 0 = .ok (.aload_n 0, 1) by decide +kernel) rfl rfl ?_
  refine gr_aload_n (pc := 1) (i := 1) 1 (l1) (show decode (gy_b gY_129) 1 = .ok (.aload_n 1, 1) by decide +kernel) rfl rfl ?_
  refine gr_iload_n (pc := 2) (i := 2) (l2) (show decode (gy_b gY_129) 2 = .ok (.iload_n 2, 1) by decide +kernel) rfl rfl ?_
  refine gj_nn (fun hx3 => ?_)
  refine gj_c0 (pc := 3) (Y' := gY_80) (y := yX5_gather) (vs := [gR 5 (l0), gR 1 (l1), gI (l2)]) (rest := []) (rs := fun v1 => []) [gI (l2), gR 1 (l1), gR 5 (l0)] rfl (hm_80 hG (l0) (l1) (l2)) rfl (gh_V (t := 5) (vs := [gR 1 (l1), gI (l2)]) (rest := []) (show decode (gy_b gY_129) 3 = .ok (.invokevirtual 87, 3) by decide +kernel) rfl hx3 rfl rfl (ok_80 (by decide) (by decide)) wd_981 wd_983 wd_22 (Nat.le_of_ble_eq_true rfl)) (fun _ => rfl) ?_
  intro v1 M2 n3 c4
  refine gr_aload_n (pc := 6) (i := 3) 2 (l3) (show decode (gy_b gY_129) 6 = .ok (.aload_n 3, 1) by decide +kernel) rfl rfl ?_
  refine gj_nn (fun hx7 => ?_)
  refine gj_c0 (pc := 7) (Y' := gY_121) (y := yX2_empty) (vs := [gR 2 (l3)]) (rest := []) (rs := fun v5 => []) [gR 2 (l3)] rfl (hm_121 hG (l3)) rfl (gh_V (t := 2) (vs := []) (rest := []) (show decode (gy_b gY_129) 7 = .ok (.invokevirtual 99, 3) by decide +kernel) rfl hx7 rfl rfl (ok_121 (by decide) (by decide)) wd_1190 wd_1191 wd_1192 (Nat.le_of_ble_eq_true rfl)) (fun _ => rfl) ?_
  intro v5 M6 n7 c8
  refine gr_iconst (pc := 10) (z := 0) 0 (show decode (gy_b gY_129) 10 = .ok (.iconst (0), 1) by decide +kernel) kc_0 ?_
  refine gr_istore (pc := 11) (i := 4) (L' := [gR 5 (l0), gR 1 (l1), gI (l2), gR 2 (l3), gI (0)]) (show decode (gy_b gY_129) 11 = .ok (.istore 4, 2) by decide +kernel) (by decide) rfl rfl ?_
  refine gr_wk [true, false, false, true, true] rfl ?_
  exact hw_129_13 hG 65536 (l0) (l3) (0) M6 n7 c8
noncomputable def fi_129 (l0 l1 l2 l3 M n c : Nat) (K : Nat → Nat → Nat → Nat → Bool) : Bool := fi_129_L0 K l0 l1 l2 l3 M n c
theorem hm_129 {G : gxG} (hG : gxG0 G) (l0 l1 l2 l3 : Nat) : gxM G gY_129 yX5_tellFile [gR 5 (l0), gR 1 (l1), gI (l2), gR 2 (l3)] (fi_129 l0 l1 l2 l3) := gxM_of (L := [gR 5 (l0), gR 1 (l1), gI (l2), gR 2 (l3), gB]) hG 1 (by decide +kernel) rfl rfl rfl rfl (List.forall_mem_cons.mpr ⟨rfl, List.forall_mem_cons.mpr ⟨rfl, List.forall_mem_cons.mpr ⟨rfl, List.forall_mem_cons.mpr ⟨rfl, fun _ h => nomatch h⟩⟩⟩⟩) (fun M n c K => h_129_L0 hG  l0 l1 l2 l3 M n c)
