/-! METHODS 11 -/
set_option maxRecDepth 100000
/-! Farfiles rename (I)I -/
def gY_159 : gxY := (true, prog_1_method_43_code, 7, (Option.some Jvm.ClassFile.FieldType.int), "Farfiles", 11, 203, 0, [], "rename")
theorem ok_159 {Y : gxY} (h1 : gy_f gY_159 + 1 ≤ gy_f Y) (h2 : 8 + (gy_l gY_159 + 11) + gy_k gY_159 ≤ gy_k Y) : gh_ok Y gY_159 yX7_rename 1 := ⟨wd_1335, wd_51, ⟨by decide, by decide⟩, by decide +kernel, h1, h2⟩
noncomputable def fi_159_L84 (K : Nat → Nat → Nat → Nat → Bool) (l0 l2 l4 l5 l6 M n c : Nat) : Bool := gx_nn (l0) (fi_89 (l0) (2) M n c (fun v38 M39 n40 c41 => gx_get (l0) 9 M39 (fun v42 => gx_nn (v42) (fi_86 (v42) M39 n40 c41 (fun v43 M44 n45 c46 => gx_nn (l0) (fi_95 (l0) (l2) (l6) (v43) (l5) M44 n45 c46 (fun v47 M48 n49 c50 => gx_get (l0) 8 M48 (fun v51 => gx_nn (v51) (fi_86 (v51) M48 n49 c50 (fun v52 M53 n54 c55 => gx_nn (l0) (fi_145 (l0) (l2) (l4) (v52) (l5) M53 n54 c55 (fun v56 M57 n58 c59 => gx_rt gx_f0 (l5) (K (l5) M57 n58 c59)))))))))))))
theorem h_159_L84 {G : gxG} (hG : gxG0 G) {K : Nat → Nat → Nat → Nat → Bool} (l0 l2 l4 l5 l6 M n c : Nat) : gxJ G gY_159 K 84 [] [gR 7 (l0), gB, gR 3 (l2), gB, gI (l4), gI (l5), gI (l6)] M n c (fi_159_L84 K l0 l2 l4 l5 l6 M n c) := by
  unfold fi_159_L84
  refine gr_aload_n (pc := 84) (i := 0) 7 (l0) (show decode (gy_b gY_159) 84 = .ok (.aload_n 0, 1) by decide +kernel) rfl rfl ?_
  refine gr_iconst (pc := 85) (z := 2) 2 (show decode (gy_b gY_159) 85 = .ok (.iconst (2), 1) by decide +kernel) kc_2 ?_
  refine gj_nn (fun hx86 => ?_)
  refine gj_c0 (pc := 86) (Y' := gY_89) (y := yX7_refuseIfTooFew) (vs := [gR 7 (l0), gI (2)]) (rest := []) (rs := fun v38 => []) [gI (2), gR 7 (l0)] rfl (hm_89 hG (l0) (2)) rfl (gh_V (t := 7) (vs := [gI (2)]) (rest := []) (show decode (gy_b gY_159) 86 = .ok (.invokevirtual 305, 3) by decide +kernel) rfl hx86 rfl rfl (ok_89 (by decide) (by decide)) wd_1018 wd_1020 wd_26 (Nat.le_of_ble_eq_true rfl)) (fun _ => rfl) ?_
  intro v38 M39 n40 c41
  refine gr_aload_n (pc := 89) (i := 0) 7 (l0) (show decode (gy_b gY_159) 89 = .ok (.aload_n 0, 1) by decide +kernel) rfl rfl ?_
  refine gr_aload_n (pc := 90) (i := 2) 3 (l2) (show decode (gy_b gY_159) 90 = .ok (.aload_n 2, 1) by decide +kernel) rfl rfl ?_
  refine gr_iload (pc := 91) (i := 6) (l6) (show decode (gy_b gY_159) 91 = .ok (.iload 6, 2) by decide +kernel) rfl ?_
  refine gr_aload_n (pc := 93) (i := 0) 7 (l0) (show decode (gy_b gY_159) 93 = .ok (.aload_n 0, 1) by decide +kernel) rfl rfl ?_
  refine gr_getf (pc := 94) (index := 59) (t := 7) (j := 9) (σ := 14) (sv := (gR 6)) (show decode (gy_b gY_159) 94 = .ok (.getfield 59, 3) by decide +kernel) rfl rfl (fun _ => rfl) wd_303 (by decide) ?_
  intro v42
  refine gj_nn (fun hx97 => ?_)
  refine gj_c0 (pc := 97) (Y' := gY_86) (y := yX6_lastName) (vs := [gR 6 (v42)]) (rest := [gI (l6), gR 3 (l2), gR 7 (l0)]) (rs := fun v43 => [gI (v43), gI (l6), gR 3 (l2), gR 7 (l0)]) [gR 6 (v42)] rfl (hm_86 hG (v42)) rfl (gh_V (t := 6) (vs := []) (rest := [gI (l6), gR 3 (l2), gR 7 (l0)]) (show decode (gy_b gY_159) 97 = .ok (.invokevirtual 228, 3) by decide +kernel) rfl hx97 rfl rfl (ok_86 (by decide) (by decide)) wd_1009 wd_1010 wd_1011 (Nat.le_of_ble_eq_true rfl)) (fun _ => rfl) ?_
  intro v43 M44 n45 c46
  refine gr_iload (pc := 100) (i := 5) (l5) (show decode (gy_b gY_159) 100 = .ok (.iload 5, 2) by decide +kernel) rfl ?_
  refine gj_nn (fun hx102 => ?_)
  refine gj_c0 (pc := 102) (Y' := gY_95) (y := yX7_addEntry) (vs := [gR 7 (l0), gR 3 (l2), gI (l6), gI (v43), gI (l5)]) (rest := []) (rs := fun v47 => []) [gI (l5), gI (v43), gI (l6), gR 3 (l2), gR 7 (l0)] rfl (hm_95 hG (l0) (l2) (l6) (v43) (l5)) rfl (gh_V (t := 7) (vs := [gR 3 (l2), gI (l6), gI (v43), gI (l5)]) (rest := []) (show decode (gy_b gY_159) 102 = .ok (.invokevirtual 308, 3) by decide +kernel) rfl hx102 rfl rfl (ok_95 (by decide) (by decide)) wd_1026 wd_1028 wd_27 (Nat.le_of_ble_eq_true rfl)) (fun _ => rfl) ?_
  intro v47 M48 n49 c50
  refine gr_aload_n (pc := 105) (i := 0) 7 (l0) (show decode (gy_b gY_159) 105 = .ok (.aload_n 0, 1) by decide +kernel) rfl rfl ?_
  refine gr_aload_n (pc := 106) (i := 2) 3 (l2) (show decode (gy_b gY_159) 106 = .ok (.aload_n 2, 1) by decide +kernel) rfl rfl ?_
  refine gr_iload (pc := 107) (i := 4) (l4) (show decode (gy_b gY_159) 107 = .ok (.iload 4, 2) by decide +kernel) rfl ?_
  refine gr_aload_n (pc := 109) (i := 0) 7 (l0) (show decode (gy_b gY_159) 109 = .ok (.aload_n 0, 1) by decide +kernel) rfl rfl ?_
  refine gr_getf (pc := 110) (index := 55) (t := 7) (j := 8) (σ := 14) (sv := (gR 6)) (show decode (gy_b gY_159) 110 = .ok (.getfield 55, 3) by decide +kernel) rfl rfl (fun _ => rfl) wd_302 (by decide) ?_
  intro v51
  refine gj_nn (fun hx113 => ?_)
  refine gj_c0 (pc := 113) (Y' := gY_86) (y := yX6_lastName) (vs := [gR 6 (v51)]) (rest := [gI (l4), gR 3 (l2), gR 7 (l0)]) (rs := fun v52 => [gI (v52), gI (l4), gR 3 (l2), gR 7 (l0)]) [gR 6 (v51)] rfl (hm_86 hG (v51)) rfl (gh_V (t := 6) (vs := []) (rest := [gI (l4), gR 3 (l2), gR 7 (l0)]) (show decode (gy_b gY_159) 113 = .ok (.invokevirtual 228, 3) by decide +kernel) rfl hx113 rfl rfl (ok_86 (by decide) (by decide)) wd_1009 wd_1010 wd_1011 (Nat.le_of_ble_eq_true rfl)) (fun _ => rfl) ?_
  intro v52 M53 n54 c55
  refine gr_iload (pc := 116) (i := 5) (l5) (show decode (gy_b gY_159) 116 = .ok (.iload 5, 2) by decide +kernel) rfl ?_
  refine gj_nn (fun hx118 => ?_)
  refine gj_c0 (pc := 118) (Y' := gY_145) (y := yX7_cutEntries) (vs := [gR 7 (l0), gR 3 (l2), gI (l4), gI (v52), gI (l5)]) (rest := []) (rs := fun v56 => []) [gI (l5), gI (v52), gI (l4), gR 3 (l2), gR 7 (l0)] rfl (hm_145 hG (l0) (l2) (l4) (v52) (l5)) rfl (gh_V (t := 7) (vs := [gR 3 (l2), gI (l4), gI (v52), gI (l5)]) (rest := []) (show decode (gy_b gY_159) 118 = .ok (.invokevirtual 337, 3) by decide +kernel) rfl hx118 rfl rfl (ok_145 (by decide) (by decide)) wd_1287 wd_1289 wd_43 (Nat.le_of_ble_eq_true rfl)) (fun _ => rfl) ?_
  intro v56 M57 n58 c59
  refine gr_iload (pc := 121) (i := 5) (l5) (show decode (gy_b gY_159) 121 = .ok (.iload 5, 2) by decide +kernel) rfl ?_
  exact gr_ireturn (pc := 123) (show decode (gy_b gY_159) 123 = .ok (.ireturn, 1) by decide +kernel) rfl rfl (by decide) gv_0
noncomputable def fi_159_L43 (K : Nat → Nat → Nat → Nat → Bool) (l0 l2 l4 l5 s0 s1 M n c : Nat) : Bool := gx_get (l0) 9 M (fun v19 => gx_nn (s0) (fi_85 (s0) (s1) (v19) M n c (fun v20 M21 n22 c23 => gx_thr K v20 M21 n22 c23 (gx_get (l0) 9 M21 (fun v24 => gx_nn (v24) (fi_86 (v24) M21 n22 c23 (fun v25 M26 n27 c28 => gx_nn (l0) (fi_87 (l0) (l2) (v20) (v25) M26 n27 c28 (fun v29 M30 n31 c32 => gx_get (l0) 9 M30 (fun v33 => gx_nn (v33) (fi_158 (v33) (l5) M30 n31 c32 (fun v34 M35 n36 c37 => gx_eq (v34) 0 (fi_159_L84 K (l0) (l2) (l4) (l5) (v20) M35 n36 c37) (gx_nn (l0) (fd_ref (l0) (99) M35 n36 c37 (fun v60 M61 n62 c63 => gx_thr K v60 M61 n62 c63 (fi_159_L84 K (l0) (l2) (l4) (l5) (v20) M61 n62 c63))))))))))))))))
theorem h_159_L43 {G : gxG} (hG : gxG0 G) {K : Nat → Nat → Nat → Nat → Bool} (l0 l2 l4 l5 s0 s1 M n c : Nat) : gxJ G gY_159 K 43 [gR 3 (s1), gR 7 (s0)] [gR 7 (l0), gB, gR 3 (l2), gB, gI (l4), gI (l5), gB] M n c (fi_159_L43 K l0 l2 l4 l5 s0 s1 M n c) := by
  unfold fi_159_L43
  refine gr_aload_n (pc := 43) (i := 0) 7 (l0) (show decode (gy_b gY_159) 43 = .ok (.aload_n 0, 1) by decide +kernel) rfl rfl ?_
  refine gr_getf (pc := 44) (index := 59) (t := 7) (j := 9) (σ := 14) (sv := (gR 6)) (show decode (gy_b gY_159) 44 = .ok (.getfield 59, 3) by decide +kernel) rfl rfl (fun _ => rfl) wd_303 (by decide) ?_
  intro v19
  refine gj_nn (fun hx47 => ?_)
  refine gj_c1 (pc := 47) (Y' := gY_85) (y := yX7_goToDirectory) (vs := [gR 7 (s0), gR 3 (s1), gR 6 (v19)]) (rest := []) (rs := fun v20 => [gI (v20)]) [gR 6 (v19), gR 3 (s1), gR 7 (s0)] rfl (hm_85 hG (s0) (s1) (v19)) rfl rfl (gh_V (t := 7) (vs := [gR 3 (s1), gR 6 (v19)]) (rest := []) (show decode (gy_b gY_159) 47 = .ok (.invokevirtual 318, 3) by decide +kernel) rfl hx47 rfl rfl (ok_85 (by decide) (by decide)) wd_867 wd_869 wd_15 (Nat.le_of_ble_eq_true rfl)) (fun _ => rfl) ?_
  intro v20 M21 n22 c23
  refine gr_istore (pc := 50) (i := 6) (L' := [gR 7 (l0), gB, gR 3 (l2), gB, gI (l4), gI (l5), gI (v20)]) (show decode (gy_b gY_159) 50 = .ok (.istore 6, 2) by decide +kernel) (by decide) rfl rfl ?_
  refine gr_aload_n (pc := 52) (i := 0) 7 (l0) (show decode (gy_b gY_159) 52 = .ok (.aload_n 0, 1) by decide +kernel) rfl rfl ?_
  refine gr_aload_n (pc := 53) (i := 2) 3 (l2) (show decode (gy_b gY_159) 53 = .ok (.aload_n 2, 1) by decide +kernel) rfl rfl ?_
  refine gr_iload (pc := 54) (i := 6) (v20) (show decode (gy_b gY_159) 54 = .ok (.iload 6, 2) by decide +kernel) rfl ?_
  refine gr_aload_n (pc := 56) (i := 0) 7 (l0) (show decode (gy_b gY_159) 56 = .ok (.aload_n 0, 1) by decide +kernel) rfl rfl ?_
  refine gr_getf (pc := 57) (index := 59) (t := 7) (j := 9) (σ := 14) (sv := (gR 6)) (show decode (gy_b gY_159) 57 = .ok (.getfield 59, 3) by decide +kernel) rfl rfl (fun _ => rfl) wd_303 (by decide) ?_
  intro v24
  refine gj_nn (fun hx60 => ?_)
  refine gj_c0 (pc := 60) (Y' := gY_86) (y := yX6_lastName) (vs := [gR 6 (v24)]) (rest := [gI (v20), gR 3 (l2), gR 7 (l0)]) (rs := fun v25 => [gI (v25), gI (v20), gR 3 (l2), gR 7 (l0)]) [gR 6 (v24)] rfl (hm_86 hG (v24)) rfl (gh_V (t := 6) (vs := []) (rest := [gI (v20), gR 3 (l2), gR 7 (l0)]) (show decode (gy_b gY_159) 60 = .ok (.invokevirtual 228, 3) by decide +kernel) rfl hx60 rfl rfl (ok_86 (by decide) (by decide)) wd_1009 wd_1010 wd_1011 (Nat.le_of_ble_eq_true rfl)) (fun _ => rfl) ?_
  intro v25 M26 n27 c28
  refine gj_nn (fun hx63 => ?_)
  refine gj_c0 (pc := 63) (Y' := gY_87) (y := yX7_refuseIfThere) (vs := [gR 7 (l0), gR 3 (l2), gI (v20), gI (v25)]) (rest := []) (rs := fun v29 => []) [gI (v25), gI (v20), gR 3 (l2), gR 7 (l0)] rfl (hm_87 hG (l0) (l2) (v20) (v25)) rfl (gh_V (t := 7) (vs := [gR 3 (l2), gI (v20), gI (v25)]) (rest := []) (show decode (gy_b gY_159) 63 = .ok (.invokevirtual 298, 3) by decide +kernel) rfl hx63 rfl rfl (ok_87 (by decide) (by decide)) wd_1014 wd_1016 wd_25 (Nat.le_of_ble_eq_true rfl)) (fun _ => rfl) ?_
  intro v29 M30 n31 c32
  refine gr_aload_n (pc := 66) (i := 0) 7 (l0) (show decode (gy_b gY_159) 66 = .ok (.aload_n 0, 1) by decide +kernel) rfl rfl ?_
  refine gr_getf (pc := 67) (index := 59) (t := 7) (j := 9) (σ := 14) (sv := (gR 6)) (show decode (gy_b gY_159) 67 = .ok (.getfield 59, 3) by decide +kernel) rfl rfl (fun _ => rfl) wd_303 (by decide) ?_
  intro v33
  refine gr_iload (pc := 70) (i := 5) (l5) (show decode (gy_b gY_159) 70 = .ok (.iload 5, 2) by decide +kernel) rfl ?_
  refine gj_nn (fun hx72 => ?_)
  refine gj_c0 (pc := 72) (Y' := gY_158) (y := yX6_hasOnWay) (vs := [gR 6 (v33), gI (l5)]) (rest := []) (rs := fun v34 => [gI (v34)]) [gI (l5), gR 6 (v33)] rfl (hm_158 hG (v33) (l5)) rfl (gh_V (t := 6) (vs := [gI (l5)]) (rest := []) (show decode (gy_b gY_159) 72 = .ok (.invokevirtual 343, 3) by decide +kernel) rfl hx72 rfl rfl (ok_158 (by decide) (by decide)) wd_1340 wd_1341 wd_1342 (Nat.le_of_ble_eq_true rfl)) (fun _ => rfl) ?_
  intro v34 M35 n36 c37
  refine gr_ifeq (pc := 75) (tgt := 84) (off := 9) hG.2.1 (show decode (gy_b gY_159) 75 = .ok (.ifCond .eq (9), 3) by decide +kernel) (by decide) ?_ ?_
  · exact h_159_L84 hG (l0) (l2) (l4) (l5) (v20) M35 n36 c37
  · refine gr_aload_n (pc := 78) (i := 0) 7 (l0) (show decode (gy_b gY_159) 78 = .ok (.aload_n 0, 1) by decide +kernel) rfl rfl ?_
    refine gr_bipush (pc := 79) (z := 99) 99 (show decode (gy_b gY_159) 79 = .ok (.bipush (99), 2) by decide +kernel) (by decide +kernel) ?_
    refine gj_nn (fun hx81 => ?_)
    refine gj_c1 (pc := 81) (Y' := gY_refuse) (y := yX7_refuse) (vs := [gR 7 (l0), gI (99)]) (rest := []) (rs := fun v60 => []) [gI (99), gR 7 (l0)] rfl (hm_ref hG (l0) (99)) rfl rfl (gh_V (t := 7) (vs := [gI (99)]) (rest := []) (show decode (gy_b gY_159) 81 = .ok (.invokevirtual 180, 3) by decide +kernel) rfl hx81 rfl rfl (ok_refuse (by decide) (by decide)) wd_871 wd_873 wd_16 (Nat.le_of_ble_eq_true rfl)) (fun _ => rfl) ?_
    intro v60 M61 n62 c63
    exact h_159_L84 hG (l0) (l2) (l4) (l5) (v20) M61 n62 c63
noncomputable def fi_159_L0 (K : Nat → Nat → Nat → Nat → Bool) (l0 l1 M n c : Nat) : Bool := gx_nn (l0) (fi_51 (l0) (l1) M n c (fun v1 M2 n3 c4 => gx_nn (l0) (fi_157 (l0) M2 n3 c4 (fun v5 M6 n7 c8 => gx_lt (v5) 0 (false) (gx_get (l0) 8 M6 (fun v9 => gx_nn (l0) (fi_85 (l0) (v1) (v9) M6 n7 c8 (fun v10 M11 n12 c13 => gx_thr K v10 M11 n12 c13 (gx_get (l0) 8 M11 (fun v14 => gx_nn (l0) (fi_103 (l0) (v1) (v14) (v10) M11 n12 c13 (fun v15 M16 n17 c18 => gx_thr K v15 M16 n17 c18 (fi_159_L43 K (l0) (v1) (v10) (v15) (l0) (v1) M16 n17 c18)))))))))))))
theorem h_159_L0 {G : gxG} (hG : gxG0 G) {K : Nat → Nat → Nat → Nat → Bool} (l0 l1 M n c : Nat) : gxJ G gY_159 K 0 [] [gR 7 (l0), gI (l1), gB, gB, gB, gB, gB] M n c (fi_159_L0 K l0 l1 M n c) := by
  unfold fi_159_L0
  refine gr_aload_n (pc := 0) (i := 0) 7 (l0) (show decode (gy_b gY_159) 0 = .ok (.aload_n 0, 1) by decide +kernel) rfl rfl ?_
  refine gr_iload_n (pc := 1) (i := 1) (l1) (show decode (gy_b gY_159) 1 = .ok (.iload_n 1, 1) by decide +kernel) rfl rfl ?_
  refine gj_nn (fun hx2 => ?_)
  refine gj_c0 (pc := 2) (Y' := gY_51) (y := yX7_callerOf) (vs := [gR 7 (l0), gI (l1)]) (rest := []) (rs := fun v1 => [gR 3 (v1)]) [gI (l1), gR 7 (l0)] rfl (hm_51 hG (l0) (l1)) rfl (gh_V (t := 7) (vs := [gI (l1)]) (rest := []) (show decode (gy_b gY_159) 2 = .ok (.invokevirtual 312, 3) by decide +kernel) rfl hx2 rfl rfl (ok_51 (by decide) (by decide)) wd_811 wd_813 wd_12 (Nat.le_of_ble_eq_true rfl)) (fun _ => rfl) ?_
  intro v1 M2 n3 c4
  refine gr_astore_n (pc := 5) (i := 2) (L' := [gR 7 (l0), gI (l1), gR 3 (v1), gB, gB, gB, gB]) (show decode (gy_b gY_159) 5 = .ok (.astore_n 2, 1) by decide +kernel) rfl (by decide) rfl rfl ?_
  refine gr_aload_n (pc := 6) (i := 0) 7 (l0) (show decode (gy_b gY_159) 6 = .ok (.aload_n 0, 1) by decide +kernel) rfl rfl ?_
  refine gj_nn (fun hx7 => ?_)
  refine gj_c0 (pc := 7) (Y' := gY_157) (y := yX7_takeTwoPaths) (vs := [gR 7 (l0)]) (rest := []) (rs := fun v5 => [gI (v5)]) [gR 7 (l0)] rfl (hm_157 hG (l0)) rfl (gh_V (t := 7) (vs := []) (rest := []) (show decode (gy_b gY_159) 7 = .ok (.invokevirtual 340, 3) by decide +kernel) rfl hx7 rfl rfl (ok_157 (by decide) (by decide)) wd_1336 wd_1338 wd_47 (Nat.le_of_ble_eq_true rfl)) (fun _ => rfl) ?_
  intro v5 M6 n7 c8
  refine gr_istore_n (pc := 10) (i := 3) (L' := [gR 7 (l0), gI (l1), gR 3 (v1), gI (v5), gB, gB, gB]) (show decode (gy_b gY_159) 10 = .ok (.istore_n 3, 1) by decide +kernel) rfl (by decide) rfl rfl ?_
  refine gr_iload_n (pc := 11) (i := 3) (v5) (show decode (gy_b gY_159) 11 = .ok (.iload_n 3, 1) by decide +kernel) rfl rfl ?_
  refine gr_ifge (pc := 12) (tgt := 17) (off := 5) hG.2.1 (show decode (gy_b gY_159) 12 = .ok (.ifCond .ge (5), 3) by decide +kernel) (by decide) ?_ ?_
  · refine gr_aload_n (pc := 17) (i := 0) 7 (l0) (show decode (gy_b gY_159) 17 = .ok (.aload_n 0, 1) by decide +kernel) rfl rfl ?_
    refine gr_aload_n (pc := 18) (i := 2) 3 (v1) (show decode (gy_b gY_159) 18 = .ok (.aload_n 2, 1) by decide +kernel) rfl rfl ?_
    refine gr_aload_n (pc := 19) (i := 0) 7 (l0) (show decode (gy_b gY_159) 19 = .ok (.aload_n 0, 1) by decide +kernel) rfl rfl ?_
    refine gr_getf (pc := 20) (index := 55) (t := 7) (j := 8) (σ := 14) (sv := (gR 6)) (show decode (gy_b gY_159) 20 = .ok (.getfield 55, 3) by decide +kernel) rfl rfl (fun _ => rfl) wd_302 (by decide) ?_
    intro v9
    refine gj_nn (fun hx23 => ?_)
    refine gj_c1 (pc := 23) (Y' := gY_85) (y := yX7_goToDirectory) (vs := [gR 7 (l0), gR 3 (v1), gR 6 (v9)]) (rest := []) (rs := fun v10 => [gI (v10)]) [gR 6 (v9), gR 3 (v1), gR 7 (l0)] rfl (hm_85 hG (l0) (v1) (v9)) rfl rfl (gh_V (t := 7) (vs := [gR 3 (v1), gR 6 (v9)]) (rest := []) (show decode (gy_b gY_159) 23 = .ok (.invokevirtual 318, 3) by decide +kernel) rfl hx23 rfl rfl (ok_85 (by decide) (by decide)) wd_867 wd_869 wd_15 (Nat.le_of_ble_eq_true rfl)) (fun _ => rfl) ?_
    intro v10 M11 n12 c13
    refine gr_istore (pc := 26) (i := 4) (L' := [gR 7 (l0), gI (l1), gR 3 (v1), gI (v5), gI (v10), gB, gB]) (show decode (gy_b gY_159) 26 = .ok (.istore 4, 2) by decide +kernel) (by decide) rfl rfl ?_
    refine gr_aload_n (pc := 28) (i := 0) 7 (l0) (show decode (gy_b gY_159) 28 = .ok (.aload_n 0, 1) by decide +kernel) rfl rfl ?_
    refine gr_aload_n (pc := 29) (i := 2) 3 (v1) (show decode (gy_b gY_159) 29 = .ok (.aload_n 2, 1) by decide +kernel) rfl rfl ?_
    refine gr_aload_n (pc := 30) (i := 0) 7 (l0) (show decode (gy_b gY_159) 30 = .ok (.aload_n 0, 1) by decide +kernel) rfl rfl ?_
    refine gr_getf (pc := 31) (index := 55) (t := 7) (j := 8) (σ := 14) (sv := (gR 6)) (show decode (gy_b gY_159) 31 = .ok (.getfield 55, 3) by decide +kernel) rfl rfl (fun _ => rfl) wd_302 (by decide) ?_
    intro v14
    refine gr_iload (pc := 34) (i := 4) (v10) (show decode (gy_b gY_159) 34 = .ok (.iload 4, 2) by decide +kernel) rfl ?_
    refine gj_nn (fun hx36 => ?_)
    refine gj_c1 (pc := 36) (Y' := gY_103) (y := yX7_goOn) (vs := [gR 7 (l0), gR 3 (v1), gR 6 (v14), gI (v10)]) (rest := []) (rs := fun v15 => [gI (v15)]) [gI (v10), gR 6 (v14), gR 3 (v1), gR 7 (l0)] rfl (hm_103 hG (l0) (v1) (v14) (v10)) rfl rfl (gh_V (t := 7) (vs := [gR 3 (v1), gR 6 (v14), gI (v10)]) (rest := []) (show decode (gy_b gY_159) 36 = .ok (.invokevirtual 330, 3) by decide +kernel) rfl hx36 rfl rfl (ok_103 (by decide) (by decide)) wd_1103 wd_1105 wd_32 (Nat.le_of_ble_eq_true rfl)) (fun _ => rfl) ?_
    intro v15 M16 n17 c18
    refine gr_istore (pc := 39) (i := 5) (L' := [gR 7 (l0), gI (l1), gR 3 (v1), gI (v5), gI (v10), gI (v15), gB]) (show decode (gy_b gY_159) 39 = .ok (.istore 5, 2) by decide +kernel) (by decide) rfl rfl ?_
    refine gr_aload_n (pc := 41) (i := 0) 7 (l0) (show decode (gy_b gY_159) 41 = .ok (.aload_n 0, 1) by decide +kernel) rfl rfl ?_
    refine gr_aload_n (pc := 42) (i := 2) 3 (v1) (show decode (gy_b gY_159) 42 = .ok (.aload_n 2, 1) by decide +kernel) rfl rfl ?_
    refine gr_wk [true, false, true, false, true, true, true] rfl ?_
    exact h_159_L43 hG (l0) (v1) (v10) (v15) (l0) (v1) M16 n17 c18
  · exact gj_false
noncomputable def fi_159 (l0 l1 M n c : Nat) (K : Nat → Nat → Nat → Nat → Bool) : Bool := fi_159_L0 K l0 l1 M n c
theorem hm_159 {G : gxG} (hG : gxG0 G) (l0 l1 : Nat) : gxM G gY_159 yX7_rename [gR 7 (l0), gI (l1)] (fi_159 l0 l1) := gxM_of (L := [gR 7 (l0), gI (l1), gB, gB, gB, gB, gB]) hG 5 (by decide +kernel) rfl rfl rfl rfl (List.forall_mem_cons.mpr ⟨rfl, List.forall_mem_cons.mpr ⟨rfl, fun _ h => nomatch h⟩⟩) (fun M n c K => h_159_L0 hG  l0 l1 M n c)
/-! Farfiles find (I)I -/
def gY_160 : gxY := (true, prog_1_method_49_code, 4, (Option.some Jvm.ClassFile.FieldType.int), "Farfiles", 10, 180, 0, [], "find")
theorem ok_160 {Y : gxY} (h1 : gy_f gY_160 + 1 ≤ gy_f Y) (h2 : 8 + (gy_l gY_160 + 11) + gy_k gY_160 ≤ gy_k Y) : gh_ok Y gY_160 yX7_find 1 := ⟨wd_1347, wd_51, ⟨by decide, by decide⟩, by decide +kernel, h1, h2⟩
noncomputable def fi_160_L0 (K : Nat → Nat → Nat → Nat → Bool) (l0 l1 M n c : Nat) : Bool := gx_nn (l0) (fi_51 (l0) (l1) M n c (fun v1 M2 n3 c4 => gx_nn (l0) (fi_59 (l0) M2 n3 c4 (fun v5 M6 n7 c8 => gx_lt (v5) 0 (false) (gx_get (l0) 8 M6 (fun v9 => gx_get (l0) 8 M6 (fun v10 => gx_get (v10) 3 M6 (fun v11 => gx_nn (l0) (fi_84 (l0) (v1) (v9) (v11) M6 n7 c8 (fun v12 M13 n14 c15 => gx_thr K v12 M13 n14 c15 (false)))))))))))
theorem h_160_L0 {G : gxG} (hG : gxG0 G) {K : Nat → Nat → Nat → Nat → Bool} (l0 l1 M n c : Nat) : gxJ G gY_160 K 0 [] [gR 7 (l0), gI (l1), gB, gB] M n c (fi_160_L0 K l0 l1 M n c) := by
  unfold fi_160_L0
  refine gr_aload_n (pc := 0) (i := 0) 7 (l0) (show decode (gy_b gY_160) 0 = .ok (.aload_n 0, 1) by decide +kernel) rfl rfl ?_
  refine gr_iload_n (pc := 1) (i := 1) (l1) (show decode (gy_b gY_160) 1 = .ok (.iload_n 1, 1) by decide +kernel) rfl rfl ?_
  refine gj_nn (fun hx2 => ?_)
  refine gj_c0 (pc := 2) (Y' := gY_51) (y := yX7_callerOf) (vs := [gR 7 (l0), gI (l1)]) (rest := []) (rs := fun v1 => [gR 3 (v1)]) [gI (l1), gR 7 (l0)] rfl (hm_51 hG (l0) (l1)) rfl (gh_V (t := 7) (vs := [gI (l1)]) (rest := []) (show decode (gy_b gY_160) 2 = .ok (.invokevirtual 312, 3) by decide +kernel) rfl hx2 rfl rfl (ok_51 (by decide) (by decide)) wd_811 wd_813 wd_12 (Nat.le_of_ble_eq_true rfl)) (fun _ => rfl) ?_
  intro v1 M2 n3 c4
  refine gr_astore_n (pc := 5) (i := 2) (L' := [gR 7 (l0), gI (l1), gR 3 (v1), gB]) (show decode (gy_b gY_160) 5 = .ok (.astore_n 2, 1) by decide +kernel) rfl (by decide) rfl rfl ?_
  refine gr_aload_n (pc := 6) (i := 0) 7 (l0) (show decode (gy_b gY_160) 6 = .ok (.aload_n 0, 1) by decide +kernel) rfl rfl ?_
  refine gj_nn (fun hx7 => ?_)
  refine gj_c0 (pc := 7) (Y' := gY_59) (y := yX7_takePath) (vs := [gR 7 (l0)]) (rest := []) (rs := fun v5 => [gI (v5)]) [gR 7 (l0)] rfl (hm_59 hG (l0)) rfl (gh_V (t := 7) (vs := []) (rest := []) (show decode (gy_b gY_160) 7 = .ok (.invokevirtual 238, 3) by decide +kernel) rfl hx7 rfl rfl (ok_59 (by decide) (by decide)) wd_823 wd_825 wd_14 (Nat.le_of_ble_eq_true rfl)) (fun _ => rfl) ?_
  intro v5 M6 n7 c8
  refine gr_istore_n (pc := 10) (i := 3) (L' := [gR 7 (l0), gI (l1), gR 3 (v1), gI (v5)]) (show decode (gy_b gY_160) 10 = .ok (.istore_n 3, 1) by decide +kernel) rfl (by decide) rfl rfl ?_
  refine gr_iload_n (pc := 11) (i := 3) (v5) (show decode (gy_b gY_160) 11 = .ok (.iload_n 3, 1) by decide +kernel) rfl rfl ?_
  refine gr_ifge (pc := 12) (tgt := 19) (off := 7) hG.2.1 (show decode (gy_b gY_160) 12 = .ok (.ifCond .ge (7), 3) by decide +kernel) (by decide) ?_ ?_
  · refine gr_aload_n (pc := 19) (i := 0) 7 (l0) (show decode (gy_b gY_160) 19 = .ok (.aload_n 0, 1) by decide +kernel) rfl rfl ?_
    refine gr_aload_n (pc := 20) (i := 2) 3 (v1) (show decode (gy_b gY_160) 20 = .ok (.aload_n 2, 1) by decide +kernel) rfl rfl ?_
    refine gr_aload_n (pc := 21) (i := 0) 7 (l0) (show decode (gy_b gY_160) 21 = .ok (.aload_n 0, 1) by decide +kernel) rfl rfl ?_
    refine gr_getf (pc := 22) (index := 55) (t := 7) (j := 8) (σ := 14) (sv := (gR 6)) (show decode (gy_b gY_160) 22 = .ok (.getfield 55, 3) by decide +kernel) rfl rfl (fun _ => rfl) wd_302 (by decide) ?_
    intro v9
    refine gr_aload_n (pc := 25) (i := 0) 7 (l0) (show decode (gy_b gY_160) 25 = .ok (.aload_n 0, 1) by decide +kernel) rfl rfl ?_
    refine gr_getf (pc := 26) (index := 55) (t := 7) (j := 8) (σ := 14) (sv := (gR 6)) (show decode (gy_b gY_160) 26 = .ok (.getfield 55, 3) by decide +kernel) rfl rfl (fun _ => rfl) wd_302 (by decide) ?_
    intro v10
    refine gr_getfN (pc := 29) (index := 223) (t := 6) (j := 3) (σ := 0) (sv := gI) (show decode (gy_b gY_160) 29 = .ok (.getfield 223, 3) by decide +kernel) rfl rfl (fun _ => rfl) wd_230 (by decide) ?_
    intro v11
    refine gj_nn (fun hx32 => ?_)
    refine gj_c1 (pc := 32) (Y' := gY_84) (y := yX7_go) (vs := [gR 7 (l0), gR 3 (v1), gR 6 (v9), gI (v11)]) (rest := []) (rs := fun v12 => [gI (v12)]) [gI (v11), gR 6 (v9), gR 3 (v1), gR 7 (l0)] rfl (hm_84 hG (l0) (v1) (v9) (v11)) rfl rfl (gh_V (t := 7) (vs := [gR 3 (v1), gR 6 (v9), gI (v11)]) (rest := []) (show decode (gy_b gY_160) 32 = .ok (.invokevirtual 224, 3) by decide +kernel) rfl hx32 rfl rfl (ok_84 (by decide) (by decide)) wd_891 wd_893 wd_17 (Nat.le_of_ble_eq_true rfl)) (fun _ => rfl) ?_
    intro v12 M13 n14 c15
    exact gj_false
  · exact gj_false
noncomputable def fi_160 (l0 l1 M n c : Nat) (K : Nat → Nat → Nat → Nat → Bool) : Bool := fi_160_L0 K l0 l1 M n c
theorem hm_160 {G : gxG} (hG : gxG0 G) (l0 l1 : Nat) : gxM G gY_160 yX7_find [gR 7 (l0), gI (l1)] (fi_160 l0 l1) := gxM_of (L := [gR 7 (l0), gI (l1), gB, gB]) hG 2 (by decide +kernel) rfl rfl rfl rfl (List.forall_mem_cons.mpr ⟨rfl, List.forall_mem_cons.mpr ⟨rfl, fun _ h => nomatch h⟩⟩) (fun M n c K => h_160_L0 hG  l0 l1 M n c)
/-! Farfiles reason ()C -/
def gY_161 : gxY := (false, prog_1_method_44_code, 1, (Option.some Jvm.ClassFile.FieldType.char), "Farfiles", 1, 40, 1, [], "reason")
theorem ok_161 {Y : gxY} (h1 : gy_f gY_161 + 1 ≤ gy_f Y) (h2 : 8 + (gy_l gY_161 + 11) + gy_k gY_161 ≤ gy_k Y) : gh_ok Y gY_161 yX7_reason 0 := ⟨wd_1351, wd_51, ⟨by decide, by decide⟩, by decide +kernel, h1, h2⟩
noncomputable def fi_161_L0 (K : Nat → Nat → Nat → Nat → Bool) (l0 M n c : Nat) : Bool := gx_get (l0) 15 M (fun v1 => gx_eq (v1) 0 (false) (gx_get (l0) 15 M (fun v2 => gx_rt gx_f1 (v2) (K (v2) M n c))))
theorem h_161_L0 {G : gxG} (hG : gxG0 G) {K : Nat → Nat → Nat → Nat → Bool} (l0 M n c : Nat) : gxJ G gY_161 K 0 [] [gR 7 (l0)] M n c (fi_161_L0 K l0 M n c) := by
  unfold fi_161_L0
  refine gr_aload_n (pc := 0) (i := 0) 7 (l0) (show decode (gy_b gY_161) 0 = .ok (.aload_n 0, 1) by decide +kernel) rfl rfl ?_
  refine gr_getf (pc := 1) (index := 79) (t := 7) (j := 15) (σ := 1) (sv := gI) (show decode (gy_b gY_161) 1 = .ok (.getfield 79, 3) by decide +kernel) rfl rfl (fun _ => rfl) wd_309 (by decide) ?_
  intro v1
  refine gr_ifne (pc := 4) (tgt := 18) (off := 14) hG.2.1 (show decode (gy_b gY_161) 4 = .ok (.ifCond .ne (14), 3) by decide +kernel) (by decide) ?_ ?_
  · refine gr_aload_n (pc := 18) (i := 0) 7 (l0) (show decode (gy_b gY_161) 18 = .ok (.aload_n 0, 1) by decide +kernel) rfl rfl ?_
    refine gr_getf (pc := 19) (index := 79) (t := 7) (j := 15) (σ := 1) (sv := gI) (show decode (gy_b gY_161) 19 = .ok (.getfield 79, 3) by decide +kernel) rfl rfl (fun _ => rfl) wd_309 (by decide) ?_
    intro v2
    exact gr_ireturn (pc := 22) (show decode (gy_b gY_161) 22 = .ok (.ireturn, 1) by decide +kernel) rfl rfl (by decide) (gv_1 hG.2.1)
  · exact gj_false
noncomputable def fi_161 (l0 M n c : Nat) (K : Nat → Nat → Nat → Nat → Bool) : Bool := fi_161_L0 K l0 M n c
theorem hm_161 {G : gxG} (hG : gxG0 G) (l0 : Nat) : gxM G gY_161 yX7_reason [gR 7 (l0)] (fi_161 l0) := gxM_of (L := [gR 7 (l0)]) hG 0 (by decide +kernel) rfl rfl rfl rfl (List.forall_mem_cons.mpr ⟨rfl, fun _ h => nomatch h⟩) (fun M n c K => h_161_L0 hG  l0 M n c)
/-! FarfilesLaw isRenamed ()Z -/
def gY_162 : gxY := (false, method_15_code, 12, (Option.some Jvm.ClassFile.FieldType.boolean), "FarfilesLaw", 13, 250, 2, [(177, 187, 190, 212), (246, 256, 259, 212), (288, 298, 301, 212)], "isRenamed")
theorem ok_162 {Y : gxY} (h1 : gy_f gY_162 + 1 ≤ gy_f Y) (h2 : 8 + (gy_l gY_162 + 11) + gy_k gY_162 ≤ gy_k Y) : gh_ok Y gY_162 yL_isRenamed 0 := ⟨wd_1328, wd_50, ⟨by decide, by decide⟩, by decide +kernel, h1, h2⟩
noncomputable def fi_162_L320 (T : Nat) (K : Nat → Nat → Nat → Nat → Bool) (l0 l1 l7 l8 l9 s0 M n c : Nat) : Bool := gx_nn (l0) (fi_112 (l0) (l1) M n c (fun v204 M205 n206 c207 => gx_eq (l7) 0 (false) (gx_eq (l8) 0 (false) (gx_eq (l9) 0 (false) (gx_eq (s0) 0 (false) (gx_nn (l0) (fi_120 (l0) M205 n206 c207 (fun v208 M209 n210 c211 => gx_eq (v208) 0 (false) (gx_rt gx_f2 (1) (K (1) M209 n210 c211))))))))))
theorem h_162_L320 {G : gxG} (hG : gxG0 G) (T : Nat) (hdr : ∀ x nn : Nat, gxM G gY_draw yL_draw [gR 10 x, gI nn] (fd_draw T x nn)) {K : Nat → Nat → Nat → Nat → Bool} (l0 l1 l7 l8 l9 s0 M n c : Nat) : gxJ G gY_162 K 320 [gI (s0)] [gR 10 (l0), gI (l1), gB, gB, gB, gB, gB, gI (l7), gI (l8), gI (l9), gB, gB] M n c (fi_162_L320 T K l0 l1 l7 l8 l9 s0 M n c) := by
  unfold fi_162_L320
  refine gr_istore (pc := 320) (i := 10) (L' := [gR 10 (l0), gI (l1), gB, gB, gB, gB, gB, gI (l7), gI (l8), gI (l9), gI (s0), gB]) (show decode (gy_b gY_162) 320 = .ok (.istore 10, 2) by decide +kernel) (by decide) rfl rfl ?_
  refine gr_aload_n (pc := 322) (i := 0) 10 (l0) (show decode (gy_b gY_162) 322 = .ok (.aload_n 0, 1) by decide +kernel) rfl rfl ?_
  refine gr_iload_n (pc := 323) (i := 1) (l1) (show decode (gy_b gY_162) 323 = .ok (.iload_n 1, 1) by decide +kernel) rfl rfl ?_
  refine gj_nn (fun hx324 => ?_)
  refine gj_c0 (pc := 324) (Y' := gY_112) (y := yL_brings) (vs := [gR 10 (l0), gI (l1)]) (rest := []) (rs := fun v204 => []) [gI (l1), gR 10 (l0)] rfl (hm_112 hG (l0) (l1)) rfl (gh_V (t := 10) (vs := [gI (l1)]) (rest := []) (show decode (gy_b gY_162) 324 = .ok (.invokevirtual 154, 3) by decide +kernel) rfl hx324 rfl rfl (ok_112 (by decide) (by decide)) wd_1111 wd_1113 wd_33 (Nat.le_of_ble_eq_true rfl)) (fun _ => rfl) ?_
  intro v204 M205 n206 c207
  refine gr_iload (pc := 327) (i := 7) (l7) (show decode (gy_b gY_162) 327 = .ok (.iload 7, 2) by decide +kernel) rfl ?_
  refine gr_ifeq (pc := 329) (tgt := 358) (off := 29) hG.2.1 (show decode (gy_b gY_162) 329 = .ok (.ifCond .eq (29), 3) by decide +kernel) (by decide) ?_ ?_
  · exact gj_false
  · refine gr_iload (pc := 332) (i := 8) (l8) (show decode (gy_b gY_162) 332 = .ok (.iload 8, 2) by decide +kernel) rfl ?_
    refine gr_ifeq (pc := 334) (tgt := 358) (off := 24) hG.2.1 (show decode (gy_b gY_162) 334 = .ok (.ifCond .eq (24), 3) by decide +kernel) (by decide) ?_ ?_
    · exact gj_false
    · refine gr_iload (pc := 337) (i := 9) (l9) (show decode (gy_b gY_162) 337 = .ok (.iload 9, 2) by decide +kernel) rfl ?_
      refine gr_ifeq (pc := 339) (tgt := 358) (off := 19) hG.2.1 (show decode (gy_b gY_162) 339 = .ok (.ifCond .eq (19), 3) by decide +kernel) (by decide) ?_ ?_
      · exact gj_false
      · refine gr_iload (pc := 342) (i := 10) (s0) (show decode (gy_b gY_162) 342 = .ok (.iload 10, 2) by decide +kernel) rfl ?_
        refine gr_ifeq (pc := 344) (tgt := 358) (off := 14) hG.2.1 (show decode (gy_b gY_162) 344 = .ok (.ifCond .eq (14), 3) by decide +kernel) (by decide) ?_ ?_
        · exact gj_false
        · refine gr_aload_n (pc := 347) (i := 0) 10 (l0) (show decode (gy_b gY_162) 347 = .ok (.aload_n 0, 1) by decide +kernel) rfl rfl ?_
          refine gj_nn (fun hx348 => ?_)
          refine gj_c0 (pc := 348) (Y' := gY_120) (y := yL_hears) (vs := [gR 10 (l0)]) (rest := []) (rs := fun v208 => [gI (v208)]) [gR 10 (l0)] rfl (hm_120 hG (l0)) rfl (gh_V (t := 10) (vs := []) (rest := []) (show decode (gy_b gY_162) 348 = .ok (.invokevirtual 158, 3) by decide +kernel) rfl hx348 rfl rfl (ok_120 (by decide) (by decide)) wd_1135 wd_1137 wd_34 (Nat.le_of_ble_eq_true rfl)) (fun _ => rfl) ?_
          intro v208 M209 n210 c211
          refine gr_ifeq (pc := 351) (tgt := 358) (off := 7) hG.2.1 (show decode (gy_b gY_162) 351 = .ok (.ifCond .eq (7), 3) by decide +kernel) (by decide) ?_ ?_
          · exact gj_false
          · refine gr_iconst (pc := 354) (z := 1) 1 (show decode (gy_b gY_162) 354 = .ok (.iconst (1), 1) by decide +kernel) kc_1 ?_
            refine gr_goto (pc := 355) (tgt := 359) (off := 4) (show decode (gy_b gY_162) 355 = .ok (.goto (4), 3) by decide +kernel) (by decide) ?_
            exact gr_ireturn (pc := 359) (show decode (gy_b gY_162) 359 = .ok (.ireturn, 1) by decide +kernel) rfl rfl (by decide) gv_2f
noncomputable def fi_162_L261 (T : Nat) (K : Nat → Nat → Nat → Nat → Bool) (l0 l1 l2 l7 l8 M n c : Nat) : Bool := gx_get (l0) 3 M (fun v182 => gx_nn (v182) (fi_161 (v182) M n c (fun v183 M184 n185 c186 => gx_eq (v183) (99) (gx_nn (l0) (fi_49 (l0) (l2) M184 n185 c186 (fun v187 M188 n189 c190 => gx_get (l0) 3 M188 (fun v191 => gx_nn (v191) (fi_146 (v191) (l1) M188 n189 c190 (fun v192 M196 n197 c198 => gx_ctc v192 (gx_get (l0) 3 M196 (fun v199 => gx_nn (v199) (fi_161 (v199) M196 n197 c198 (fun v200 M201 n202 c203 => gx_eq (v200) (102) (fi_162_L320 T K (l0) (l1) (l7) (l8) (1) (1) M201 n202 c203) (false))))))))))) (false))))
theorem h_162_L261 {G : gxG} (hG : gxG0 G) (T : Nat) (hdr : ∀ x nn : Nat, gxM G gY_draw yL_draw [gR 10 x, gI nn] (fd_draw T x nn)) {K : Nat → Nat → Nat → Nat → Bool} (l0 l1 l2 l7 l8 M n c : Nat) : gxJ G gY_162 K 261 [] [gR 10 (l0), gI (l1), gR 8 (l2), gB, gB, gB, gB, gI (l7), gI (l8), gB, gB, gB] M n c (fi_162_L261 T K l0 l1 l2 l7 l8 M n c) := by
  unfold fi_162_L261
  refine gr_aload_n (pc := 261) (i := 0) 10 (l0) (show decode (gy_b gY_162) 261 = .ok (.aload_n 0, 1) by decide +kernel) rfl rfl ?_
  refine gr_getf (pc := 262) (index := 10) (t := 10) (j := 3) (σ := 15) (sv := (gR 7)) (show decode (gy_b gY_162) 262 = .ok (.getfield 10, 3) by decide +kernel) rfl rfl (fun _ => rfl) wd_346 (by decide) ?_
  intro v182
  refine gj_nn (fun hx265 => ?_)
  refine gj_c0 (pc := 265) (Y' := gY_161) (y := yX7_reason) (vs := [gR 7 (v182)]) (rest := []) (rs := fun v183 => [gI (v183)]) [gR 7 (v182)] rfl (hm_161 hG (v182)) rfl (gh_V (t := 7) (vs := []) (rest := []) (show decode (gy_b gY_162) 265 = .ok (.invokevirtual 214, 3) by decide +kernel) rfl hx265 rfl rfl (ok_161 (by decide) (by decide)) wd_1348 wd_1349 wd_1350 (Nat.le_of_ble_eq_true rfl)) (fun _ => rfl) ?_
  intro v183 M184 n185 c186
  refine gr_bipush (pc := 268) (z := 99) 99 (show decode (gy_b gY_162) 268 = .ok (.bipush (99), 2) by decide +kernel) (by decide +kernel) ?_
  refine gr_icmp_ne (pc := 270) (tgt := 277) (off := 7) hG.2.1 (show decode (gy_b gY_162) 270 = .ok (.if_icmp .ne (7), 3) by decide +kernel) (by decide) ?_ ?_
  · exact gj_false
  · refine gr_iconst (pc := 273) (z := 1) 1 (show decode (gy_b gY_162) 273 = .ok (.iconst (1), 1) by decide +kernel) kc_1 ?_
    refine gr_goto (pc := 274) (tgt := 278) (off := 4) (show decode (gy_b gY_162) 274 = .ok (.goto (4), 3) by decide +kernel) (by decide) ?_
    refine gr_istore (pc := 278) (i := 9) (L' := [gR 10 (l0), gI (l1), gR 8 (l2), gB, gB, gB, gB, gI (l7), gI (l8), gI (1), gB, gB]) (show decode (gy_b gY_162) 278 = .ok (.istore 9, 2) by decide +kernel) (by decide) rfl rfl ?_
    refine gr_aload_n (pc := 280) (i := 0) 10 (l0) (show decode (gy_b gY_162) 280 = .ok (.aload_n 0, 1) by decide +kernel) rfl rfl ?_
    refine gr_aload_n (pc := 281) (i := 2) 8 (l2) (show decode (gy_b gY_162) 281 = .ok (.aload_n 2, 1) by decide +kernel) rfl rfl ?_
    refine gj_nn (fun hx282 => ?_)
    refine gj_c0 (pc := 282) (Y' := gY_49) (y := yL_types) (vs := [gR 10 (l0), gR 8 (l2)]) (rest := []) (rs := fun v187 => []) [gR 8 (l2), gR 10 (l0)] rfl (hm_49 hG (l0) (l2)) rfl (gh_V (t := 10) (vs := [gR 8 (l2)]) (rest := []) (show decode (gy_b gY_162) 282 = .ok (.invokevirtual 108, 3) by decide +kernel) rfl hx282 rfl rfl (ok_49 (by decide) (by decide)) wd_736 wd_738 wd_11 (Nat.le_of_ble_eq_true rfl)) (fun _ => rfl) ?_
    intro v187 M188 n189 c190
    refine gr_iconst (pc := 285) (z := 0) 0 (show decode (gy_b gY_162) 285 = .ok (.iconst (0), 1) by decide +kernel) kc_0 ?_
    refine gr_istore (pc := 286) (i := 10) (L' := [gR 10 (l0), gI (l1), gR 8 (l2), gB, gB, gB, gB, gI (l7), gI (l8), gI (1), gI (0), gB]) (show decode (gy_b gY_162) 286 = .ok (.istore 10, 2) by decide +kernel) (by decide) rfl rfl ?_
    refine gr_aload_n (pc := 288) (i := 0) 10 (l0) (show decode (gy_b gY_162) 288 = .ok (.aload_n 0, 1) by decide +kernel) rfl rfl ?_
    refine gr_getf (pc := 289) (index := 10) (t := 10) (j := 3) (σ := 15) (sv := (gR 7)) (show decode (gy_b gY_162) 289 = .ok (.getfield 10, 3) by decide +kernel) rfl rfl (fun _ => rfl) wd_346 (by decide) ?_
    intro v191
    refine gr_iload_n (pc := 292) (i := 1) (l1) (show decode (gy_b gY_162) 292 = .ok (.iload_n 1, 1) by decide +kernel) rfl rfl ?_
    refine gj_nn (fun hx293 => ?_)
    refine gj_c3 (h := 301) (sl := 11) (pc := 293) (Y' := gY_146) (y := yX7_remove) (vs := [gR 7 (v191), gI (l1)]) (rest := []) (rs := fun v192 => [gI (v192)]) [gI (l1), gR 7 (v191)] rfl (hm_146 hG (v191) (l1)) (gh_V (t := 7) (vs := [gI (l1)]) (rest := []) (show decode (gy_b gY_162) 293 = .ok (.invokevirtual 193, 3) by decide +kernel) rfl hx293 rfl rfl (ok_146 (by decide) (by decide)) wd_1278 wd_1279 wd_1280 (Nat.le_of_ble_eq_true rfl)) (by decide) rfl rfl ⟨by decide, rfl⟩ wd_1329 wd_877 (show decode (gy_b gY_162) 301 = .ok (.astore 11, 2) by decide +kernel) ?_
    intro M196 n197 c198
    refine gr_aload_n (pc := 303) (i := 0) 10 (l0) (show decode (gy_b gY_162) 303 = .ok (.aload_n 0, 1) by decide +kernel) rfl rfl ?_
    refine gr_getf (pc := 304) (index := 10) (t := 10) (j := 3) (σ := 15) (sv := (gR 7)) (show decode (gy_b gY_162) 304 = .ok (.getfield 10, 3) by decide +kernel) rfl rfl (fun _ => rfl) wd_346 (by decide) ?_
    intro v199
    refine gj_nn (fun hx307 => ?_)
    refine gj_c0 (pc := 307) (Y' := gY_161) (y := yX7_reason) (vs := [gR 7 (v199)]) (rest := []) (rs := fun v200 => [gI (v200)]) [gR 7 (v199)] rfl (hm_161 hG (v199)) rfl (gh_V (t := 7) (vs := []) (rest := []) (show decode (gy_b gY_162) 307 = .ok (.invokevirtual 214, 3) by decide +kernel) rfl hx307 rfl rfl (ok_161 (by decide) (by decide)) wd_1348 wd_1349 wd_1350 (Nat.le_of_ble_eq_true rfl)) (fun _ => rfl) ?_
    intro v200 M201 n202 c203
    refine gr_bipush (pc := 310) (z := 102) 102 (show decode (gy_b gY_162) 310 = .ok (.bipush (102), 2) by decide +kernel) (by decide +kernel) ?_
    refine gr_icmp_ne (pc := 312) (tgt := 319) (off := 7) hG.2.1 (show decode (gy_b gY_162) 312 = .ok (.if_icmp .ne (7), 3) by decide +kernel) (by decide) ?_ ?_
    · exact gj_false
    · refine gr_iconst (pc := 315) (z := 1) 1 (show decode (gy_b gY_162) 315 = .ok (.iconst (1), 1) by decide +kernel) kc_1 ?_
      refine gr_goto (pc := 316) (tgt := 320) (off := 4) (show decode (gy_b gY_162) 316 = .ok (.goto (4), 3) by decide +kernel) (by decide) ?_
      refine gr_wk [true, true, false, true, true, true, true, true, true, true, false, true] rfl ?_
      exact h_162_L320 hG T hdr (l0) (l1) (l7) (l8) (1) (1) M201 n202 c203
noncomputable def fi_162_L201 (T : Nat) (K : Nat → Nat → Nat → Nat → Bool) (l0 l1 l2 l7 s0 s1 M n c : Nat) : Bool := gx_eq (s0) (s1) (gx_new 4 n c (fun v143 n144 c145 => gx_nn (v143) (fi_10 (v143) M n144 c145 (fun v146 M147 n148 c149 => gx_nn (v143) (fi_18 (v143) (l2) M147 n148 c149 (fun v150 M151 n152 c153 => gx_nn (v150) (fi_18 (v150) (42) M151 n152 c153 (fun v154 M155 n156 c157 => gx_nn (v154) (fi_18 (v154) (l2) M155 n156 c157 (fun v158 M159 n160 c161 => gx_nn (v158) (fi_18 (v158) (51) M159 n160 c161 (fun v162 M163 n164 c165 => gx_nn (v162) (fi_31 (v162) M163 n164 c165 (fun v166 M167 n168 c169 => gx_nn (l0) (fi_49 (l0) (v166) M167 n168 c169 (fun v170 M171 n172 c173 => gx_get (l0) 3 M171 (fun v174 => gx_nn (v174) (fi_159 (v174) (l1) M171 n172 c173 (fun v175 M179 n180 c181 => gx_ctc v175 (fi_162_L261 T K (l0) (l1) (l2) (l7) (1) M179 n180 c181)))))))))))))))))))) (false)
theorem h_162_L201 {G : gxG} (hG : gxG0 G) (T : Nat) (hdr : ∀ x nn : Nat, gxM G gY_draw yL_draw [gR 10 x, gI nn] (fd_draw T x nn)) {K : Nat → Nat → Nat → Nat → Bool} (l0 l1 l2 l7 s0 s1 M n c : Nat) : gxJ G gY_162 K 201 [gI (s1), gI (s0)] [gR 10 (l0), gI (l1), gR 8 (l2), gB, gB, gB, gB, gI (l7), gB, gB, gB, gB] M n c (fi_162_L201 T K l0 l1 l2 l7 s0 s1 M n c) := by
  unfold fi_162_L201
  refine gr_icmp_ne (pc := 201) (tgt := 208) (off := 7) hG.2.1 (show decode (gy_b gY_162) 201 = .ok (.if_icmp .ne (7), 3) by decide +kernel) (by decide) ?_ ?_
  · exact gj_false
  · refine gr_iconst (pc := 204) (z := 1) 1 (show decode (gy_b gY_162) 204 = .ok (.iconst (1), 1) by decide +kernel) kc_1 ?_
    refine gr_goto (pc := 205) (tgt := 209) (off := 4) (show decode (gy_b gY_162) 205 = .ok (.goto (4), 3) by decide +kernel) (by decide) ?_
    refine gr_istore (pc := 209) (i := 8) (L' := [gR 10 (l0), gI (l1), gR 8 (l2), gB, gB, gB, gB, gI (l7), gI (1), gB, gB, gB]) (show decode (gy_b gY_162) 209 = .ok (.istore 8, 2) by decide +kernel) (by decide) rfl rfl ?_
    refine gr_aload_n (pc := 211) (i := 0) 10 (l0) (show decode (gy_b gY_162) 211 = .ok (.aload_n 0, 1) by decide +kernel) rfl rfl ?_
    refine gr_newo (pc := 212) (index := 62) (t := 9) (show decode (gy_b gY_162) 212 = .ok (.new 62, 3) by decide +kernel) rfl wd_390 wd_391 wd_60 ?_
    intro v143 n144 c145
    refine gr_dup (b := gB) (pc := 215) (show decode (gy_b gY_162) 215 = .ok (.dup, 1) by decide +kernel) rfl ?_
    refine gj_nn (fun hx216 => ?_)
    refine gj_c0 (pc := 216) (Y' := gY_10) (y := yJ4_init_da8c8) (vs := [gR 9 (v143)]) (rest := [gR 9 (v143), gR 10 (l0)]) (rs := fun v146 => [gR 9 (v143), gR 10 (l0)]) [gR 9 (v143)] rfl (hm_10 hG (v143)) rfl (gh_I (t := 9) (vs := []) (rest := [gR 9 (v143), gR 10 (l0)]) (show decode (gy_b gY_162) 216 = .ok (.invokespecial 64, 3) by decide +kernel) rfl hx216 rfl (ok_10 (by decide) (by decide)) rfl rfl rfl rfl wd_392 wd_393 (Nat.le_of_ble_eq_true rfl)) (fun _ => rfl) ?_
    intro v146 M147 n148 c149
    refine gr_aload_n (pc := 219) (i := 2) 8 (l2) (show decode (gy_b gY_162) 219 = .ok (.aload_n 2, 1) by decide +kernel) rfl rfl ?_
    refine gj_nn (fun hx220 => ?_)
    refine gj_c0 (pc := 220) (Y' := gY_18) (y := yJ4_append_15ec4) (vs := [gR 9 (v143), gR 8 (l2)]) (rest := [gR 10 (l0)]) (rs := fun v150 => [gR 9 (v150), gR 10 (l0)]) [gR 8 (l2), gR 9 (v143)] rfl (hm_18 hG (v143) (l2)) rfl (gh_V (t := 9) (vs := [gR 8 (l2)]) (rest := [gR 10 (l0)]) (show decode (gy_b gY_162) 220 = .ok (.invokevirtual 67, 3) by decide +kernel) rfl hx220 rfl rfl (ok_18 (by decide) (by decide)) wd_423 wd_424 wd_425 (Nat.le_of_ble_eq_true rfl)) (fun _ => rfl) ?_
    intro v150 M151 n152 c153
    refine gr_ldcS (pc := 223) (index := 202) (b := 42) (tx := " ") rfl (show decode (gy_b gY_162) 223 = .ok (.ldc 202, 2) by decide +kernel) (by decide) (by decide) (by decide) ?_
    refine gj_nn (fun hx225 => ?_)
    refine gj_c0 (pc := 225) (Y' := gY_18) (y := yJ4_append_15ec4) (vs := [gR 9 (v150), gR 8 (42)]) (rest := [gR 10 (l0)]) (rs := fun v154 => [gR 9 (v154), gR 10 (l0)]) [gR 8 (42), gR 9 (v150)] rfl (hm_18 hG (v150) (42)) rfl (gh_V (t := 9) (vs := [gR 8 (42)]) (rest := [gR 10 (l0)]) (show decode (gy_b gY_162) 225 = .ok (.invokevirtual 67, 3) by decide +kernel) rfl hx225 rfl rfl (ok_18 (by decide) (by decide)) wd_423 wd_424 wd_425 (Nat.le_of_ble_eq_true rfl)) (fun _ => rfl) ?_
    intro v154 M155 n156 c157
    refine gr_aload_n (pc := 228) (i := 2) 8 (l2) (show decode (gy_b gY_162) 228 = .ok (.aload_n 2, 1) by decide +kernel) rfl rfl ?_
    refine gj_nn (fun hx229 => ?_)
    refine gj_c0 (pc := 229) (Y' := gY_18) (y := yJ4_append_15ec4) (vs := [gR 9 (v154), gR 8 (l2)]) (rest := [gR 10 (l0)]) (rs := fun v158 => [gR 9 (v158), gR 10 (l0)]) [gR 8 (l2), gR 9 (v154)] rfl (hm_18 hG (v154) (l2)) rfl (gh_V (t := 9) (vs := [gR 8 (l2)]) (rest := [gR 10 (l0)]) (show decode (gy_b gY_162) 229 = .ok (.invokevirtual 67, 3) by decide +kernel) rfl hx229 rfl rfl (ok_18 (by decide) (by decide)) wd_423 wd_424 wd_425 (Nat.le_of_ble_eq_true rfl)) (fun _ => rfl) ?_
    intro v158 M159 n160 c161
    refine gr_ldcS (pc := 232) (index := 218) (b := 51) (tx := "/y") rfl (show decode (gy_b gY_162) 232 = .ok (.ldc 218, 2) by decide +kernel) (by decide) (by decide) (by decide) ?_
    refine gj_nn (fun hx234 => ?_)
    refine gj_c0 (pc := 234) (Y' := gY_18) (y := yJ4_append_15ec4) (vs := [gR 9 (v158), gR 8 (51)]) (rest := [gR 10 (l0)]) (rs := fun v162 => [gR 9 (v162), gR 10 (l0)]) [gR 8 (51), gR 9 (v158)] rfl (hm_18 hG (v158) (51)) rfl (gh_V (t := 9) (vs := [gR 8 (51)]) (rest := [gR 10 (l0)]) (show decode (gy_b gY_162) 234 = .ok (.invokevirtual 67, 3) by decide +kernel) rfl hx234 rfl rfl (ok_18 (by decide) (by decide)) wd_423 wd_424 wd_425 (Nat.le_of_ble_eq_true rfl)) (fun _ => rfl) ?_
    intro v162 M163 n164 c165
    refine gj_nn (fun hx237 => ?_)
    refine gj_c0 (pc := 237) (Y' := gY_31) (y := yJ4_toString_0e30d) (vs := [gR 9 (v162)]) (rest := [gR 10 (l0)]) (rs := fun v166 => [gR 8 (v166), gR 10 (l0)]) [gR 9 (v162)] rfl (hm_31 hG (v162)) rfl (gh_V (t := 9) (vs := []) (rest := [gR 10 (l0)]) (show decode (gy_b gY_162) 237 = .ok (.invokevirtual 78, 3) by decide +kernel) rfl hx237 rfl rfl (ok_31 (by decide) (by decide)) wd_565 wd_566 wd_567 (Nat.le_of_ble_eq_true rfl)) (fun _ => rfl) ?_
    intro v166 M167 n168 c169
    refine gj_nn (fun hx240 => ?_)
    refine gj_c0 (pc := 240) (Y' := gY_49) (y := yL_types) (vs := [gR 10 (l0), gR 8 (v166)]) (rest := []) (rs := fun v170 => []) [gR 8 (v166), gR 10 (l0)] rfl (hm_49 hG (l0) (v166)) rfl (gh_V (t := 10) (vs := [gR 8 (v166)]) (rest := []) (show decode (gy_b gY_162) 240 = .ok (.invokevirtual 108, 3) by decide +kernel) rfl hx240 rfl rfl (ok_49 (by decide) (by decide)) wd_736 wd_738 wd_11 (Nat.le_of_ble_eq_true rfl)) (fun _ => rfl) ?_
    intro v170 M171 n172 c173
    refine gr_iconst (pc := 243) (z := 0) 0 (show decode (gy_b gY_162) 243 = .ok (.iconst (0), 1) by decide +kernel) kc_0 ?_
    refine gr_istore (pc := 244) (i := 9) (L' := [gR 10 (l0), gI (l1), gR 8 (l2), gB, gB, gB, gB, gI (l7), gI (1), gI (0), gB, gB]) (show decode (gy_b gY_162) 244 = .ok (.istore 9, 2) by decide +kernel) (by decide) rfl rfl ?_
    refine gr_aload_n (pc := 246) (i := 0) 10 (l0) (show decode (gy_b gY_162) 246 = .ok (.aload_n 0, 1) by decide +kernel) rfl rfl ?_
    refine gr_getf (pc := 247) (index := 10) (t := 10) (j := 3) (σ := 15) (sv := (gR 7)) (show decode (gy_b gY_162) 247 = .ok (.getfield 10, 3) by decide +kernel) rfl rfl (fun _ => rfl) wd_346 (by decide) ?_
    intro v174
    refine gr_iload_n (pc := 250) (i := 1) (l1) (show decode (gy_b gY_162) 250 = .ok (.iload_n 1, 1) by decide +kernel) rfl rfl ?_
    refine gj_nn (fun hx251 => ?_)
    refine gj_c3 (h := 259) (sl := 10) (pc := 251) (Y' := gY_159) (y := yX7_rename) (vs := [gR 7 (v174), gI (l1)]) (rest := []) (rs := fun v175 => [gI (v175)]) [gI (l1), gR 7 (v174)] rfl (hm_159 hG (v174) (l1)) (gh_V (t := 7) (vs := [gI (l1)]) (rest := []) (show decode (gy_b gY_162) 251 = .ok (.invokevirtual 206, 3) by decide +kernel) rfl hx251 rfl rfl (ok_159 (by decide) (by decide)) wd_1332 wd_1333 wd_1334 (Nat.le_of_ble_eq_true rfl)) (by decide) rfl rfl ⟨by decide, rfl⟩ wd_1329 wd_877 (show decode (gy_b gY_162) 259 = .ok (.astore 10, 2) by decide +kernel) ?_
    intro M179 n180 c181
    refine gr_wk [true, true, true, true, true, true, true, true, true, false, true, true] rfl ?_
    exact h_162_L261 hG T hdr (l0) (l1) (l2) (l7) (1) M179 n180 c181
noncomputable def fi_162_L143 (T : Nat) (K : Nat → Nat → Nat → Nat → Bool) (l0 l1 l2 l3 s0 s1 s2 M n c : Nat) : Bool := gx_nn (s2) (fi_18 (s2) (l2) M n c (fun v110 M111 n112 c113 => gx_nn (v110) (fi_18 (v110) (46) M111 n112 c113 (fun v114 M115 n116 c117 => gx_nn (v114) (fi_31 (v114) M115 n116 c117 (fun v118 M119 n120 c121 => gx_nn (s0) (fi_136 (s0) (s1) (v118) (l3) M119 n120 c121 (fun v122 M123 n124 c125 => gx_eq (v122) 0 (false) (gx_nn (l0) (fi_49 (l0) (l3) M123 n124 c125 (fun v126 M127 n128 c129 => gx_get (l0) 3 M127 (fun v130 => gx_nn (v130) (fi_160 (v130) (l1) M127 n128 c129 (fun v131 M135 n136 c137 => gx_ctc v131 (gx_get (l0) 3 M135 (fun v138 => gx_nn (v138) (fi_161 (v138) M135 n136 c137 (fun v139 M140 n141 c142 => fi_162_L201 T K (l0) (l1) (l2) (1) (v139) (110) M140 n141 c142))))))))))))))))))
theorem h_162_L143 {G : gxG} (hG : gxG0 G) (T : Nat) (hdr : ∀ x nn : Nat, gxM G gY_draw yL_draw [gR 10 x, gI nn] (fd_draw T x nn)) {K : Nat → Nat → Nat → Nat → Bool} (l0 l1 l2 l3 s0 s1 s2 M n c : Nat) : gxJ G gY_162 K 143 [gR 9 (s2), gI (s1), gR 10 (s0)] [gR 10 (l0), gI (l1), gR 8 (l2), gR 8 (l3), gB, gB, gB, gB, gB, gB, gB, gB] M n c (fi_162_L143 T K l0 l1 l2 l3 s0 s1 s2 M n c) := by
  unfold fi_162_L143
  refine gr_aload_n (pc := 143) (i := 2) 8 (l2) (show decode (gy_b gY_162) 143 = .ok (.aload_n 2, 1) by decide +kernel) rfl rfl ?_
  refine gj_nn (fun hx144 => ?_)
  refine gj_c0 (pc := 144) (Y' := gY_18) (y := yJ4_append_15ec4) (vs := [gR 9 (s2), gR 8 (l2)]) (rest := [gI (s1), gR 10 (s0)]) (rs := fun v110 => [gR 9 (v110), gI (s1), gR 10 (s0)]) [gR 8 (l2), gR 9 (s2)] rfl (hm_18 hG (s2) (l2)) rfl (gh_V (t := 9) (vs := [gR 8 (l2)]) (rest := [gI (s1), gR 10 (s0)]) (show decode (gy_b gY_162) 144 = .ok (.invokevirtual 67, 3) by decide +kernel) rfl hx144 rfl rfl (ok_18 (by decide) (by decide)) wd_423 wd_424 wd_425 (Nat.le_of_ble_eq_true rfl)) (fun _ => rfl) ?_
  intro v110 M111 n112 c113
  refine gr_ldcS (pc := 147) (index := 204) (b := 46) (tx := "/x") rfl (show decode (gy_b gY_162) 147 = .ok (.ldc 204, 2) by decide +kernel) (by decide) (by decide) (by decide) ?_
  refine gj_nn (fun hx149 => ?_)
  refine gj_c0 (pc := 149) (Y' := gY_18) (y := yJ4_append_15ec4) (vs := [gR 9 (v110), gR 8 (46)]) (rest := [gI (s1), gR 10 (s0)]) (rs := fun v114 => [gR 9 (v114), gI (s1), gR 10 (s0)]) [gR 8 (46), gR 9 (v110)] rfl (hm_18 hG (v110) (46)) rfl (gh_V (t := 9) (vs := [gR 8 (46)]) (rest := [gI (s1), gR 10 (s0)]) (show decode (gy_b gY_162) 149 = .ok (.invokevirtual 67, 3) by decide +kernel) rfl hx149 rfl rfl (ok_18 (by decide) (by decide)) wd_423 wd_424 wd_425 (Nat.le_of_ble_eq_true rfl)) (fun _ => rfl) ?_
  intro v114 M115 n116 c117
  refine gj_nn (fun hx152 => ?_)
  refine gj_c0 (pc := 152) (Y' := gY_31) (y := yJ4_toString_0e30d) (vs := [gR 9 (v114)]) (rest := [gI (s1), gR 10 (s0)]) (rs := fun v118 => [gR 8 (v118), gI (s1), gR 10 (s0)]) [gR 9 (v114)] rfl (hm_31 hG (v114)) rfl (gh_V (t := 9) (vs := []) (rest := [gI (s1), gR 10 (s0)]) (show decode (gy_b gY_162) 152 = .ok (.invokevirtual 78, 3) by decide +kernel) rfl hx152 rfl rfl (ok_31 (by decide) (by decide)) wd_565 wd_566 wd_567 (Nat.le_of_ble_eq_true rfl)) (fun _ => rfl) ?_
  intro v118 M119 n120 c121
  refine gr_aload_n (pc := 155) (i := 3) 8 (l3) (show decode (gy_b gY_162) 155 = .ok (.aload_n 3, 1) by decide +kernel) rfl rfl ?_
  refine gj_nn (fun hx156 => ?_)
  refine gj_c0 (pc := 156) (Y' := gY_136) (y := yL_isText) (vs := [gR 10 (s0), gI (s1), gR 8 (v118), gR 8 (l3)]) (rest := []) (rs := fun v122 => [gI (v122)]) [gR 8 (l3), gR 8 (v118), gI (s1), gR 10 (s0)] rfl (hm_136 hG (s0) (s1) (v118) (l3)) rfl (gh_V (t := 10) (vs := [gI (s1), gR 8 (v118), gR 8 (l3)]) (rest := []) (show decode (gy_b gY_162) 156 = .ok (.invokevirtual 162, 3) by decide +kernel) rfl hx156 rfl rfl (ok_136 (by decide) (by decide)) wd_1170 wd_1172 wd_37 (Nat.le_of_ble_eq_true rfl)) (fun _ => rfl) ?_
  intro v122 M123 n124 c125
  refine gr_ifeq (pc := 159) (tgt := 166) (off := 7) hG.2.1 (show decode (gy_b gY_162) 159 = .ok (.ifCond .eq (7), 3) by decide +kernel) (by decide) ?_ ?_
  · exact gj_false
  · refine gr_iconst (pc := 162) (z := 1) 1 (show decode (gy_b gY_162) 162 = .ok (.iconst (1), 1) by decide +kernel) kc_1 ?_
    refine gr_goto (pc := 163) (tgt := 167) (off := 4) (show decode (gy_b gY_162) 163 = .ok (.goto (4), 3) by decide +kernel) (by decide) ?_
    refine gr_istore (pc := 167) (i := 7) (L' := [gR 10 (l0), gI (l1), gR 8 (l2), gR 8 (l3), gB, gB, gB, gI (1), gB, gB, gB, gB]) (show decode (gy_b gY_162) 167 = .ok (.istore 7, 2) by decide +kernel) (by decide) rfl rfl ?_
    refine gr_iconst (pc := 169) (z := 0) 0 (show decode (gy_b gY_162) 169 = .ok (.iconst (0), 1) by decide +kernel) kc_0 ?_
    refine gr_istore (pc := 170) (i := 8) (L' := [gR 10 (l0), gI (l1), gR 8 (l2), gR 8 (l3), gB, gB, gB, gI (1), gI (0), gB, gB, gB]) (show decode (gy_b gY_162) 170 = .ok (.istore 8, 2) by decide +kernel) (by decide) rfl rfl ?_
    refine gr_aload_n (pc := 172) (i := 0) 10 (l0) (show decode (gy_b gY_162) 172 = .ok (.aload_n 0, 1) by decide +kernel) rfl rfl ?_
    refine gr_aload_n (pc := 173) (i := 3) 8 (l3) (show decode (gy_b gY_162) 173 = .ok (.aload_n 3, 1) by decide +kernel) rfl rfl ?_
    refine gj_nn (fun hx174 => ?_)
    refine gj_c0 (pc := 174) (Y' := gY_49) (y := yL_types) (vs := [gR 10 (l0), gR 8 (l3)]) (rest := []) (rs := fun v126 => []) [gR 8 (l3), gR 10 (l0)] rfl (hm_49 hG (l0) (l3)) rfl (gh_V (t := 10) (vs := [gR 8 (l3)]) (rest := []) (show decode (gy_b gY_162) 174 = .ok (.invokevirtual 108, 3) by decide +kernel) rfl hx174 rfl rfl (ok_49 (by decide) (by decide)) wd_736 wd_738 wd_11 (Nat.le_of_ble_eq_true rfl)) (fun _ => rfl) ?_
    intro v126 M127 n128 c129
    refine gr_aload_n (pc := 177) (i := 0) 10 (l0) (show decode (gy_b gY_162) 177 = .ok (.aload_n 0, 1) by decide +kernel) rfl rfl ?_
    refine gr_getf (pc := 178) (index := 10) (t := 10) (j := 3) (σ := 15) (sv := (gR 7)) (show decode (gy_b gY_162) 178 = .ok (.getfield 10, 3) by decide +kernel) rfl rfl (fun _ => rfl) wd_346 (by decide) ?_
    intro v130
    refine gr_iload_n (pc := 181) (i := 1) (l1) (show decode (gy_b gY_162) 181 = .ok (.iload_n 1, 1) by decide +kernel) rfl rfl ?_
    refine gj_nn (fun hx182 => ?_)
    refine gj_c3 (h := 190) (sl := 9) (pc := 182) (Y' := gY_160) (y := yX7_find) (vs := [gR 7 (v130), gI (l1)]) (rest := []) (rs := fun v131 => [gI (v131)]) [gI (l1), gR 7 (v130)] rfl (hm_160 hG (v130) (l1)) (gh_V (t := 7) (vs := [gI (l1)]) (rest := []) (show decode (gy_b gY_162) 182 = .ok (.invokevirtual 209, 3) by decide +kernel) rfl hx182 rfl rfl (ok_160 (by decide) (by decide)) wd_1344 wd_1345 wd_1346 (Nat.le_of_ble_eq_true rfl)) (by decide) rfl rfl ⟨by decide, rfl⟩ wd_1329 wd_877 (show decode (gy_b gY_162) 190 = .ok (.astore 9, 2) by decide +kernel) ?_
    intro M135 n136 c137
    refine gr_aload_n (pc := 192) (i := 0) 10 (l0) (show decode (gy_b gY_162) 192 = .ok (.aload_n 0, 1) by decide +kernel) rfl rfl ?_
    refine gr_getf (pc := 193) (index := 10) (t := 10) (j := 3) (σ := 15) (sv := (gR 7)) (show decode (gy_b gY_162) 193 = .ok (.getfield 10, 3) by decide +kernel) rfl rfl (fun _ => rfl) wd_346 (by decide) ?_
    intro v138
    refine gj_nn (fun hx196 => ?_)
    refine gj_c0 (pc := 196) (Y' := gY_161) (y := yX7_reason) (vs := [gR 7 (v138)]) (rest := []) (rs := fun v139 => [gI (v139)]) [gR 7 (v138)] rfl (hm_161 hG (v138)) rfl (gh_V (t := 7) (vs := []) (rest := []) (show decode (gy_b gY_162) 196 = .ok (.invokevirtual 214, 3) by decide +kernel) rfl hx196 rfl rfl (ok_161 (by decide) (by decide)) wd_1348 wd_1349 wd_1350 (Nat.le_of_ble_eq_true rfl)) (fun _ => rfl) ?_
    intro v139 M140 n141 c142
    refine gr_bipush (pc := 199) (z := 110) 110 (show decode (gy_b gY_162) 199 = .ok (.bipush (110), 2) by decide +kernel) (by decide +kernel) ?_
    refine gr_wk [true, true, true, false, true, true, true, true, false, true, true, true] rfl ?_
    exact h_162_L201 hG T hdr (l0) (l1) (l2) (1) (v139) (110) M140 n141 c142
noncomputable def fi_162_L90 (T : Nat) (K : Nat → Nat → Nat → Nat → Bool) (l0 l1 l2 l3 l5 s0 M n c : Nat) : Bool := gx_new 4 n c (fun v67 n68 c69 => gx_nn (v67) (fi_10 (v67) M n68 c69 (fun v70 M71 n72 c73 => gx_nn (v67) (fi_18 (v67) (l3) M71 n72 c73 (fun v74 M75 n76 c77 => gx_nn (v74) (fi_18 (v74) (42) M75 n76 c77 (fun v78 M79 n80 c81 => gx_nn (v78) (fi_18 (v78) (l2) M79 n80 c81 (fun v82 M83 n84 c85 => gx_nn (v82) (fi_18 (v82) (46) M83 n84 c85 (fun v86 M87 n88 c89 => gx_nn (v86) (fi_31 (v86) M87 n88 c89 (fun v90 M91 n92 c93 => gx_nn (s0) (fi_49 (s0) (v90) M91 n92 c93 (fun v94 M95 n96 c97 => gx_get (l0) 3 M95 (fun v98 => gx_nn (v98) (fi_159 (v98) (l1) M95 n96 c97 (fun v99 M100 n101 c102 => gx_nth v99 (gx_eq (v99) (l5) (gx_new 4 n101 c102 (fun v103 n104 c105 => gx_nn (v103) (fi_10 (v103) M100 n104 c105 (fun v106 M107 n108 c109 => fi_162_L143 T K (l0) (l1) (l2) (l3) (l0) (l1) (v103) M107 n108 c109)))) (false))))))))))))))))))))
theorem h_162_L90 {G : gxG} (hG : gxG0 G) (T : Nat) (hdr : ∀ x nn : Nat, gxM G gY_draw yL_draw [gR 10 x, gI nn] (fd_draw T x nn)) {K : Nat → Nat → Nat → Nat → Bool} (l0 l1 l2 l3 l5 s0 M n c : Nat) : gxJ G gY_162 K 90 [gR 10 (s0)] [gR 10 (l0), gI (l1), gR 8 (l2), gR 8 (l3), gB, gI (l5), gB, gB, gB, gB, gB, gB] M n c (fi_162_L90 T K l0 l1 l2 l3 l5 s0 M n c) := by
  unfold fi_162_L90
  refine gr_newo (pc := 90) (index := 62) (t := 9) (show decode (gy_b gY_162) 90 = .ok (.new 62, 3) by decide +kernel) rfl wd_390 wd_391 wd_60 ?_
  intro v67 n68 c69
  refine gr_dup (b := gB) (pc := 93) (show decode (gy_b gY_162) 93 = .ok (.dup, 1) by decide +kernel) rfl ?_
  refine gj_nn (fun hx94 => ?_)
  refine gj_c0 (pc := 94) (Y' := gY_10) (y := yJ4_init_da8c8) (vs := [gR 9 (v67)]) (rest := [gR 9 (v67), gR 10 (s0)]) (rs := fun v70 => [gR 9 (v67), gR 10 (s0)]) [gR 9 (v67)] rfl (hm_10 hG (v67)) rfl (gh_I (t := 9) (vs := []) (rest := [gR 9 (v67), gR 10 (s0)]) (show decode (gy_b gY_162) 94 = .ok (.invokespecial 64, 3) by decide +kernel) rfl hx94 rfl (ok_10 (by decide) (by decide)) rfl rfl rfl rfl wd_392 wd_393 (Nat.le_of_ble_eq_true rfl)) (fun _ => rfl) ?_
  intro v70 M71 n72 c73
  refine gr_aload_n (pc := 97) (i := 3) 8 (l3) (show decode (gy_b gY_162) 97 = .ok (.aload_n 3, 1) by decide +kernel) rfl rfl ?_
  refine gj_nn (fun hx98 => ?_)
  refine gj_c0 (pc := 98) (Y' := gY_18) (y := yJ4_append_15ec4) (vs := [gR 9 (v67), gR 8 (l3)]) (rest := [gR 10 (s0)]) (rs := fun v74 => [gR 9 (v74), gR 10 (s0)]) [gR 8 (l3), gR 9 (v67)] rfl (hm_18 hG (v67) (l3)) rfl (gh_V (t := 9) (vs := [gR 8 (l3)]) (rest := [gR 10 (s0)]) (show decode (gy_b gY_162) 98 = .ok (.invokevirtual 67, 3) by decide +kernel) rfl hx98 rfl rfl (ok_18 (by decide) (by decide)) wd_423 wd_424 wd_425 (Nat.le_of_ble_eq_true rfl)) (fun _ => rfl) ?_
  intro v74 M75 n76 c77
  refine gr_ldcS (pc := 101) (index := 202) (b := 42) (tx := " ") rfl (show decode (gy_b gY_162) 101 = .ok (.ldc 202, 2) by decide +kernel) (by decide) (by decide) (by decide) ?_
  refine gj_nn (fun hx103 => ?_)
  refine gj_c0 (pc := 103) (Y' := gY_18) (y := yJ4_append_15ec4) (vs := [gR 9 (v74), gR 8 (42)]) (rest := [gR 10 (s0)]) (rs := fun v78 => [gR 9 (v78), gR 10 (s0)]) [gR 8 (42), gR 9 (v74)] rfl (hm_18 hG (v74) (42)) rfl (gh_V (t := 9) (vs := [gR 8 (42)]) (rest := [gR 10 (s0)]) (show decode (gy_b gY_162) 103 = .ok (.invokevirtual 67, 3) by decide +kernel) rfl hx103 rfl rfl (ok_18 (by decide) (by decide)) wd_423 wd_424 wd_425 (Nat.le_of_ble_eq_true rfl)) (fun _ => rfl) ?_
  intro v78 M79 n80 c81
  refine gr_aload_n (pc := 106) (i := 2) 8 (l2) (show decode (gy_b gY_162) 106 = .ok (.aload_n 2, 1) by decide +kernel) rfl rfl ?_
  refine gj_nn (fun hx107 => ?_)
  refine gj_c0 (pc := 107) (Y' := gY_18) (y := yJ4_append_15ec4) (vs := [gR 9 (v78), gR 8 (l2)]) (rest := [gR 10 (s0)]) (rs := fun v82 => [gR 9 (v82), gR 10 (s0)]) [gR 8 (l2), gR 9 (v78)] rfl (hm_18 hG (v78) (l2)) rfl (gh_V (t := 9) (vs := [gR 8 (l2)]) (rest := [gR 10 (s0)]) (show decode (gy_b gY_162) 107 = .ok (.invokevirtual 67, 3) by decide +kernel) rfl hx107 rfl rfl (ok_18 (by decide) (by decide)) wd_423 wd_424 wd_425 (Nat.le_of_ble_eq_true rfl)) (fun _ => rfl) ?_
  intro v82 M83 n84 c85
  refine gr_ldcS (pc := 110) (index := 204) (b := 46) (tx := "/x") rfl (show decode (gy_b gY_162) 110 = .ok (.ldc 204, 2) by decide +kernel) (by decide) (by decide) (by decide) ?_
  refine gj_nn (fun hx112 => ?_)
  refine gj_c0 (pc := 112) (Y' := gY_18) (y := yJ4_append_15ec4) (vs := [gR 9 (v82), gR 8 (46)]) (rest := [gR 10 (s0)]) (rs := fun v86 => [gR 9 (v86), gR 10 (s0)]) [gR 8 (46), gR 9 (v82)] rfl (hm_18 hG (v82) (46)) rfl (gh_V (t := 9) (vs := [gR 8 (46)]) (rest := [gR 10 (s0)]) (show decode (gy_b gY_162) 112 = .ok (.invokevirtual 67, 3) by decide +kernel) rfl hx112 rfl rfl (ok_18 (by decide) (by decide)) wd_423 wd_424 wd_425 (Nat.le_of_ble_eq_true rfl)) (fun _ => rfl) ?_
  intro v86 M87 n88 c89
  refine gj_nn (fun hx115 => ?_)
  refine gj_c0 (pc := 115) (Y' := gY_31) (y := yJ4_toString_0e30d) (vs := [gR 9 (v86)]) (rest := [gR 10 (s0)]) (rs := fun v90 => [gR 8 (v90), gR 10 (s0)]) [gR 9 (v86)] rfl (hm_31 hG (v86)) rfl (gh_V (t := 9) (vs := []) (rest := [gR 10 (s0)]) (show decode (gy_b gY_162) 115 = .ok (.invokevirtual 78, 3) by decide +kernel) rfl hx115 rfl rfl (ok_31 (by decide) (by decide)) wd_565 wd_566 wd_567 (Nat.le_of_ble_eq_true rfl)) (fun _ => rfl) ?_
  intro v90 M91 n92 c93
  refine gj_nn (fun hx118 => ?_)
  refine gj_c0 (pc := 118) (Y' := gY_49) (y := yL_types) (vs := [gR 10 (s0), gR 8 (v90)]) (rest := []) (rs := fun v94 => []) [gR 8 (v90), gR 10 (s0)] rfl (hm_49 hG (s0) (v90)) rfl (gh_V (t := 10) (vs := [gR 8 (v90)]) (rest := []) (show decode (gy_b gY_162) 118 = .ok (.invokevirtual 108, 3) by decide +kernel) rfl hx118 rfl rfl (ok_49 (by decide) (by decide)) wd_736 wd_738 wd_11 (Nat.le_of_ble_eq_true rfl)) (fun _ => rfl) ?_
  intro v94 M95 n96 c97
  refine gr_aload_n (pc := 121) (i := 0) 10 (l0) (show decode (gy_b gY_162) 121 = .ok (.aload_n 0, 1) by decide +kernel) rfl rfl ?_
  refine gr_getf (pc := 122) (index := 10) (t := 10) (j := 3) (σ := 15) (sv := (gR 7)) (show decode (gy_b gY_162) 122 = .ok (.getfield 10, 3) by decide +kernel) rfl rfl (fun _ => rfl) wd_346 (by decide) ?_
  intro v98
  refine gr_iload_n (pc := 125) (i := 1) (l1) (show decode (gy_b gY_162) 125 = .ok (.iload_n 1, 1) by decide +kernel) rfl rfl ?_
  refine gj_nn (fun hx126 => ?_)
  refine gj_c2 (pc := 126) (Y' := gY_159) (y := yX7_rename) (vs := [gR 7 (v98), gI (l1)]) (rest := []) (rs := fun v99 => [gI (v99)]) [gI (l1), gR 7 (v98)] rfl (hm_159 hG (v98) (l1)) (gh_V (t := 7) (vs := [gI (l1)]) (rest := []) (show decode (gy_b gY_162) 126 = .ok (.invokevirtual 206, 3) by decide +kernel) rfl hx126 rfl rfl (ok_159 (by decide) (by decide)) wd_1332 wd_1333 wd_1334 (Nat.le_of_ble_eq_true rfl)) (fun _ => rfl) ?_
  intro v99 M100 n101 c102
  refine gr_iload (pc := 129) (i := 5) (l5) (show decode (gy_b gY_162) 129 = .ok (.iload 5, 2) by decide +kernel) rfl ?_
  refine gr_icmp_ne (pc := 131) (tgt := 166) (off := 35) hG.2.1 (show decode (gy_b gY_162) 131 = .ok (.if_icmp .ne (35), 3) by decide +kernel) (by decide) ?_ ?_
  · exact gj_false
  · refine gr_aload_n (pc := 134) (i := 0) 10 (l0) (show decode (gy_b gY_162) 134 = .ok (.aload_n 0, 1) by decide +kernel) rfl rfl ?_
    refine gr_iload_n (pc := 135) (i := 1) (l1) (show decode (gy_b gY_162) 135 = .ok (.iload_n 1, 1) by decide +kernel) rfl rfl ?_
    refine gr_newo (pc := 136) (index := 62) (t := 9) (show decode (gy_b gY_162) 136 = .ok (.new 62, 3) by decide +kernel) rfl wd_390 wd_391 wd_60 ?_
    intro v103 n104 c105
    refine gr_dup (b := gB) (pc := 139) (show decode (gy_b gY_162) 139 = .ok (.dup, 1) by decide +kernel) rfl ?_
    refine gj_nn (fun hx140 => ?_)
    refine gj_c0 (pc := 140) (Y' := gY_10) (y := yJ4_init_da8c8) (vs := [gR 9 (v103)]) (rest := [gR 9 (v103), gI (l1), gR 10 (l0)]) (rs := fun v106 => [gR 9 (v103), gI (l1), gR 10 (l0)]) [gR 9 (v103)] rfl (hm_10 hG (v103)) rfl (gh_I (t := 9) (vs := []) (rest := [gR 9 (v103), gI (l1), gR 10 (l0)]) (show decode (gy_b gY_162) 140 = .ok (.invokespecial 64, 3) by decide +kernel) rfl hx140 rfl (ok_10 (by decide) (by decide)) rfl rfl rfl rfl wd_392 wd_393 (Nat.le_of_ble_eq_true rfl)) (fun _ => rfl) ?_
    intro v106 M107 n108 c109
    refine gr_wk [true, true, true, true, true, false, true, true, true, true, true, true] rfl ?_
    exact h_162_L143 hG T hdr (l0) (l1) (l2) (l3) (l0) (l1) (v103) M107 n108 c109
noncomputable def fi_162_L39 (T : Nat) (K : Nat → Nat → Nat → Nat → Bool) (l0 l1 l2 l3 s0 s1 M n c : Nat) : Bool := gx_nn (s0) (fi_49 (s0) (s1) M n c (fun v26 M27 n28 c29 => gx_get (l0) 3 M27 (fun v30 => gx_nn (v30) (fi_97 (v30) (l1) M27 n28 c29 (fun v31 M32 n33 c34 => gx_new 4 n33 c34 (fun v35 n36 c37 => gx_nn (v35) (fi_10 (v35) M32 n36 c37 (fun v38 M39 n40 c41 => gx_nn (v35) (fi_18 (v35) (l3) M39 n40 c41 (fun v42 M43 n44 c45 => gx_nn (v42) (fi_18 (v42) (9) M43 n44 c45 (fun v46 M47 n48 c49 => gx_nn (v46) (fi_18 (v46) (l3) M47 n48 c49 (fun v50 M51 n52 c53 => gx_nn (v50) (fi_31 (v50) M51 n52 c53 (fun v54 M55 n56 c57 => gx_nn (l0) (fi_49 (l0) (v54) M55 n56 c57 (fun v58 M59 n60 c61 => gx_get (l0) 3 M59 (fun v62 => gx_nn (v62) (fi_104 (v62) (l1) M59 n60 c61 (fun v63 M64 n65 c66 => fi_162_L90 T K (l0) (l1) (l2) (l3) (v31) (l0) M64 n65 c66)))))))))))))))))))))
theorem h_162_L39 {G : gxG} (hG : gxG0 G) (T : Nat) (hdr : ∀ x nn : Nat, gxM G gY_draw yL_draw [gR 10 x, gI nn] (fd_draw T x nn)) {K : Nat → Nat → Nat → Nat → Bool} (l0 l1 l2 l3 s0 s1 M n c : Nat) : gxJ G gY_162 K 39 [gR 8 (s1), gR 10 (s0)] [gR 10 (l0), gI (l1), gR 8 (l2), gR 8 (l3), gB, gB, gB, gB, gB, gB, gB, gB] M n c (fi_162_L39 T K l0 l1 l2 l3 s0 s1 M n c) := by
  unfold fi_162_L39
  refine gj_nn (fun hx39 => ?_)
  refine gj_c0 (pc := 39) (Y' := gY_49) (y := yL_types) (vs := [gR 10 (s0), gR 8 (s1)]) (rest := []) (rs := fun v26 => []) [gR 8 (s1), gR 10 (s0)] rfl (hm_49 hG (s0) (s1)) rfl (gh_V (t := 10) (vs := [gR 8 (s1)]) (rest := []) (show decode (gy_b gY_162) 39 = .ok (.invokevirtual 108, 3) by decide +kernel) rfl hx39 rfl rfl (ok_49 (by decide) (by decide)) wd_736 wd_738 wd_11 (Nat.le_of_ble_eq_true rfl)) (fun _ => rfl) ?_
  intro v26 M27 n28 c29
  refine gr_aload_n (pc := 42) (i := 0) 10 (l0) (show decode (gy_b gY_162) 42 = .ok (.aload_n 0, 1) by decide +kernel) rfl rfl ?_
  refine gr_getf (pc := 43) (index := 10) (t := 10) (j := 3) (σ := 15) (sv := (gR 7)) (show decode (gy_b gY_162) 43 = .ok (.getfield 10, 3) by decide +kernel) rfl rfl (fun _ => rfl) wd_346 (by decide) ?_
  intro v30
  refine gr_iload_n (pc := 46) (i := 1) (l1) (show decode (gy_b gY_162) 46 = .ok (.iload_n 1, 1) by decide +kernel) rfl rfl ?_
  refine gj_nn (fun hx47 => ?_)
  refine gj_c0 (pc := 47) (Y' := gY_97) (y := yX7_makeFile) (vs := [gR 7 (v30), gI (l1)]) (rest := []) (rs := fun v31 => [gI (v31)]) [gI (l1), gR 7 (v30)] rfl (hm_97 hG (v30) (l1)) rfl (gh_V (t := 7) (vs := [gI (l1)]) (rest := []) (show decode (gy_b gY_162) 47 = .ok (.invokevirtual 134, 3) by decide +kernel) rfl hx47 rfl rfl (ok_97 (by decide) (by decide)) wd_807 wd_808 wd_809 (Nat.le_of_ble_eq_true rfl)) (fun _ => rfl) ?_
  intro v31 M32 n33 c34
  refine gr_istore (pc := 50) (i := 5) (L' := [gR 10 (l0), gI (l1), gR 8 (l2), gR 8 (l3), gB, gI (v31), gB, gB, gB, gB, gB, gB]) (show decode (gy_b gY_162) 50 = .ok (.istore 5, 2) by decide +kernel) (by decide) rfl rfl ?_
  refine gr_aload_n (pc := 52) (i := 0) 10 (l0) (show decode (gy_b gY_162) 52 = .ok (.aload_n 0, 1) by decide +kernel) rfl rfl ?_
  refine gr_newo (pc := 53) (index := 62) (t := 9) (show decode (gy_b gY_162) 53 = .ok (.new 62, 3) by decide +kernel) rfl wd_390 wd_391 wd_60 ?_
  intro v35 n36 c37
  refine gr_dup (b := gB) (pc := 56) (show decode (gy_b gY_162) 56 = .ok (.dup, 1) by decide +kernel) rfl ?_
  refine gj_nn (fun hx57 => ?_)
  refine gj_c0 (pc := 57) (Y' := gY_10) (y := yJ4_init_da8c8) (vs := [gR 9 (v35)]) (rest := [gR 9 (v35), gR 10 (l0)]) (rs := fun v38 => [gR 9 (v35), gR 10 (l0)]) [gR 9 (v35)] rfl (hm_10 hG (v35)) rfl (gh_I (t := 9) (vs := []) (rest := [gR 9 (v35), gR 10 (l0)]) (show decode (gy_b gY_162) 57 = .ok (.invokespecial 64, 3) by decide +kernel) rfl hx57 rfl (ok_10 (by decide) (by decide)) rfl rfl rfl rfl wd_392 wd_393 (Nat.le_of_ble_eq_true rfl)) (fun _ => rfl) ?_
  intro v38 M39 n40 c41
  refine gr_aload_n (pc := 60) (i := 3) 8 (l3) (show decode (gy_b gY_162) 60 = .ok (.aload_n 3, 1) by decide +kernel) rfl rfl ?_
  refine gj_nn (fun hx61 => ?_)
  refine gj_c0 (pc := 61) (Y' := gY_18) (y := yJ4_append_15ec4) (vs := [gR 9 (v35), gR 8 (l3)]) (rest := [gR 10 (l0)]) (rs := fun v42 => [gR 9 (v42), gR 10 (l0)]) [gR 8 (l3), gR 9 (v35)] rfl (hm_18 hG (v35) (l3)) rfl (gh_V (t := 9) (vs := [gR 8 (l3)]) (rest := [gR 10 (l0)]) (show decode (gy_b gY_162) 61 = .ok (.invokevirtual 67, 3) by decide +kernel) rfl hx61 rfl rfl (ok_18 (by decide) (by decide)) wd_423 wd_424 wd_425 (Nat.le_of_ble_eq_true rfl)) (fun _ => rfl) ?_
  intro v42 M43 n44 c45
  refine gr_ldcS (pc := 64) (index := 146) (b := 9) (tx := "=") rfl (show decode (gy_b gY_162) 64 = .ok (.ldc 146, 2) by decide +kernel) (by decide) (by decide) (by decide) ?_
  refine gj_nn (fun hx66 => ?_)
  refine gj_c0 (pc := 66) (Y' := gY_18) (y := yJ4_append_15ec4) (vs := [gR 9 (v42), gR 8 (9)]) (rest := [gR 10 (l0)]) (rs := fun v46 => [gR 9 (v46), gR 10 (l0)]) [gR 8 (9), gR 9 (v42)] rfl (hm_18 hG (v42) (9)) rfl (gh_V (t := 9) (vs := [gR 8 (9)]) (rest := [gR 10 (l0)]) (show decode (gy_b gY_162) 66 = .ok (.invokevirtual 67, 3) by decide +kernel) rfl hx66 rfl rfl (ok_18 (by decide) (by decide)) wd_423 wd_424 wd_425 (Nat.le_of_ble_eq_true rfl)) (fun _ => rfl) ?_
  intro v46 M47 n48 c49
  refine gr_aload_n (pc := 69) (i := 3) 8 (l3) (show decode (gy_b gY_162) 69 = .ok (.aload_n 3, 1) by decide +kernel) rfl rfl ?_
  refine gj_nn (fun hx70 => ?_)
  refine gj_c0 (pc := 70) (Y' := gY_18) (y := yJ4_append_15ec4) (vs := [gR 9 (v46), gR 8 (l3)]) (rest := [gR 10 (l0)]) (rs := fun v50 => [gR 9 (v50), gR 10 (l0)]) [gR 8 (l3), gR 9 (v46)] rfl (hm_18 hG (v46) (l3)) rfl (gh_V (t := 9) (vs := [gR 8 (l3)]) (rest := [gR 10 (l0)]) (show decode (gy_b gY_162) 70 = .ok (.invokevirtual 67, 3) by decide +kernel) rfl hx70 rfl rfl (ok_18 (by decide) (by decide)) wd_423 wd_424 wd_425 (Nat.le_of_ble_eq_true rfl)) (fun _ => rfl) ?_
  intro v50 M51 n52 c53
  refine gj_nn (fun hx73 => ?_)
  refine gj_c0 (pc := 73) (Y' := gY_31) (y := yJ4_toString_0e30d) (vs := [gR 9 (v50)]) (rest := [gR 10 (l0)]) (rs := fun v54 => [gR 8 (v54), gR 10 (l0)]) [gR 9 (v50)] rfl (hm_31 hG (v50)) rfl (gh_V (t := 9) (vs := []) (rest := [gR 10 (l0)]) (show decode (gy_b gY_162) 73 = .ok (.invokevirtual 78, 3) by decide +kernel) rfl hx73 rfl rfl (ok_31 (by decide) (by decide)) wd_565 wd_566 wd_567 (Nat.le_of_ble_eq_true rfl)) (fun _ => rfl) ?_
  intro v54 M55 n56 c57
  refine gj_nn (fun hx76 => ?_)
  refine gj_c0 (pc := 76) (Y' := gY_49) (y := yL_types) (vs := [gR 10 (l0), gR 8 (v54)]) (rest := []) (rs := fun v58 => []) [gR 8 (v54), gR 10 (l0)] rfl (hm_49 hG (l0) (v54)) rfl (gh_V (t := 10) (vs := [gR 8 (v54)]) (rest := []) (show decode (gy_b gY_162) 76 = .ok (.invokevirtual 108, 3) by decide +kernel) rfl hx76 rfl rfl (ok_49 (by decide) (by decide)) wd_736 wd_738 wd_11 (Nat.le_of_ble_eq_true rfl)) (fun _ => rfl) ?_
  intro v58 M59 n60 c61
  refine gr_aload_n (pc := 79) (i := 0) 10 (l0) (show decode (gy_b gY_162) 79 = .ok (.aload_n 0, 1) by decide +kernel) rfl rfl ?_
  refine gr_getf (pc := 80) (index := 10) (t := 10) (j := 3) (σ := 15) (sv := (gR 7)) (show decode (gy_b gY_162) 80 = .ok (.getfield 10, 3) by decide +kernel) rfl rfl (fun _ => rfl) wd_346 (by decide) ?_
  intro v62
  refine gr_iload_n (pc := 83) (i := 1) (l1) (show decode (gy_b gY_162) 83 = .ok (.iload_n 1, 1) by decide +kernel) rfl rfl ?_
  refine gj_nn (fun hx84 => ?_)
  refine gj_c0 (pc := 84) (Y' := gY_104) (y := yX7_store) (vs := [gR 7 (v62), gI (l1)]) (rest := []) (rs := fun v63 => [gI (v63)]) [gI (l1), gR 7 (v62)] rfl (hm_104 hG (v62) (l1)) rfl (gh_V (t := 7) (vs := [gI (l1)]) (rest := []) (show decode (gy_b gY_162) 84 = .ok (.invokevirtual 148, 3) by decide +kernel) rfl hx84 rfl rfl (ok_104 (by decide) (by decide)) wd_1094 wd_1095 wd_1096 (Nat.le_of_ble_eq_true rfl)) (fun _ => rfl) ?_
  intro v63 M64 n65 c66
  refine gr_istore (pc := 87) (i := 6) (L' := [gR 10 (l0), gI (l1), gR 8 (l2), gR 8 (l3), gB, gI (v31), gI (v63), gB, gB, gB, gB, gB]) (show decode (gy_b gY_162) 87 = .ok (.istore 6, 2) by decide +kernel) (by decide) rfl rfl ?_
  refine gr_aload_n (pc := 89) (i := 0) 10 (l0) (show decode (gy_b gY_162) 89 = .ok (.aload_n 0, 1) by decide +kernel) rfl rfl ?_
  refine gr_wk [true, true, true, true, true, true, false, true, true, true, true, true] rfl ?_
  exact h_162_L90 hG T hdr (l0) (l1) (l2) (l3) (v31) (l0) M64 n65 c66
noncomputable def fi_162_L0 (T : Nat) (K : Nat → Nat → Nat → Nat → Bool) (l0 M n c : Nat) : Bool := gx_nn (l0) (fd_draw T (l0) (4) M n c (fun v1 M2 n3 c4 => gx_nn (l0) (fi_40 (l0) (v1) (1) M2 n3 c4 (fun v5 M6 n7 c8 => gx_nn (l0) (fi_32 T (l0) M6 n7 c8 (fun v9 M10 n11 c12 => gx_nn (l0) (fi_32 T (l0) M10 n11 c12 (fun v13 M14 n15 c16 => gx_nn (l0) (fi_49 (l0) (v9) M14 n15 c16 (fun v17 M18 n19 c20 => gx_get (l0) 3 M18 (fun v21 => gx_nn (v21) (fi_142 (v21) (v1) M18 n19 c20 (fun v22 M23 n24 c25 => fi_162_L39 T K (l0) (v1) (v9) (v13) (l0) (v13) M23 n24 c25)))))))))))))
theorem h_162_L0 {G : gxG} (hG : gxG0 G) (T : Nat) (hdr : ∀ x nn : Nat, gxM G gY_draw yL_draw [gR 10 x, gI nn] (fd_draw T x nn)) {K : Nat → Nat → Nat → Nat → Bool} (l0 M n c : Nat) : gxJ G gY_162 K 0 [] [gR 10 (l0), gB, gB, gB, gB, gB, gB, gB, gB, gB, gB, gB] M n c (fi_162_L0 T K l0 M n c) := by
  unfold fi_162_L0
  refine gr_aload_n (pc := 0) (i := 0) 10 (l0) (show decode (gy_b gY_162) 0 = .ok (.aload_n 0, 1) by decide +kernel) rfl rfl ?_
  refine gr_iconst (pc := 1) (z := 4) 4 (show decode (gy_b gY_162) 1 = .ok (.iconst (4), 1) by decide +kernel) kc_4 ?_
  refine gj_nn (fun hx2 => ?_)
  refine gj_c0 (pc := 2) (Y' := gY_draw) (y := yL_draw) (vs := [gR 10 (l0), gI (4)]) (rest := []) (rs := fun v1 => [gI (v1)]) [gI (4), gR 10 (l0)] rfl (hdr (l0) (4)) rfl (gh_V (t := 10) (vs := [gI (4)]) (rest := []) (show decode (gy_b gY_162) 2 = .ok (.invokevirtual 71, 3) by decide +kernel) rfl hx2 rfl rfl (ok_draw (by decide) (by decide)) wd_363 wd_365 wd_4 (Nat.le_of_ble_eq_true rfl)) (fun _ => rfl) ?_
  intro v1 M2 n3 c4
  refine gr_istore_n (pc := 5) (i := 1) (L' := [gR 10 (l0), gI (v1), gB, gB, gB, gB, gB, gB, gB, gB, gB, gB]) (show decode (gy_b gY_162) 5 = .ok (.istore_n 1, 1) by decide +kernel) rfl (by decide) rfl rfl ?_
  refine gr_aload_n (pc := 6) (i := 0) 10 (l0) (show decode (gy_b gY_162) 6 = .ok (.aload_n 0, 1) by decide +kernel) rfl rfl ?_
  refine gr_iload_n (pc := 7) (i := 1) (v1) (show decode (gy_b gY_162) 7 = .ok (.iload_n 1, 1) by decide +kernel) rfl rfl ?_
  refine gr_iconst (pc := 8) (z := 1) 1 (show decode (gy_b gY_162) 8 = .ok (.iconst (1), 1) by decide +kernel) kc_1 ?_
  refine gj_nn (fun hx9 => ?_)
  refine gj_c0 (pc := 9) (Y' := gY_40) (y := yL_links) (vs := [gR 10 (l0), gI (v1), gI (1)]) (rest := []) (rs := fun v5 => []) [gI (1), gI (v1), gR 10 (l0)] rfl (hm_40 hG (l0) (v1) (1)) rfl (gh_V (t := 10) (vs := [gI (v1), gI (1)]) (rest := []) (show decode (gy_b gY_162) 9 = .ok (.invokevirtual 130, 3) by decide +kernel) rfl hx9 rfl rfl (ok_40 (by decide) (by decide)) wd_654 wd_656 wd_8 (Nat.le_of_ble_eq_true rfl)) (fun _ => rfl) ?_
  intro v5 M6 n7 c8
  refine gr_aload_n (pc := 12) (i := 0) 10 (l0) (show decode (gy_b gY_162) 12 = .ok (.aload_n 0, 1) by decide +kernel) rfl rfl ?_
  refine gj_nn (fun hx13 => ?_)
  refine gj_c0 (pc := 13) (Y' := gY_32) (y := yL_name) (vs := [gR 10 (l0)]) (rest := []) (rs := fun v9 => [gR 8 (v9)]) [gR 10 (l0)] rfl (hm_32 hG T hdr (l0)) rfl (gh_V (t := 10) (vs := []) (rest := []) (show decode (gy_b gY_162) 13 = .ok (.invokevirtual 121, 3) by decide +kernel) rfl hx13 rfl rfl (ok_32 (by decide) (by decide)) wd_386 wd_388 wd_6 (Nat.le_of_ble_eq_true rfl)) (fun _ => rfl) ?_
  intro v9 M10 n11 c12
  refine gr_astore_n (pc := 16) (i := 2) (L' := [gR 10 (l0), gI (v1), gR 8 (v9), gB, gB, gB, gB, gB, gB, gB, gB, gB]) (show decode (gy_b gY_162) 16 = .ok (.astore_n 2, 1) by decide +kernel) rfl (by decide) rfl rfl ?_
  refine gr_aload_n (pc := 17) (i := 0) 10 (l0) (show decode (gy_b gY_162) 17 = .ok (.aload_n 0, 1) by decide +kernel) rfl rfl ?_
  refine gj_nn (fun hx18 => ?_)
  refine gj_c0 (pc := 18) (Y' := gY_32) (y := yL_name) (vs := [gR 10 (l0)]) (rest := []) (rs := fun v13 => [gR 8 (v13)]) [gR 10 (l0)] rfl (hm_32 hG T hdr (l0)) rfl (gh_V (t := 10) (vs := []) (rest := []) (show decode (gy_b gY_162) 18 = .ok (.invokevirtual 121, 3) by decide +kernel) rfl hx18 rfl rfl (ok_32 (by decide) (by decide)) wd_386 wd_388 wd_6 (Nat.le_of_ble_eq_true rfl)) (fun _ => rfl) ?_
  intro v13 M14 n15 c16
  refine gr_astore_n (pc := 21) (i := 3) (L' := [gR 10 (l0), gI (v1), gR 8 (v9), gR 8 (v13), gB, gB, gB, gB, gB, gB, gB, gB]) (show decode (gy_b gY_162) 21 = .ok (.astore_n 3, 1) by decide +kernel) rfl (by decide) rfl rfl ?_
  refine gr_aload_n (pc := 22) (i := 0) 10 (l0) (show decode (gy_b gY_162) 22 = .ok (.aload_n 0, 1) by decide +kernel) rfl rfl ?_
  refine gr_aload_n (pc := 23) (i := 2) 8 (v9) (show decode (gy_b gY_162) 23 = .ok (.aload_n 2, 1) by decide +kernel) rfl rfl ?_
  refine gj_nn (fun hx24 => ?_)
  refine gj_c0 (pc := 24) (Y' := gY_49) (y := yL_types) (vs := [gR 10 (l0), gR 8 (v9)]) (rest := []) (rs := fun v17 => []) [gR 8 (v9), gR 10 (l0)] rfl (hm_49 hG (l0) (v9)) rfl (gh_V (t := 10) (vs := [gR 8 (v9)]) (rest := []) (show decode (gy_b gY_162) 24 = .ok (.invokevirtual 108, 3) by decide +kernel) rfl hx24 rfl rfl (ok_49 (by decide) (by decide)) wd_736 wd_738 wd_11 (Nat.le_of_ble_eq_true rfl)) (fun _ => rfl) ?_
  intro v17 M18 n19 c20
  refine gr_aload_n (pc := 27) (i := 0) 10 (l0) (show decode (gy_b gY_162) 27 = .ok (.aload_n 0, 1) by decide +kernel) rfl rfl ?_
  refine gr_getf (pc := 28) (index := 10) (t := 10) (j := 3) (σ := 15) (sv := (gR 7)) (show decode (gy_b gY_162) 28 = .ok (.getfield 10, 3) by decide +kernel) rfl rfl (fun _ => rfl) wd_346 (by decide) ?_
  intro v21
  refine gr_iload_n (pc := 31) (i := 1) (v1) (show decode (gy_b gY_162) 31 = .ok (.iload_n 1, 1) by decide +kernel) rfl rfl ?_
  refine gj_nn (fun hx32 => ?_)
  refine gj_c0 (pc := 32) (Y' := gY_142) (y := yX7_makeDirectory) (vs := [gR 7 (v21), gI (v1)]) (rest := []) (rs := fun v22 => [gI (v22)]) [gI (v1), gR 7 (v21)] rfl (hm_142 hG (v21) (v1)) rfl (gh_V (t := 7) (vs := [gI (v1)]) (rest := []) (show decode (gy_b gY_162) 32 = .ok (.invokevirtual 183, 3) by decide +kernel) rfl hx32 rfl rfl (ok_142 (by decide) (by decide)) wd_1268 wd_1269 wd_1270 (Nat.le_of_ble_eq_true rfl)) (fun _ => rfl) ?_
  intro v22 M23 n24 c25
  refine gr_istore (pc := 35) (i := 4) (L' := [gR 10 (l0), gI (v1), gR 8 (v9), gR 8 (v13), gI (v22), gB, gB, gB, gB, gB, gB, gB]) (show decode (gy_b gY_162) 35 = .ok (.istore 4, 2) by decide +kernel) (by decide) rfl rfl ?_
  refine gr_aload_n (pc := 37) (i := 0) 10 (l0) (show decode (gy_b gY_162) 37 = .ok (.aload_n 0, 1) by decide +kernel) rfl rfl ?_
  refine gr_aload_n (pc := 38) (i := 3) 8 (v13) (show decode (gy_b gY_162) 38 = .ok (.aload_n 3, 1) by decide +kernel) rfl rfl ?_
  refine gr_wk [true, true, true, true, false, true, true, true, true, true, true, true] rfl ?_
  exact h_162_L39 hG T hdr (l0) (v1) (v9) (v13) (l0) (v13) M23 n24 c25
noncomputable def fi_162 (T : Nat) (l0 M n c : Nat) (K : Nat → Nat → Nat → Nat → Bool) : Bool := fi_162_L0 T K l0 M n c
theorem hm_162 {G : gxG} (hG : gxG0 G) (T : Nat) (hdr : ∀ x nn : Nat, gxM G gY_draw yL_draw [gR 10 x, gI nn] (fd_draw T x nn)) (l0 : Nat) : gxM G gY_162 yL_isRenamed [gR 10 (l0)] (fi_162 T l0) := gxM_of (L := [gR 10 (l0), gB, gB, gB, gB, gB, gB, gB, gB, gB, gB, gB]) hG 11 (by decide +kernel) rfl rfl rfl rfl (List.forall_mem_cons.mpr ⟨rfl, fun _ h => nomatch h⟩) (fun M n c K => h_162_L0 hG T hdr  l0 M n c)
/-! Farfiles isHoldSound (LFarfiles$Client;)Z -/
def gY_163 : gxY := (false, prog_1_method_81_code, 6, (Option.some Jvm.ClassFile.FieldType.boolean), "Farfiles", 3, 81, 2, [], "isHoldSound")
theorem ok_163 {Y : gxY} (h1 : gy_f gY_163 + 1 ≤ gy_f Y) (h2 : 8 + (gy_l gY_163 + 11) + gy_k gY_163 ≤ gy_k Y) : gh_ok Y gY_163 yX7_isHoldSound 1 := ⟨wd_1361, wd_51, ⟨by decide, by decide⟩, by decide +kernel, h1, h2⟩
noncomputable def fi_163_L104 (K : Nat → Nat → Nat → Nat → Bool) (ih_2 : Nat → Nat → Nat → Nat → Nat → Nat → Bool) (l0 l1 l2 l3 M n c : Nat) : Bool := gx_eq (l3) 0 (gx_add (l2) 1 (fun z14 => ih_2 (l0) (l1) (z14) M n c)) (false)
theorem h_163_L104 {G : gxG} (hG : gxG0 G) {K : Nat → Nat → Nat → Nat → Bool} {ih_2 : Nat → Nat → Nat → Nat → Nat → Nat → Bool} (hi_2 : ∀ l0 l1 l2 M n c : Nat, gxJ G gY_163 K 2 [] [gR 7 (l0), gR 3 (l1), gI (l2), gB, gB, gB] M n c (ih_2 l0 l1 l2 M n c)) (l0 l1 l2 l3 M n c : Nat) : gxJ G gY_163 K 104 [] [gR 7 (l0), gR 3 (l1), gI (l2), gI (l3), gB, gB] M n c (fi_163_L104 K ih_2 l0 l1 l2 l3 M n c) := by
  unfold fi_163_L104
  refine gr_iload_n (pc := 104) (i := 3) (l3) (show decode (gy_b gY_163) 104 = .ok (.iload_n 3, 1) by decide +kernel) rfl rfl ?_
  refine gr_ifeq (pc := 105) (tgt := 115) (off := 10) hG.2.1 (show decode (gy_b gY_163) 105 = .ok (.ifCond .eq (10), 3) by decide +kernel) (by decide) ?_ ?_
  · refine gr_iinc (pc := 115) (i := 2) (d := 1) (z := 1) (L' := fun z14 => [gR 7 (l0), gR 3 (l1), gI (z14), gI (l3), gB, gB]) (show decode (gy_b gY_163) 115 = .ok (.iinc 2 (1), 3) by decide +kernel) (by decide +kernel) (by decide) rfl rfl (fun _ => rfl) ?_
    intro z14
    refine gr_goto (pc := 118) (tgt := 2) (off := -116) (show decode (gy_b gY_163) 118 = .ok (.goto (-116), 3) by decide +kernel) (by decide) ?_
    refine gr_wk [true, true, true, false, true, true] rfl ?_
    exact hi_2 (l0) (l1) (z14) M n c
  · exact gj_false
noncomputable def fi_163_L53 (K : Nat → Nat → Nat → Nat → Bool) (ih_2 : Nat → Nat → Nat → Nat → Nat → Nat → Bool) (ih_28 : Nat → Nat → Nat → Nat → Nat → Nat → Nat → Nat → Nat → Bool) (l0 l1 l2 l3 l5 M n c : Nat) : Bool := gx_add (l5) 1 (fun z25 => ih_28 (l0) (l1) (l2) (l3) (1) (z25) M n c)
theorem h_163_L53 {G : gxG} (hG : gxG0 G) {K : Nat → Nat → Nat → Nat → Bool} {ih_2 : Nat → Nat → Nat → Nat → Nat → Nat → Bool} (hi_2 : ∀ l0 l1 l2 M n c : Nat, gxJ G gY_163 K 2 [] [gR 7 (l0), gR 3 (l1), gI (l2), gB, gB, gB] M n c (ih_2 l0 l1 l2 M n c)) {ih_28 : Nat → Nat → Nat → Nat → Nat → Nat → Nat → Nat → Nat → Bool} (hi_28 : ∀ l0 l1 l2 l3 l4 l5 M n c : Nat, gxJ G gY_163 K 28 [] [gR 7 (l0), gR 3 (l1), gI (l2), gI (l3), gI (l4), gI (l5)] M n c (ih_28 l0 l1 l2 l3 l4 l5 M n c)) (l0 l1 l2 l3 l5 M n c : Nat) : gxJ G gY_163 K 53 [] [gR 7 (l0), gR 3 (l1), gI (l2), gI (l3), gB, gI (l5)] M n c (fi_163_L53 K ih_2 ih_28 l0 l1 l2 l3 l5 M n c) := by
  unfold fi_163_L53
  refine gr_iconst (pc := 53) (z := 1) 1 (show decode (gy_b gY_163) 53 = .ok (.iconst (1), 1) by decide +kernel) kc_1 ?_
  refine gr_goto (pc := 54) (tgt := 58) (off := 4) (show decode (gy_b gY_163) 54 = .ok (.goto (4), 3) by decide +kernel) (by decide) ?_
  refine gr_istore (pc := 58) (i := 4) (L' := [gR 7 (l0), gR 3 (l1), gI (l2), gI (l3), gI (1), gI (l5)]) (show decode (gy_b gY_163) 58 = .ok (.istore 4, 2) by decide +kernel) (by decide) rfl rfl ?_
  refine gr_iinc (pc := 60) (i := 5) (d := 1) (z := 1) (L' := fun z25 => [gR 7 (l0), gR 3 (l1), gI (l2), gI (l3), gI (1), gI (z25)]) (show decode (gy_b gY_163) 60 = .ok (.iinc 5 (1), 3) by decide +kernel) (by decide +kernel) (by decide) rfl rfl (fun _ => rfl) ?_
  intro z25
  refine gr_goto (pc := 63) (tgt := 28) (off := -35) (show decode (gy_b gY_163) 63 = .ok (.goto (-35), 3) by decide +kernel) (by decide) ?_
  exact hi_28 (l0) (l1) (l2) (l3) (1) (z25) M n c
noncomputable def fi_163_B28 (K : Nat → Nat → Nat → Nat → Bool) (ih_2 : Nat → Nat → Nat → Nat → Nat → Nat → Bool) (ih_28 : Nat → Nat → Nat → Nat → Nat → Nat → Nat → Nat → Nat → Bool) (l0 l1 l2 l3 l4 l5 M n c : Nat) : Bool := gx_lt (l5) (3) (gx_eq (l4) 0 (gx_get (l0) 4 M (fun v26 => gx_ald (v26) (l5) M (fun v27 => gx_nn (v27) (fi_69 (v27) (l2) M n c (fun v28 M29 n30 c31 => gx_eq (v28) 0 (false) (fi_163_L53 K ih_2 ih_28 (l0) (l1) (l2) (l3) (l5) M29 n30 c31)))))) (fi_163_L53 K ih_2 ih_28 (l0) (l1) (l2) (l3) (l5) M n c)) (gx_get (l1) 5 M (fun v9 => gx_nn (v9) (fi_69 (v9) (l2) M n c (fun v10 M11 n12 c13 => gx_eq (v10) 0 (fi_163_L104 K ih_2 (l0) (l1) (l2) (l3) M11 n12 c13) (gx_eq (l4) 0 (false) (gx_get (l0) 1 M11 (fun v15 => gx_nn (v15) (fi_70 (v15) (l2) M11 n12 c13 (fun v16 M17 n18 c19 => gx_get (v16) 1 M17 (fun v20 => gx_nn (l1) (fi_64 (l1) (v20) M17 n18 c19 (fun v21 M22 n23 c24 => gx_eq (v21) 0 (false) (fi_163_L104 K ih_2 (l0) (l1) (l2) (l3) M22 n23 c24)))))))))))))
theorem hb_163_B28 {G : gxG} (hG : gxG0 G) {K : Nat → Nat → Nat → Nat → Bool} {ih_2 : Nat → Nat → Nat → Nat → Nat → Nat → Bool} (hi_2 : ∀ l0 l1 l2 M n c : Nat, gxJ G gY_163 K 2 [] [gR 7 (l0), gR 3 (l1), gI (l2), gB, gB, gB] M n c (ih_2 l0 l1 l2 M n c)) {ih_28 : Nat → Nat → Nat → Nat → Nat → Nat → Nat → Nat → Nat → Bool} (hi_28 : ∀ l0 l1 l2 l3 l4 l5 M n c : Nat, gxJ G gY_163 K 28 [] [gR 7 (l0), gR 3 (l1), gI (l2), gI (l3), gI (l4), gI (l5)] M n c (ih_28 l0 l1 l2 l3 l4 l5 M n c)) (l0 l1 l2 l3 l4 l5 M n c : Nat) : gxJ G gY_163 K 28 [] [gR 7 (l0), gR 3 (l1), gI (l2), gI (l3), gI (l4), gI (l5)] M n c (fi_163_B28 K ih_2 ih_28 l0 l1 l2 l3 l4 l5 M n c) := by
  unfold fi_163_B28
  refine gr_iload (pc := 28) (i := 5) (l5) (show decode (gy_b gY_163) 28 = .ok (.iload 5, 2) by decide +kernel) rfl ?_
  refine gr_iconst (pc := 30) (z := 3) 3 (show decode (gy_b gY_163) 30 = .ok (.iconst (3), 1) by decide +kernel) kc_3 ?_
  refine gr_icmp_ge (pc := 31) (tgt := 66) (off := 35) hG.2.1 (show decode (gy_b gY_163) 31 = .ok (.if_icmp .ge (35), 3) by decide +kernel) (by decide) ?_ ?_
  · refine gr_aload_n (pc := 66) (i := 1) 3 (l1) (show decode (gy_b gY_163) 66 = .ok (.aload_n 1, 1) by decide +kernel) rfl rfl ?_
    refine gr_getfN (pc := 67) (index := 201) (t := 3) (j := 5) (σ := 9) (sv := (gR 1)) (show decode (gy_b gY_163) 67 = .ok (.getfield 201, 3) by decide +kernel) rfl rfl (fun _ => rfl) wd_260 (by decide) ?_
    intro v9
    refine gr_iload_n (pc := 70) (i := 2) (l2) (show decode (gy_b gY_163) 70 = .ok (.iload_n 2, 1) by decide +kernel) rfl rfl ?_
    refine gj_nn (fun hx71 => ?_)
    refine gj_c0 (pc := 71) (Y' := gY_69) (y := yX1_has) (vs := [gR 1 (v9), gI (l2)]) (rest := []) (rs := fun v10 => [gI (v10)]) [gI (l2), gR 1 (v9)] rfl (hm_69 hG (v9) (l2)) rfl (gh_V (t := 1) (vs := [gI (l2)]) (rest := []) (show decode (gy_b gY_163) 71 = .ok (.invokevirtual 255, 3) by decide +kernel) rfl hx71 rfl rfl (ok_69 (by decide) (by decide)) wd_1038 wd_923 wd_924 (Nat.le_of_ble_eq_true rfl)) (fun _ => rfl) ?_
    intro v10 M11 n12 c13
    refine gr_istore (pc := 74) (i := 5) (L' := [gR 7 (l0), gR 3 (l1), gI (l2), gI (l3), gI (l4), gI (v10)]) (show decode (gy_b gY_163) 74 = .ok (.istore 5, 2) by decide +kernel) (by decide) rfl rfl ?_
    refine gr_iload (pc := 76) (i := 5) (v10) (show decode (gy_b gY_163) 76 = .ok (.iload 5, 2) by decide +kernel) rfl ?_
    refine gr_ifeq (pc := 78) (tgt := 104) (off := 26) hG.2.1 (show decode (gy_b gY_163) 78 = .ok (.ifCond .eq (26), 3) by decide +kernel) (by decide) ?_ ?_
    · refine gr_wk [true, true, true, true, false, false] rfl ?_
      exact h_163_L104 hG hi_2 (l0) (l1) (l2) (l3) M11 n12 c13
    · refine gr_iload (pc := 81) (i := 4) (l4) (show decode (gy_b gY_163) 81 = .ok (.iload 4, 2) by decide +kernel) rfl ?_
      refine gr_ifeq (pc := 83) (tgt := 113) (off := 30) hG.2.1 (show decode (gy_b gY_163) 83 = .ok (.ifCond .eq (30), 3) by decide +kernel) (by decide) ?_ ?_
      · exact gj_false
      · refine gr_aload_n (pc := 86) (i := 1) 3 (l1) (show decode (gy_b gY_163) 86 = .ok (.aload_n 1, 1) by decide +kernel) rfl rfl ?_
        refine gr_aload_n (pc := 87) (i := 0) 7 (l0) (show decode (gy_b gY_163) 87 = .ok (.aload_n 0, 1) by decide +kernel) rfl rfl ?_
        refine gr_getf (pc := 88) (index := 19) (t := 7) (j := 1) (σ := 13) (sv := (gR 5)) (show decode (gy_b gY_163) 88 = .ok (.getfield 19, 3) by decide +kernel) rfl rfl (fun _ => rfl) wd_295 (by decide) ?_
        intro v15
        refine gr_iload_n (pc := 91) (i := 2) (l2) (show decode (gy_b gY_163) 91 = .ok (.iload_n 2, 1) by decide +kernel) rfl rfl ?_
        refine gj_nn (fun hx92 => ?_)
        refine gj_c0 (pc := 92) (Y' := gY_70) (y := yX5_at) (vs := [gR 5 (v15), gI (l2)]) (rest := [gR 3 (l1)]) (rs := fun v16 => [gR 0 (v16), gR 3 (l1)]) [gI (l2), gR 5 (v15)] rfl (hm_70 hG (v15) (l2)) rfl (gh_V (t := 5) (vs := [gI (l2)]) (rest := [gR 3 (l1)]) (show decode (gy_b gY_163) 92 = .ok (.invokevirtual 119, 3) by decide +kernel) rfl hx92 rfl rfl (ok_70 (by decide) (by decide)) wd_1037 wd_927 wd_928 (Nat.le_of_ble_eq_true rfl)) (fun _ => rfl) ?_
        intro v16 M17 n18 c19
        refine gr_getfN (pc := 95) (index := 244) (t := 0) (j := 1) (σ := 0) (sv := gI) (show decode (gy_b gY_163) 95 = .ok (.getfield 244, 3) by decide +kernel) rfl rfl (fun _ => rfl) wd_140 (by decide) ?_
        intro v20
        refine gj_nn (fun hx98 => ?_)
        refine gj_c0 (pc := 98) (Y' := gY_64) (y := yX3_hasHold) (vs := [gR 3 (l1), gI (v20)]) (rest := []) (rs := fun v21 => [gI (v21)]) [gI (v20), gR 3 (l1)] rfl (hm_64 hG (l1) (v20)) rfl (gh_V (t := 3) (vs := [gI (v20)]) (rest := []) (show decode (gy_b gY_163) 98 = .ok (.invokevirtual 177, 3) by decide +kernel) rfl hx98 rfl rfl (ok_64 (by decide) (by decide)) wd_899 wd_900 wd_901 (Nat.le_of_ble_eq_true rfl)) (fun _ => rfl) ?_
        intro v21 M22 n23 c24
        refine gr_ifeq (pc := 101) (tgt := 113) (off := 12) hG.2.1 (show decode (gy_b gY_163) 101 = .ok (.ifCond .eq (12), 3) by decide +kernel) (by decide) ?_ ?_
        · exact gj_false
        · refine gr_wk [true, true, true, true, false, false] rfl ?_
          exact h_163_L104 hG hi_2 (l0) (l1) (l2) (l3) M22 n23 c24
  · refine gr_iload (pc := 34) (i := 4) (l4) (show decode (gy_b gY_163) 34 = .ok (.iload 4, 2) by decide +kernel) rfl ?_
    refine gr_ifne (pc := 36) (tgt := 53) (off := 17) hG.2.1 (show decode (gy_b gY_163) 36 = .ok (.ifCond .ne (17), 3) by decide +kernel) (by decide) ?_ ?_
    · refine gr_wk [true, true, true, true, false, true] rfl ?_
      exact h_163_L53 hG hi_2 hi_28 (l0) (l1) (l2) (l3) (l5) M n c
    · refine gr_aload_n (pc := 39) (i := 0) 7 (l0) (show decode (gy_b gY_163) 39 = .ok (.aload_n 0, 1) by decide +kernel) rfl rfl ?_
      refine gr_getf (pc := 40) (index := 38) (t := 7) (j := 4) (σ := 78) (sv := (gR 70)) (show decode (gy_b gY_163) 40 = .ok (.getfield 38, 3) by decide +kernel) rfl rfl (fun _ => rfl) wd_298 (by decide) ?_
      intro v26
      refine gr_iload (pc := 43) (i := 5) (l5) (show decode (gy_b gY_163) 43 = .ok (.iload 5, 2) by decide +kernel) rfl ?_
      refine gr_aald (pc := 45) (κ := 6) (t := 1) (C := "Farfiles$ActSet") (show decode (gy_b gY_163) 45 = .ok (.aaload, 1) by decide +kernel) ⟨by decide, by decide, rfl⟩ rfl ?_
      intro v27
      refine gr_iload_n (pc := 46) (i := 2) (l2) (show decode (gy_b gY_163) 46 = .ok (.iload_n 2, 1) by decide +kernel) rfl rfl ?_
      refine gj_nn (fun hx47 => ?_)
      refine gj_c0 (pc := 47) (Y' := gY_69) (y := yX1_has) (vs := [gR 1 (v27), gI (l2)]) (rest := []) (rs := fun v28 => [gI (v28)]) [gI (l2), gR 1 (v27)] rfl (hm_69 hG (v27) (l2)) rfl (gh_V (t := 1) (vs := [gI (l2)]) (rest := []) (show decode (gy_b gY_163) 47 = .ok (.invokevirtual 255, 3) by decide +kernel) rfl hx47 rfl rfl (ok_69 (by decide) (by decide)) wd_1038 wd_923 wd_924 (Nat.le_of_ble_eq_true rfl)) (fun _ => rfl) ?_
      intro v28 M29 n30 c31
      refine gr_ifeq (pc := 50) (tgt := 57) (off := 7) hG.2.1 (show decode (gy_b gY_163) 50 = .ok (.ifCond .eq (7), 3) by decide +kernel) (by decide) ?_ ?_
      · exact gj_false
      · refine gr_wk [true, true, true, true, false, true] rfl ?_
        exact h_163_L53 hG hi_2 hi_28 (l0) (l1) (l2) (l3) (l5) M29 n30 c31
noncomputable def fi_163_W28 (K : Nat → Nat → Nat → Nat → Bool) (ih_2 : Nat → Nat → Nat → Nat → Nat → Nat → Bool) (u : Nat) : Nat → Nat → Nat → Nat → Nat → Nat → Nat → Nat → Nat → Bool := Nat.rec (motive := fun _ => Nat → Nat → Nat → Nat → Nat → Nat → Nat → Nat → Nat → Bool) (fun _ _ _ _ _ _ _ _ _ => false) (fun _ ih => fi_163_B28 K ih_2 ih) u
theorem hw_163_28 {G : gxG} (hG : gxG0 G) {K : Nat → Nat → Nat → Nat → Bool} {ih_2 : Nat → Nat → Nat → Nat → Nat → Nat → Bool} (hi_2 : ∀ l0 l1 l2 M n c : Nat, gxJ G gY_163 K 2 [] [gR 7 (l0), gR 3 (l1), gI (l2), gB, gB, gB] M n c (ih_2 l0 l1 l2 M n c)) (u : Nat) : ∀ l0 l1 l2 l3 l4 l5 M n c : Nat, gxJ G gY_163 K 28 [] [gR 7 (l0), gR 3 (l1), gI (l2), gI (l3), gI (l4), gI (l5)] M n c (fi_163_W28 K ih_2 u l0 l1 l2 l3 l4 l5 M n c) := by
  induction u with
  | zero => intro l0 l1 l2 l3 l4 l5 M n c; exact gj_false
  | succ u ih => intro l0 l1 l2 l3 l4 l5 M n c; exact hb_163_B28 hG hi_2 ih l0 l1 l2 l3 l4 l5 M n c
noncomputable def fi_163_B2 (K : Nat → Nat → Nat → Nat → Bool) (ih_2 : Nat → Nat → Nat → Nat → Nat → Nat → Bool) (l0 l1 l2 M n c : Nat) : Bool := gx_get (l0) 1 M (fun v1 => gx_get (v1) 4 M (fun v2 => gx_lt (l2) (v2) (gx_get (l1) 6 M (fun v4 => gx_nn (v4) (fi_69 (v4) (l2) M n c (fun v5 M6 n7 c8 => fi_163_W28 K ih_2 65536 (l0) (l1) (l2) (v5) (v5) (0) M6 n7 c8)))) (gx_get (l1) 7 M (fun v3 => gx_lt (8) (v3) (false) (gx_rt gx_f2 (1) (K (1) M n c))))))
theorem hb_163_B2 {G : gxG} (hG : gxG0 G) {K : Nat → Nat → Nat → Nat → Bool} {ih_2 : Nat → Nat → Nat → Nat → Nat → Nat → Bool} (hi_2 : ∀ l0 l1 l2 M n c : Nat, gxJ G gY_163 K 2 [] [gR 7 (l0), gR 3 (l1), gI (l2), gB, gB, gB] M n c (ih_2 l0 l1 l2 M n c)) (l0 l1 l2 M n c : Nat) : gxJ G gY_163 K 2 [] [gR 7 (l0), gR 3 (l1), gI (l2), gB, gB, gB] M n c (fi_163_B2 K ih_2 l0 l1 l2 M n c) := by
  unfold fi_163_B2
  refine gr_iload_n (pc := 2) (i := 2) (l2) (show decode (gy_b gY_163) 2 = .ok (.iload_n 2, 1) by decide +kernel) rfl rfl ?_
  refine gr_aload_n (pc := 3) (i := 0) 7 (l0) (show decode (gy_b gY_163) 3 = .ok (.aload_n 0, 1) by decide +kernel) rfl rfl ?_
  refine gr_getf (pc := 4) (index := 19) (t := 7) (j := 1) (σ := 13) (sv := (gR 5)) (show decode (gy_b gY_163) 4 = .ok (.getfield 19, 3) by decide +kernel) rfl rfl (fun _ => rfl) wd_295 (by decide) ?_
  intro v1
  refine gr_getfN (pc := 7) (index := 110) (t := 5) (j := 4) (σ := 0) (sv := gI) (show decode (gy_b gY_163) 7 = .ok (.getfield 110, 3) by decide +kernel) rfl rfl (fun _ => rfl) wd_181 (by decide) ?_
  intro v2
  refine gr_icmp_ge (pc := 10) (tgt := 121) (off := 111) hG.2.1 (show decode (gy_b gY_163) 10 = .ok (.if_icmp .ge (111), 3) by decide +kernel) (by decide) ?_ ?_
  · refine gr_aload_n (pc := 121) (i := 1) 3 (l1) (show decode (gy_b gY_163) 121 = .ok (.aload_n 1, 1) by decide +kernel) rfl rfl ?_
    refine gr_getfN (pc := 122) (index := 380) (t := 3) (j := 7) (σ := 0) (sv := gI) (show decode (gy_b gY_163) 122 = .ok (.getfield 380, 3) by decide +kernel) rfl rfl (fun _ => rfl) wd_264 (by decide) ?_
    intro v3
    refine gr_bipush (pc := 125) (z := 8) 8 (show decode (gy_b gY_163) 125 = .ok (.bipush (8), 2) by decide +kernel) (by decide +kernel) ?_
    refine gr_icmp_gt (pc := 127) (tgt := 134) (off := 7) hG.2.1 (show decode (gy_b gY_163) 127 = .ok (.if_icmp .gt (7), 3) by decide +kernel) (by decide) ?_ ?_
    · exact gj_false
    · refine gr_iconst (pc := 130) (z := 1) 1 (show decode (gy_b gY_163) 130 = .ok (.iconst (1), 1) by decide +kernel) kc_1 ?_
      refine gr_goto (pc := 131) (tgt := 135) (off := 4) (show decode (gy_b gY_163) 131 = .ok (.goto (4), 3) by decide +kernel) (by decide) ?_
      exact gr_ireturn (pc := 135) (show decode (gy_b gY_163) 135 = .ok (.ireturn, 1) by decide +kernel) rfl rfl (by decide) gv_2f
  · refine gr_aload_n (pc := 13) (i := 1) 3 (l1) (show decode (gy_b gY_163) 13 = .ok (.aload_n 1, 1) by decide +kernel) rfl rfl ?_
    refine gr_getfN (pc := 14) (index := 270) (t := 3) (j := 6) (σ := 9) (sv := (gR 1)) (show decode (gy_b gY_163) 14 = .ok (.getfield 270, 3) by decide +kernel) rfl rfl (fun _ => rfl) wd_262 (by decide) ?_
    intro v4
    refine gr_iload_n (pc := 17) (i := 2) (l2) (show decode (gy_b gY_163) 17 = .ok (.iload_n 2, 1) by decide +kernel) rfl rfl ?_
    refine gj_nn (fun hx18 => ?_)
    refine gj_c0 (pc := 18) (Y' := gY_69) (y := yX1_has) (vs := [gR 1 (v4), gI (l2)]) (rest := []) (rs := fun v5 => [gI (v5)]) [gI (l2), gR 1 (v4)] rfl (hm_69 hG (v4) (l2)) rfl (gh_V (t := 1) (vs := [gI (l2)]) (rest := []) (show decode (gy_b gY_163) 18 = .ok (.invokevirtual 255, 3) by decide +kernel) rfl hx18 rfl rfl (ok_69 (by decide) (by decide)) wd_1038 wd_923 wd_924 (Nat.le_of_ble_eq_true rfl)) (fun _ => rfl) ?_
    intro v5 M6 n7 c8
    refine gr_istore_n (pc := 21) (i := 3) (L' := [gR 7 (l0), gR 3 (l1), gI (l2), gI (v5), gB, gB]) (show decode (gy_b gY_163) 21 = .ok (.istore_n 3, 1) by decide +kernel) rfl (by decide) rfl rfl ?_
    refine gr_iload_n (pc := 22) (i := 3) (v5) (show decode (gy_b gY_163) 22 = .ok (.iload_n 3, 1) by decide +kernel) rfl rfl ?_
    refine gr_istore (pc := 23) (i := 4) (L' := [gR 7 (l0), gR 3 (l1), gI (l2), gI (v5), gI (v5), gB]) (show decode (gy_b gY_163) 23 = .ok (.istore 4, 2) by decide +kernel) (by decide) rfl rfl ?_
    refine gr_iconst (pc := 25) (z := 0) 0 (show decode (gy_b gY_163) 25 = .ok (.iconst (0), 1) by decide +kernel) kc_0 ?_
    refine gr_istore (pc := 26) (i := 5) (L' := [gR 7 (l0), gR 3 (l1), gI (l2), gI (v5), gI (v5), gI (0)]) (show decode (gy_b gY_163) 26 = .ok (.istore 5, 2) by decide +kernel) (by decide) rfl rfl ?_
    exact hw_163_28 hG hi_2 65536 (l0) (l1) (l2) (v5) (v5) (0) M6 n7 c8
noncomputable def fi_163_W2 (K : Nat → Nat → Nat → Nat → Bool) (u : Nat) : Nat → Nat → Nat → Nat → Nat → Nat → Bool := Nat.rec (motive := fun _ => Nat → Nat → Nat → Nat → Nat → Nat → Bool) (fun _ _ _ _ _ _ => false) (fun _ ih => fi_163_B2 K ih) u
theorem hw_163_2 {G : gxG} (hG : gxG0 G) {K : Nat → Nat → Nat → Nat → Bool} (u : Nat) : ∀ l0 l1 l2 M n c : Nat, gxJ G gY_163 K 2 [] [gR 7 (l0), gR 3 (l1), gI (l2), gB, gB, gB] M n c (fi_163_W2 K u l0 l1 l2 M n c) := by
  induction u with
  | zero => intro l0 l1 l2 M n c; exact gj_false
  | succ u ih => intro l0 l1 l2 M n c; exact hb_163_B2 hG ih l0 l1 l2 M n c
noncomputable def fi_163_L0 (K : Nat → Nat → Nat → Nat → Bool) (l0 l1 M n c : Nat) : Bool := fi_163_W2 K 65536 (l0) (l1) (0) M n c
theorem h_163_L0 {G : gxG} (hG : gxG0 G) {K : Nat → Nat → Nat → Nat → Bool} (l0 l1 M n c : Nat) : gxJ G gY_163 K 0 [] [gR 7 (l0), gR 3 (l1), gB, gB, gB, gB] M n c (fi_163_L0 K l0 l1 M n c) := by
  unfold fi_163_L0
  refine gr_iconst (pc := 0) (z := 0) 0 (show decode (gy_b gY_163) 0 = .ok (.iconst (0), 1) by decide +kernel) kc_0 ?_
  refine gr_istore_n (pc := 1) (i := 2) (L' := [gR 7 (l0), gR 3 (l1), gI (0), gB, gB, gB]) (show decode (gy_b gY_163) 1 = .ok (.istore_n 2, 1) by decide +kernel) rfl (by decide) rfl rfl ?_
  exact hw_163_2 hG 65536 (l0) (l1) (0) M n c
noncomputable def fi_163 (l0 l1 M n c : Nat) (K : Nat → Nat → Nat → Nat → Bool) : Bool := fi_163_L0 K l0 l1 M n c
theorem hm_163 {G : gxG} (hG : gxG0 G) (l0 l1 : Nat) : gxM G gY_163 yX7_isHoldSound [gR 7 (l0), gR 3 (l1)] (fi_163 l0 l1) := gxM_of (L := [gR 7 (l0), gR 3 (l1), gB, gB, gB, gB]) hG 4 (by decide +kernel) rfl rfl rfl rfl (List.forall_mem_cons.mpr ⟨rfl, List.forall_mem_cons.mpr ⟨rfl, fun _ h => nomatch h⟩⟩) (fun M n c K => h_163_L0 hG  l0 l1 M n c)
