/-! METHODS 9 -/
set_option maxRecDepth 100000
/-! Farfiles makeDirectory (I)I -/
def gY_142 : gxY := (false, prog_1_method_40_code, 4, (Option.some Jvm.ClassFile.FieldType.int), "Farfiles", 11, 203, 0, [], "makeDirectory")
theorem ok_142 {Y : gxY} (h1 : gy_f gY_142 + 1 ≤ gy_f Y) (h2 : 8 + (gy_l gY_142 + 11) + gy_k gY_142 ≤ gy_k Y) : gh_ok Y gY_142 yX7_makeDirectory 1 := ⟨wd_1271, wd_51, ⟨by decide, by decide⟩, by decide +kernel, h1, h2⟩
noncomputable def fi_142_L0 (K : Nat → Nat → Nat → Nat → Bool) (l0 l1 M n c : Nat) : Bool := gx_nn (l0) (fi_51 (l0) (l1) M n c (fun v1 M2 n3 c4 => gx_nn (l0) (fi_62 (l0) M2 n3 c4 (fun v5 M6 n7 c8 => gx_lt (v5) 0 (false) (gx_get (l0) 8 M6 (fun v9 => gx_nn (l0) (fi_85 (l0) (v1) (v9) M6 n7 c8 (fun v10 M11 n12 c13 => gx_nth v10 (gx_nn (l0) (fi_96 (l0) (v1) (v10) (1) M11 n12 c13 (fun v14 M15 n16 c17 => gx_rt gx_f0 (v14) (K (v14) M15 n16 c17))))))))))))
theorem h_142_L0 {G : gxG} (hG : gxG0 G) {K : Nat → Nat → Nat → Nat → Bool} (l0 l1 M n c : Nat) : gxJ G gY_142 K 0 [] [gR 7 (l0), gI (l1), gB, gB] M n c (fi_142_L0 K l0 l1 M n c) := by
  unfold fi_142_L0
  refine gr_aload_n (pc := 0) (i := 0) 7 (l0) (show decode (gy_b gY_142) 0 = .ok (.aload_n 0, 1) by decide +kernel) rfl rfl ?_
  refine gr_iload_n (pc := 1) (i := 1) (l1) (show decode (gy_b gY_142) 1 = .ok (.iload_n 1, 1) by decide +kernel) rfl rfl ?_
  refine gj_nn (fun hx2 => ?_)
  refine gj_c0 (pc := 2) (Y' := gY_51) (y := yX7_callerOf) (vs := [gR 7 (l0), gI (l1)]) (rest := []) (rs := fun v1 => [gR 3 (v1)]) [gI (l1), gR 7 (l0)] rfl (hm_51 hG (l0) (l1)) rfl (gh_V (t := 7) (vs := [gI (l1)]) (rest := []) (show decode (gy_b gY_142) 2 = .ok (.invokevirtual 312, 3) by decide +kernel) rfl hx2 rfl rfl (ok_51 (by decide) (by decide)) wd_811 wd_813 wd_12 (Nat.le_of_ble_eq_true rfl)) (fun _ => rfl) ?_
  intro v1 M2 n3 c4
  refine gr_astore_n (pc := 5) (i := 2) (L' := [gR 7 (l0), gI (l1), gR 3 (v1), gB]) (show decode (gy_b gY_142) 5 = .ok (.astore_n 2, 1) by decide +kernel) rfl (by decide) rfl rfl ?_
  refine gr_aload_n (pc := 6) (i := 0) 7 (l0) (show decode (gy_b gY_142) 6 = .ok (.aload_n 0, 1) by decide +kernel) rfl rfl ?_
  refine gj_nn (fun hx7 => ?_)
  refine gj_c0 (pc := 7) (Y' := gY_62) (y := yX7_takePathOfLetters) (vs := [gR 7 (l0)]) (rest := []) (rs := fun v5 => [gI (v5)]) [gR 7 (l0)] rfl (hm_62 hG (l0)) rfl (gh_V (t := 7) (vs := []) (rest := []) (show decode (gy_b gY_142) 7 = .ok (.invokevirtual 315, 3) by decide +kernel) rfl hx7 rfl rfl (ok_62 (by decide) (by decide)) wd_819 wd_821 wd_13 (Nat.le_of_ble_eq_true rfl)) (fun _ => rfl) ?_
  intro v5 M6 n7 c8
  refine gr_istore_n (pc := 10) (i := 3) (L' := [gR 7 (l0), gI (l1), gR 3 (v1), gI (v5)]) (show decode (gy_b gY_142) 10 = .ok (.istore_n 3, 1) by decide +kernel) rfl (by decide) rfl rfl ?_
  refine gr_iload_n (pc := 11) (i := 3) (v5) (show decode (gy_b gY_142) 11 = .ok (.iload_n 3, 1) by decide +kernel) rfl rfl ?_
  refine gr_ifge (pc := 12) (tgt := 19) (off := 7) hG.2.1 (show decode (gy_b gY_142) 12 = .ok (.ifCond .ge (7), 3) by decide +kernel) (by decide) ?_ ?_
  · refine gr_aload_n (pc := 19) (i := 0) 7 (l0) (show decode (gy_b gY_142) 19 = .ok (.aload_n 0, 1) by decide +kernel) rfl rfl ?_
    refine gr_aload_n (pc := 20) (i := 2) 3 (v1) (show decode (gy_b gY_142) 20 = .ok (.aload_n 2, 1) by decide +kernel) rfl rfl ?_
    refine gr_aload_n (pc := 21) (i := 0) 7 (l0) (show decode (gy_b gY_142) 21 = .ok (.aload_n 0, 1) by decide +kernel) rfl rfl ?_
    refine gr_aload_n (pc := 22) (i := 2) 3 (v1) (show decode (gy_b gY_142) 22 = .ok (.aload_n 2, 1) by decide +kernel) rfl rfl ?_
    refine gr_aload_n (pc := 23) (i := 0) 7 (l0) (show decode (gy_b gY_142) 23 = .ok (.aload_n 0, 1) by decide +kernel) rfl rfl ?_
    refine gr_getf (pc := 24) (index := 55) (t := 7) (j := 8) (σ := 14) (sv := (gR 6)) (show decode (gy_b gY_142) 24 = .ok (.getfield 55, 3) by decide +kernel) rfl rfl (fun _ => rfl) wd_302 (by decide) ?_
    intro v9
    refine gj_nn (fun hx27 => ?_)
    refine gj_c2 (pc := 27) (Y' := gY_85) (y := yX7_goToDirectory) (vs := [gR 7 (l0), gR 3 (v1), gR 6 (v9)]) (rest := [gR 3 (v1), gR 7 (l0)]) (rs := fun v10 => [gI (v10), gR 3 (v1), gR 7 (l0)]) [gR 6 (v9), gR 3 (v1), gR 7 (l0)] rfl (hm_85 hG (l0) (v1) (v9)) (gh_V (t := 7) (vs := [gR 3 (v1), gR 6 (v9)]) (rest := [gR 3 (v1), gR 7 (l0)]) (show decode (gy_b gY_142) 27 = .ok (.invokevirtual 318, 3) by decide +kernel) rfl hx27 rfl rfl (ok_85 (by decide) (by decide)) wd_867 wd_869 wd_15 (Nat.le_of_ble_eq_true rfl)) (fun _ => rfl) ?_
    intro v10 M11 n12 c13
    refine gr_iconst (pc := 30) (z := 1) 1 (show decode (gy_b gY_142) 30 = .ok (.iconst (1), 1) by decide +kernel) kc_1 ?_
    refine gj_nn (fun hx31 => ?_)
    refine gj_c0 (pc := 31) (Y' := gY_96) (y := yX7_makeIn) (vs := [gR 7 (l0), gR 3 (v1), gI (v10), gI (1)]) (rest := []) (rs := fun v14 => [gI (v14)]) [gI (1), gI (v10), gR 3 (v1), gR 7 (l0)] rfl (hm_96 hG (l0) (v1) (v10) (1)) rfl (gh_V (t := 7) (vs := [gR 3 (v1), gI (v10), gI (1)]) (rest := []) (show decode (gy_b gY_142) 31 = .ok (.invokevirtual 322, 3) by decide +kernel) rfl hx31 rfl rfl (ok_96 (by decide) (by decide)) wd_1005 wd_1007 wd_24 (Nat.le_of_ble_eq_true rfl)) (fun _ => rfl) ?_
    intro v14 M15 n16 c17
    exact gr_ireturn (pc := 34) (show decode (gy_b gY_142) 34 = .ok (.ireturn, 1) by decide +kernel) rfl rfl (by decide) gv_0
  · exact gj_false
noncomputable def fi_142 (l0 l1 M n c : Nat) (K : Nat → Nat → Nat → Nat → Bool) : Bool := fi_142_L0 K l0 l1 M n c
theorem hm_142 {G : gxG} (hG : gxG0 G) (l0 l1 : Nat) : gxM G gY_142 yX7_makeDirectory [gR 7 (l0), gI (l1)] (fi_142 l0 l1) := gxM_of (L := [gR 7 (l0), gI (l1), gB, gB]) hG 2 (by decide +kernel) rfl rfl rfl rfl (List.forall_mem_cons.mpr ⟨rfl, List.forall_mem_cons.mpr ⟨rfl, fun _ h => nomatch h⟩⟩) (fun M n c K => h_142_L0 hG  l0 l1 M n c)
/-! Farfiles list (I)I -/
def gY_143 : gxY := (false, prog_1_method_48_code, 2, (Option.some Jvm.ClassFile.FieldType.int), "Farfiles", 11, 204, 0, [], "list")
theorem ok_143 {Y : gxY} (h1 : gy_f gY_143 + 1 ≤ gy_f Y) (h2 : 8 + (gy_l gY_143 + 11) + gy_k gY_143 ≤ gy_k Y) : gh_ok Y gY_143 yX7_list 1 := ⟨wd_1275, wd_51, ⟨by decide, by decide⟩, by decide +kernel, h1, h2⟩
noncomputable def fi_143_L0 (K : Nat → Nat → Nat → Nat → Bool) (l0 l1 M n c : Nat) : Bool := gx_nn (l0) (fi_51 (l0) (l1) M n c (fun v1 M2 n3 c4 => gx_nn (l0) (fi_131 (l0) (v1) (1) M2 n3 c4 (fun v5 M6 n7 c8 => gx_rt gx_f0 (v5) (K (v5) M6 n7 c8)))))
theorem h_143_L0 {G : gxG} (hG : gxG0 G) {K : Nat → Nat → Nat → Nat → Bool} (l0 l1 M n c : Nat) : gxJ G gY_143 K 0 [] [gR 7 (l0), gI (l1)] M n c (fi_143_L0 K l0 l1 M n c) := by
  unfold fi_143_L0
  refine gr_aload_n (pc := 0) (i := 0) 7 (l0) (show decode (gy_b gY_143) 0 = .ok (.aload_n 0, 1) by decide +kernel) rfl rfl ?_
  refine gr_aload_n (pc := 1) (i := 0) 7 (l0) (show decode (gy_b gY_143) 1 = .ok (.aload_n 0, 1) by decide +kernel) rfl rfl ?_
  refine gr_iload_n (pc := 2) (i := 1) (l1) (show decode (gy_b gY_143) 2 = .ok (.iload_n 1, 1) by decide +kernel) rfl rfl ?_
  refine gj_nn (fun hx3 => ?_)
  refine gj_c0 (pc := 3) (Y' := gY_51) (y := yX7_callerOf) (vs := [gR 7 (l0), gI (l1)]) (rest := [gR 7 (l0)]) (rs := fun v1 => [gR 3 (v1), gR 7 (l0)]) [gI (l1), gR 7 (l0)] rfl (hm_51 hG (l0) (l1)) rfl (gh_V (t := 7) (vs := [gI (l1)]) (rest := [gR 7 (l0)]) (show decode (gy_b gY_143) 3 = .ok (.invokevirtual 312, 3) by decide +kernel) rfl hx3 rfl rfl (ok_51 (by decide) (by decide)) wd_811 wd_813 wd_12 (Nat.le_of_ble_eq_true rfl)) (fun _ => rfl) ?_
  intro v1 M2 n3 c4
  refine gr_iconst (pc := 6) (z := 1) 1 (show decode (gy_b gY_143) 6 = .ok (.iconst (1), 1) by decide +kernel) kc_1 ?_
  refine gj_nn (fun hx7 => ?_)
  refine gj_c0 (pc := 7) (Y' := gY_131) (y := yX7_tellFound) (vs := [gR 7 (l0), gR 3 (v1), gI (1)]) (rest := []) (rs := fun v5 => [gI (v5)]) [gI (1), gR 3 (v1), gR 7 (l0)] rfl (hm_131 hG (l0) (v1) (1)) rfl (gh_V (t := 7) (vs := [gR 3 (v1), gI (1)]) (rest := []) (show decode (gy_b gY_143) 7 = .ok (.invokevirtual 360, 3) by decide +kernel) rfl hx7 rfl rfl (ok_131 (by decide) (by decide)) wd_1178 wd_1180 wd_38 (Nat.le_of_ble_eq_true rfl)) (fun _ => rfl) ?_
  intro v5 M6 n7 c8
  exact gr_ireturn (pc := 10) (show decode (gy_b gY_143) 10 = .ok (.ireturn, 1) by decide +kernel) rfl rfl (by decide) gv_0
noncomputable def fi_143 (l0 l1 M n c : Nat) (K : Nat → Nat → Nat → Nat → Bool) : Bool := fi_143_L0 K l0 l1 M n c
theorem hm_143 {G : gxG} (hG : gxG0 G) (l0 l1 : Nat) : gxM G gY_143 yX7_list [gR 7 (l0), gI (l1)] (fi_143 l0 l1) := gxM_of (L := [gR 7 (l0), gI (l1)]) hG 0 (by decide +kernel) rfl rfl rfl rfl (List.forall_mem_cons.mpr ⟨rfl, List.forall_mem_cons.mpr ⟨rfl, fun _ h => nomatch h⟩⟩) (fun M n c K => h_143_L0 hG  l0 l1 M n c)
/-! Farfiles$Log hasEntries (LFarfiles$ActSet;I)Z -/
def gY_144 : gxY := (false, prog_7_method_8_code, 3, (Option.some Jvm.ClassFile.FieldType.boolean), "Farfiles$Log", 3, 86, 2, [], "hasEntries")
theorem ok_144 {Y : gxY} (h1 : gy_f gY_144 + 1 ≤ gy_f Y) (h2 : 8 + (gy_l gY_144 + 11) + gy_k gY_144 ≤ gy_k Y) : gh_ok Y gY_144 yX5_hasEntries 2 := ⟨wd_1285, wd_53, ⟨by decide, by decide⟩, by decide +kernel, h1, h2⟩
noncomputable def fi_144_L21 (K : Nat → Nat → Nat → Nat → Bool) (s0 M n c : Nat) : Bool := gx_rt gx_f2 (s0) (K (s0) M n c)
theorem h_144_L21 {G : gxG} (hG : gxG0 G) {K : Nat → Nat → Nat → Nat → Bool} (s0 M n c : Nat) : gxJ G gY_144 K 21 [gI (s0)] [gB, gB, gB] M n c (fi_144_L21 K s0 M n c) := by
  unfold fi_144_L21
  exact gr_ireturn (pc := 21) (show decode (gy_b gY_144) 21 = .ok (.ireturn, 1) by decide +kernel) rfl rfl (by decide) gv_2f
noncomputable def fi_144_L0 (K : Nat → Nat → Nat → Nat → Bool) (l0 l1 l2 M n c : Nat) : Bool := gx_nn (l0) (fi_80 (l0) (l1) (l2) M n c (fun v1 M2 n3 c4 => gx_get (l0) 2 M2 (fun v5 => gx_nn (v5) (fi_107 (v5) M2 n3 c4 (fun v6 M7 n8 c9 => gx_lt 0 (v6) (fi_144_L21 K (1) M7 n8 c9) (fi_144_L21 K (0) M7 n8 c9))))))
theorem h_144_L0 {G : gxG} (hG : gxG0 G) {K : Nat → Nat → Nat → Nat → Bool} (l0 l1 l2 M n c : Nat) : gxJ G gY_144 K 0 [] [gR 5 (l0), gR 1 (l1), gI (l2)] M n c (fi_144_L0 K l0 l1 l2 M n c) := by
  unfold fi_144_L0
  refine gr_aload_n (pc := 0) (i := 0) 5 (l0) (show decode (gy_b gY_144) 0 = .ok (.aload_n 0, 1) by decide +kernel) rfl rfl ?_
  refine gr_aload_n (pc := 1) (i := 1) 1 (l1) (show decode (gy_b gY_144) 1 = .ok (.aload_n 1, 1) by decide +kernel) rfl rfl ?_
  refine gr_iload_n (pc := 2) (i := 2) (l2) (show decode (gy_b gY_144) 2 = .ok (.iload_n 2, 1) by decide +kernel) rfl rfl ?_
  refine gj_nn (fun hx3 => ?_)
  refine gj_c0 (pc := 3) (Y' := gY_80) (y := yX5_gather) (vs := [gR 5 (l0), gR 1 (l1), gI (l2)]) (rest := []) (rs := fun v1 => []) [gI (l2), gR 1 (l1), gR 5 (l0)] rfl (hm_80 hG (l0) (l1) (l2)) rfl (gh_V (t := 5) (vs := [gR 1 (l1), gI (l2)]) (rest := []) (show decode (gy_b gY_144) 3 = .ok (.invokevirtual 87, 3) by decide +kernel) rfl hx3 rfl rfl (ok_80 (by decide) (by decide)) wd_981 wd_983 wd_22 (Nat.le_of_ble_eq_true rfl)) (fun _ => rfl) ?_
  intro v1 M2 n3 c4
  refine gr_aload_n (pc := 6) (i := 0) 5 (l0) (show decode (gy_b gY_144) 6 = .ok (.aload_n 0, 1) by decide +kernel) rfl rfl ?_
  refine gr_getf (pc := 7) (index := 31) (t := 5) (j := 2) (σ := 9) (sv := (gR 1)) (show decode (gy_b gY_144) 7 = .ok (.getfield 31, 3) by decide +kernel) rfl rfl (fun _ => rfl) wd_177 (by decide) ?_
  intro v5
  refine gj_nn (fun hx10 => ?_)
  refine gj_c0 (pc := 10) (Y' := gY_107) (y := yX1_size) (vs := [gR 1 (v5)]) (rest := []) (rs := fun v6 => [gI (v6)]) [gR 1 (v5)] rfl (hm_107 hG (v5)) rfl (gh_V (t := 1) (vs := []) (rest := []) (show decode (gy_b gY_144) 10 = .ok (.invokevirtual 95, 3) by decide +kernel) rfl hx10 rfl rfl (ok_107 (by decide) (by decide)) wd_1286 wd_1120 wd_1121 (Nat.le_of_ble_eq_true rfl)) (fun _ => rfl) ?_
  intro v6 M7 n8 c9
  refine gr_ifle (pc := 13) (tgt := 20) (off := 7) hG.2.1 (show decode (gy_b gY_144) 13 = .ok (.ifCond .le (7), 3) by decide +kernel) (by decide) ?_ ?_
  · refine gr_iconst (pc := 20) (z := 0) 0 (show decode (gy_b gY_144) 20 = .ok (.iconst (0), 1) by decide +kernel) kc_0 ?_
    refine gr_wk [false, false, false] rfl ?_
    exact h_144_L21 hG (0) M7 n8 c9
  · refine gr_iconst (pc := 16) (z := 1) 1 (show decode (gy_b gY_144) 16 = .ok (.iconst (1), 1) by decide +kernel) kc_1 ?_
    refine gr_goto (pc := 17) (tgt := 21) (off := 4) (show decode (gy_b gY_144) 17 = .ok (.goto (4), 3) by decide +kernel) (by decide) ?_
    refine gr_wk [false, false, false] rfl ?_
    exact h_144_L21 hG (1) M7 n8 c9
noncomputable def fi_144 (l0 l1 l2 M n c : Nat) (K : Nat → Nat → Nat → Nat → Bool) : Bool := fi_144_L0 K l0 l1 l2 M n c
theorem hm_144 {G : gxG} (hG : gxG0 G) (l0 l1 l2 : Nat) : gxM G gY_144 yX5_hasEntries [gR 5 (l0), gR 1 (l1), gI (l2)] (fi_144 l0 l1 l2) := gxM_of (L := [gR 5 (l0), gR 1 (l1), gI (l2)]) hG 0 (by decide +kernel) rfl rfl rfl rfl (List.forall_mem_cons.mpr ⟨rfl, List.forall_mem_cons.mpr ⟨rfl, List.forall_mem_cons.mpr ⟨rfl, fun _ h => nomatch h⟩⟩⟩) (fun M n c K => h_144_L0 hG  l0 l1 l2 M n c)
/-! Farfiles cutEntries (LFarfiles$Client;III)V -/
def gY_145 : gxY := (false, prog_1_method_37_code, 5, (Option.none : Option FieldType), "Farfiles", 5, 135, 5, [], "cutEntries")
theorem ok_145 {Y : gxY} (h1 : gy_f gY_145 + 1 ≤ gy_f Y) (h2 : 8 + (gy_l gY_145 + 11) + gy_k gY_145 ≤ gy_k Y) : gh_ok Y gY_145 yX7_cutEntries 4 := ⟨wd_1290, wd_51, ⟨by decide, by decide⟩, by decide +kernel, h1, h2⟩
noncomputable def fi_145_L0 (K : Nat → Nat → Nat → Nat → Bool) (l0 l1 l2 l3 l4 M n c : Nat) : Bool := gx_new 8 n c (fun v1 n2 c3 => gx_get (l1) 0 M (fun v4 => gx_nn (v1) (fi_2 (v1) (v4) (l2) (99) (l3) (l4) (2) M n2 c3 (fun v5 M6 n7 c8 => gx_nn (l0) (fi_94 (l0) (l1) (v1) M6 n7 c8 (fun v9 M10 n11 c12 => K 0 M10 n11 c12))))))
theorem h_145_L0 {G : gxG} (hG : gxG0 G) {K : Nat → Nat → Nat → Nat → Bool} (l0 l1 l2 l3 l4 M n c : Nat) : gxJ G gY_145 K 0 [] [gR 7 (l0), gR 3 (l1), gI (l2), gI (l3), gI (l4)] M n c (fi_145_L0 K l0 l1 l2 l3 l4 M n c) := by
  unfold fi_145_L0
  refine gr_aload_n (pc := 0) (i := 0) 7 (l0) (show decode (gy_b gY_145) 0 = .ok (.aload_n 0, 1) by decide +kernel) rfl rfl ?_
  refine gr_aload_n (pc := 1) (i := 1) 3 (l1) (show decode (gy_b gY_145) 1 = .ok (.aload_n 1, 1) by decide +kernel) rfl rfl ?_
  refine gr_newo (pc := 2) (index := 245) (t := 0) (show decode (gy_b gY_145) 2 = .ok (.new 245, 3) by decide +kernel) rfl wd_1030 wd_117 wd_54 ?_
  intro v1 n2 c3
  refine gr_dup (b := gB) (pc := 5) (show decode (gy_b gY_145) 5 = .ok (.dup, 1) by decide +kernel) rfl ?_
  refine gr_aload_n (pc := 6) (i := 1) 3 (l1) (show decode (gy_b gY_145) 6 = .ok (.aload_n 1, 1) by decide +kernel) rfl rfl ?_
  refine gr_getfN (pc := 7) (index := 284) (t := 3) (j := 0) (σ := 0) (sv := gI) (show decode (gy_b gY_145) 7 = .ok (.getfield 284, 3) by decide +kernel) rfl rfl (fun _ => rfl) wd_253 (by decide) ?_
  intro v4
  refine gr_iload_n (pc := 10) (i := 2) (l2) (show decode (gy_b gY_145) 10 = .ok (.iload_n 2, 1) by decide +kernel) rfl rfl ?_
  refine gr_bipush (pc := 11) (z := 99) 99 (show decode (gy_b gY_145) 11 = .ok (.bipush (99), 2) by decide +kernel) (by decide +kernel) ?_
  refine gr_iload_n (pc := 13) (i := 3) (l3) (show decode (gy_b gY_145) 13 = .ok (.iload_n 3, 1) by decide +kernel) rfl rfl ?_
  refine gr_iload (pc := 14) (i := 4) (l4) (show decode (gy_b gY_145) 14 = .ok (.iload 4, 2) by decide +kernel) rfl ?_
  refine gr_nosigns (pc := 16) (index := 287) (show decode (gy_b gY_145) 16 = .ok (.getstatic 287, 3) by decide +kernel) wd_1031 ?_
  refine gj_nn (fun hx19 => ?_)
  refine gj_c0 (pc := 19) (Y' := gY_2) (y := yX0_init) (vs := [gR 0 (v1), gI (v4), gI (l2), gI (99), gI (l3), gI (l4), gR 65 (2)]) (rest := [gR 0 (v1), gR 3 (l1), gR 7 (l0)]) (rs := fun v5 => [gR 0 (v1), gR 3 (l1), gR 7 (l0)]) [gR 65 (2), gI (l4), gI (l3), gI (99), gI (l2), gI (v4), gR 0 (v1)] rfl (hm_2 hG (v1) (v4) (l2) (99) (l3) (l4) (2)) rfl (gh_I (t := 0) (vs := [gI (v4), gI (l2), gI (99), gI (l3), gI (l4), gR 65 (2)]) (rest := [gR 0 (v1), gR 3 (l1), gR 7 (l0)]) (show decode (gy_b gY_145) 19 = .ok (.invokespecial 291, 3) by decide +kernel) rfl hx19 rfl (ok_2 (by decide) (by decide)) rfl rfl rfl rfl wd_1032 wd_121 (Nat.le_of_ble_eq_true rfl)) (fun _ => rfl) ?_
  intro v5 M6 n7 c8
  refine gj_nn (fun hx22 => ?_)
  refine gj_c0 (pc := 22) (Y' := gY_94) (y := yX7_enter) (vs := [gR 7 (l0), gR 3 (l1), gR 0 (v1)]) (rest := []) (rs := fun v9 => [gI (v9)]) [gR 0 (v1), gR 3 (l1), gR 7 (l0)] rfl (hm_94 hG (l0) (l1) (v1)) rfl (gh_V (t := 7) (vs := [gR 3 (l1), gR 0 (v1)]) (rest := []) (show decode (gy_b gY_145) 22 = .ok (.invokevirtual 294, 3) by decide +kernel) rfl hx22 rfl rfl (ok_94 (by decide) (by decide)) wd_1033 wd_1035 wd_28 (Nat.le_of_ble_eq_true rfl)) (fun _ => rfl) ?_
  intro v9 M10 n11 c12
  refine gr_pop (b := gB) (pc := 25) (show decode (gy_b gY_145) 25 = .ok (.pop, 1) by decide +kernel) rfl ?_
  exact gr_return (pc := 26) (show decode (gy_b gY_145) 26 = .ok (.return_, 1) by decide +kernel) rfl rfl
noncomputable def fi_145 (l0 l1 l2 l3 l4 M n c : Nat) (K : Nat → Nat → Nat → Nat → Bool) : Bool := fi_145_L0 K l0 l1 l2 l3 l4 M n c
theorem hm_145 {G : gxG} (hG : gxG0 G) (l0 l1 l2 l3 l4 : Nat) : gxM G gY_145 yX7_cutEntries [gR 7 (l0), gR 3 (l1), gI (l2), gI (l3), gI (l4)] (fi_145 l0 l1 l2 l3 l4) := gxM_of (L := [gR 7 (l0), gR 3 (l1), gI (l2), gI (l3), gI (l4)]) hG 0 (by decide +kernel) rfl rfl rfl rfl (List.forall_mem_cons.mpr ⟨rfl, List.forall_mem_cons.mpr ⟨rfl, List.forall_mem_cons.mpr ⟨rfl, List.forall_mem_cons.mpr ⟨rfl, List.forall_mem_cons.mpr ⟨rfl, fun _ h => nomatch h⟩⟩⟩⟩⟩) (fun M n c K => h_145_L0 hG  l0 l1 l2 l3 l4 M n c)
/-! Farfiles remove (I)I -/
def gY_146 : gxY := (true, prog_1_method_42_code, 6, (Option.some Jvm.ClassFile.FieldType.int), "Farfiles", 11, 203, 0, [], "remove")
theorem ok_146 {Y : gxY} (h1 : gy_f gY_146 + 1 ≤ gy_f Y) (h2 : 8 + (gy_l gY_146 + 11) + gy_k gY_146 ≤ gy_k Y) : gh_ok Y gY_146 yX7_remove 1 := ⟨wd_1281, wd_51, ⟨by decide, by decide⟩, by decide +kernel, h1, h2⟩
noncomputable def fi_146_L72 (K : Nat → Nat → Nat → Nat → Bool) (l0 l2 l4 l5 M n c : Nat) : Bool := gx_nn (l0) (fi_89 (l0) (1) M n c (fun v23 M24 n25 c26 => gx_get (l0) 8 M24 (fun v27 => gx_nn (v27) (fi_86 (v27) M24 n25 c26 (fun v28 M29 n30 c31 => gx_nn (l0) (fi_145 (l0) (l2) (l4) (v28) (l5) M29 n30 c31 (fun v32 M33 n34 c35 => gx_rt gx_f0 (l5) (K (l5) M33 n34 c35))))))))
theorem h_146_L72 {G : gxG} (hG : gxG0 G) {K : Nat → Nat → Nat → Nat → Bool} (l0 l2 l4 l5 M n c : Nat) : gxJ G gY_146 K 72 [] [gR 7 (l0), gB, gR 3 (l2), gB, gI (l4), gI (l5)] M n c (fi_146_L72 K l0 l2 l4 l5 M n c) := by
  unfold fi_146_L72
  refine gr_aload_n (pc := 72) (i := 0) 7 (l0) (show decode (gy_b gY_146) 72 = .ok (.aload_n 0, 1) by decide +kernel) rfl rfl ?_
  refine gr_iconst (pc := 73) (z := 1) 1 (show decode (gy_b gY_146) 73 = .ok (.iconst (1), 1) by decide +kernel) kc_1 ?_
  refine gj_nn (fun hx74 => ?_)
  refine gj_c0 (pc := 74) (Y' := gY_89) (y := yX7_refuseIfTooFew) (vs := [gR 7 (l0), gI (1)]) (rest := []) (rs := fun v23 => []) [gI (1), gR 7 (l0)] rfl (hm_89 hG (l0) (1)) rfl (gh_V (t := 7) (vs := [gI (1)]) (rest := []) (show decode (gy_b gY_146) 74 = .ok (.invokevirtual 305, 3) by decide +kernel) rfl hx74 rfl rfl (ok_89 (by decide) (by decide)) wd_1018 wd_1020 wd_26 (Nat.le_of_ble_eq_true rfl)) (fun _ => rfl) ?_
  intro v23 M24 n25 c26
  refine gr_aload_n (pc := 77) (i := 0) 7 (l0) (show decode (gy_b gY_146) 77 = .ok (.aload_n 0, 1) by decide +kernel) rfl rfl ?_
  refine gr_aload_n (pc := 78) (i := 2) 3 (l2) (show decode (gy_b gY_146) 78 = .ok (.aload_n 2, 1) by decide +kernel) rfl rfl ?_
  refine gr_iload (pc := 79) (i := 4) (l4) (show decode (gy_b gY_146) 79 = .ok (.iload 4, 2) by decide +kernel) rfl ?_
  refine gr_aload_n (pc := 81) (i := 0) 7 (l0) (show decode (gy_b gY_146) 81 = .ok (.aload_n 0, 1) by decide +kernel) rfl rfl ?_
  refine gr_getf (pc := 82) (index := 55) (t := 7) (j := 8) (σ := 14) (sv := (gR 6)) (show decode (gy_b gY_146) 82 = .ok (.getfield 55, 3) by decide +kernel) rfl rfl (fun _ => rfl) wd_302 (by decide) ?_
  intro v27
  refine gj_nn (fun hx85 => ?_)
  refine gj_c0 (pc := 85) (Y' := gY_86) (y := yX6_lastName) (vs := [gR 6 (v27)]) (rest := [gI (l4), gR 3 (l2), gR 7 (l0)]) (rs := fun v28 => [gI (v28), gI (l4), gR 3 (l2), gR 7 (l0)]) [gR 6 (v27)] rfl (hm_86 hG (v27)) rfl (gh_V (t := 6) (vs := []) (rest := [gI (l4), gR 3 (l2), gR 7 (l0)]) (show decode (gy_b gY_146) 85 = .ok (.invokevirtual 228, 3) by decide +kernel) rfl hx85 rfl rfl (ok_86 (by decide) (by decide)) wd_1009 wd_1010 wd_1011 (Nat.le_of_ble_eq_true rfl)) (fun _ => rfl) ?_
  intro v28 M29 n30 c31
  refine gr_iload (pc := 88) (i := 5) (l5) (show decode (gy_b gY_146) 88 = .ok (.iload 5, 2) by decide +kernel) rfl ?_
  refine gj_nn (fun hx90 => ?_)
  refine gj_c0 (pc := 90) (Y' := gY_145) (y := yX7_cutEntries) (vs := [gR 7 (l0), gR 3 (l2), gI (l4), gI (v28), gI (l5)]) (rest := []) (rs := fun v32 => []) [gI (l5), gI (v28), gI (l4), gR 3 (l2), gR 7 (l0)] rfl (hm_145 hG (l0) (l2) (l4) (v28) (l5)) rfl (gh_V (t := 7) (vs := [gR 3 (l2), gI (l4), gI (v28), gI (l5)]) (rest := []) (show decode (gy_b gY_146) 90 = .ok (.invokevirtual 337, 3) by decide +kernel) rfl hx90 rfl rfl (ok_145 (by decide) (by decide)) wd_1287 wd_1289 wd_43 (Nat.le_of_ble_eq_true rfl)) (fun _ => rfl) ?_
  intro v32 M33 n34 c35
  refine gr_iload (pc := 93) (i := 5) (l5) (show decode (gy_b gY_146) 93 = .ok (.iload 5, 2) by decide +kernel) rfl ?_
  exact gr_ireturn (pc := 95) (show decode (gy_b gY_146) 95 = .ok (.ireturn, 1) by decide +kernel) rfl rfl (by decide) gv_0
noncomputable def fi_146_L44 (K : Nat → Nat → Nat → Nat → Bool) (l0 l2 l4 l5 s0 s1 M n c : Nat) : Bool := gx_nn (s0) (fi_76 (s0) (s1) M n c (fun v19 M20 n21 c22 => gx_eq (v19) 0 (fi_146_L72 K (l0) (l2) (l4) (l5) M20 n21 c22) (gx_get (l0) 1 M20 (fun v36 => gx_get (l2) 5 M20 (fun v37 => gx_nn (v36) (fi_144 (v36) (v37) (l5) M20 n21 c22 (fun v38 M39 n40 c41 => gx_eq (v38) 0 (fi_146_L72 K (l0) (l2) (l4) (l5) M39 n40 c41) (gx_nn (l0) (fd_ref (l0) (102) M39 n40 c41 (fun v42 M43 n44 c45 => gx_thr K v42 M43 n44 c45 (fi_146_L72 K (l0) (l2) (l4) (l5) M43 n44 c45)))))))))))
theorem h_146_L44 {G : gxG} (hG : gxG0 G) {K : Nat → Nat → Nat → Nat → Bool} (l0 l2 l4 l5 s0 s1 M n c : Nat) : gxJ G gY_146 K 44 [gI (s1), gR 7 (s0)] [gR 7 (l0), gB, gR 3 (l2), gB, gI (l4), gI (l5)] M n c (fi_146_L44 K l0 l2 l4 l5 s0 s1 M n c) := by
  unfold fi_146_L44
  refine gj_nn (fun hx44 => ?_)
  refine gj_c0 (pc := 44) (Y' := gY_76) (y := yX7_hasDirectory) (vs := [gR 7 (s0), gI (s1)]) (rest := []) (rs := fun v19 => [gI (v19)]) [gI (s1), gR 7 (s0)] rfl (hm_76 hG (s0) (s1)) rfl (gh_V (t := 7) (vs := [gI (s1)]) (rest := []) (show decode (gy_b gY_146) 44 = .ok (.invokevirtual 198, 3) by decide +kernel) rfl hx44 rfl rfl (ok_76 (by decide) (by decide)) wd_972 wd_974 wd_21 (Nat.le_of_ble_eq_true rfl)) (fun _ => rfl) ?_
  intro v19 M20 n21 c22
  refine gr_ifeq (pc := 47) (tgt := 72) (off := 25) hG.2.1 (show decode (gy_b gY_146) 47 = .ok (.ifCond .eq (25), 3) by decide +kernel) (by decide) ?_ ?_
  · exact h_146_L72 hG (l0) (l2) (l4) (l5) M20 n21 c22
  · refine gr_aload_n (pc := 50) (i := 0) 7 (l0) (show decode (gy_b gY_146) 50 = .ok (.aload_n 0, 1) by decide +kernel) rfl rfl ?_
    refine gr_getf (pc := 51) (index := 19) (t := 7) (j := 1) (σ := 13) (sv := (gR 5)) (show decode (gy_b gY_146) 51 = .ok (.getfield 19, 3) by decide +kernel) rfl rfl (fun _ => rfl) wd_295 (by decide) ?_
    intro v36
    refine gr_aload_n (pc := 54) (i := 2) 3 (l2) (show decode (gy_b gY_146) 54 = .ok (.aload_n 2, 1) by decide +kernel) rfl rfl ?_
    refine gr_getfN (pc := 55) (index := 201) (t := 3) (j := 5) (σ := 9) (sv := (gR 1)) (show decode (gy_b gY_146) 55 = .ok (.getfield 201, 3) by decide +kernel) rfl rfl (fun _ => rfl) wd_260 (by decide) ?_
    intro v37
    refine gr_iload (pc := 58) (i := 5) (l5) (show decode (gy_b gY_146) 58 = .ok (.iload 5, 2) by decide +kernel) rfl ?_
    refine gj_nn (fun hx60 => ?_)
    refine gj_c0 (pc := 60) (Y' := gY_144) (y := yX5_hasEntries) (vs := [gR 5 (v36), gR 1 (v37), gI (l5)]) (rest := []) (rs := fun v38 => [gI (v38)]) [gI (l5), gR 1 (v37), gR 5 (v36)] rfl (hm_144 hG (v36) (v37) (l5)) rfl (gh_V (t := 5) (vs := [gR 1 (v37), gI (l5)]) (rest := []) (show decode (gy_b gY_146) 60 = .ok (.invokevirtual 333, 3) by decide +kernel) rfl hx60 rfl rfl (ok_144 (by decide) (by decide)) wd_1282 wd_1283 wd_1284 (Nat.le_of_ble_eq_true rfl)) (fun _ => rfl) ?_
    intro v38 M39 n40 c41
    refine gr_ifeq (pc := 63) (tgt := 72) (off := 9) hG.2.1 (show decode (gy_b gY_146) 63 = .ok (.ifCond .eq (9), 3) by decide +kernel) (by decide) ?_ ?_
    · exact h_146_L72 hG (l0) (l2) (l4) (l5) M39 n40 c41
    · refine gr_aload_n (pc := 66) (i := 0) 7 (l0) (show decode (gy_b gY_146) 66 = .ok (.aload_n 0, 1) by decide +kernel) rfl rfl ?_
      refine gr_bipush (pc := 67) (z := 102) 102 (show decode (gy_b gY_146) 67 = .ok (.bipush (102), 2) by decide +kernel) (by decide +kernel) ?_
      refine gj_nn (fun hx69 => ?_)
      refine gj_c1 (pc := 69) (Y' := gY_refuse) (y := yX7_refuse) (vs := [gR 7 (l0), gI (102)]) (rest := []) (rs := fun v42 => []) [gI (102), gR 7 (l0)] rfl (hm_ref hG (l0) (102)) rfl rfl (gh_V (t := 7) (vs := [gI (102)]) (rest := []) (show decode (gy_b gY_146) 69 = .ok (.invokevirtual 180, 3) by decide +kernel) rfl hx69 rfl rfl (ok_refuse (by decide) (by decide)) wd_871 wd_873 wd_16 (Nat.le_of_ble_eq_true rfl)) (fun _ => rfl) ?_
      intro v42 M43 n44 c45
      exact h_146_L72 hG (l0) (l2) (l4) (l5) M43 n44 c45
noncomputable def fi_146_L0 (K : Nat → Nat → Nat → Nat → Bool) (l0 l1 M n c : Nat) : Bool := gx_nn (l0) (fi_51 (l0) (l1) M n c (fun v1 M2 n3 c4 => gx_nn (l0) (fi_59 (l0) M2 n3 c4 (fun v5 M6 n7 c8 => gx_lt (v5) 0 (false) (gx_get (l0) 8 M6 (fun v9 => gx_nn (l0) (fi_85 (l0) (v1) (v9) M6 n7 c8 (fun v10 M11 n12 c13 => gx_thr K v10 M11 n12 c13 (gx_get (l0) 8 M11 (fun v14 => gx_nn (l0) (fi_103 (l0) (v1) (v14) (v10) M11 n12 c13 (fun v15 M16 n17 c18 => gx_thr K v15 M16 n17 c18 (fi_146_L44 K (l0) (v1) (v10) (v15) (l0) (v15) M16 n17 c18)))))))))))))
theorem h_146_L0 {G : gxG} (hG : gxG0 G) {K : Nat → Nat → Nat → Nat → Bool} (l0 l1 M n c : Nat) : gxJ G gY_146 K 0 [] [gR 7 (l0), gI (l1), gB, gB, gB, gB] M n c (fi_146_L0 K l0 l1 M n c) := by
  unfold fi_146_L0
  refine gr_aload_n (pc := 0) (i := 0) 7 (l0) (show decode (gy_b gY_146) 0 = .ok (.aload_n 0, 1) by decide +kernel) rfl rfl ?_
  refine gr_iload_n (pc := 1) (i := 1) (l1) (show decode (gy_b gY_146) 1 = .ok (.iload_n 1, 1) by decide +kernel) rfl rfl ?_
  refine gj_nn (fun hx2 => ?_)
  refine gj_c0 (pc := 2) (Y' := gY_51) (y := yX7_callerOf) (vs := [gR 7 (l0), gI (l1)]) (rest := []) (rs := fun v1 => [gR 3 (v1)]) [gI (l1), gR 7 (l0)] rfl (hm_51 hG (l0) (l1)) rfl (gh_V (t := 7) (vs := [gI (l1)]) (rest := []) (show decode (gy_b gY_146) 2 = .ok (.invokevirtual 312, 3) by decide +kernel) rfl hx2 rfl rfl (ok_51 (by decide) (by decide)) wd_811 wd_813 wd_12 (Nat.le_of_ble_eq_true rfl)) (fun _ => rfl) ?_
  intro v1 M2 n3 c4
  refine gr_astore_n (pc := 5) (i := 2) (L' := [gR 7 (l0), gI (l1), gR 3 (v1), gB, gB, gB]) (show decode (gy_b gY_146) 5 = .ok (.astore_n 2, 1) by decide +kernel) rfl (by decide) rfl rfl ?_
  refine gr_aload_n (pc := 6) (i := 0) 7 (l0) (show decode (gy_b gY_146) 6 = .ok (.aload_n 0, 1) by decide +kernel) rfl rfl ?_
  refine gj_nn (fun hx7 => ?_)
  refine gj_c0 (pc := 7) (Y' := gY_59) (y := yX7_takePath) (vs := [gR 7 (l0)]) (rest := []) (rs := fun v5 => [gI (v5)]) [gR 7 (l0)] rfl (hm_59 hG (l0)) rfl (gh_V (t := 7) (vs := []) (rest := []) (show decode (gy_b gY_146) 7 = .ok (.invokevirtual 238, 3) by decide +kernel) rfl hx7 rfl rfl (ok_59 (by decide) (by decide)) wd_823 wd_825 wd_14 (Nat.le_of_ble_eq_true rfl)) (fun _ => rfl) ?_
  intro v5 M6 n7 c8
  refine gr_istore_n (pc := 10) (i := 3) (L' := [gR 7 (l0), gI (l1), gR 3 (v1), gI (v5), gB, gB]) (show decode (gy_b gY_146) 10 = .ok (.istore_n 3, 1) by decide +kernel) rfl (by decide) rfl rfl ?_
  refine gr_iload_n (pc := 11) (i := 3) (v5) (show decode (gy_b gY_146) 11 = .ok (.iload_n 3, 1) by decide +kernel) rfl rfl ?_
  refine gr_ifge (pc := 12) (tgt := 17) (off := 5) hG.2.1 (show decode (gy_b gY_146) 12 = .ok (.ifCond .ge (5), 3) by decide +kernel) (by decide) ?_ ?_
  · refine gr_aload_n (pc := 17) (i := 0) 7 (l0) (show decode (gy_b gY_146) 17 = .ok (.aload_n 0, 1) by decide +kernel) rfl rfl ?_
    refine gr_aload_n (pc := 18) (i := 2) 3 (v1) (show decode (gy_b gY_146) 18 = .ok (.aload_n 2, 1) by decide +kernel) rfl rfl ?_
    refine gr_aload_n (pc := 19) (i := 0) 7 (l0) (show decode (gy_b gY_146) 19 = .ok (.aload_n 0, 1) by decide +kernel) rfl rfl ?_
    refine gr_getf (pc := 20) (index := 55) (t := 7) (j := 8) (σ := 14) (sv := (gR 6)) (show decode (gy_b gY_146) 20 = .ok (.getfield 55, 3) by decide +kernel) rfl rfl (fun _ => rfl) wd_302 (by decide) ?_
    intro v9
    refine gj_nn (fun hx23 => ?_)
    refine gj_c1 (pc := 23) (Y' := gY_85) (y := yX7_goToDirectory) (vs := [gR 7 (l0), gR 3 (v1), gR 6 (v9)]) (rest := []) (rs := fun v10 => [gI (v10)]) [gR 6 (v9), gR 3 (v1), gR 7 (l0)] rfl (hm_85 hG (l0) (v1) (v9)) rfl rfl (gh_V (t := 7) (vs := [gR 3 (v1), gR 6 (v9)]) (rest := []) (show decode (gy_b gY_146) 23 = .ok (.invokevirtual 318, 3) by decide +kernel) rfl hx23 rfl rfl (ok_85 (by decide) (by decide)) wd_867 wd_869 wd_15 (Nat.le_of_ble_eq_true rfl)) (fun _ => rfl) ?_
    intro v10 M11 n12 c13
    refine gr_istore (pc := 26) (i := 4) (L' := [gR 7 (l0), gI (l1), gR 3 (v1), gI (v5), gI (v10), gB]) (show decode (gy_b gY_146) 26 = .ok (.istore 4, 2) by decide +kernel) (by decide) rfl rfl ?_
    refine gr_aload_n (pc := 28) (i := 0) 7 (l0) (show decode (gy_b gY_146) 28 = .ok (.aload_n 0, 1) by decide +kernel) rfl rfl ?_
    refine gr_aload_n (pc := 29) (i := 2) 3 (v1) (show decode (gy_b gY_146) 29 = .ok (.aload_n 2, 1) by decide +kernel) rfl rfl ?_
    refine gr_aload_n (pc := 30) (i := 0) 7 (l0) (show decode (gy_b gY_146) 30 = .ok (.aload_n 0, 1) by decide +kernel) rfl rfl ?_
    refine gr_getf (pc := 31) (index := 55) (t := 7) (j := 8) (σ := 14) (sv := (gR 6)) (show decode (gy_b gY_146) 31 = .ok (.getfield 55, 3) by decide +kernel) rfl rfl (fun _ => rfl) wd_302 (by decide) ?_
    intro v14
    refine gr_iload (pc := 34) (i := 4) (v10) (show decode (gy_b gY_146) 34 = .ok (.iload 4, 2) by decide +kernel) rfl ?_
    refine gj_nn (fun hx36 => ?_)
    refine gj_c1 (pc := 36) (Y' := gY_103) (y := yX7_goOn) (vs := [gR 7 (l0), gR 3 (v1), gR 6 (v14), gI (v10)]) (rest := []) (rs := fun v15 => [gI (v15)]) [gI (v10), gR 6 (v14), gR 3 (v1), gR 7 (l0)] rfl (hm_103 hG (l0) (v1) (v14) (v10)) rfl rfl (gh_V (t := 7) (vs := [gR 3 (v1), gR 6 (v14), gI (v10)]) (rest := []) (show decode (gy_b gY_146) 36 = .ok (.invokevirtual 330, 3) by decide +kernel) rfl hx36 rfl rfl (ok_103 (by decide) (by decide)) wd_1103 wd_1105 wd_32 (Nat.le_of_ble_eq_true rfl)) (fun _ => rfl) ?_
    intro v15 M16 n17 c18
    refine gr_istore (pc := 39) (i := 5) (L' := [gR 7 (l0), gI (l1), gR 3 (v1), gI (v5), gI (v10), gI (v15)]) (show decode (gy_b gY_146) 39 = .ok (.istore 5, 2) by decide +kernel) (by decide) rfl rfl ?_
    refine gr_aload_n (pc := 41) (i := 0) 7 (l0) (show decode (gy_b gY_146) 41 = .ok (.aload_n 0, 1) by decide +kernel) rfl rfl ?_
    refine gr_iload (pc := 42) (i := 5) (v15) (show decode (gy_b gY_146) 42 = .ok (.iload 5, 2) by decide +kernel) rfl ?_
    refine gr_wk [true, false, true, false, true, true] rfl ?_
    exact h_146_L44 hG (l0) (v1) (v10) (v15) (l0) (v15) M16 n17 c18
  · exact gj_false
noncomputable def fi_146 (l0 l1 M n c : Nat) (K : Nat → Nat → Nat → Nat → Bool) : Bool := fi_146_L0 K l0 l1 M n c
theorem hm_146 {G : gxG} (hG : gxG0 G) (l0 l1 : Nat) : gxM G gY_146 yX7_remove [gR 7 (l0), gI (l1)] (fi_146 l0 l1) := gxM_of (L := [gR 7 (l0), gI (l1), gB, gB, gB, gB]) hG 4 (by decide +kernel) rfl rfl rfl rfl (List.forall_mem_cons.mpr ⟨rfl, List.forall_mem_cons.mpr ⟨rfl, fun _ h => nomatch h⟩⟩) (fun M n c K => h_146_L0 hG  l0 l1 M n c)
/-! Farfiles$Log markEntries (LFarfiles$ActSet;I[Z)V -/
def gY_147 : gxY := (false, prog_7_method_14_code, 6, (Option.none : Option FieldType), "Farfiles$Log", 3, 86, 5, [], "markEntries")
theorem ok_147 {Y : gxY} (h1 : gy_f gY_147 + 1 ≤ gy_f Y) (h2 : 8 + (gy_l gY_147 + 11) + gy_k gY_147 ≤ gy_k Y) : gh_ok Y gY_147 yX5_markEntries 3 := ⟨wd_1306, wd_53, ⟨by decide, by decide⟩, by decide +kernel, h1, h2⟩
noncomputable def fi_147_L58 (K : Nat → Nat → Nat → Nat → Bool) (ih_9 : Nat → Nat → Nat → Nat → Nat → Nat → Bool) (l0 l3 l4 M n c : Nat) : Bool := gx_add (l4) 1 (fun z11 => ih_9 (l0) (l3) (z11) M n c)
theorem h_147_L58 {G : gxG} (hG : gxG0 G) {K : Nat → Nat → Nat → Nat → Bool} {ih_9 : Nat → Nat → Nat → Nat → Nat → Nat → Bool} (hi_9 : ∀ l0 l3 l4 M n c : Nat, gxJ G gY_147 K 9 [] [gR 5 (l0), gB, gB, gR 66 (l3), gI (l4), gB] M n c (ih_9 l0 l3 l4 M n c)) (l0 l3 l4 M n c : Nat) : gxJ G gY_147 K 58 [] [gR 5 (l0), gB, gB, gR 66 (l3), gI (l4), gB] M n c (fi_147_L58 K ih_9 l0 l3 l4 M n c) := by
  unfold fi_147_L58
  refine gr_iinc (pc := 58) (i := 4) (d := 1) (z := 1) (L' := fun z11 => [gR 5 (l0), gB, gB, gR 66 (l3), gI (z11), gB]) (show decode (gy_b gY_147) 58 = .ok (.iinc 4 (1), 3) by decide +kernel) (by decide +kernel) (by decide) rfl rfl (fun _ => rfl) ?_
  intro z11
  refine gr_goto (pc := 61) (tgt := 9) (off := -52) (show decode (gy_b gY_147) 61 = .ok (.goto (-52), 3) by decide +kernel) (by decide) ?_
  exact hi_9 (l0) (l3) (z11) M n c
noncomputable def fi_147_B9 (K : Nat → Nat → Nat → Nat → Bool) (ih_9 : Nat → Nat → Nat → Nat → Nat → Nat → Bool) (l0 l3 l4 M n c : Nat) : Bool := gx_get (l0) 4 M (fun v5 => gx_lt (l4) (v5) (gx_get (l0) 2 M (fun v6 => gx_nn (v6) (fi_69 (v6) (l4) M n c (fun v7 M8 n9 c10 => gx_eq (v7) 0 (fi_147_L58 K ih_9 (l0) (l3) (l4) M8 n9 c10) (gx_nn (l0) (fi_70 (l0) (l4) M8 n9 c10 (fun v12 M13 n14 c15 => gx_get (v12) 4 M13 (fun v16 => gx_lt (v16) 0 (fi_147_L58 K ih_9 (l0) (l3) (l4) M13 n14 c15) (gx_len (l3) M13 (fun v17 => gx_lt (v16) (v17) (gx_ast (l3) (v16) (1) M13 gx_f2 (fun M18 => fi_147_L58 K ih_9 (l0) (l3) (l4) M18 n14 c15)) (fi_147_L58 K ih_9 (l0) (l3) (l4) M13 n14 c15))))))))))) (K 0 M n c))
theorem hb_147_B9 {G : gxG} (hG : gxG0 G) {K : Nat → Nat → Nat → Nat → Bool} {ih_9 : Nat → Nat → Nat → Nat → Nat → Nat → Bool} (hi_9 : ∀ l0 l3 l4 M n c : Nat, gxJ G gY_147 K 9 [] [gR 5 (l0), gB, gB, gR 66 (l3), gI (l4), gB] M n c (ih_9 l0 l3 l4 M n c)) (l0 l3 l4 M n c : Nat) : gxJ G gY_147 K 9 [] [gR 5 (l0), gB, gB, gR 66 (l3), gI (l4), gB] M n c (fi_147_B9 K ih_9 l0 l3 l4 M n c) := by
  unfold fi_147_B9
  refine gr_iload (pc := 9) (i := 4) (l4) (show decode (gy_b gY_147) 9 = .ok (.iload 4, 2) by decide +kernel) rfl ?_
  refine gr_aload_n (pc := 11) (i := 0) 5 (l0) (show decode (gy_b gY_147) 11 = .ok (.aload_n 0, 1) by decide +kernel) rfl rfl ?_
  refine gr_getf (pc := 12) (index := 38) (t := 5) (j := 4) (σ := 0) (sv := gI) (show decode (gy_b gY_147) 12 = .ok (.getfield 38, 3) by decide +kernel) rfl rfl (fun _ => rfl) wd_179 (by decide) ?_
  intro v5
  refine gr_icmp_ge (pc := 15) (tgt := 64) (off := 49) hG.2.1 (show decode (gy_b gY_147) 15 = .ok (.if_icmp .ge (49), 3) by decide +kernel) (by decide) ?_ ?_
  · exact gr_return (pc := 64) (show decode (gy_b gY_147) 64 = .ok (.return_, 1) by decide +kernel) rfl rfl
  · refine gr_aload_n (pc := 18) (i := 0) 5 (l0) (show decode (gy_b gY_147) 18 = .ok (.aload_n 0, 1) by decide +kernel) rfl rfl ?_
    refine gr_getf (pc := 19) (index := 31) (t := 5) (j := 2) (σ := 9) (sv := (gR 1)) (show decode (gy_b gY_147) 19 = .ok (.getfield 31, 3) by decide +kernel) rfl rfl (fun _ => rfl) wd_177 (by decide) ?_
    intro v6
    refine gr_iload (pc := 22) (i := 4) (l4) (show decode (gy_b gY_147) 22 = .ok (.iload 4, 2) by decide +kernel) rfl ?_
    refine gj_nn (fun hx24 => ?_)
    refine gj_c0 (pc := 24) (Y' := gY_69) (y := yX1_has) (vs := [gR 1 (v6), gI (l4)]) (rest := []) (rs := fun v7 => [gI (v7)]) [gI (l4), gR 1 (v6)] rfl (hm_69 hG (v6) (l4)) rfl (gh_V (t := 1) (vs := [gI (l4)]) (rest := []) (show decode (gy_b gY_147) 24 = .ok (.invokevirtual 52, 3) by decide +kernel) rfl hx24 rfl rfl (ok_69 (by decide) (by decide)) wd_990 wd_923 wd_924 (Nat.le_of_ble_eq_true rfl)) (fun _ => rfl) ?_
    intro v7 M8 n9 c10
    refine gr_ifeq (pc := 27) (tgt := 58) (off := 31) hG.2.1 (show decode (gy_b gY_147) 27 = .ok (.ifCond .eq (31), 3) by decide +kernel) (by decide) ?_ ?_
    · exact h_147_L58 hG hi_9 (l0) (l3) (l4) M8 n9 c10
    · refine gr_aload_n (pc := 30) (i := 0) 5 (l0) (show decode (gy_b gY_147) 30 = .ok (.aload_n 0, 1) by decide +kernel) rfl rfl ?_
      refine gr_iload (pc := 31) (i := 4) (l4) (show decode (gy_b gY_147) 31 = .ok (.iload 4, 2) by decide +kernel) rfl ?_
      refine gj_nn (fun hx33 => ?_)
      refine gj_c0 (pc := 33) (Y' := gY_70) (y := yX5_at) (vs := [gR 5 (l0), gI (l4)]) (rest := []) (rs := fun v12 => [gR 0 (v12)]) [gI (l4), gR 5 (l0)] rfl (hm_70 hG (l0) (l4)) rfl (gh_V (t := 5) (vs := [gI (l4)]) (rest := []) (show decode (gy_b gY_147) 33 = .ok (.invokevirtual 45, 3) by decide +kernel) rfl hx33 rfl rfl (ok_70 (by decide) (by decide)) wd_989 wd_927 wd_928 (Nat.le_of_ble_eq_true rfl)) (fun _ => rfl) ?_
      intro v12 M13 n14 c15
      refine gr_getfN (pc := 36) (index := 80) (t := 0) (j := 4) (σ := 0) (sv := gI) (show decode (gy_b gY_147) 36 = .ok (.getfield 80, 3) by decide +kernel) rfl rfl (fun _ => rfl) wd_147 (by decide) ?_
      intro v16
      refine gr_istore (pc := 39) (i := 5) (L' := [gR 5 (l0), gB, gB, gR 66 (l3), gI (l4), gI (v16)]) (show decode (gy_b gY_147) 39 = .ok (.istore 5, 2) by decide +kernel) (by decide) rfl rfl ?_
      refine gr_iload (pc := 41) (i := 5) (v16) (show decode (gy_b gY_147) 41 = .ok (.iload 5, 2) by decide +kernel) rfl ?_
      refine gr_iflt (pc := 43) (tgt := 58) (off := 15) hG.2.1 (show decode (gy_b gY_147) 43 = .ok (.ifCond .lt (15), 3) by decide +kernel) (by decide) ?_ ?_
      · refine gr_wk [true, true, true, true, true, false] rfl ?_
        exact h_147_L58 hG hi_9 (l0) (l3) (l4) M13 n14 c15
      · refine gr_iload (pc := 46) (i := 5) (v16) (show decode (gy_b gY_147) 46 = .ok (.iload 5, 2) by decide +kernel) rfl ?_
        refine gr_aload_n (pc := 48) (i := 3) 66 (l3) (show decode (gy_b gY_147) 48 = .ok (.aload_n 3, 1) by decide +kernel) rfl rfl ?_
        refine gr_alen (pc := 49) (κ := 2) (show decode (gy_b gY_147) 49 = .ok (.arraylength, 1) by decide +kernel) (by decide) ?_
        intro v17
        refine gr_icmp_ge (pc := 50) (tgt := 58) (off := 8) hG.2.1 (show decode (gy_b gY_147) 50 = .ok (.if_icmp .ge (8), 3) by decide +kernel) (by decide) ?_ ?_
        · refine gr_wk [true, true, true, true, true, false] rfl ?_
          exact h_147_L58 hG hi_9 (l0) (l3) (l4) M13 n14 c15
        · refine gr_aload_n (pc := 53) (i := 3) 66 (l3) (show decode (gy_b gY_147) 53 = .ok (.aload_n 3, 1) by decide +kernel) rfl rfl ?_
          refine gr_iload (pc := 54) (i := 5) (v16) (show decode (gy_b gY_147) 54 = .ok (.iload 5, 2) by decide +kernel) rfl ?_
          refine gr_iconst (pc := 56) (z := 1) 1 (show decode (gy_b gY_147) 56 = .ok (.iconst (1), 1) by decide +kernel) kc_1 ?_
          refine gr_zast (pc := 57) hG.2.1 (show decode (gy_b gY_147) 57 = .ok (.bastore, 1) by decide +kernel) ?_
          intro M18
          refine gr_wk [true, true, true, true, true, false] rfl ?_
          exact h_147_L58 hG hi_9 (l0) (l3) (l4) M18 n14 c15
noncomputable def fi_147_W9 (K : Nat → Nat → Nat → Nat → Bool) (u : Nat) : Nat → Nat → Nat → Nat → Nat → Nat → Bool := Nat.rec (motive := fun _ => Nat → Nat → Nat → Nat → Nat → Nat → Bool) (fun _ _ _ _ _ _ => false) (fun _ ih => fi_147_B9 K ih) u
theorem hw_147_9 {G : gxG} (hG : gxG0 G) {K : Nat → Nat → Nat → Nat → Bool} (u : Nat) : ∀ l0 l3 l4 M n c : Nat, gxJ G gY_147 K 9 [] [gR 5 (l0), gB, gB, gR 66 (l3), gI (l4), gB] M n c (fi_147_W9 K u l0 l3 l4 M n c) := by
  induction u with
  | zero => intro l0 l3 l4 M n c; exact gj_false
  | succ u ih => intro l0 l3 l4 M n c; exact hb_147_B9 hG ih l0 l3 l4 M n c
noncomputable def fi_147_L0 (K : Nat → Nat → Nat → Nat → Bool) (l0 l1 l2 l3 M n c : Nat) : Bool := gx_nn (l0) (fi_80 (l0) (l1) (l2) M n c (fun v1 M2 n3 c4 => fi_147_W9 K 65536 (l0) (l3) (0) M2 n3 c4))
theorem h_147_L0 {G : gxG} (hG : gxG0 G) {K : Nat → Nat → Nat → Nat → Bool} (l0 l1 l2 l3 M n c : Nat) : gxJ G gY_147 K 0 [] [gR 5 (l0), gR 1 (l1), gI (l2), gR 66 (l3), gB, gB] M n c (fi_147_L0 K l0 l1 l2 l3 M n c) := by
  unfold fi_147_L0
  refine gr_aload_n (pc := 0) (i := 0) 5 (l0) (show decode (gy_b gY_147) 0 = .ok (.aload_n 0, 1) by decide +kernel) rfl rfl ?_
  refine gr_aload_n (pc := 1) (i := 1) 1 (l1) (show decode (gy_b gY_147) 1 = .ok (.aload_n 1, 1) by decide +kernel) rfl rfl ?_
  refine gr_iload_n (pc := 2) (i := 2) (l2) (show decode (gy_b gY_147) 2 = .ok (.iload_n 2, 1) by decide +kernel) rfl rfl ?_
  refine gj_nn (fun hx3 => ?_)
  refine gj_c0 (pc := 3) (Y' := gY_80) (y := yX5_gather) (vs := [gR 5 (l0), gR 1 (l1), gI (l2)]) (rest := []) (rs := fun v1 => []) [gI (l2), gR 1 (l1), gR 5 (l0)] rfl (hm_80 hG (l0) (l1) (l2)) rfl (gh_V (t := 5) (vs := [gR 1 (l1), gI (l2)]) (rest := []) (show decode (gy_b gY_147) 3 = .ok (.invokevirtual 87, 3) by decide +kernel) rfl hx3 rfl rfl (ok_80 (by decide) (by decide)) wd_981 wd_983 wd_22 (Nat.le_of_ble_eq_true rfl)) (fun _ => rfl) ?_
  intro v1 M2 n3 c4
  refine gr_iconst (pc := 6) (z := 0) 0 (show decode (gy_b gY_147) 6 = .ok (.iconst (0), 1) by decide +kernel) kc_0 ?_
  refine gr_istore (pc := 7) (i := 4) (L' := [gR 5 (l0), gR 1 (l1), gI (l2), gR 66 (l3), gI (0), gB]) (show decode (gy_b gY_147) 7 = .ok (.istore 4, 2) by decide +kernel) (by decide) rfl rfl ?_
  refine gr_wk [true, false, false, true, true, true] rfl ?_
  exact hw_147_9 hG 65536 (l0) (l3) (0) M2 n3 c4
noncomputable def fi_147 (l0 l1 l2 l3 M n c : Nat) (K : Nat → Nat → Nat → Nat → Bool) : Bool := fi_147_L0 K l0 l1 l2 l3 M n c
theorem hm_147 {G : gxG} (hG : gxG0 G) (l0 l1 l2 l3 : Nat) : gxM G gY_147 yX5_markEntries [gR 5 (l0), gR 1 (l1), gI (l2), gR 66 (l3)] (fi_147 l0 l1 l2 l3) := gxM_of (L := [gR 5 (l0), gR 1 (l1), gI (l2), gR 66 (l3), gB, gB]) hG 2 (by decide +kernel) rfl rfl rfl rfl (List.forall_mem_cons.mpr ⟨rfl, List.forall_mem_cons.mpr ⟨rfl, List.forall_mem_cons.mpr ⟨rfl, List.forall_mem_cons.mpr ⟨rfl, fun _ h => nomatch h⟩⟩⟩⟩) (fun M n c K => h_147_L0 hG  l0 l1 l2 l3 M n c)
/-! Farfiles markWays (LFarfiles$ActSet;)V -/
def gY_148 : gxY := (false, prog_1_method_67_code, 5, (Option.none : Option FieldType), "Farfiles", 4, 111, 5, [], "markWays")
theorem ok_148 {Y : gxY} (h1 : gy_f gY_148 + 1 ≤ gy_f Y) (h2 : 8 + (gy_l gY_148 + 11) + gy_k gY_148 ≤ gy_k Y) : gh_ok Y gY_148 yX7_markWays 1 := ⟨wd_1302, wd_51, ⟨by decide, by decide⟩, by decide +kernel, h1, h2⟩
noncomputable def fi_148_L128 (K : Nat → Nat → Nat → Nat → Bool) (M n c : Nat) : Bool := K 0 M n c
theorem h_148_L128 {G : gxG} (hG : gxG0 G) {K : Nat → Nat → Nat → Nat → Bool} (M n c : Nat) : gxJ G gY_148 K 128 [] [gB, gB, gB, gB, gB] M n c (fi_148_L128 K M n c) := by
  unfold fi_148_L128
  exact gr_return (pc := 128) (show decode (gy_b gY_148) 128 = .ok (.return_, 1) by decide +kernel) rfl rfl
noncomputable def fi_148_L116 (K : Nat → Nat → Nat → Nat → Bool) (ih_40 : Nat → Nat → Nat → Nat → Nat → Nat → Nat → Bool) (ih_55 : Nat → Nat → Nat → Nat → Nat → Nat → Nat → Nat → Bool) (l0 l1 l2 l3 l4 M n c : Nat) : Bool := gx_add (l4) 1 (fun z4 => ih_55 (l0) (l1) (l2) (l3) (z4) M n c)
theorem h_148_L116 {G : gxG} (hG : gxG0 G) {K : Nat → Nat → Nat → Nat → Bool} {ih_40 : Nat → Nat → Nat → Nat → Nat → Nat → Nat → Bool} (hi_40 : ∀ l0 l1 l2 l3 M n c : Nat, gxJ G gY_148 K 40 [] [gR 7 (l0), gR 1 (l1), gI (l2), gI (l3), gB] M n c (ih_40 l0 l1 l2 l3 M n c)) {ih_55 : Nat → Nat → Nat → Nat → Nat → Nat → Nat → Nat → Bool} (hi_55 : ∀ l0 l1 l2 l3 l4 M n c : Nat, gxJ G gY_148 K 55 [] [gR 7 (l0), gR 1 (l1), gI (l2), gI (l3), gI (l4)] M n c (ih_55 l0 l1 l2 l3 l4 M n c)) (l0 l1 l2 l3 l4 M n c : Nat) : gxJ G gY_148 K 116 [] [gR 7 (l0), gR 1 (l1), gI (l2), gI (l3), gI (l4)] M n c (fi_148_L116 K ih_40 ih_55 l0 l1 l2 l3 l4 M n c) := by
  unfold fi_148_L116
  refine gr_iinc (pc := 116) (i := 4) (d := 1) (z := 1) (L' := fun z4 => [gR 7 (l0), gR 1 (l1), gI (l2), gI (l3), gI (z4)]) (show decode (gy_b gY_148) 116 = .ok (.iinc 4 (1), 3) by decide +kernel) (by decide +kernel) (by decide) rfl rfl (fun _ => rfl) ?_
  intro z4
  refine gr_goto (pc := 119) (tgt := 55) (off := -64) (show decode (gy_b gY_148) 119 = .ok (.goto (-64), 3) by decide +kernel) (by decide) ?_
  exact hi_55 (l0) (l1) (l2) (l3) (z4) M n c
noncomputable def fi_148_L103 (K : Nat → Nat → Nat → Nat → Bool) (ih_40 : Nat → Nat → Nat → Nat → Nat → Nat → Nat → Bool) (ih_55 : Nat → Nat → Nat → Nat → Nat → Nat → Nat → Nat → Bool) (l0 l1 l3 l4 s0 s1 s2 s3 M n c : Nat) : Bool := gx_nn (s0) (fi_147 (s0) (s1) (s2) (s3) M n c (fun v11 M12 n13 c14 => gx_get (l0) 12 M12 (fun v15 => gx_ast (v15) (l4) (1) M12 gx_f2 (fun M16 => fi_148_L116 K ih_40 ih_55 (l0) (l1) (1) (l3) (l4) M16 n13 c14))))
theorem h_148_L103 {G : gxG} (hG : gxG0 G) {K : Nat → Nat → Nat → Nat → Bool} {ih_40 : Nat → Nat → Nat → Nat → Nat → Nat → Nat → Bool} (hi_40 : ∀ l0 l1 l2 l3 M n c : Nat, gxJ G gY_148 K 40 [] [gR 7 (l0), gR 1 (l1), gI (l2), gI (l3), gB] M n c (ih_40 l0 l1 l2 l3 M n c)) {ih_55 : Nat → Nat → Nat → Nat → Nat → Nat → Nat → Nat → Bool} (hi_55 : ∀ l0 l1 l2 l3 l4 M n c : Nat, gxJ G gY_148 K 55 [] [gR 7 (l0), gR 1 (l1), gI (l2), gI (l3), gI (l4)] M n c (ih_55 l0 l1 l2 l3 l4 M n c)) (l0 l1 l3 l4 s0 s1 s2 s3 M n c : Nat) : gxJ G gY_148 K 103 [gR 66 (s3), gI (s2), gR 1 (s1), gR 5 (s0)] [gR 7 (l0), gR 1 (l1), gB, gI (l3), gI (l4)] M n c (fi_148_L103 K ih_40 ih_55 l0 l1 l3 l4 s0 s1 s2 s3 M n c) := by
  unfold fi_148_L103
  refine gj_nn (fun hx103 => ?_)
  refine gj_c0 (pc := 103) (Y' := gY_147) (y := yX5_markEntries) (vs := [gR 5 (s0), gR 1 (s1), gI (s2), gR 66 (s3)]) (rest := []) (rs := fun v11 => []) [gR 66 (s3), gI (s2), gR 1 (s1), gR 5 (s0)] rfl (hm_147 hG (s0) (s1) (s2) (s3)) rfl (gh_V (t := 5) (vs := [gR 1 (s1), gI (s2), gR 66 (s3)]) (rest := []) (show decode (gy_b gY_148) 103 = .ok (.invokevirtual 430, 3) by decide +kernel) rfl hx103 rfl rfl (ok_147 (by decide) (by decide)) wd_1303 wd_1304 wd_1305 (Nat.le_of_ble_eq_true rfl)) (fun _ => rfl) ?_
  intro v11 M12 n13 c14
  refine gr_aload_n (pc := 106) (i := 0) 7 (l0) (show decode (gy_b gY_148) 106 = .ok (.aload_n 0, 1) by decide +kernel) rfl rfl ?_
  refine gr_getf (pc := 107) (index := 70) (t := 7) (j := 12) (σ := 74) (sv := (gR 66)) (show decode (gy_b gY_148) 107 = .ok (.getfield 70, 3) by decide +kernel) rfl rfl (fun _ => rfl) wd_306 (by decide) ?_
  intro v15
  refine gr_iload (pc := 110) (i := 4) (l4) (show decode (gy_b gY_148) 110 = .ok (.iload 4, 2) by decide +kernel) rfl ?_
  refine gr_iconst (pc := 112) (z := 1) 1 (show decode (gy_b gY_148) 112 = .ok (.iconst (1), 1) by decide +kernel) kc_1 ?_
  refine gr_zast (pc := 113) hG.2.1 (show decode (gy_b gY_148) 113 = .ok (.bastore, 1) by decide +kernel) ?_
  intro M16
  refine gr_iconst (pc := 114) (z := 1) 1 (show decode (gy_b gY_148) 114 = .ok (.iconst (1), 1) by decide +kernel) kc_1 ?_
  refine gr_istore_n (pc := 115) (i := 2) (L' := [gR 7 (l0), gR 1 (l1), gI (1), gI (l3), gI (l4)]) (show decode (gy_b gY_148) 115 = .ok (.istore_n 2, 1) by decide +kernel) rfl (by decide) rfl rfl ?_
  exact h_148_L116 hG hi_40 hi_55 (l0) (l1) (1) (l3) (l4) M16 n13 c14
noncomputable def fi_148_B55 (K : Nat → Nat → Nat → Nat → Bool) (ih_40 : Nat → Nat → Nat → Nat → Nat → Nat → Nat → Bool) (ih_55 : Nat → Nat → Nat → Nat → Nat → Nat → Nat → Nat → Bool) (l0 l1 l2 l3 l4 M n c : Nat) : Bool := gx_lt (l4) (49) (gx_get (l0) 11 M (fun v2 => gx_ald (v2) (l4) M (fun v3 => gx_eq (v3) 0 (fi_148_L116 K ih_40 ih_55 (l0) (l1) (l2) (l3) (l4) M n c) (gx_get (l0) 7 M (fun v5 => gx_ald (v5) (l4) M (fun v6 => gx_eq (v6) 0 (fi_148_L116 K ih_40 ih_55 (l0) (l1) (l2) (l3) (l4) M n c) (gx_get (l0) 12 M (fun v7 => gx_ald (v7) (l4) M (fun v8 => gx_eq (v8) 0 (gx_get (l0) 1 M (fun v9 => gx_get (l0) 11 M (fun v10 => fi_148_L103 K ih_40 ih_55 (l0) (l1) (l3) (l4) (v9) (l1) (l4) (v10) M n c))) (fi_148_L116 K ih_40 ih_55 (l0) (l1) (l2) (l3) (l4) M n c)))))))))) (gx_add (l3) 1 (fun z1 => ih_40 (l0) (l1) (l2) (z1) M n c))
theorem hb_148_B55 {G : gxG} (hG : gxG0 G) {K : Nat → Nat → Nat → Nat → Bool} {ih_40 : Nat → Nat → Nat → Nat → Nat → Nat → Nat → Bool} (hi_40 : ∀ l0 l1 l2 l3 M n c : Nat, gxJ G gY_148 K 40 [] [gR 7 (l0), gR 1 (l1), gI (l2), gI (l3), gB] M n c (ih_40 l0 l1 l2 l3 M n c)) {ih_55 : Nat → Nat → Nat → Nat → Nat → Nat → Nat → Nat → Bool} (hi_55 : ∀ l0 l1 l2 l3 l4 M n c : Nat, gxJ G gY_148 K 55 [] [gR 7 (l0), gR 1 (l1), gI (l2), gI (l3), gI (l4)] M n c (ih_55 l0 l1 l2 l3 l4 M n c)) (l0 l1 l2 l3 l4 M n c : Nat) : gxJ G gY_148 K 55 [] [gR 7 (l0), gR 1 (l1), gI (l2), gI (l3), gI (l4)] M n c (fi_148_B55 K ih_40 ih_55 l0 l1 l2 l3 l4 M n c) := by
  unfold fi_148_B55
  refine gr_iload (pc := 55) (i := 4) (l4) (show decode (gy_b gY_148) 55 = .ok (.iload 4, 2) by decide +kernel) rfl ?_
  refine gr_bipush (pc := 57) (z := 49) 49 (show decode (gy_b gY_148) 57 = .ok (.bipush (49), 2) by decide +kernel) (by decide +kernel) ?_
  refine gr_icmp_ge (pc := 59) (tgt := 122) (off := 63) hG.2.1 (show decode (gy_b gY_148) 59 = .ok (.if_icmp .ge (63), 3) by decide +kernel) (by decide) ?_ ?_
  · refine gr_iinc (pc := 122) (i := 3) (d := 1) (z := 1) (L' := fun z1 => [gR 7 (l0), gR 1 (l1), gI (l2), gI (z1), gI (l4)]) (show decode (gy_b gY_148) 122 = .ok (.iinc 3 (1), 3) by decide +kernel) (by decide +kernel) (by decide) rfl rfl (fun _ => rfl) ?_
    intro z1
    refine gr_goto (pc := 125) (tgt := 40) (off := -85) (show decode (gy_b gY_148) 125 = .ok (.goto (-85), 3) by decide +kernel) (by decide) ?_
    refine gr_wk [true, true, true, true, false] rfl ?_
    exact hi_40 (l0) (l1) (l2) (z1) M n c
  · refine gr_aload_n (pc := 62) (i := 0) 7 (l0) (show decode (gy_b gY_148) 62 = .ok (.aload_n 0, 1) by decide +kernel) rfl rfl ?_
    refine gr_getf (pc := 63) (index := 67) (t := 7) (j := 11) (σ := 74) (sv := (gR 66)) (show decode (gy_b gY_148) 63 = .ok (.getfield 67, 3) by decide +kernel) rfl rfl (fun _ => rfl) wd_305 (by decide) ?_
    intro v2
    refine gr_iload (pc := 66) (i := 4) (l4) (show decode (gy_b gY_148) 66 = .ok (.iload 4, 2) by decide +kernel) rfl ?_
    refine gr_zald (pc := 68) (show decode (gy_b gY_148) 68 = .ok (.baload, 1) by decide +kernel) ?_
    intro v3
    refine gr_ifeq (pc := 69) (tgt := 116) (off := 47) hG.2.1 (show decode (gy_b gY_148) 69 = .ok (.ifCond .eq (47), 3) by decide +kernel) (by decide) ?_ ?_
    · exact h_148_L116 hG hi_40 hi_55 (l0) (l1) (l2) (l3) (l4) M n c
    · refine gr_aload_n (pc := 72) (i := 0) 7 (l0) (show decode (gy_b gY_148) 72 = .ok (.aload_n 0, 1) by decide +kernel) rfl rfl ?_
      refine gr_getf (pc := 73) (index := 49) (t := 7) (j := 7) (σ := 74) (sv := (gR 66)) (show decode (gy_b gY_148) 73 = .ok (.getfield 49, 3) by decide +kernel) rfl rfl (fun _ => rfl) wd_301 (by decide) ?_
      intro v5
      refine gr_iload (pc := 76) (i := 4) (l4) (show decode (gy_b gY_148) 76 = .ok (.iload 4, 2) by decide +kernel) rfl ?_
      refine gr_zald (pc := 78) (show decode (gy_b gY_148) 78 = .ok (.baload, 1) by decide +kernel) ?_
      intro v6
      refine gr_ifeq (pc := 79) (tgt := 116) (off := 37) hG.2.1 (show decode (gy_b gY_148) 79 = .ok (.ifCond .eq (37), 3) by decide +kernel) (by decide) ?_ ?_
      · exact h_148_L116 hG hi_40 hi_55 (l0) (l1) (l2) (l3) (l4) M n c
      · refine gr_aload_n (pc := 82) (i := 0) 7 (l0) (show decode (gy_b gY_148) 82 = .ok (.aload_n 0, 1) by decide +kernel) rfl rfl ?_
        refine gr_getf (pc := 83) (index := 70) (t := 7) (j := 12) (σ := 74) (sv := (gR 66)) (show decode (gy_b gY_148) 83 = .ok (.getfield 70, 3) by decide +kernel) rfl rfl (fun _ => rfl) wd_306 (by decide) ?_
        intro v7
        refine gr_iload (pc := 86) (i := 4) (l4) (show decode (gy_b gY_148) 86 = .ok (.iload 4, 2) by decide +kernel) rfl ?_
        refine gr_zald (pc := 88) (show decode (gy_b gY_148) 88 = .ok (.baload, 1) by decide +kernel) ?_
        intro v8
        refine gr_ifne (pc := 89) (tgt := 116) (off := 27) hG.2.1 (show decode (gy_b gY_148) 89 = .ok (.ifCond .ne (27), 3) by decide +kernel) (by decide) ?_ ?_
        · exact h_148_L116 hG hi_40 hi_55 (l0) (l1) (l2) (l3) (l4) M n c
        · refine gr_aload_n (pc := 92) (i := 0) 7 (l0) (show decode (gy_b gY_148) 92 = .ok (.aload_n 0, 1) by decide +kernel) rfl rfl ?_
          refine gr_getf (pc := 93) (index := 19) (t := 7) (j := 1) (σ := 13) (sv := (gR 5)) (show decode (gy_b gY_148) 93 = .ok (.getfield 19, 3) by decide +kernel) rfl rfl (fun _ => rfl) wd_295 (by decide) ?_
          intro v9
          refine gr_aload_n (pc := 96) (i := 1) 1 (l1) (show decode (gy_b gY_148) 96 = .ok (.aload_n 1, 1) by decide +kernel) rfl rfl ?_
          refine gr_iload (pc := 97) (i := 4) (l4) (show decode (gy_b gY_148) 97 = .ok (.iload 4, 2) by decide +kernel) rfl ?_
          refine gr_aload_n (pc := 99) (i := 0) 7 (l0) (show decode (gy_b gY_148) 99 = .ok (.aload_n 0, 1) by decide +kernel) rfl rfl ?_
          refine gr_getf (pc := 100) (index := 67) (t := 7) (j := 11) (σ := 74) (sv := (gR 66)) (show decode (gy_b gY_148) 100 = .ok (.getfield 67, 3) by decide +kernel) rfl rfl (fun _ => rfl) wd_305 (by decide) ?_
          intro v10
          refine gr_wk [true, true, false, true, true] rfl ?_
          exact h_148_L103 hG hi_40 hi_55 (l0) (l1) (l3) (l4) (v9) (l1) (l4) (v10) M n c
noncomputable def fi_148_W55 (K : Nat → Nat → Nat → Nat → Bool) (ih_40 : Nat → Nat → Nat → Nat → Nat → Nat → Nat → Bool) (u : Nat) : Nat → Nat → Nat → Nat → Nat → Nat → Nat → Nat → Bool := Nat.rec (motive := fun _ => Nat → Nat → Nat → Nat → Nat → Nat → Nat → Nat → Bool) (fun _ _ _ _ _ _ _ _ => false) (fun _ ih => fi_148_B55 K ih_40 ih) u
theorem hw_148_55 {G : gxG} (hG : gxG0 G) {K : Nat → Nat → Nat → Nat → Bool} {ih_40 : Nat → Nat → Nat → Nat → Nat → Nat → Nat → Bool} (hi_40 : ∀ l0 l1 l2 l3 M n c : Nat, gxJ G gY_148 K 40 [] [gR 7 (l0), gR 1 (l1), gI (l2), gI (l3), gB] M n c (ih_40 l0 l1 l2 l3 M n c)) (u : Nat) : ∀ l0 l1 l2 l3 l4 M n c : Nat, gxJ G gY_148 K 55 [] [gR 7 (l0), gR 1 (l1), gI (l2), gI (l3), gI (l4)] M n c (fi_148_W55 K ih_40 u l0 l1 l2 l3 l4 M n c) := by
  induction u with
  | zero => intro l0 l1 l2 l3 l4 M n c; exact gj_false
  | succ u ih => intro l0 l1 l2 l3 l4 M n c; exact hb_148_B55 hG hi_40 ih l0 l1 l2 l3 l4 M n c
noncomputable def fi_148_B40 (K : Nat → Nat → Nat → Nat → Bool) (ih_40 : Nat → Nat → Nat → Nat → Nat → Nat → Nat → Bool) (l0 l1 l2 l3 M n c : Nat) : Bool := gx_lt (l3) (49) (gx_eq (l2) 0 (fi_148_L128 K  M n c) (fi_148_W55 K ih_40 65536 (l0) (l1) (0) (l3) (0) M n c)) (fi_148_L128 K  M n c)
theorem hb_148_B40 {G : gxG} (hG : gxG0 G) {K : Nat → Nat → Nat → Nat → Bool} {ih_40 : Nat → Nat → Nat → Nat → Nat → Nat → Nat → Bool} (hi_40 : ∀ l0 l1 l2 l3 M n c : Nat, gxJ G gY_148 K 40 [] [gR 7 (l0), gR 1 (l1), gI (l2), gI (l3), gB] M n c (ih_40 l0 l1 l2 l3 M n c)) (l0 l1 l2 l3 M n c : Nat) : gxJ G gY_148 K 40 [] [gR 7 (l0), gR 1 (l1), gI (l2), gI (l3), gB] M n c (fi_148_B40 K ih_40 l0 l1 l2 l3 M n c) := by
  unfold fi_148_B40
  refine gr_iload_n (pc := 40) (i := 3) (l3) (show decode (gy_b gY_148) 40 = .ok (.iload_n 3, 1) by decide +kernel) rfl rfl ?_
  refine gr_bipush (pc := 41) (z := 49) 49 (show decode (gy_b gY_148) 41 = .ok (.bipush (49), 2) by decide +kernel) (by decide +kernel) ?_
  refine gr_icmp_ge (pc := 43) (tgt := 128) (off := 85) hG.2.1 (show decode (gy_b gY_148) 43 = .ok (.if_icmp .ge (85), 3) by decide +kernel) (by decide) ?_ ?_
  · refine gr_wk [false, false, false, false, true] rfl ?_
    exact h_148_L128 hG  M n c
  · refine gr_iload_n (pc := 46) (i := 2) (l2) (show decode (gy_b gY_148) 46 = .ok (.iload_n 2, 1) by decide +kernel) rfl rfl ?_
    refine gr_ifeq (pc := 47) (tgt := 128) (off := 81) hG.2.1 (show decode (gy_b gY_148) 47 = .ok (.ifCond .eq (81), 3) by decide +kernel) (by decide) ?_ ?_
    · refine gr_wk [false, false, false, false, true] rfl ?_
      exact h_148_L128 hG  M n c
    · refine gr_iconst (pc := 50) (z := 0) 0 (show decode (gy_b gY_148) 50 = .ok (.iconst (0), 1) by decide +kernel) kc_0 ?_
      refine gr_istore_n (pc := 51) (i := 2) (L' := [gR 7 (l0), gR 1 (l1), gI (0), gI (l3), gB]) (show decode (gy_b gY_148) 51 = .ok (.istore_n 2, 1) by decide +kernel) rfl (by decide) rfl rfl ?_
      refine gr_iconst (pc := 52) (z := 0) 0 (show decode (gy_b gY_148) 52 = .ok (.iconst (0), 1) by decide +kernel) kc_0 ?_
      refine gr_istore (pc := 53) (i := 4) (L' := [gR 7 (l0), gR 1 (l1), gI (0), gI (l3), gI (0)]) (show decode (gy_b gY_148) 53 = .ok (.istore 4, 2) by decide +kernel) (by decide) rfl rfl ?_
      exact hw_148_55 hG hi_40 65536 (l0) (l1) (0) (l3) (0) M n c
noncomputable def fi_148_W40 (K : Nat → Nat → Nat → Nat → Bool) (u : Nat) : Nat → Nat → Nat → Nat → Nat → Nat → Nat → Bool := Nat.rec (motive := fun _ => Nat → Nat → Nat → Nat → Nat → Nat → Nat → Bool) (fun _ _ _ _ _ _ _ => false) (fun _ ih => fi_148_B40 K ih) u
theorem hw_148_40 {G : gxG} (hG : gxG0 G) {K : Nat → Nat → Nat → Nat → Bool} (u : Nat) : ∀ l0 l1 l2 l3 M n c : Nat, gxJ G gY_148 K 40 [] [gR 7 (l0), gR 1 (l1), gI (l2), gI (l3), gB] M n c (fi_148_W40 K u l0 l1 l2 l3 M n c) := by
  induction u with
  | zero => intro l0 l1 l2 l3 M n c; exact gj_false
  | succ u ih => intro l0 l1 l2 l3 M n c; exact hb_148_B40 hG ih l0 l1 l2 l3 M n c
noncomputable def fi_148_L22 (K : Nat → Nat → Nat → Nat → Bool) (ih_2 : Nat → Nat → Nat → Nat → Nat → Nat → Bool) (l0 l1 l2 s0 s1 s2 M n c : Nat) : Bool := gx_ast (s0) (s1) (s2) M gx_f2 (fun M18 => gx_get (l0) 12 M18 (fun v19 => gx_ast (v19) (l2) (0) M18 gx_f2 (fun M20 => gx_add (l2) 1 (fun z21 => ih_2 (l0) (l1) (z21) M20 n c))))
theorem h_148_L22 {G : gxG} (hG : gxG0 G) {K : Nat → Nat → Nat → Nat → Bool} {ih_2 : Nat → Nat → Nat → Nat → Nat → Nat → Bool} (hi_2 : ∀ l0 l1 l2 M n c : Nat, gxJ G gY_148 K 2 [] [gR 7 (l0), gR 1 (l1), gI (l2), gB, gB] M n c (ih_2 l0 l1 l2 M n c)) (l0 l1 l2 s0 s1 s2 M n c : Nat) : gxJ G gY_148 K 22 [gI (s2), gI (s1), gR 66 (s0)] [gR 7 (l0), gR 1 (l1), gI (l2), gB, gB] M n c (fi_148_L22 K ih_2 l0 l1 l2 s0 s1 s2 M n c) := by
  unfold fi_148_L22
  refine gr_zast (pc := 22) hG.2.1 (show decode (gy_b gY_148) 22 = .ok (.bastore, 1) by decide +kernel) ?_
  intro M18
  refine gr_aload_n (pc := 23) (i := 0) 7 (l0) (show decode (gy_b gY_148) 23 = .ok (.aload_n 0, 1) by decide +kernel) rfl rfl ?_
  refine gr_getf (pc := 24) (index := 70) (t := 7) (j := 12) (σ := 74) (sv := (gR 66)) (show decode (gy_b gY_148) 24 = .ok (.getfield 70, 3) by decide +kernel) rfl rfl (fun _ => rfl) wd_306 (by decide) ?_
  intro v19
  refine gr_iload_n (pc := 27) (i := 2) (l2) (show decode (gy_b gY_148) 27 = .ok (.iload_n 2, 1) by decide +kernel) rfl rfl ?_
  refine gr_iconst (pc := 28) (z := 0) 0 (show decode (gy_b gY_148) 28 = .ok (.iconst (0), 1) by decide +kernel) kc_0 ?_
  refine gr_zast (pc := 29) hG.2.1 (show decode (gy_b gY_148) 29 = .ok (.bastore, 1) by decide +kernel) ?_
  intro M20
  refine gr_iinc (pc := 30) (i := 2) (d := 1) (z := 1) (L' := fun z21 => [gR 7 (l0), gR 1 (l1), gI (z21), gB, gB]) (show decode (gy_b gY_148) 30 = .ok (.iinc 2 (1), 3) by decide +kernel) (by decide +kernel) (by decide) rfl rfl (fun _ => rfl) ?_
  intro z21
  refine gr_goto (pc := 33) (tgt := 2) (off := -31) (show decode (gy_b gY_148) 33 = .ok (.goto (-31), 3) by decide +kernel) (by decide) ?_
  exact hi_2 (l0) (l1) (z21) M20 n c
noncomputable def fi_148_B2 (K : Nat → Nat → Nat → Nat → Bool) (ih_2 : Nat → Nat → Nat → Nat → Nat → Nat → Bool) (l0 l1 l2 M n c : Nat) : Bool := gx_lt (l2) (49) (gx_get (l0) 11 M (fun v17 => gx_eq (l2) 0 (fi_148_L22 K ih_2 (l0) (l1) (l2) (v17) (l2) (1) M n c) (fi_148_L22 K ih_2 (l0) (l1) (l2) (v17) (l2) (0) M n c))) (fi_148_W40 K 65536 (l0) (l1) (1) (0) M n c)
theorem hb_148_B2 {G : gxG} (hG : gxG0 G) {K : Nat → Nat → Nat → Nat → Bool} {ih_2 : Nat → Nat → Nat → Nat → Nat → Nat → Bool} (hi_2 : ∀ l0 l1 l2 M n c : Nat, gxJ G gY_148 K 2 [] [gR 7 (l0), gR 1 (l1), gI (l2), gB, gB] M n c (ih_2 l0 l1 l2 M n c)) (l0 l1 l2 M n c : Nat) : gxJ G gY_148 K 2 [] [gR 7 (l0), gR 1 (l1), gI (l2), gB, gB] M n c (fi_148_B2 K ih_2 l0 l1 l2 M n c) := by
  unfold fi_148_B2
  refine gr_iload_n (pc := 2) (i := 2) (l2) (show decode (gy_b gY_148) 2 = .ok (.iload_n 2, 1) by decide +kernel) rfl rfl ?_
  refine gr_bipush (pc := 3) (z := 49) 49 (show decode (gy_b gY_148) 3 = .ok (.bipush (49), 2) by decide +kernel) (by decide +kernel) ?_
  refine gr_icmp_ge (pc := 5) (tgt := 36) (off := 31) hG.2.1 (show decode (gy_b gY_148) 5 = .ok (.if_icmp .ge (31), 3) by decide +kernel) (by decide) ?_ ?_
  · refine gr_iconst (pc := 36) (z := 1) 1 (show decode (gy_b gY_148) 36 = .ok (.iconst (1), 1) by decide +kernel) kc_1 ?_
    refine gr_istore_n (pc := 37) (i := 2) (L' := [gR 7 (l0), gR 1 (l1), gI (1), gB, gB]) (show decode (gy_b gY_148) 37 = .ok (.istore_n 2, 1) by decide +kernel) rfl (by decide) rfl rfl ?_
    refine gr_iconst (pc := 38) (z := 0) 0 (show decode (gy_b gY_148) 38 = .ok (.iconst (0), 1) by decide +kernel) kc_0 ?_
    refine gr_istore_n (pc := 39) (i := 3) (L' := [gR 7 (l0), gR 1 (l1), gI (1), gI (0), gB]) (show decode (gy_b gY_148) 39 = .ok (.istore_n 3, 1) by decide +kernel) rfl (by decide) rfl rfl ?_
    exact hw_148_40 hG 65536 (l0) (l1) (1) (0) M n c
  · refine gr_aload_n (pc := 8) (i := 0) 7 (l0) (show decode (gy_b gY_148) 8 = .ok (.aload_n 0, 1) by decide +kernel) rfl rfl ?_
    refine gr_getf (pc := 9) (index := 67) (t := 7) (j := 11) (σ := 74) (sv := (gR 66)) (show decode (gy_b gY_148) 9 = .ok (.getfield 67, 3) by decide +kernel) rfl rfl (fun _ => rfl) wd_305 (by decide) ?_
    intro v17
    refine gr_iload_n (pc := 12) (i := 2) (l2) (show decode (gy_b gY_148) 12 = .ok (.iload_n 2, 1) by decide +kernel) rfl rfl ?_
    refine gr_iload_n (pc := 13) (i := 2) (l2) (show decode (gy_b gY_148) 13 = .ok (.iload_n 2, 1) by decide +kernel) rfl rfl ?_
    refine gr_ifne (pc := 14) (tgt := 21) (off := 7) hG.2.1 (show decode (gy_b gY_148) 14 = .ok (.ifCond .ne (7), 3) by decide +kernel) (by decide) ?_ ?_
    · refine gr_iconst (pc := 21) (z := 0) 0 (show decode (gy_b gY_148) 21 = .ok (.iconst (0), 1) by decide +kernel) kc_0 ?_
      exact h_148_L22 hG hi_2 (l0) (l1) (l2) (v17) (l2) (0) M n c
    · refine gr_iconst (pc := 17) (z := 1) 1 (show decode (gy_b gY_148) 17 = .ok (.iconst (1), 1) by decide +kernel) kc_1 ?_
      refine gr_goto (pc := 18) (tgt := 22) (off := 4) (show decode (gy_b gY_148) 18 = .ok (.goto (4), 3) by decide +kernel) (by decide) ?_
      exact h_148_L22 hG hi_2 (l0) (l1) (l2) (v17) (l2) (1) M n c
noncomputable def fi_148_W2 (K : Nat → Nat → Nat → Nat → Bool) (u : Nat) : Nat → Nat → Nat → Nat → Nat → Nat → Bool := Nat.rec (motive := fun _ => Nat → Nat → Nat → Nat → Nat → Nat → Bool) (fun _ _ _ _ _ _ => false) (fun _ ih => fi_148_B2 K ih) u
theorem hw_148_2 {G : gxG} (hG : gxG0 G) {K : Nat → Nat → Nat → Nat → Bool} (u : Nat) : ∀ l0 l1 l2 M n c : Nat, gxJ G gY_148 K 2 [] [gR 7 (l0), gR 1 (l1), gI (l2), gB, gB] M n c (fi_148_W2 K u l0 l1 l2 M n c) := by
  induction u with
  | zero => intro l0 l1 l2 M n c; exact gj_false
  | succ u ih => intro l0 l1 l2 M n c; exact hb_148_B2 hG ih l0 l1 l2 M n c
noncomputable def fi_148_L0 (K : Nat → Nat → Nat → Nat → Bool) (l0 l1 M n c : Nat) : Bool := fi_148_W2 K 65536 (l0) (l1) (0) M n c
theorem h_148_L0 {G : gxG} (hG : gxG0 G) {K : Nat → Nat → Nat → Nat → Bool} (l0 l1 M n c : Nat) : gxJ G gY_148 K 0 [] [gR 7 (l0), gR 1 (l1), gB, gB, gB] M n c (fi_148_L0 K l0 l1 M n c) := by
  unfold fi_148_L0
  refine gr_iconst (pc := 0) (z := 0) 0 (show decode (gy_b gY_148) 0 = .ok (.iconst (0), 1) by decide +kernel) kc_0 ?_
  refine gr_istore_n (pc := 1) (i := 2) (L' := [gR 7 (l0), gR 1 (l1), gI (0), gB, gB]) (show decode (gy_b gY_148) 1 = .ok (.istore_n 2, 1) by decide +kernel) rfl (by decide) rfl rfl ?_
  exact hw_148_2 hG 65536 (l0) (l1) (0) M n c
noncomputable def fi_148 (l0 l1 M n c : Nat) (K : Nat → Nat → Nat → Nat → Bool) : Bool := fi_148_L0 K l0 l1 M n c
theorem hm_148 {G : gxG} (hG : gxG0 G) (l0 l1 : Nat) : gxM G gY_148 yX7_markWays [gR 7 (l0), gR 1 (l1)] (fi_148 l0 l1) := gxM_of (L := [gR 7 (l0), gR 1 (l1), gB, gB, gB]) hG 3 (by decide +kernel) rfl rfl rfl rfl (List.forall_mem_cons.mpr ⟨rfl, List.forall_mem_cons.mpr ⟨rfl, fun _ h => nomatch h⟩⟩) (fun M n c K => h_148_L0 hG  l0 l1 M n c)
/-! Farfiles$Log hasUnseenStore (LFarfiles$ActSet;I)Z -/
def gY_149 : gxY := (false, prog_7_method_13_code, 5, (Option.some Jvm.ClassFile.FieldType.boolean), "Farfiles$Log", 3, 83, 2, [], "hasUnseenStore")
theorem ok_149 {Y : gxY} (h1 : gy_f gY_149 + 1 ≤ gy_f Y) (h2 : 8 + (gy_l gY_149 + 11) + gy_k gY_149 ≤ gy_k Y) : gh_ok Y gY_149 yX5_hasUnseenStore 2 := ⟨wd_1310, wd_53, ⟨by decide, by decide⟩, by decide +kernel, h1, h2⟩
noncomputable def fi_149_L100 (K : Nat → Nat → Nat → Nat → Bool) (ih_16 : Nat → Nat → Nat → Nat → Nat → Nat → Nat → Bool) (l0 l1 l2 l3 M n c : Nat) : Bool := gx_add (l3) 1 (fun z27 => ih_16 (l0) (l1) (l2) (z27) M n c)
theorem h_149_L100 {G : gxG} (hG : gxG0 G) {K : Nat → Nat → Nat → Nat → Bool} {ih_16 : Nat → Nat → Nat → Nat → Nat → Nat → Nat → Bool} (hi_16 : ∀ l0 l1 l2 l3 M n c : Nat, gxJ G gY_149 K 16 [] [gR 5 (l0), gR 1 (l1), gI (l2), gI (l3), gB] M n c (ih_16 l0 l1 l2 l3 M n c)) (l0 l1 l2 l3 M n c : Nat) : gxJ G gY_149 K 100 [] [gR 5 (l0), gR 1 (l1), gI (l2), gI (l3), gB] M n c (fi_149_L100 K ih_16 l0 l1 l2 l3 M n c) := by
  unfold fi_149_L100
  refine gr_iinc (pc := 100) (i := 3) (d := 1) (z := 1) (L' := fun z27 => [gR 5 (l0), gR 1 (l1), gI (l2), gI (z27), gB]) (show decode (gy_b gY_149) 100 = .ok (.iinc 3 (1), 3) by decide +kernel) (by decide +kernel) (by decide) rfl rfl (fun _ => rfl) ?_
  intro z27
  refine gr_goto (pc := 103) (tgt := 16) (off := -87) (show decode (gy_b gY_149) 103 = .ok (.goto (-87), 3) by decide +kernel) (by decide) ?_
  exact hi_16 (l0) (l1) (l2) (z27) M n c
noncomputable def fi_149_L69 (K : Nat → Nat → Nat → Nat → Bool) (ih_16 : Nat → Nat → Nat → Nat → Nat → Nat → Nat → Bool) (l0 l1 l2 l3 l4 M n c : Nat) : Bool := gx_get (l4) 2 M (fun v33 => gx_eq (v33) (99) (gx_get (l4) 4 M (fun v34 => gx_eq (v34) (l2) (false) (fi_149_L100 K ih_16 (l0) (l1) (l2) (l3) M n c))) (fi_149_L100 K ih_16 (l0) (l1) (l2) (l3) M n c))
theorem h_149_L69 {G : gxG} (hG : gxG0 G) {K : Nat → Nat → Nat → Nat → Bool} {ih_16 : Nat → Nat → Nat → Nat → Nat → Nat → Nat → Bool} (hi_16 : ∀ l0 l1 l2 l3 M n c : Nat, gxJ G gY_149 K 16 [] [gR 5 (l0), gR 1 (l1), gI (l2), gI (l3), gB] M n c (ih_16 l0 l1 l2 l3 M n c)) (l0 l1 l2 l3 l4 M n c : Nat) : gxJ G gY_149 K 69 [] [gR 5 (l0), gR 1 (l1), gI (l2), gI (l3), gR 0 (l4)] M n c (fi_149_L69 K ih_16 l0 l1 l2 l3 l4 M n c) := by
  unfold fi_149_L69
  refine gr_aload (pc := 69) (i := 4) 0 (l4) (show decode (gy_b gY_149) 69 = .ok (.aload 4, 2) by decide +kernel) rfl ?_
  refine gr_getfN (pc := 71) (index := 56) (t := 0) (j := 2) (σ := 1) (sv := gI) (show decode (gy_b gY_149) 71 = .ok (.getfield 56, 3) by decide +kernel) rfl rfl (fun _ => rfl) wd_142 (by decide) ?_
  intro v33
  refine gr_bipush (pc := 74) (z := 99) 99 (show decode (gy_b gY_149) 74 = .ok (.bipush (99), 2) by decide +kernel) (by decide +kernel) ?_
  refine gr_icmp_ne (pc := 76) (tgt := 100) (off := 24) hG.2.1 (show decode (gy_b gY_149) 76 = .ok (.if_icmp .ne (24), 3) by decide +kernel) (by decide) ?_ ?_
  · refine gr_wk [true, true, true, true, false] rfl ?_
    exact h_149_L100 hG hi_16 (l0) (l1) (l2) (l3) M n c
  · refine gr_aload (pc := 79) (i := 4) 0 (l4) (show decode (gy_b gY_149) 79 = .ok (.aload 4, 2) by decide +kernel) rfl ?_
    refine gr_getfN (pc := 81) (index := 80) (t := 0) (j := 4) (σ := 0) (sv := gI) (show decode (gy_b gY_149) 81 = .ok (.getfield 80, 3) by decide +kernel) rfl rfl (fun _ => rfl) wd_147 (by decide) ?_
    intro v34
    refine gr_iload_n (pc := 84) (i := 2) (l2) (show decode (gy_b gY_149) 84 = .ok (.iload_n 2, 1) by decide +kernel) rfl rfl ?_
    refine gr_icmp_ne (pc := 85) (tgt := 100) (off := 15) hG.2.1 (show decode (gy_b gY_149) 85 = .ok (.if_icmp .ne (15), 3) by decide +kernel) (by decide) ?_ ?_
    · refine gr_wk [true, true, true, true, false] rfl ?_
      exact h_149_L100 hG hi_16 (l0) (l1) (l2) (l3) M n c
    · exact gj_false
noncomputable def fi_149_B16 (K : Nat → Nat → Nat → Nat → Bool) (ih_16 : Nat → Nat → Nat → Nat → Nat → Nat → Nat → Bool) (l0 l1 l2 l3 M n c : Nat) : Bool := gx_get (l0) 4 M (fun v11 => gx_lt (l3) (v11) (gx_nn (l1) (fi_69 (l1) (l3) M n c (fun v23 M24 n25 c26 => gx_eq (v23) 0 (fi_149_L100 K ih_16 (l0) (l1) (l2) (l3) M24 n25 c26) (gx_nn (l0) (fi_70 (l0) (l3) M24 n25 c26 (fun v28 M29 n30 c31 => gx_get (v28) 2 M29 (fun v32 => gx_eq (v32) (115) (gx_get (v28) 1 M29 (fun v35 => gx_eq (v35) (l2) (gx_get (l0) 2 M29 (fun v36 => gx_nn (v36) (fi_71 (v36) (l3) M29 n30 c31 (fun v37 M38 n39 c40 => fi_149_L100 K ih_16 (l0) (l1) (l2) (l3) M38 n39 c40)))) (fi_149_L69 K ih_16 (l0) (l1) (l2) (l3) (v28) M29 n30 c31))) (fi_149_L69 K ih_16 (l0) (l1) (l2) (l3) (v28) M29 n30 c31)))))))) (gx_get (l0) 2 M (fun v12 => gx_get (l0) 3 M (fun v13 => gx_nn (v12) (fi_79 (v12) (v13) M n c (fun v14 M15 n16 c17 => gx_get (l0) 2 M15 (fun v18 => gx_nn (v18) (fi_107 (v18) M15 n16 c17 (fun v19 M20 n21 c22 => gx_lt 0 (v19) (gx_rt gx_f2 (1) (K (1) M20 n21 c22)) (false))))))))))
theorem hb_149_B16 {G : gxG} (hG : gxG0 G) {K : Nat → Nat → Nat → Nat → Bool} {ih_16 : Nat → Nat → Nat → Nat → Nat → Nat → Nat → Bool} (hi_16 : ∀ l0 l1 l2 l3 M n c : Nat, gxJ G gY_149 K 16 [] [gR 5 (l0), gR 1 (l1), gI (l2), gI (l3), gB] M n c (ih_16 l0 l1 l2 l3 M n c)) (l0 l1 l2 l3 M n c : Nat) : gxJ G gY_149 K 16 [] [gR 5 (l0), gR 1 (l1), gI (l2), gI (l3), gB] M n c (fi_149_B16 K ih_16 l0 l1 l2 l3 M n c) := by
  unfold fi_149_B16
  refine gr_iload_n (pc := 16) (i := 3) (l3) (show decode (gy_b gY_149) 16 = .ok (.iload_n 3, 1) by decide +kernel) rfl rfl ?_
  refine gr_aload_n (pc := 17) (i := 0) 5 (l0) (show decode (gy_b gY_149) 17 = .ok (.aload_n 0, 1) by decide +kernel) rfl rfl ?_
  refine gr_getf (pc := 18) (index := 38) (t := 5) (j := 4) (σ := 0) (sv := gI) (show decode (gy_b gY_149) 18 = .ok (.getfield 38, 3) by decide +kernel) rfl rfl (fun _ => rfl) wd_179 (by decide) ?_
  intro v11
  refine gr_icmp_ge (pc := 21) (tgt := 106) (off := 85) hG.2.1 (show decode (gy_b gY_149) 21 = .ok (.if_icmp .ge (85), 3) by decide +kernel) (by decide) ?_ ?_
  · refine gr_aload_n (pc := 106) (i := 0) 5 (l0) (show decode (gy_b gY_149) 106 = .ok (.aload_n 0, 1) by decide +kernel) rfl rfl ?_
    refine gr_getf (pc := 107) (index := 31) (t := 5) (j := 2) (σ := 9) (sv := (gR 1)) (show decode (gy_b gY_149) 107 = .ok (.getfield 31, 3) by decide +kernel) rfl rfl (fun _ => rfl) wd_177 (by decide) ?_
    intro v12
    refine gr_aload_n (pc := 110) (i := 0) 5 (l0) (show decode (gy_b gY_149) 110 = .ok (.aload_n 0, 1) by decide +kernel) rfl rfl ?_
    refine gr_getf (pc := 111) (index := 35) (t := 5) (j := 3) (σ := 9) (sv := (gR 1)) (show decode (gy_b gY_149) 111 = .ok (.getfield 35, 3) by decide +kernel) rfl rfl (fun _ => rfl) wd_178 (by decide) ?_
    intro v13
    refine gj_nn (fun hx114 => ?_)
    refine gj_c0 (pc := 114) (Y' := gY_79) (y := yX1_takeOutAll) (vs := [gR 1 (v12), gR 1 (v13)]) (rest := []) (rs := fun v14 => []) [gR 1 (v13), gR 1 (v12)] rfl (hm_79 hG (v12) (v13)) rfl (gh_V (t := 1) (vs := [gR 1 (v13)]) (rest := []) (show decode (gy_b gY_149) 114 = .ok (.invokevirtual 74, 3) by decide +kernel) rfl hx114 rfl rfl (ok_79 (by decide) (by decide)) wd_996 wd_997 wd_998 (Nat.le_of_ble_eq_true rfl)) (fun _ => rfl) ?_
    intro v14 M15 n16 c17
    refine gr_aload_n (pc := 117) (i := 0) 5 (l0) (show decode (gy_b gY_149) 117 = .ok (.aload_n 0, 1) by decide +kernel) rfl rfl ?_
    refine gr_getf (pc := 118) (index := 31) (t := 5) (j := 2) (σ := 9) (sv := (gR 1)) (show decode (gy_b gY_149) 118 = .ok (.getfield 31, 3) by decide +kernel) rfl rfl (fun _ => rfl) wd_177 (by decide) ?_
    intro v18
    refine gj_nn (fun hx121 => ?_)
    refine gj_c0 (pc := 121) (Y' := gY_107) (y := yX1_size) (vs := [gR 1 (v18)]) (rest := []) (rs := fun v19 => [gI (v19)]) [gR 1 (v18)] rfl (hm_107 hG (v18)) rfl (gh_V (t := 1) (vs := []) (rest := []) (show decode (gy_b gY_149) 121 = .ok (.invokevirtual 95, 3) by decide +kernel) rfl hx121 rfl rfl (ok_107 (by decide) (by decide)) wd_1286 wd_1120 wd_1121 (Nat.le_of_ble_eq_true rfl)) (fun _ => rfl) ?_
    intro v19 M20 n21 c22
    refine gr_ifle (pc := 124) (tgt := 131) (off := 7) hG.2.1 (show decode (gy_b gY_149) 124 = .ok (.ifCond .le (7), 3) by decide +kernel) (by decide) ?_ ?_
    · exact gj_false
    · refine gr_iconst (pc := 127) (z := 1) 1 (show decode (gy_b gY_149) 127 = .ok (.iconst (1), 1) by decide +kernel) kc_1 ?_
      refine gr_goto (pc := 128) (tgt := 132) (off := 4) (show decode (gy_b gY_149) 128 = .ok (.goto (4), 3) by decide +kernel) (by decide) ?_
      exact gr_ireturn (pc := 132) (show decode (gy_b gY_149) 132 = .ok (.ireturn, 1) by decide +kernel) rfl rfl (by decide) gv_2f
  · refine gr_aload_n (pc := 24) (i := 1) 1 (l1) (show decode (gy_b gY_149) 24 = .ok (.aload_n 1, 1) by decide +kernel) rfl rfl ?_
    refine gr_iload_n (pc := 25) (i := 3) (l3) (show decode (gy_b gY_149) 25 = .ok (.iload_n 3, 1) by decide +kernel) rfl rfl ?_
    refine gj_nn (fun hx26 => ?_)
    refine gj_c0 (pc := 26) (Y' := gY_69) (y := yX1_has) (vs := [gR 1 (l1), gI (l3)]) (rest := []) (rs := fun v23 => [gI (v23)]) [gI (l3), gR 1 (l1)] rfl (hm_69 hG (l1) (l3)) rfl (gh_V (t := 1) (vs := [gI (l3)]) (rest := []) (show decode (gy_b gY_149) 26 = .ok (.invokevirtual 52, 3) by decide +kernel) rfl hx26 rfl rfl (ok_69 (by decide) (by decide)) wd_990 wd_923 wd_924 (Nat.le_of_ble_eq_true rfl)) (fun _ => rfl) ?_
    intro v23 M24 n25 c26
    refine gr_ifeq (pc := 29) (tgt := 100) (off := 71) hG.2.1 (show decode (gy_b gY_149) 29 = .ok (.ifCond .eq (71), 3) by decide +kernel) (by decide) ?_ ?_
    · exact h_149_L100 hG hi_16 (l0) (l1) (l2) (l3) M24 n25 c26
    · refine gr_aload_n (pc := 32) (i := 0) 5 (l0) (show decode (gy_b gY_149) 32 = .ok (.aload_n 0, 1) by decide +kernel) rfl rfl ?_
      refine gr_iload_n (pc := 33) (i := 3) (l3) (show decode (gy_b gY_149) 33 = .ok (.iload_n 3, 1) by decide +kernel) rfl rfl ?_
      refine gj_nn (fun hx34 => ?_)
      refine gj_c0 (pc := 34) (Y' := gY_70) (y := yX5_at) (vs := [gR 5 (l0), gI (l3)]) (rest := []) (rs := fun v28 => [gR 0 (v28)]) [gI (l3), gR 5 (l0)] rfl (hm_70 hG (l0) (l3)) rfl (gh_V (t := 5) (vs := [gI (l3)]) (rest := []) (show decode (gy_b gY_149) 34 = .ok (.invokevirtual 45, 3) by decide +kernel) rfl hx34 rfl rfl (ok_70 (by decide) (by decide)) wd_989 wd_927 wd_928 (Nat.le_of_ble_eq_true rfl)) (fun _ => rfl) ?_
      intro v28 M29 n30 c31
      refine gr_astore (pc := 37) (i := 4) (L' := [gR 5 (l0), gR 1 (l1), gI (l2), gI (l3), gR 0 (v28)]) (show decode (gy_b gY_149) 37 = .ok (.astore 4, 2) by decide +kernel) (by decide) rfl rfl ?_
      refine gr_aload (pc := 39) (i := 4) 0 (v28) (show decode (gy_b gY_149) 39 = .ok (.aload 4, 2) by decide +kernel) rfl ?_
      refine gr_getfN (pc := 41) (index := 56) (t := 0) (j := 2) (σ := 1) (sv := gI) (show decode (gy_b gY_149) 41 = .ok (.getfield 56, 3) by decide +kernel) rfl rfl (fun _ => rfl) wd_142 (by decide) ?_
      intro v32
      refine gr_bipush (pc := 44) (z := 115) 115 (show decode (gy_b gY_149) 44 = .ok (.bipush (115), 2) by decide +kernel) (by decide +kernel) ?_
      refine gr_icmp_ne (pc := 46) (tgt := 69) (off := 23) hG.2.1 (show decode (gy_b gY_149) 46 = .ok (.if_icmp .ne (23), 3) by decide +kernel) (by decide) ?_ ?_
      · exact h_149_L69 hG hi_16 (l0) (l1) (l2) (l3) (v28) M29 n30 c31
      · refine gr_aload (pc := 49) (i := 4) 0 (v28) (show decode (gy_b gY_149) 49 = .ok (.aload 4, 2) by decide +kernel) rfl ?_
        refine gr_getfN (pc := 51) (index := 49) (t := 0) (j := 1) (σ := 0) (sv := gI) (show decode (gy_b gY_149) 51 = .ok (.getfield 49, 3) by decide +kernel) rfl rfl (fun _ => rfl) wd_138 (by decide) ?_
        intro v35
        refine gr_iload_n (pc := 54) (i := 2) (l2) (show decode (gy_b gY_149) 54 = .ok (.iload_n 2, 1) by decide +kernel) rfl rfl ?_
        refine gr_icmp_ne (pc := 55) (tgt := 69) (off := 14) hG.2.1 (show decode (gy_b gY_149) 55 = .ok (.if_icmp .ne (14), 3) by decide +kernel) (by decide) ?_ ?_
        · exact h_149_L69 hG hi_16 (l0) (l1) (l2) (l3) (v28) M29 n30 c31
        · refine gr_aload_n (pc := 58) (i := 0) 5 (l0) (show decode (gy_b gY_149) 58 = .ok (.aload_n 0, 1) by decide +kernel) rfl rfl ?_
          refine gr_getf (pc := 59) (index := 31) (t := 5) (j := 2) (σ := 9) (sv := (gR 1)) (show decode (gy_b gY_149) 59 = .ok (.getfield 31, 3) by decide +kernel) rfl rfl (fun _ => rfl) wd_177 (by decide) ?_
          intro v36
          refine gr_iload_n (pc := 62) (i := 3) (l3) (show decode (gy_b gY_149) 62 = .ok (.iload_n 3, 1) by decide +kernel) rfl rfl ?_
          refine gj_nn (fun hx63 => ?_)
          refine gj_c0 (pc := 63) (Y' := gY_71) (y := yX1_put) (vs := [gR 1 (v36), gI (l3)]) (rest := []) (rs := fun v37 => []) [gI (l3), gR 1 (v36)] rfl (hm_71 hG (v36) (l3)) rfl (gh_V (t := 1) (vs := [gI (l3)]) (rest := []) (show decode (gy_b gY_149) 63 = .ok (.invokevirtual 67, 3) by decide +kernel) rfl hx63 rfl rfl (ok_71 (by decide) (by decide)) wd_995 wd_957 wd_958 (Nat.le_of_ble_eq_true rfl)) (fun _ => rfl) ?_
          intro v37 M38 n39 c40
          refine gr_goto (pc := 66) (tgt := 100) (off := 34) (show decode (gy_b gY_149) 66 = .ok (.goto (34), 3) by decide +kernel) (by decide) ?_
          refine gr_wk [true, true, true, true, false] rfl ?_
          exact h_149_L100 hG hi_16 (l0) (l1) (l2) (l3) M38 n39 c40
noncomputable def fi_149_W16 (K : Nat → Nat → Nat → Nat → Bool) (u : Nat) : Nat → Nat → Nat → Nat → Nat → Nat → Nat → Bool := Nat.rec (motive := fun _ => Nat → Nat → Nat → Nat → Nat → Nat → Nat → Bool) (fun _ _ _ _ _ _ _ => false) (fun _ ih => fi_149_B16 K ih) u
theorem hw_149_16 {G : gxG} (hG : gxG0 G) {K : Nat → Nat → Nat → Nat → Bool} (u : Nat) : ∀ l0 l1 l2 l3 M n c : Nat, gxJ G gY_149 K 16 [] [gR 5 (l0), gR 1 (l1), gI (l2), gI (l3), gB] M n c (fi_149_W16 K u l0 l1 l2 l3 M n c) := by
  induction u with
  | zero => intro l0 l1 l2 l3 M n c; exact gj_false
  | succ u ih => intro l0 l1 l2 l3 M n c; exact hb_149_B16 hG ih l0 l1 l2 l3 M n c
noncomputable def fi_149_L0 (K : Nat → Nat → Nat → Nat → Bool) (l0 l1 l2 M n c : Nat) : Bool := gx_get (l0) 2 M (fun v1 => gx_nn (v1) (fi_77 (v1) M n c (fun v2 M3 n4 c5 => gx_get (l0) 3 M3 (fun v6 => gx_nn (v6) (fi_77 (v6) M3 n4 c5 (fun v7 M8 n9 c10 => fi_149_W16 K 65536 (l0) (l1) (l2) (0) M8 n9 c10))))))
theorem h_149_L0 {G : gxG} (hG : gxG0 G) {K : Nat → Nat → Nat → Nat → Bool} (l0 l1 l2 M n c : Nat) : gxJ G gY_149 K 0 [] [gR 5 (l0), gR 1 (l1), gI (l2), gB, gB] M n c (fi_149_L0 K l0 l1 l2 M n c) := by
  unfold fi_149_L0
  refine gr_aload_n (pc := 0) (i := 0) 5 (l0) (show decode (gy_b gY_149) 0 = .ok (.aload_n 0, 1) by decide +kernel) rfl rfl ?_
  refine gr_getf (pc := 1) (index := 31) (t := 5) (j := 2) (σ := 9) (sv := (gR 1)) (show decode (gy_b gY_149) 1 = .ok (.getfield 31, 3) by decide +kernel) rfl rfl (fun _ => rfl) wd_177 (by decide) ?_
  intro v1
  refine gj_nn (fun hx4 => ?_)
  refine gj_c0 (pc := 4) (Y' := gY_77) (y := yX1_empty) (vs := [gR 1 (v1)]) (rest := []) (rs := fun v2 => []) [gR 1 (v1)] rfl (hm_77 hG (v1)) rfl (gh_V (t := 1) (vs := []) (rest := []) (show decode (gy_b gY_149) 4 = .ok (.invokevirtual 42, 3) by decide +kernel) rfl hx4 rfl rfl (ok_77 (by decide) (by decide)) wd_985 wd_986 wd_987 (Nat.le_of_ble_eq_true rfl)) (fun _ => rfl) ?_
  intro v2 M3 n4 c5
  refine gr_aload_n (pc := 7) (i := 0) 5 (l0) (show decode (gy_b gY_149) 7 = .ok (.aload_n 0, 1) by decide +kernel) rfl rfl ?_
  refine gr_getf (pc := 8) (index := 35) (t := 5) (j := 3) (σ := 9) (sv := (gR 1)) (show decode (gy_b gY_149) 8 = .ok (.getfield 35, 3) by decide +kernel) rfl rfl (fun _ => rfl) wd_178 (by decide) ?_
  intro v6
  refine gj_nn (fun hx11 => ?_)
  refine gj_c0 (pc := 11) (Y' := gY_77) (y := yX1_empty) (vs := [gR 1 (v6)]) (rest := []) (rs := fun v7 => []) [gR 1 (v6)] rfl (hm_77 hG (v6)) rfl (gh_V (t := 1) (vs := []) (rest := []) (show decode (gy_b gY_149) 11 = .ok (.invokevirtual 42, 3) by decide +kernel) rfl hx11 rfl rfl (ok_77 (by decide) (by decide)) wd_985 wd_986 wd_987 (Nat.le_of_ble_eq_true rfl)) (fun _ => rfl) ?_
  intro v7 M8 n9 c10
  refine gr_iconst (pc := 14) (z := 0) 0 (show decode (gy_b gY_149) 14 = .ok (.iconst (0), 1) by decide +kernel) kc_0 ?_
  refine gr_istore_n (pc := 15) (i := 3) (L' := [gR 5 (l0), gR 1 (l1), gI (l2), gI (0), gB]) (show decode (gy_b gY_149) 15 = .ok (.istore_n 3, 1) by decide +kernel) rfl (by decide) rfl rfl ?_
  exact hw_149_16 hG 65536 (l0) (l1) (l2) (0) M8 n9 c10
noncomputable def fi_149 (l0 l1 l2 M n c : Nat) (K : Nat → Nat → Nat → Nat → Bool) : Bool := fi_149_L0 K l0 l1 l2 M n c
theorem hm_149 {G : gxG} (hG : gxG0 G) (l0 l1 l2 : Nat) : gxM G gY_149 yX5_hasUnseenStore [gR 5 (l0), gR 1 (l1), gI (l2)] (fi_149 l0 l1 l2) := gxM_of (L := [gR 5 (l0), gR 1 (l1), gI (l2), gB, gB]) hG 2 (by decide +kernel) rfl rfl rfl rfl (List.forall_mem_cons.mpr ⟨rfl, List.forall_mem_cons.mpr ⟨rfl, List.forall_mem_cons.mpr ⟨rfl, fun _ h => nomatch h⟩⟩⟩) (fun M n c K => h_149_L0 hG  l0 l1 l2 M n c)
/-! Farfiles markLost (LFarfiles$ActSet;[Z)V -/
def gY_150 : gxY := (false, prog_1_method_68_code, 4, (Option.none : Option FieldType), "Farfiles", 5, 135, 5, [], "markLost")
theorem ok_150 {Y : gxY} (h1 : gy_f gY_150 + 1 ≤ gy_f Y) (h2 : 8 + (gy_l gY_150 + 11) + gy_k gY_150 ≤ gy_k Y) : gh_ok Y gY_150 yX7_markLost 2 := ⟨wd_1298, wd_51, ⟨by decide, by decide⟩, by decide +kernel, h1, h2⟩
noncomputable def fi_150_L87 (K : Nat → Nat → Nat → Nat → Bool) (M n c : Nat) : Bool := K 0 M n c
theorem h_150_L87 {G : gxG} (hG : gxG0 G) {K : Nat → Nat → Nat → Nat → Bool} (M n c : Nat) : gxJ G gY_150 K 87 [] [gB, gB, gB, gB] M n c (fi_150_L87 K M n c) := by
  unfold fi_150_L87
  exact gr_return (pc := 87) (show decode (gy_b gY_150) 87 = .ok (.return_, 1) by decide +kernel) rfl rfl
noncomputable def fi_150_L80 (K : Nat → Nat → Nat → Nat → Bool) (ih_7 : Nat → Nat → Nat → Nat → Nat → Nat → Nat → Bool) (l0 l1 l2 l3 s0 s1 s2 M n c : Nat) : Bool := gx_ast (s0) (s1) (s2) M gx_f2 (fun M8 => gx_add (l3) 1 (fun z9 => ih_7 (l0) (l1) (l2) (z9) M8 n c))
theorem h_150_L80 {G : gxG} (hG : gxG0 G) {K : Nat → Nat → Nat → Nat → Bool} {ih_7 : Nat → Nat → Nat → Nat → Nat → Nat → Nat → Bool} (hi_7 : ∀ l0 l1 l2 l3 M n c : Nat, gxJ G gY_150 K 7 [] [gR 7 (l0), gR 1 (l1), gR 66 (l2), gI (l3)] M n c (ih_7 l0 l1 l2 l3 M n c)) (l0 l1 l2 l3 s0 s1 s2 M n c : Nat) : gxJ G gY_150 K 80 [gI (s2), gI (s1), gR 66 (s0)] [gR 7 (l0), gR 1 (l1), gR 66 (l2), gI (l3)] M n c (fi_150_L80 K ih_7 l0 l1 l2 l3 s0 s1 s2 M n c) := by
  unfold fi_150_L80
  refine gr_zast (pc := 80) hG.2.1 (show decode (gy_b gY_150) 80 = .ok (.bastore, 1) by decide +kernel) ?_
  intro M8
  refine gr_iinc (pc := 81) (i := 3) (d := 1) (z := 1) (L' := fun z9 => [gR 7 (l0), gR 1 (l1), gR 66 (l2), gI (z9)]) (show decode (gy_b gY_150) 81 = .ok (.iinc 3 (1), 3) by decide +kernel) (by decide +kernel) (by decide) rfl rfl (fun _ => rfl) ?_
  intro z9
  refine gr_goto (pc := 84) (tgt := 7) (off := -77) (show decode (gy_b gY_150) 84 = .ok (.goto (-77), 3) by decide +kernel) (by decide) ?_
  exact hi_7 (l0) (l1) (l2) (z9) M8 n c
noncomputable def fi_150_L79 (K : Nat → Nat → Nat → Nat → Bool) (ih_7 : Nat → Nat → Nat → Nat → Nat → Nat → Nat → Bool) (l0 l1 l2 l3 s0 s1 M n c : Nat) : Bool := fi_150_L80 K ih_7 (l0) (l1) (l2) (l3) (s0) (s1) (0) M n c
theorem h_150_L79 {G : gxG} (hG : gxG0 G) {K : Nat → Nat → Nat → Nat → Bool} {ih_7 : Nat → Nat → Nat → Nat → Nat → Nat → Nat → Bool} (hi_7 : ∀ l0 l1 l2 l3 M n c : Nat, gxJ G gY_150 K 7 [] [gR 7 (l0), gR 1 (l1), gR 66 (l2), gI (l3)] M n c (ih_7 l0 l1 l2 l3 M n c)) (l0 l1 l2 l3 s0 s1 M n c : Nat) : gxJ G gY_150 K 79 [gI (s1), gR 66 (s0)] [gR 7 (l0), gR 1 (l1), gR 66 (l2), gI (l3)] M n c (fi_150_L79 K ih_7 l0 l1 l2 l3 s0 s1 M n c) := by
  unfold fi_150_L79
  refine gr_iconst (pc := 79) (z := 0) 0 (show decode (gy_b gY_150) 79 = .ok (.iconst (0), 1) by decide +kernel) kc_0 ?_
  exact h_150_L80 hG hi_7 (l0) (l1) (l2) (l3) (s0) (s1) (0) M n c
noncomputable def fi_150_L75 (K : Nat → Nat → Nat → Nat → Bool) (ih_7 : Nat → Nat → Nat → Nat → Nat → Nat → Nat → Bool) (l0 l1 l2 l3 s0 s1 M n c : Nat) : Bool := fi_150_L80 K ih_7 (l0) (l1) (l2) (l3) (s0) (s1) (1) M n c
theorem h_150_L75 {G : gxG} (hG : gxG0 G) {K : Nat → Nat → Nat → Nat → Bool} {ih_7 : Nat → Nat → Nat → Nat → Nat → Nat → Nat → Bool} (hi_7 : ∀ l0 l1 l2 l3 M n c : Nat, gxJ G gY_150 K 7 [] [gR 7 (l0), gR 1 (l1), gR 66 (l2), gI (l3)] M n c (ih_7 l0 l1 l2 l3 M n c)) (l0 l1 l2 l3 s0 s1 M n c : Nat) : gxJ G gY_150 K 75 [gI (s1), gR 66 (s0)] [gR 7 (l0), gR 1 (l1), gR 66 (l2), gI (l3)] M n c (fi_150_L75 K ih_7 l0 l1 l2 l3 s0 s1 M n c) := by
  unfold fi_150_L75
  refine gr_iconst (pc := 75) (z := 1) 1 (show decode (gy_b gY_150) 75 = .ok (.iconst (1), 1) by decide +kernel) kc_1 ?_
  refine gr_goto (pc := 76) (tgt := 80) (off := 4) (show decode (gy_b gY_150) 76 = .ok (.goto (4), 3) by decide +kernel) (by decide) ?_
  exact h_150_L80 hG hi_7 (l0) (l1) (l2) (l3) (s0) (s1) (1) M n c
noncomputable def fi_150_L63 (K : Nat → Nat → Nat → Nat → Bool) (ih_7 : Nat → Nat → Nat → Nat → Nat → Nat → Nat → Bool) (l0 l1 l2 l3 s0 s1 M n c : Nat) : Bool := gx_get (l0) 1 M (fun v14 => gx_nn (v14) (fi_149 (v14) (l1) (l3) M n c (fun v15 M16 n17 c18 => gx_eq (v15) 0 (fi_150_L79 K ih_7 (l0) (l1) (l2) (l3) (s0) (s1) M16 n17 c18) (fi_150_L75 K ih_7 (l0) (l1) (l2) (l3) (s0) (s1) M16 n17 c18))))
theorem h_150_L63 {G : gxG} (hG : gxG0 G) {K : Nat → Nat → Nat → Nat → Bool} {ih_7 : Nat → Nat → Nat → Nat → Nat → Nat → Nat → Bool} (hi_7 : ∀ l0 l1 l2 l3 M n c : Nat, gxJ G gY_150 K 7 [] [gR 7 (l0), gR 1 (l1), gR 66 (l2), gI (l3)] M n c (ih_7 l0 l1 l2 l3 M n c)) (l0 l1 l2 l3 s0 s1 M n c : Nat) : gxJ G gY_150 K 63 [gI (s1), gR 66 (s0)] [gR 7 (l0), gR 1 (l1), gR 66 (l2), gI (l3)] M n c (fi_150_L63 K ih_7 l0 l1 l2 l3 s0 s1 M n c) := by
  unfold fi_150_L63
  refine gr_aload_n (pc := 63) (i := 0) 7 (l0) (show decode (gy_b gY_150) 63 = .ok (.aload_n 0, 1) by decide +kernel) rfl rfl ?_
  refine gr_getf (pc := 64) (index := 19) (t := 7) (j := 1) (σ := 13) (sv := (gR 5)) (show decode (gy_b gY_150) 64 = .ok (.getfield 19, 3) by decide +kernel) rfl rfl (fun _ => rfl) wd_295 (by decide) ?_
  intro v14
  refine gr_aload_n (pc := 67) (i := 1) 1 (l1) (show decode (gy_b gY_150) 67 = .ok (.aload_n 1, 1) by decide +kernel) rfl rfl ?_
  refine gr_iload_n (pc := 68) (i := 3) (l3) (show decode (gy_b gY_150) 68 = .ok (.iload_n 3, 1) by decide +kernel) rfl rfl ?_
  refine gj_nn (fun hx69 => ?_)
  refine gj_c0 (pc := 69) (Y' := gY_149) (y := yX5_hasUnseenStore) (vs := [gR 5 (v14), gR 1 (l1), gI (l3)]) (rest := [gI (s1), gR 66 (s0)]) (rs := fun v15 => [gI (v15), gI (s1), gR 66 (s0)]) [gI (l3), gR 1 (l1), gR 5 (v14)] rfl (hm_149 hG (v14) (l1) (l3)) rfl (gh_V (t := 5) (vs := [gR 1 (l1), gI (l3)]) (rest := [gI (s1), gR 66 (s0)]) (show decode (gy_b gY_150) 69 = .ok (.invokevirtual 437, 3) by decide +kernel) rfl hx69 rfl rfl (ok_149 (by decide) (by decide)) wd_1307 wd_1308 wd_1309 (Nat.le_of_ble_eq_true rfl)) (fun _ => rfl) ?_
  intro v15 M16 n17 c18
  refine gr_ifeq (pc := 72) (tgt := 79) (off := 7) hG.2.1 (show decode (gy_b gY_150) 72 = .ok (.ifCond .eq (7), 3) by decide +kernel) (by decide) ?_ ?_
  · exact h_150_L79 hG hi_7 (l0) (l1) (l2) (l3) (s0) (s1) M16 n17 c18
  · exact h_150_L75 hG hi_7 (l0) (l1) (l2) (l3) (s0) (s1) M16 n17 c18
noncomputable def fi_150_L48 (K : Nat → Nat → Nat → Nat → Bool) (ih_7 : Nat → Nat → Nat → Nat → Nat → Nat → Nat → Bool) (l0 l1 l2 l3 s0 s1 M n c : Nat) : Bool := gx_get (l0) 1 M (fun v19 => gx_nn (v19) (fi_144 (v19) (l1) (l3) M n c (fun v20 M21 n22 c23 => gx_eq (v20) 0 (fi_150_L79 K ih_7 (l0) (l1) (l2) (l3) (s0) (s1) M21 n22 c23) (fi_150_L75 K ih_7 (l0) (l1) (l2) (l3) (s0) (s1) M21 n22 c23))))
theorem h_150_L48 {G : gxG} (hG : gxG0 G) {K : Nat → Nat → Nat → Nat → Bool} {ih_7 : Nat → Nat → Nat → Nat → Nat → Nat → Nat → Bool} (hi_7 : ∀ l0 l1 l2 l3 M n c : Nat, gxJ G gY_150 K 7 [] [gR 7 (l0), gR 1 (l1), gR 66 (l2), gI (l3)] M n c (ih_7 l0 l1 l2 l3 M n c)) (l0 l1 l2 l3 s0 s1 M n c : Nat) : gxJ G gY_150 K 48 [gI (s1), gR 66 (s0)] [gR 7 (l0), gR 1 (l1), gR 66 (l2), gI (l3)] M n c (fi_150_L48 K ih_7 l0 l1 l2 l3 s0 s1 M n c) := by
  unfold fi_150_L48
  refine gr_aload_n (pc := 48) (i := 0) 7 (l0) (show decode (gy_b gY_150) 48 = .ok (.aload_n 0, 1) by decide +kernel) rfl rfl ?_
  refine gr_getf (pc := 49) (index := 19) (t := 7) (j := 1) (σ := 13) (sv := (gR 5)) (show decode (gy_b gY_150) 49 = .ok (.getfield 19, 3) by decide +kernel) rfl rfl (fun _ => rfl) wd_295 (by decide) ?_
  intro v19
  refine gr_aload_n (pc := 52) (i := 1) 1 (l1) (show decode (gy_b gY_150) 52 = .ok (.aload_n 1, 1) by decide +kernel) rfl rfl ?_
  refine gr_iload_n (pc := 53) (i := 3) (l3) (show decode (gy_b gY_150) 53 = .ok (.iload_n 3, 1) by decide +kernel) rfl rfl ?_
  refine gj_nn (fun hx54 => ?_)
  refine gj_c0 (pc := 54) (Y' := gY_144) (y := yX5_hasEntries) (vs := [gR 5 (v19), gR 1 (l1), gI (l3)]) (rest := [gI (s1), gR 66 (s0)]) (rs := fun v20 => [gI (v20), gI (s1), gR 66 (s0)]) [gI (l3), gR 1 (l1), gR 5 (v19)] rfl (hm_144 hG (v19) (l1) (l3)) rfl (gh_V (t := 5) (vs := [gR 1 (l1), gI (l3)]) (rest := [gI (s1), gR 66 (s0)]) (show decode (gy_b gY_150) 54 = .ok (.invokevirtual 333, 3) by decide +kernel) rfl hx54 rfl rfl (ok_144 (by decide) (by decide)) wd_1282 wd_1283 wd_1284 (Nat.le_of_ble_eq_true rfl)) (fun _ => rfl) ?_
  intro v20 M21 n22 c23
  refine gr_ifeq (pc := 57) (tgt := 79) (off := 22) hG.2.1 (show decode (gy_b gY_150) 57 = .ok (.ifCond .eq (22), 3) by decide +kernel) (by decide) ?_ ?_
  · exact h_150_L79 hG hi_7 (l0) (l1) (l2) (l3) (s0) (s1) M21 n22 c23
  · refine gr_goto (pc := 60) (tgt := 75) (off := 15) (show decode (gy_b gY_150) 60 = .ok (.goto (15), 3) by decide +kernel) (by decide) ?_
    exact h_150_L75 hG hi_7 (l0) (l1) (l2) (l3) (s0) (s1) M21 n22 c23
noncomputable def fi_150_B7 (K : Nat → Nat → Nat → Nat → Bool) (ih_7 : Nat → Nat → Nat → Nat → Nat → Nat → Nat → Bool) (l0 l1 l2 l3 M n c : Nat) : Bool := gx_lt (l3) (49) (gx_len (l2) M (fun v5 => gx_lt (l3) (v5) (gx_get (l0) 6 M (fun v6 => gx_ald (v6) (l3) M (fun v7 => gx_eq (v7) 0 (fi_150_L79 K ih_7 (l0) (l1) (l2) (l3) (l2) (l3) M n c) (gx_get (l0) 11 M (fun v10 => gx_ald (v10) (l3) M (fun v11 => gx_eq (v11) 0 (gx_get (l0) 7 M (fun v12 => gx_ald (v12) (l3) M (fun v13 => gx_eq (v13) 0 (fi_150_L63 K ih_7 (l0) (l1) (l2) (l3) (l2) (l3) M n c) (fi_150_L48 K ih_7 (l0) (l1) (l2) (l3) (l2) (l3) M n c)))) (fi_150_L79 K ih_7 (l0) (l1) (l2) (l3) (l2) (l3) M n c))))))) (fi_150_L87 K  M n c))) (fi_150_L87 K  M n c)
theorem hb_150_B7 {G : gxG} (hG : gxG0 G) {K : Nat → Nat → Nat → Nat → Bool} {ih_7 : Nat → Nat → Nat → Nat → Nat → Nat → Nat → Bool} (hi_7 : ∀ l0 l1 l2 l3 M n c : Nat, gxJ G gY_150 K 7 [] [gR 7 (l0), gR 1 (l1), gR 66 (l2), gI (l3)] M n c (ih_7 l0 l1 l2 l3 M n c)) (l0 l1 l2 l3 M n c : Nat) : gxJ G gY_150 K 7 [] [gR 7 (l0), gR 1 (l1), gR 66 (l2), gI (l3)] M n c (fi_150_B7 K ih_7 l0 l1 l2 l3 M n c) := by
  unfold fi_150_B7
  refine gr_iload_n (pc := 7) (i := 3) (l3) (show decode (gy_b gY_150) 7 = .ok (.iload_n 3, 1) by decide +kernel) rfl rfl ?_
  refine gr_bipush (pc := 8) (z := 49) 49 (show decode (gy_b gY_150) 8 = .ok (.bipush (49), 2) by decide +kernel) (by decide +kernel) ?_
  refine gr_icmp_ge (pc := 10) (tgt := 87) (off := 77) hG.2.1 (show decode (gy_b gY_150) 10 = .ok (.if_icmp .ge (77), 3) by decide +kernel) (by decide) ?_ ?_
  · refine gr_wk [false, false, false, false] rfl ?_
    exact h_150_L87 hG  M n c
  · refine gr_iload_n (pc := 13) (i := 3) (l3) (show decode (gy_b gY_150) 13 = .ok (.iload_n 3, 1) by decide +kernel) rfl rfl ?_
    refine gr_aload_n (pc := 14) (i := 2) 66 (l2) (show decode (gy_b gY_150) 14 = .ok (.aload_n 2, 1) by decide +kernel) rfl rfl ?_
    refine gr_alen (pc := 15) (κ := 2) (show decode (gy_b gY_150) 15 = .ok (.arraylength, 1) by decide +kernel) (by decide) ?_
    intro v5
    refine gr_icmp_ge (pc := 16) (tgt := 87) (off := 71) hG.2.1 (show decode (gy_b gY_150) 16 = .ok (.if_icmp .ge (71), 3) by decide +kernel) (by decide) ?_ ?_
    · refine gr_wk [false, false, false, false] rfl ?_
      exact h_150_L87 hG  M n c
    · refine gr_aload_n (pc := 19) (i := 2) 66 (l2) (show decode (gy_b gY_150) 19 = .ok (.aload_n 2, 1) by decide +kernel) rfl rfl ?_
      refine gr_iload_n (pc := 20) (i := 3) (l3) (show decode (gy_b gY_150) 20 = .ok (.iload_n 3, 1) by decide +kernel) rfl rfl ?_
      refine gr_aload_n (pc := 21) (i := 0) 7 (l0) (show decode (gy_b gY_150) 21 = .ok (.aload_n 0, 1) by decide +kernel) rfl rfl ?_
      refine gr_getf (pc := 22) (index := 46) (t := 7) (j := 6) (σ := 74) (sv := (gR 66)) (show decode (gy_b gY_150) 22 = .ok (.getfield 46, 3) by decide +kernel) rfl rfl (fun _ => rfl) wd_300 (by decide) ?_
      intro v6
      refine gr_iload_n (pc := 25) (i := 3) (l3) (show decode (gy_b gY_150) 25 = .ok (.iload_n 3, 1) by decide +kernel) rfl rfl ?_
      refine gr_zald (pc := 26) (show decode (gy_b gY_150) 26 = .ok (.baload, 1) by decide +kernel) ?_
      intro v7
      refine gr_ifeq (pc := 27) (tgt := 79) (off := 52) hG.2.1 (show decode (gy_b gY_150) 27 = .ok (.ifCond .eq (52), 3) by decide +kernel) (by decide) ?_ ?_
      · exact h_150_L79 hG hi_7 (l0) (l1) (l2) (l3) (l2) (l3) M n c
      · refine gr_aload_n (pc := 30) (i := 0) 7 (l0) (show decode (gy_b gY_150) 30 = .ok (.aload_n 0, 1) by decide +kernel) rfl rfl ?_
        refine gr_getf (pc := 31) (index := 67) (t := 7) (j := 11) (σ := 74) (sv := (gR 66)) (show decode (gy_b gY_150) 31 = .ok (.getfield 67, 3) by decide +kernel) rfl rfl (fun _ => rfl) wd_305 (by decide) ?_
        intro v10
        refine gr_iload_n (pc := 34) (i := 3) (l3) (show decode (gy_b gY_150) 34 = .ok (.iload_n 3, 1) by decide +kernel) rfl rfl ?_
        refine gr_zald (pc := 35) (show decode (gy_b gY_150) 35 = .ok (.baload, 1) by decide +kernel) ?_
        intro v11
        refine gr_ifne (pc := 36) (tgt := 79) (off := 43) hG.2.1 (show decode (gy_b gY_150) 36 = .ok (.ifCond .ne (43), 3) by decide +kernel) (by decide) ?_ ?_
        · exact h_150_L79 hG hi_7 (l0) (l1) (l2) (l3) (l2) (l3) M n c
        · refine gr_aload_n (pc := 39) (i := 0) 7 (l0) (show decode (gy_b gY_150) 39 = .ok (.aload_n 0, 1) by decide +kernel) rfl rfl ?_
          refine gr_getf (pc := 40) (index := 49) (t := 7) (j := 7) (σ := 74) (sv := (gR 66)) (show decode (gy_b gY_150) 40 = .ok (.getfield 49, 3) by decide +kernel) rfl rfl (fun _ => rfl) wd_301 (by decide) ?_
          intro v12
          refine gr_iload_n (pc := 43) (i := 3) (l3) (show decode (gy_b gY_150) 43 = .ok (.iload_n 3, 1) by decide +kernel) rfl rfl ?_
          refine gr_zald (pc := 44) (show decode (gy_b gY_150) 44 = .ok (.baload, 1) by decide +kernel) ?_
          intro v13
          refine gr_ifeq (pc := 45) (tgt := 63) (off := 18) hG.2.1 (show decode (gy_b gY_150) 45 = .ok (.ifCond .eq (18), 3) by decide +kernel) (by decide) ?_ ?_
          · exact h_150_L63 hG hi_7 (l0) (l1) (l2) (l3) (l2) (l3) M n c
          · exact h_150_L48 hG hi_7 (l0) (l1) (l2) (l3) (l2) (l3) M n c
noncomputable def fi_150_W7 (K : Nat → Nat → Nat → Nat → Bool) (u : Nat) : Nat → Nat → Nat → Nat → Nat → Nat → Nat → Bool := Nat.rec (motive := fun _ => Nat → Nat → Nat → Nat → Nat → Nat → Nat → Bool) (fun _ _ _ _ _ _ _ => false) (fun _ ih => fi_150_B7 K ih) u
theorem hw_150_7 {G : gxG} (hG : gxG0 G) {K : Nat → Nat → Nat → Nat → Bool} (u : Nat) : ∀ l0 l1 l2 l3 M n c : Nat, gxJ G gY_150 K 7 [] [gR 7 (l0), gR 1 (l1), gR 66 (l2), gI (l3)] M n c (fi_150_W7 K u l0 l1 l2 l3 M n c) := by
  induction u with
  | zero => intro l0 l1 l2 l3 M n c; exact gj_false
  | succ u ih => intro l0 l1 l2 l3 M n c; exact hb_150_B7 hG ih l0 l1 l2 l3 M n c
noncomputable def fi_150_L0 (K : Nat → Nat → Nat → Nat → Bool) (l0 l1 l2 M n c : Nat) : Bool := gx_nn (l0) (fi_148 (l0) (l1) M n c (fun v1 M2 n3 c4 => fi_150_W7 K 65536 (l0) (l1) (l2) (0) M2 n3 c4))
theorem h_150_L0 {G : gxG} (hG : gxG0 G) {K : Nat → Nat → Nat → Nat → Bool} (l0 l1 l2 M n c : Nat) : gxJ G gY_150 K 0 [] [gR 7 (l0), gR 1 (l1), gR 66 (l2), gB] M n c (fi_150_L0 K l0 l1 l2 M n c) := by
  unfold fi_150_L0
  refine gr_aload_n (pc := 0) (i := 0) 7 (l0) (show decode (gy_b gY_150) 0 = .ok (.aload_n 0, 1) by decide +kernel) rfl rfl ?_
  refine gr_aload_n (pc := 1) (i := 1) 1 (l1) (show decode (gy_b gY_150) 1 = .ok (.aload_n 1, 1) by decide +kernel) rfl rfl ?_
  refine gj_nn (fun hx2 => ?_)
  refine gj_c0 (pc := 2) (Y' := gY_148) (y := yX7_markWays) (vs := [gR 7 (l0), gR 1 (l1)]) (rest := []) (rs := fun v1 => []) [gR 1 (l1), gR 7 (l0)] rfl (hm_148 hG (l0) (l1)) rfl (gh_V (t := 7) (vs := [gR 1 (l1)]) (rest := []) (show decode (gy_b gY_150) 2 = .ok (.invokevirtual 434, 3) by decide +kernel) rfl hx2 rfl rfl (ok_148 (by decide) (by decide)) wd_1299 wd_1301 wd_45 (Nat.le_of_ble_eq_true rfl)) (fun _ => rfl) ?_
  intro v1 M2 n3 c4
  refine gr_iconst (pc := 5) (z := 0) 0 (show decode (gy_b gY_150) 5 = .ok (.iconst (0), 1) by decide +kernel) kc_0 ?_
  refine gr_istore_n (pc := 6) (i := 3) (L' := [gR 7 (l0), gR 1 (l1), gR 66 (l2), gI (0)]) (show decode (gy_b gY_150) 6 = .ok (.istore_n 3, 1) by decide +kernel) rfl (by decide) rfl rfl ?_
  exact hw_150_7 hG 65536 (l0) (l1) (l2) (0) M2 n3 c4
noncomputable def fi_150 (l0 l1 l2 M n c : Nat) (K : Nat → Nat → Nat → Nat → Bool) : Bool := fi_150_L0 K l0 l1 l2 M n c
theorem hm_150 {G : gxG} (hG : gxG0 G) (l0 l1 l2 : Nat) : gxM G gY_150 yX7_markLost [gR 7 (l0), gR 1 (l1), gR 66 (l2)] (fi_150 l0 l1 l2) := gxM_of (L := [gR 7 (l0), gR 1 (l1), gR 66 (l2), gB]) hG 1 (by decide +kernel) rfl rfl rfl rfl (List.forall_mem_cons.mpr ⟨rfl, List.forall_mem_cons.mpr ⟨rfl, List.forall_mem_cons.mpr ⟨rfl, fun _ h => nomatch h⟩⟩⟩) (fun M n c K => h_150_L0 hG  l0 l1 l2 M n c)
