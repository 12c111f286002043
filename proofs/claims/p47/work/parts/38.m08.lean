/-! METHODS 8 -/
set_option maxRecDepth 100000
/-! Farfiles tellOf (LFarfiles$ActSet;I)I -/
def gY_130 : gxY := (false, prog_1_method_45_code, 3, (Option.some Jvm.ClassFile.FieldType.int), "Farfiles", 5, 131, 0, [], "tellOf")
theorem ok_130 {Y : gxY} (h1 : gy_f gY_130 + 1 ≤ gy_f Y) (h2 : 8 + (gy_l gY_130 + 11) + gy_k gY_130 ≤ gy_k Y) : gh_ok Y gY_130 yX7_tellOf 2 := ⟨wd_1185, wd_51, ⟨by decide, by decide⟩, by decide +kernel, h1, h2⟩
noncomputable def fi_130_L37 (K : Nat → Nat → Nat → Nat → Bool) (l0 M n c : Nat) : Bool := gx_get (l0) 2 M (fun v11 => gx_get (v11) 3 M (fun v12 => gx_rt gx_f0 (v12) (K (v12) M n c)))
theorem h_130_L37 {G : gxG} (hG : gxG0 G) {K : Nat → Nat → Nat → Nat → Bool} (l0 M n c : Nat) : gxJ G gY_130 K 37 [] [gR 7 (l0), gB, gB] M n c (fi_130_L37 K l0 M n c) := by
  unfold fi_130_L37
  refine gr_aload_n (pc := 37) (i := 0) 7 (l0) (show decode (gy_b gY_130) 37 = .ok (.aload_n 0, 1) by decide +kernel) rfl rfl ?_
  refine gr_getf (pc := 38) (index := 26) (t := 7) (j := 2) (σ := 10) (sv := (gR 2)) (show decode (gy_b gY_130) 38 = .ok (.getfield 26, 3) by decide +kernel) rfl rfl (fun _ => rfl) wd_296 (by decide) ?_
  intro v11
  refine gr_getfN (pc := 41) (index := 355) (t := 2) (j := 3) (σ := 0) (sv := gI) (show decode (gy_b gY_130) 41 = .ok (.getfield 355, 3) by decide +kernel) rfl rfl (fun _ => rfl) wd_205 (by decide) ?_
  intro v12
  exact gr_ireturn (pc := 44) (show decode (gy_b gY_130) 44 = .ok (.ireturn, 1) by decide +kernel) rfl rfl (by decide) gv_0
noncomputable def fi_130_L0 (K : Nat → Nat → Nat → Nat → Bool) (l0 l1 l2 M n c : Nat) : Bool := gx_nn (l0) (fi_76 (l0) (l2) M n c (fun v1 M2 n3 c4 => gx_eq (v1) 0 (gx_get (l0) 1 M2 (fun v5 => gx_get (l0) 2 M2 (fun v6 => gx_nn (v5) (fi_129 (v5) (l1) (l2) (v6) M2 n3 c4 (fun v7 M8 n9 c10 => fi_130_L37 K (l0) M8 n9 c10))))) (gx_get (l0) 1 M2 (fun v13 => gx_get (l0) 2 M2 (fun v14 => gx_nn (v13) (fi_124 (v13) (l1) (l2) (v14) M2 n3 c4 (fun v15 M16 n17 c18 => fi_130_L37 K (l0) M16 n17 c18)))))))
theorem h_130_L0 {G : gxG} (hG : gxG0 G) {K : Nat → Nat → Nat → Nat → Bool} (l0 l1 l2 M n c : Nat) : gxJ G gY_130 K 0 [] [gR 7 (l0), gR 1 (l1), gI (l2)] M n c (fi_130_L0 K l0 l1 l2 M n c) := by
  unfold fi_130_L0
  refine gr_aload_n (pc := 0) (i := 0) 7 (l0) (show decode (gy_b gY_130) 0 = .ok (.aload_n 0, 1) by decide +kernel) rfl rfl ?_
  refine gr_iload_n (pc := 1) (i := 2) (l2) (show decode (gy_b gY_130) 1 = .ok (.iload_n 2, 1) by decide +kernel) rfl rfl ?_
  refine gj_nn (fun hx2 => ?_)
  refine gj_c0 (pc := 2) (Y' := gY_76) (y := yX7_hasDirectory) (vs := [gR 7 (l0), gI (l2)]) (rest := []) (rs := fun v1 => [gI (v1)]) [gI (l2), gR 7 (l0)] rfl (hm_76 hG (l0) (l2)) rfl (gh_V (t := 7) (vs := [gI (l2)]) (rest := []) (show decode (gy_b gY_130) 2 = .ok (.invokevirtual 198, 3) by decide +kernel) rfl hx2 rfl rfl (ok_76 (by decide) (by decide)) wd_972 wd_974 wd_21 (Nat.le_of_ble_eq_true rfl)) (fun _ => rfl) ?_
  intro v1 M2 n3 c4
  refine gr_ifeq (pc := 5) (tgt := 24) (off := 19) hG.2.1 (show decode (gy_b gY_130) 5 = .ok (.ifCond .eq (19), 3) by decide +kernel) (by decide) ?_ ?_
  · refine gr_aload_n (pc := 24) (i := 0) 7 (l0) (show decode (gy_b gY_130) 24 = .ok (.aload_n 0, 1) by decide +kernel) rfl rfl ?_
    refine gr_getf (pc := 25) (index := 19) (t := 7) (j := 1) (σ := 13) (sv := (gR 5)) (show decode (gy_b gY_130) 25 = .ok (.getfield 19, 3) by decide +kernel) rfl rfl (fun _ => rfl) wd_295 (by decide) ?_
    intro v5
    refine gr_aload_n (pc := 28) (i := 1) 1 (l1) (show decode (gy_b gY_130) 28 = .ok (.aload_n 1, 1) by decide +kernel) rfl rfl ?_
    refine gr_iload_n (pc := 29) (i := 2) (l2) (show decode (gy_b gY_130) 29 = .ok (.iload_n 2, 1) by decide +kernel) rfl rfl ?_
    refine gr_aload_n (pc := 30) (i := 0) 7 (l0) (show decode (gy_b gY_130) 30 = .ok (.aload_n 0, 1) by decide +kernel) rfl rfl ?_
    refine gr_getf (pc := 31) (index := 26) (t := 7) (j := 2) (σ := 10) (sv := (gR 2)) (show decode (gy_b gY_130) 31 = .ok (.getfield 26, 3) by decide +kernel) rfl rfl (fun _ => rfl) wd_296 (by decide) ?_
    intro v6
    refine gj_nn (fun hx34 => ?_)
    refine gj_c0 (pc := 34) (Y' := gY_129) (y := yX5_tellFile) (vs := [gR 5 (v5), gR 1 (l1), gI (l2), gR 2 (v6)]) (rest := []) (rs := fun v7 => []) [gR 2 (v6), gI (l2), gR 1 (l1), gR 5 (v5)] rfl (hm_129 hG (v5) (l1) (l2) (v6)) rfl (gh_V (t := 5) (vs := [gR 1 (l1), gI (l2), gR 2 (v6)]) (rest := []) (show decode (gy_b gY_130) 34 = .ok (.invokevirtual 352, 3) by decide +kernel) rfl hx34 rfl rfl (ok_129 (by decide) (by decide)) wd_1202 wd_1203 wd_1204 (Nat.le_of_ble_eq_true rfl)) (fun _ => rfl) ?_
    intro v7 M8 n9 c10
    refine gr_wk [true, false, false] rfl ?_
    exact h_130_L37 hG (l0) M8 n9 c10
  · refine gr_aload_n (pc := 8) (i := 0) 7 (l0) (show decode (gy_b gY_130) 8 = .ok (.aload_n 0, 1) by decide +kernel) rfl rfl ?_
    refine gr_getf (pc := 9) (index := 19) (t := 7) (j := 1) (σ := 13) (sv := (gR 5)) (show decode (gy_b gY_130) 9 = .ok (.getfield 19, 3) by decide +kernel) rfl rfl (fun _ => rfl) wd_295 (by decide) ?_
    intro v13
    refine gr_aload_n (pc := 12) (i := 1) 1 (l1) (show decode (gy_b gY_130) 12 = .ok (.aload_n 1, 1) by decide +kernel) rfl rfl ?_
    refine gr_iload_n (pc := 13) (i := 2) (l2) (show decode (gy_b gY_130) 13 = .ok (.iload_n 2, 1) by decide +kernel) rfl rfl ?_
    refine gr_aload_n (pc := 14) (i := 0) 7 (l0) (show decode (gy_b gY_130) 14 = .ok (.aload_n 0, 1) by decide +kernel) rfl rfl ?_
    refine gr_getf (pc := 15) (index := 26) (t := 7) (j := 2) (σ := 10) (sv := (gR 2)) (show decode (gy_b gY_130) 15 = .ok (.getfield 26, 3) by decide +kernel) rfl rfl (fun _ => rfl) wd_296 (by decide) ?_
    intro v14
    refine gj_nn (fun hx18 => ?_)
    refine gj_c0 (pc := 18) (Y' := gY_124) (y := yX5_tellDirectory) (vs := [gR 5 (v13), gR 1 (l1), gI (l2), gR 2 (v14)]) (rest := []) (rs := fun v15 => []) [gR 2 (v14), gI (l2), gR 1 (l1), gR 5 (v13)] rfl (hm_124 hG (v13) (l1) (l2) (v14)) rfl (gh_V (t := 5) (vs := [gR 1 (l1), gI (l2), gR 2 (v14)]) (rest := []) (show decode (gy_b gY_130) 18 = .ok (.invokevirtual 348, 3) by decide +kernel) rfl hx18 rfl rfl (ok_124 (by decide) (by decide)) wd_1186 wd_1187 wd_1188 (Nat.le_of_ble_eq_true rfl)) (fun _ => rfl) ?_
    intro v15 M16 n17 c18
    refine gr_goto (pc := 21) (tgt := 37) (off := 16) (show decode (gy_b gY_130) 21 = .ok (.goto (16), 3) by decide +kernel) (by decide) ?_
    refine gr_wk [true, false, false] rfl ?_
    exact h_130_L37 hG (l0) M16 n17 c18
noncomputable def fi_130 (l0 l1 l2 M n c : Nat) (K : Nat → Nat → Nat → Nat → Bool) : Bool := fi_130_L0 K l0 l1 l2 M n c
theorem hm_130 {G : gxG} (hG : gxG0 G) (l0 l1 l2 : Nat) : gxM G gY_130 yX7_tellOf [gR 7 (l0), gR 1 (l1), gI (l2)] (fi_130 l0 l1 l2) := gxM_of (L := [gR 7 (l0), gR 1 (l1), gI (l2)]) hG 0 (by decide +kernel) rfl rfl rfl rfl (List.forall_mem_cons.mpr ⟨rfl, List.forall_mem_cons.mpr ⟨rfl, List.forall_mem_cons.mpr ⟨rfl, fun _ h => nomatch h⟩⟩⟩) (fun M n c K => h_130_L0 hG  l0 l1 l2 M n c)
/-! Farfiles tellFound (LFarfiles$Client;Z)I -/
def gY_131 : gxY := (false, prog_1_method_46_code, 5, (Option.some Jvm.ClassFile.FieldType.int), "Farfiles", 10, 180, 0, [], "tellFound")
theorem ok_131 {Y : gxY} (h1 : gy_f gY_131 + 1 ≤ gy_f Y) (h2 : 8 + (gy_l gY_131 + 11) + gy_k gY_131 ≤ gy_k Y) : gh_ok Y gY_131 yX7_tellFound 2 := ⟨wd_1181, wd_51, ⟨by decide, by decide⟩, by decide +kernel, h1, h2⟩
noncomputable def fi_131_L0 (K : Nat → Nat → Nat → Nat → Bool) (l0 l1 l2 M n c : Nat) : Bool := gx_nn (l0) (fi_59 (l0) M n c (fun v1 M2 n3 c4 => gx_lt (v1) 0 (false) (gx_get (l0) 8 M2 (fun v5 => gx_get (l0) 8 M2 (fun v6 => gx_get (v6) 3 M2 (fun v7 => gx_nn (l0) (fi_84 (l0) (l1) (v5) (v7) M2 n3 c4 (fun v8 M9 n10 c11 => gx_nth v8 (gx_nn (l0) (fi_76 (l0) (v8) M9 n10 c11 (fun v12 M13 n14 c15 => gx_eq (v12) (l2) (gx_get (l1) 5 M13 (fun v16 => gx_nn (l0) (fi_130 (l0) (v16) (v8) M13 n14 c15 (fun v17 M18 n19 c20 => gx_rt gx_f0 (v17) (K (v17) M18 n19 c20))))) (false))))))))))))
theorem h_131_L0 {G : gxG} (hG : gxG0 G) {K : Nat → Nat → Nat → Nat → Bool} (l0 l1 l2 M n c : Nat) : gxJ G gY_131 K 0 [] [gR 7 (l0), gR 3 (l1), gI (l2), gB, gB] M n c (fi_131_L0 K l0 l1 l2 M n c) := by
  unfold fi_131_L0
  refine gr_aload_n (pc := 0) (i := 0) 7 (l0) (show decode (gy_b gY_131) 0 = .ok (.aload_n 0, 1) by decide +kernel) rfl rfl ?_
  refine gj_nn (fun hx1 => ?_)
  refine gj_c0 (pc := 1) (Y' := gY_59) (y := yX7_takePath) (vs := [gR 7 (l0)]) (rest := []) (rs := fun v1 => [gI (v1)]) [gR 7 (l0)] rfl (hm_59 hG (l0)) rfl (gh_V (t := 7) (vs := []) (rest := []) (show decode (gy_b gY_131) 1 = .ok (.invokevirtual 238, 3) by decide +kernel) rfl hx1 rfl rfl (ok_59 (by decide) (by decide)) wd_823 wd_825 wd_14 (Nat.le_of_ble_eq_true rfl)) (fun _ => rfl) ?_
  intro v1 M2 n3 c4
  refine gr_istore_n (pc := 4) (i := 3) (L' := [gR 7 (l0), gR 3 (l1), gI (l2), gI (v1), gB]) (show decode (gy_b gY_131) 4 = .ok (.istore_n 3, 1) by decide +kernel) rfl (by decide) rfl rfl ?_
  refine gr_iload_n (pc := 5) (i := 3) (v1) (show decode (gy_b gY_131) 5 = .ok (.iload_n 3, 1) by decide +kernel) rfl rfl ?_
  refine gr_ifge (pc := 6) (tgt := 11) (off := 5) hG.2.1 (show decode (gy_b gY_131) 6 = .ok (.ifCond .ge (5), 3) by decide +kernel) (by decide) ?_ ?_
  · refine gr_aload_n (pc := 11) (i := 0) 7 (l0) (show decode (gy_b gY_131) 11 = .ok (.aload_n 0, 1) by decide +kernel) rfl rfl ?_
    refine gr_aload_n (pc := 12) (i := 1) 3 (l1) (show decode (gy_b gY_131) 12 = .ok (.aload_n 1, 1) by decide +kernel) rfl rfl ?_
    refine gr_aload_n (pc := 13) (i := 0) 7 (l0) (show decode (gy_b gY_131) 13 = .ok (.aload_n 0, 1) by decide +kernel) rfl rfl ?_
    refine gr_getf (pc := 14) (index := 55) (t := 7) (j := 8) (σ := 14) (sv := (gR 6)) (show decode (gy_b gY_131) 14 = .ok (.getfield 55, 3) by decide +kernel) rfl rfl (fun _ => rfl) wd_302 (by decide) ?_
    intro v5
    refine gr_aload_n (pc := 17) (i := 0) 7 (l0) (show decode (gy_b gY_131) 17 = .ok (.aload_n 0, 1) by decide +kernel) rfl rfl ?_
    refine gr_getf (pc := 18) (index := 55) (t := 7) (j := 8) (σ := 14) (sv := (gR 6)) (show decode (gy_b gY_131) 18 = .ok (.getfield 55, 3) by decide +kernel) rfl rfl (fun _ => rfl) wd_302 (by decide) ?_
    intro v6
    refine gr_getfN (pc := 21) (index := 223) (t := 6) (j := 3) (σ := 0) (sv := gI) (show decode (gy_b gY_131) 21 = .ok (.getfield 223, 3) by decide +kernel) rfl rfl (fun _ => rfl) wd_230 (by decide) ?_
    intro v7
    refine gj_nn (fun hx24 => ?_)
    refine gj_c2 (pc := 24) (Y' := gY_84) (y := yX7_go) (vs := [gR 7 (l0), gR 3 (l1), gR 6 (v5), gI (v7)]) (rest := []) (rs := fun v8 => [gI (v8)]) [gI (v7), gR 6 (v5), gR 3 (l1), gR 7 (l0)] rfl (hm_84 hG (l0) (l1) (v5) (v7)) (gh_V (t := 7) (vs := [gR 3 (l1), gR 6 (v5), gI (v7)]) (rest := []) (show decode (gy_b gY_131) 24 = .ok (.invokevirtual 224, 3) by decide +kernel) rfl hx24 rfl rfl (ok_84 (by decide) (by decide)) wd_891 wd_893 wd_17 (Nat.le_of_ble_eq_true rfl)) (fun _ => rfl) ?_
    intro v8 M9 n10 c11
    refine gr_istore (pc := 27) (i := 4) (L' := [gR 7 (l0), gR 3 (l1), gI (l2), gI (v1), gI (v8)]) (show decode (gy_b gY_131) 27 = .ok (.istore 4, 2) by decide +kernel) (by decide) rfl rfl ?_
    refine gr_aload_n (pc := 29) (i := 0) 7 (l0) (show decode (gy_b gY_131) 29 = .ok (.aload_n 0, 1) by decide +kernel) rfl rfl ?_
    refine gr_iload (pc := 30) (i := 4) (v8) (show decode (gy_b gY_131) 30 = .ok (.iload 4, 2) by decide +kernel) rfl ?_
    refine gj_nn (fun hx32 => ?_)
    refine gj_c0 (pc := 32) (Y' := gY_76) (y := yX7_hasDirectory) (vs := [gR 7 (l0), gI (v8)]) (rest := []) (rs := fun v12 => [gI (v12)]) [gI (v8), gR 7 (l0)] rfl (hm_76 hG (l0) (v8)) rfl (gh_V (t := 7) (vs := [gI (v8)]) (rest := []) (show decode (gy_b gY_131) 32 = .ok (.invokevirtual 198, 3) by decide +kernel) rfl hx32 rfl rfl (ok_76 (by decide) (by decide)) wd_972 wd_974 wd_21 (Nat.le_of_ble_eq_true rfl)) (fun _ => rfl) ?_
    intro v12 M13 n14 c15
    refine gr_iload_n (pc := 35) (i := 2) (l2) (show decode (gy_b gY_131) 35 = .ok (.iload_n 2, 1) by decide +kernel) rfl rfl ?_
    refine gr_icmp_eq (pc := 36) (tgt := 45) (off := 9) hG.2.1 (show decode (gy_b gY_131) 36 = .ok (.if_icmp .eq (9), 3) by decide +kernel) (by decide) ?_ ?_
    · refine gr_aload_n (pc := 45) (i := 0) 7 (l0) (show decode (gy_b gY_131) 45 = .ok (.aload_n 0, 1) by decide +kernel) rfl rfl ?_
      refine gr_aload_n (pc := 46) (i := 1) 3 (l1) (show decode (gy_b gY_131) 46 = .ok (.aload_n 1, 1) by decide +kernel) rfl rfl ?_
      refine gr_getfN (pc := 47) (index := 201) (t := 3) (j := 5) (σ := 9) (sv := (gR 1)) (show decode (gy_b gY_131) 47 = .ok (.getfield 201, 3) by decide +kernel) rfl rfl (fun _ => rfl) wd_260 (by decide) ?_
      intro v16
      refine gr_iload (pc := 50) (i := 4) (v8) (show decode (gy_b gY_131) 50 = .ok (.iload 4, 2) by decide +kernel) rfl ?_
      refine gj_nn (fun hx52 => ?_)
      refine gj_c0 (pc := 52) (Y' := gY_130) (y := yX7_tellOf) (vs := [gR 7 (l0), gR 1 (v16), gI (v8)]) (rest := []) (rs := fun v17 => [gI (v17)]) [gI (v8), gR 1 (v16), gR 7 (l0)] rfl (hm_130 hG (l0) (v16) (v8)) rfl (gh_V (t := 7) (vs := [gR 1 (v16), gI (v8)]) (rest := []) (show decode (gy_b gY_131) 52 = .ok (.invokevirtual 356, 3) by decide +kernel) rfl hx52 rfl rfl (ok_130 (by decide) (by decide)) wd_1182 wd_1184 wd_39 (Nat.le_of_ble_eq_true rfl)) (fun _ => rfl) ?_
      intro v17 M18 n19 c20
      exact gr_ireturn (pc := 55) (show decode (gy_b gY_131) 55 = .ok (.ireturn, 1) by decide +kernel) rfl rfl (by decide) gv_0
    · exact gj_false
  · exact gj_false
noncomputable def fi_131 (l0 l1 l2 M n c : Nat) (K : Nat → Nat → Nat → Nat → Bool) : Bool := fi_131_L0 K l0 l1 l2 M n c
theorem hm_131 {G : gxG} (hG : gxG0 G) (l0 l1 l2 : Nat) : gxM G gY_131 yX7_tellFound [gR 7 (l0), gR 3 (l1), gI (l2)] (fi_131 l0 l1 l2) := gxM_of (L := [gR 7 (l0), gR 3 (l1), gI (l2), gB, gB]) hG 2 (by decide +kernel) rfl rfl rfl rfl (List.forall_mem_cons.mpr ⟨rfl, List.forall_mem_cons.mpr ⟨rfl, List.forall_mem_cons.mpr ⟨rfl, fun _ h => nomatch h⟩⟩⟩) (fun M n c K => h_131_L0 hG  l0 l1 l2 M n c)
/-! Farfiles read (I)I -/
def gY_132 : gxY := (false, prog_1_method_47_code, 2, (Option.some Jvm.ClassFile.FieldType.int), "Farfiles", 11, 204, 0, [], "read")
theorem ok_132 {Y : gxY} (h1 : gy_f gY_132 + 1 ≤ gy_f Y) (h2 : 8 + (gy_l gY_132 + 11) + gy_k gY_132 ≤ gy_k Y) : gh_ok Y gY_132 yX7_read 1 := ⟨wd_1177, wd_51, ⟨by decide, by decide⟩, by decide +kernel, h1, h2⟩
noncomputable def fi_132_L0 (K : Nat → Nat → Nat → Nat → Bool) (l0 l1 M n c : Nat) : Bool := gx_nn (l0) (fi_51 (l0) (l1) M n c (fun v1 M2 n3 c4 => gx_nn (l0) (fi_131 (l0) (v1) (0) M2 n3 c4 (fun v5 M6 n7 c8 => gx_rt gx_f0 (v5) (K (v5) M6 n7 c8)))))
theorem h_132_L0 {G : gxG} (hG : gxG0 G) {K : Nat → Nat → Nat → Nat → Bool} (l0 l1 M n c : Nat) : gxJ G gY_132 K 0 [] [gR 7 (l0), gI (l1)] M n c (fi_132_L0 K l0 l1 M n c) := by
  unfold fi_132_L0
  refine gr_aload_n (pc := 0) (i := 0) 7 (l0) (show decode (gy_b gY_132) 0 = .ok (.aload_n 0, 1) by decide +kernel) rfl rfl ?_
  refine gr_aload_n (pc := 1) (i := 0) 7 (l0) (show decode (gy_b gY_132) 1 = .ok (.aload_n 0, 1) by decide +kernel) rfl rfl ?_
  refine gr_iload_n (pc := 2) (i := 1) (l1) (show decode (gy_b gY_132) 2 = .ok (.iload_n 1, 1) by decide +kernel) rfl rfl ?_
  refine gj_nn (fun hx3 => ?_)
  refine gj_c0 (pc := 3) (Y' := gY_51) (y := yX7_callerOf) (vs := [gR 7 (l0), gI (l1)]) (rest := [gR 7 (l0)]) (rs := fun v1 => [gR 3 (v1), gR 7 (l0)]) [gI (l1), gR 7 (l0)] rfl (hm_51 hG (l0) (l1)) rfl (gh_V (t := 7) (vs := [gI (l1)]) (rest := [gR 7 (l0)]) (show decode (gy_b gY_132) 3 = .ok (.invokevirtual 312, 3) by decide +kernel) rfl hx3 rfl rfl (ok_51 (by decide) (by decide)) wd_811 wd_813 wd_12 (Nat.le_of_ble_eq_true rfl)) (fun _ => rfl) ?_
  intro v1 M2 n3 c4
  refine gr_iconst (pc := 6) (z := 0) 0 (show decode (gy_b gY_132) 6 = .ok (.iconst (0), 1) by decide +kernel) kc_0 ?_
  refine gj_nn (fun hx7 => ?_)
  refine gj_c0 (pc := 7) (Y' := gY_131) (y := yX7_tellFound) (vs := [gR 7 (l0), gR 3 (v1), gI (0)]) (rest := []) (rs := fun v5 => [gI (v5)]) [gI (0), gR 3 (v1), gR 7 (l0)] rfl (hm_131 hG (l0) (v1) (0)) rfl (gh_V (t := 7) (vs := [gR 3 (v1), gI (0)]) (rest := []) (show decode (gy_b gY_132) 7 = .ok (.invokevirtual 360, 3) by decide +kernel) rfl hx7 rfl rfl (ok_131 (by decide) (by decide)) wd_1178 wd_1180 wd_38 (Nat.le_of_ble_eq_true rfl)) (fun _ => rfl) ?_
  intro v5 M6 n7 c8
  exact gr_ireturn (pc := 10) (show decode (gy_b gY_132) 10 = .ok (.ireturn, 1) by decide +kernel) rfl rfl (by decide) gv_0
noncomputable def fi_132 (l0 l1 M n c : Nat) (K : Nat → Nat → Nat → Nat → Bool) : Bool := fi_132_L0 K l0 l1 M n c
theorem hm_132 {G : gxG} (hG : gxG0 G) (l0 l1 : Nat) : gxM G gY_132 yX7_read [gR 7 (l0), gI (l1)] (fi_132 l0 l1) := gxM_of (L := [gR 7 (l0), gI (l1)]) hG 0 (by decide +kernel) rfl rfl rfl rfl (List.forall_mem_cons.mpr ⟨rfl, List.forall_mem_cons.mpr ⟨rfl, fun _ h => nomatch h⟩⟩) (fun M n c K => h_132_L0 hG  l0 l1 M n c)
/-! Farfiles$Answers nameAt (I)I -/
def gY_133 : gxY := (false, prog_4_method_9_code, 2, (Option.some Jvm.ClassFile.FieldType.int), "Farfiles$Answers", 2, 61, 0, [], "nameAt")
theorem ok_133 {Y : gxY} (h1 : gy_f gY_133 + 1 ≤ gy_f Y) (h2 : 8 + (gy_l gY_133 + 11) + gy_k gY_133 ≤ gy_k Y) : gh_ok Y gY_133 yX2_nameAt 1 := ⟨wd_1235, wd_56, ⟨by decide, by decide⟩, by decide +kernel, h1, h2⟩
noncomputable def fi_133_L0 (K : Nat → Nat → Nat → Nat → Bool) (l0 l1 M n c : Nat) : Bool := gx_nn (l0) (fi_125 (l0) (l1) M n c (fun v1 M2 n3 c4 => gx_eq (v1) 0 (false) (gx_get (l0) 1 M2 (fun v5 => gx_ald (v5) (l1) M2 (fun v6 => gx_rt gx_f0 (v6) (K (v6) M2 n3 c4))))))
theorem h_133_L0 {G : gxG} (hG : gxG0 G) {K : Nat → Nat → Nat → Nat → Bool} (l0 l1 M n c : Nat) : gxJ G gY_133 K 0 [] [gR 2 (l0), gI (l1)] M n c (fi_133_L0 K l0 l1 M n c) := by
  unfold fi_133_L0
  refine gr_aload_n (pc := 0) (i := 0) 2 (l0) (show decode (gy_b gY_133) 0 = .ok (.aload_n 0, 1) by decide +kernel) rfl rfl ?_
  refine gr_iload_n (pc := 1) (i := 1) (l1) (show decode (gy_b gY_133) 1 = .ok (.iload_n 1, 1) by decide +kernel) rfl rfl ?_
  refine gj_nn (fun hx2 => ?_)
  refine gj_c0 (pc := 2) (Y' := gY_125) (y := yX2_hasPlace) (vs := [gR 2 (l0), gI (l1)]) (rest := []) (rs := fun v1 => [gI (v1)]) [gI (l1), gR 2 (l0)] rfl (hm_125 hG (l0) (l1)) rfl (gh_V (t := 2) (vs := [gI (l1)]) (rest := []) (show decode (gy_b gY_133) 2 = .ok (.invokevirtual 44, 3) by decide +kernel) rfl hx2 rfl rfl (ok_125 (by decide) (by decide)) wd_1214 wd_1215 wd_1216 (Nat.le_of_ble_eq_true rfl)) (fun _ => rfl) ?_
  intro v1 M2 n3 c4
  refine gr_ifeq (pc := 5) (tgt := 17) (off := 12) hG.2.1 (show decode (gy_b gY_133) 5 = .ok (.ifCond .eq (12), 3) by decide +kernel) (by decide) ?_ ?_
  · exact gj_false
  · refine gr_aload_n (pc := 8) (i := 0) 2 (l0) (show decode (gy_b gY_133) 8 = .ok (.aload_n 0, 1) by decide +kernel) rfl rfl ?_
    refine gr_getf (pc := 9) (index := 17) (t := 2) (j := 1) (σ := 72) (sv := (gR 64)) (show decode (gy_b gY_133) 9 = .ok (.getfield 17, 3) by decide +kernel) rfl rfl (fun _ => rfl) wd_201 (by decide) ?_
    intro v5
    refine gr_iload_n (pc := 12) (i := 1) (l1) (show decode (gy_b gY_133) 12 = .ok (.iload_n 1, 1) by decide +kernel) rfl rfl ?_
    refine gr_iald (pc := 13) (show decode (gy_b gY_133) 13 = .ok (.iaload, 1) by decide +kernel) ?_
    intro v6
    refine gr_goto (pc := 14) (tgt := 18) (off := 4) (show decode (gy_b gY_133) 14 = .ok (.goto (4), 3) by decide +kernel) (by decide) ?_
    exact gr_ireturn (pc := 18) (show decode (gy_b gY_133) 18 = .ok (.ireturn, 1) by decide +kernel) rfl rfl (by decide) gv_0
noncomputable def fi_133 (l0 l1 M n c : Nat) (K : Nat → Nat → Nat → Nat → Bool) : Bool := fi_133_L0 K l0 l1 M n c
theorem hm_133 {G : gxG} (hG : gxG0 G) (l0 l1 : Nat) : gxM G gY_133 yX2_nameAt [gR 2 (l0), gI (l1)] (fi_133 l0 l1) := gxM_of (L := [gR 2 (l0), gI (l1)]) hG 0 (by decide +kernel) rfl rfl rfl rfl (List.forall_mem_cons.mpr ⟨rfl, List.forall_mem_cons.mpr ⟨rfl, fun _ h => nomatch h⟩⟩) (fun M n c K => h_133_L0 hG  l0 l1 M n c)
/-! Farfiles answer (I)I -/
def gY_134 : gxY := (false, prog_1_method_51_code, 5, (Option.some Jvm.ClassFile.FieldType.int), "Farfiles", 3, 83, 0, [], "answer")
theorem ok_134 {Y : gxY} (h1 : gy_f gY_134 + 1 ≤ gy_f Y) (h2 : 8 + (gy_l gY_134 + 11) + gy_k gY_134 ≤ gy_k Y) : gh_ok Y gY_134 yX7_answer 1 := ⟨wd_1228, wd_51, ⟨by decide, by decide⟩, by decide +kernel, h1, h2⟩
noncomputable def fi_134_L108 (K : Nat → Nat → Nat → Nat → Bool) (l0 M n c : Nat) : Bool := gx_get (l0) 0 M (fun v22 => gx_get (v22) 1 M (fun v23 => gx_rt gx_f0 (v23) (K (v23) M n c)))
theorem h_134_L108 {G : gxG} (hG : gxG0 G) {K : Nat → Nat → Nat → Nat → Bool} (l0 M n c : Nat) : gxJ G gY_134 K 108 [] [gR 7 (l0), gB, gB, gB, gB] M n c (fi_134_L108 K l0 M n c) := by
  unfold fi_134_L108
  refine gr_aload_n (pc := 108) (i := 0) 7 (l0) (show decode (gy_b gY_134) 108 = .ok (.aload_n 0, 1) by decide +kernel) rfl rfl ?_
  refine gr_getf (pc := 109) (index := 10) (t := 7) (j := 0) (σ := 12) (sv := (gR 4)) (show decode (gy_b gY_134) 109 = .ok (.getfield 10, 3) by decide +kernel) rfl rfl (fun _ => rfl) wd_294 (by decide) ?_
  intro v22
  refine gr_getfN (pc := 112) (index := 133) (t := 4) (j := 1) (σ := 0) (sv := gI) (show decode (gy_b gY_134) 112 = .ok (.getfield 133, 3) by decide +kernel) rfl rfl (fun _ => rfl) wd_102 (by decide) ?_
  intro v23
  exact gr_ireturn (pc := 115) (show decode (gy_b gY_134) 115 = .ok (.ireturn, 1) by decide +kernel) rfl rfl (by decide) gv_0
noncomputable def fi_134_B40 (K : Nat → Nat → Nat → Nat → Bool) (ih_40 : Nat → Nat → Nat → Nat → Nat → Nat → Nat → Bool) (l0 l1 l2 l3 M n c : Nat) : Bool := gx_len (l2) M (fun v16 => gx_lt (l3) (v16) (gx_get (l0) 0 M (fun v28 => gx_ald (l2) (l3) M (fun v29 => gx_nn (v28) (fi_47 (v28) (v29) M n c (fun v30 M31 n32 c33 => gx_add (l3) 1 (fun z34 => ih_40 (l0) (l1) (l2) (z34) M31 n32 c33)))))) (gx_get (l0) 2 M (fun v17 => gx_nn (v17) (fi_133 (v17) (l1) M n c (fun v18 M19 n20 c21 => gx_lt (0) (3) (fi_60 (v18) (0) M19 n20 c21 (fun v24 M25 n26 c27 => gx_eq (v24) 0 (fi_134_L108 K (l0) M25 n26 c27) (false))) (fi_134_L108 K (l0) M19 n20 c21))))))
theorem hb_134_B40 {G : gxG} (hG : gxG0 G) {K : Nat → Nat → Nat → Nat → Bool} {ih_40 : Nat → Nat → Nat → Nat → Nat → Nat → Nat → Bool} (hi_40 : ∀ l0 l1 l2 l3 M n c : Nat, gxJ G gY_134 K 40 [] [gR 7 (l0), gI (l1), gR 65 (l2), gI (l3), gB] M n c (ih_40 l0 l1 l2 l3 M n c)) (l0 l1 l2 l3 M n c : Nat) : gxJ G gY_134 K 40 [] [gR 7 (l0), gI (l1), gR 65 (l2), gI (l3), gB] M n c (fi_134_B40 K ih_40 l0 l1 l2 l3 M n c) := by
  unfold fi_134_B40
  refine gr_iload_n (pc := 40) (i := 3) (l3) (show decode (gy_b gY_134) 40 = .ok (.iload_n 3, 1) by decide +kernel) rfl rfl ?_
  refine gr_aload_n (pc := 41) (i := 2) 65 (l2) (show decode (gy_b gY_134) 41 = .ok (.aload_n 2, 1) by decide +kernel) rfl rfl ?_
  refine gr_alen (pc := 42) (κ := 1) (show decode (gy_b gY_134) 42 = .ok (.arraylength, 1) by decide +kernel) (by decide) ?_
  intro v16
  refine gr_icmp_ge (pc := 43) (tgt := 62) (off := 19) hG.2.1 (show decode (gy_b gY_134) 43 = .ok (.if_icmp .ge (19), 3) by decide +kernel) (by decide) ?_ ?_
  · refine gr_aload_n (pc := 62) (i := 0) 7 (l0) (show decode (gy_b gY_134) 62 = .ok (.aload_n 0, 1) by decide +kernel) rfl rfl ?_
    refine gr_getf (pc := 63) (index := 26) (t := 7) (j := 2) (σ := 10) (sv := (gR 2)) (show decode (gy_b gY_134) 63 = .ok (.getfield 26, 3) by decide +kernel) rfl rfl (fun _ => rfl) wd_296 (by decide) ?_
    intro v17
    refine gr_iload_n (pc := 66) (i := 1) (l1) (show decode (gy_b gY_134) 66 = .ok (.iload_n 1, 1) by decide +kernel) rfl rfl ?_
    refine gj_nn (fun hx67 => ?_)
    refine gj_c0 (pc := 67) (Y' := gY_133) (y := yX2_nameAt) (vs := [gR 2 (v17), gI (l1)]) (rest := []) (rs := fun v18 => [gI (v18)]) [gI (l1), gR 2 (v17)] rfl (hm_133 hG (v17) (l1)) rfl (gh_V (t := 2) (vs := [gI (l1)]) (rest := []) (show decode (gy_b gY_134) 67 = .ok (.invokevirtual 372, 3) by decide +kernel) rfl hx67 rfl rfl (ok_133 (by decide) (by decide)) wd_1232 wd_1233 wd_1234 (Nat.le_of_ble_eq_true rfl)) (fun _ => rfl) ?_
    intro v18 M19 n20 c21
    refine gr_istore_n (pc := 70) (i := 3) (L' := [gR 7 (l0), gI (l1), gR 65 (l2), gI (v18), gB]) (show decode (gy_b gY_134) 70 = .ok (.istore_n 3, 1) by decide +kernel) rfl (by decide) rfl rfl ?_
    refine gr_iconst (pc := 71) (z := 0) 0 (show decode (gy_b gY_134) 71 = .ok (.iconst (0), 1) by decide +kernel) kc_0 ?_
    refine gr_istore (pc := 72) (i := 4) (L' := [gR 7 (l0), gI (l1), gR 65 (l2), gI (v18), gI (0)]) (show decode (gy_b gY_134) 72 = .ok (.istore 4, 2) by decide +kernel) (by decide) rfl rfl ?_
    refine gr_iload (pc := 74) (i := 4) (0) (show decode (gy_b gY_134) 74 = .ok (.iload 4, 2) by decide +kernel) rfl ?_
    refine gr_iconst (pc := 76) (z := 3) 3 (show decode (gy_b gY_134) 76 = .ok (.iconst (3), 1) by decide +kernel) kc_3 ?_
    refine gr_icmp_ge (pc := 77) (tgt := 108) (off := 31) hG.2.1 (show decode (gy_b gY_134) 77 = .ok (.if_icmp .ge (31), 3) by decide +kernel) (by decide) ?_ ?_
    · refine gr_wk [true, false, false, false, false] rfl ?_
      exact h_134_L108 hG (l0) M19 n20 c21
    · refine gr_iload_n (pc := 80) (i := 3) (v18) (show decode (gy_b gY_134) 80 = .ok (.iload_n 3, 1) by decide +kernel) rfl rfl ?_
      refine gr_iload (pc := 81) (i := 4) (0) (show decode (gy_b gY_134) 81 = .ok (.iload 4, 2) by decide +kernel) rfl ?_
      refine gj_c0 (pc := 83) (Y' := gY_60) (y := yX7_signOfName) (vs := [gI (v18), gI (0)]) (rest := []) (rs := fun v24 => [gI (v24)]) [gI (0), gI (v18)] rfl (hm_60 hG (v18) (0)) rfl (gh_S (vs := [gI (v18), gI (0)]) (rest := []) (show decode (gy_b gY_134) 83 = .ok (.invokestatic 373, 3) by decide +kernel) rfl (ok_60 (by decide) (by decide)) rfl rfl wd_1236 wd_865 (Nat.le_of_ble_eq_true rfl)) (fun _ => rfl) ?_
      intro v24 M25 n26 c27
      refine gr_ifeq (pc := 86) (tgt := 108) (off := 22) hG.2.1 (show decode (gy_b gY_134) 86 = .ok (.ifCond .eq (22), 3) by decide +kernel) (by decide) ?_ ?_
      · refine gr_wk [true, false, false, false, false] rfl ?_
        exact h_134_L108 hG (l0) M25 n26 c27
      · exact gj_false
  · refine gr_aload_n (pc := 46) (i := 0) 7 (l0) (show decode (gy_b gY_134) 46 = .ok (.aload_n 0, 1) by decide +kernel) rfl rfl ?_
    refine gr_getf (pc := 47) (index := 10) (t := 7) (j := 0) (σ := 12) (sv := (gR 4)) (show decode (gy_b gY_134) 47 = .ok (.getfield 10, 3) by decide +kernel) rfl rfl (fun _ => rfl) wd_294 (by decide) ?_
    intro v28
    refine gr_aload_n (pc := 50) (i := 2) 65 (l2) (show decode (gy_b gY_134) 50 = .ok (.aload_n 2, 1) by decide +kernel) rfl rfl ?_
    refine gr_iload_n (pc := 51) (i := 3) (l3) (show decode (gy_b gY_134) 51 = .ok (.iload_n 3, 1) by decide +kernel) rfl rfl ?_
    refine gr_cald (pc := 52) (show decode (gy_b gY_134) 52 = .ok (.caload, 1) by decide +kernel) ?_
    intro v29
    refine gj_nn (fun hx53 => ?_)
    refine gj_c0 (pc := 53) (Y' := gY_47) (y := yX4_put) (vs := [gR 4 (v28), gI (v29)]) (rest := []) (rs := fun v30 => []) [gI (v29), gR 4 (v28)] rfl (hm_47 hG (v28) (v29)) rfl (gh_V (t := 4) (vs := [gI (v29)]) (rest := []) (show decode (gy_b gY_134) 53 = .ok (.invokevirtual 139, 3) by decide +kernel) rfl hx53 rfl rfl (ok_47 (by decide) (by decide)) wd_803 wd_804 wd_805 (Nat.le_of_ble_eq_true rfl)) (fun _ => rfl) ?_
    intro v30 M31 n32 c33
    refine gr_iinc (pc := 56) (i := 3) (d := 1) (z := 1) (L' := fun z34 => [gR 7 (l0), gI (l1), gR 65 (l2), gI (z34), gB]) (show decode (gy_b gY_134) 56 = .ok (.iinc 3 (1), 3) by decide +kernel) (by decide +kernel) (by decide) rfl rfl (fun _ => rfl) ?_
    intro z34
    refine gr_goto (pc := 59) (tgt := 40) (off := -19) (show decode (gy_b gY_134) 59 = .ok (.goto (-19), 3) by decide +kernel) (by decide) ?_
    exact hi_40 (l0) (l1) (l2) (z34) M31 n32 c33
noncomputable def fi_134_W40 (K : Nat → Nat → Nat → Nat → Bool) (u : Nat) : Nat → Nat → Nat → Nat → Nat → Nat → Nat → Bool := Nat.rec (motive := fun _ => Nat → Nat → Nat → Nat → Nat → Nat → Nat → Bool) (fun _ _ _ _ _ _ _ => false) (fun _ ih => fi_134_B40 K ih) u
theorem hw_134_40 {G : gxG} (hG : gxG0 G) {K : Nat → Nat → Nat → Nat → Bool} (u : Nat) : ∀ l0 l1 l2 l3 M n c : Nat, gxJ G gY_134 K 40 [] [gR 7 (l0), gI (l1), gR 65 (l2), gI (l3), gB] M n c (fi_134_W40 K u l0 l1 l2 l3 M n c) := by
  induction u with
  | zero => intro l0 l1 l2 l3 M n c; exact gj_false
  | succ u ih => intro l0 l1 l2 l3 M n c; exact hb_134_B40 hG ih l0 l1 l2 l3 M n c
noncomputable def fi_134_L0 (K : Nat → Nat → Nat → Nat → Bool) (l0 l1 M n c : Nat) : Bool := gx_get (l0) 2 M (fun v1 => gx_nn (v1) (fi_125 (v1) (l1) M n c (fun v2 M3 n4 c5 => gx_eq (v2) 0 (false) (gx_get (l0) 0 M3 (fun v6 => gx_nn (v6) (fi_41 (v6) M3 n4 c5 (fun v7 M8 n9 c10 => gx_get (l0) 2 M8 (fun v11 => gx_nn (v11) (fi_126 (v11) (l1) M8 n9 c10 (fun v12 M13 n14 c15 => fi_134_W40 K 65536 (l0) (l1) (v12) (0) M13 n14 c15))))))))))
theorem h_134_L0 {G : gxG} (hG : gxG0 G) {K : Nat → Nat → Nat → Nat → Bool} (l0 l1 M n c : Nat) : gxJ G gY_134 K 0 [] [gR 7 (l0), gI (l1), gB, gB, gB] M n c (fi_134_L0 K l0 l1 M n c) := by
  unfold fi_134_L0
  refine gr_aload_n (pc := 0) (i := 0) 7 (l0) (show decode (gy_b gY_134) 0 = .ok (.aload_n 0, 1) by decide +kernel) rfl rfl ?_
  refine gr_getf (pc := 1) (index := 26) (t := 7) (j := 2) (σ := 10) (sv := (gR 2)) (show decode (gy_b gY_134) 1 = .ok (.getfield 26, 3) by decide +kernel) rfl rfl (fun _ => rfl) wd_296 (by decide) ?_
  intro v1
  refine gr_iload_n (pc := 4) (i := 1) (l1) (show decode (gy_b gY_134) 4 = .ok (.iload_n 1, 1) by decide +kernel) rfl rfl ?_
  refine gj_nn (fun hx5 => ?_)
  refine gj_c0 (pc := 5) (Y' := gY_125) (y := yX2_hasPlace) (vs := [gR 2 (v1), gI (l1)]) (rest := []) (rs := fun v2 => [gI (v2)]) [gI (l1), gR 2 (v1)] rfl (hm_125 hG (v1) (l1)) rfl (gh_V (t := 2) (vs := [gI (l1)]) (rest := []) (show decode (gy_b gY_134) 5 = .ok (.invokevirtual 364, 3) by decide +kernel) rfl hx5 rfl rfl (ok_125 (by decide) (by decide)) wd_1229 wd_1215 wd_1216 (Nat.le_of_ble_eq_true rfl)) (fun _ => rfl) ?_
  intro v2 M3 n4 c5
  refine gr_ifne (pc := 8) (tgt := 22) (off := 14) hG.2.1 (show decode (gy_b gY_134) 8 = .ok (.ifCond .ne (14), 3) by decide +kernel) (by decide) ?_ ?_
  · refine gr_aload_n (pc := 22) (i := 0) 7 (l0) (show decode (gy_b gY_134) 22 = .ok (.aload_n 0, 1) by decide +kernel) rfl rfl ?_
    refine gr_getf (pc := 23) (index := 10) (t := 7) (j := 0) (σ := 12) (sv := (gR 4)) (show decode (gy_b gY_134) 23 = .ok (.getfield 10, 3) by decide +kernel) rfl rfl (fun _ => rfl) wd_294 (by decide) ?_
    intro v6
    refine gj_nn (fun hx26 => ?_)
    refine gj_c0 (pc := 26) (Y' := gY_41) (y := yX4_empty) (vs := [gR 4 (v6)]) (rest := []) (rs := fun v7 => []) [gR 4 (v6)] rfl (hm_41 hG (v6)) rfl (gh_V (t := 4) (vs := []) (rest := []) (show decode (gy_b gY_134) 26 = .ok (.invokevirtual 147, 3) by decide +kernel) rfl hx26 rfl rfl (ok_41 (by decide) (by decide)) wd_744 wd_745 wd_746 (Nat.le_of_ble_eq_true rfl)) (fun _ => rfl) ?_
    intro v7 M8 n9 c10
    refine gr_aload_n (pc := 29) (i := 0) 7 (l0) (show decode (gy_b gY_134) 29 = .ok (.aload_n 0, 1) by decide +kernel) rfl rfl ?_
    refine gr_getf (pc := 30) (index := 26) (t := 7) (j := 2) (σ := 10) (sv := (gR 2)) (show decode (gy_b gY_134) 30 = .ok (.getfield 26, 3) by decide +kernel) rfl rfl (fun _ => rfl) wd_296 (by decide) ?_
    intro v11
    refine gr_iload_n (pc := 33) (i := 1) (l1) (show decode (gy_b gY_134) 33 = .ok (.iload_n 1, 1) by decide +kernel) rfl rfl ?_
    refine gj_nn (fun hx34 => ?_)
    refine gj_c0 (pc := 34) (Y' := gY_126) (y := yX2_textAt) (vs := [gR 2 (v11), gI (l1)]) (rest := []) (rs := fun v12 => [gR 65 (v12)]) [gI (l1), gR 2 (v11)] rfl (hm_126 hG (v11) (l1)) rfl (gh_V (t := 2) (vs := [gI (l1)]) (rest := []) (show decode (gy_b gY_134) 34 = .ok (.invokevirtual 369, 3) by decide +kernel) rfl hx34 rfl rfl (ok_126 (by decide) (by decide)) wd_1231 wd_1211 wd_1212 (Nat.le_of_ble_eq_true rfl)) (fun _ => rfl) ?_
    intro v12 M13 n14 c15
    refine gr_astore_n (pc := 37) (i := 2) (L' := [gR 7 (l0), gI (l1), gR 65 (v12), gB, gB]) (show decode (gy_b gY_134) 37 = .ok (.astore_n 2, 1) by decide +kernel) rfl (by decide) rfl rfl ?_
    refine gr_iconst (pc := 38) (z := 0) 0 (show decode (gy_b gY_134) 38 = .ok (.iconst (0), 1) by decide +kernel) kc_0 ?_
    refine gr_istore_n (pc := 39) (i := 3) (L' := [gR 7 (l0), gI (l1), gR 65 (v12), gI (0), gB]) (show decode (gy_b gY_134) 39 = .ok (.istore_n 3, 1) by decide +kernel) rfl (by decide) rfl rfl ?_
    exact hw_134_40 hG 65536 (l0) (l1) (v12) (0) M13 n14 c15
  · exact gj_false
noncomputable def fi_134 (l0 l1 M n c : Nat) (K : Nat → Nat → Nat → Nat → Bool) : Bool := fi_134_L0 K l0 l1 M n c
theorem hm_134 {G : gxG} (hG : gxG0 G) (l0 l1 : Nat) : gxM G gY_134 yX7_answer [gR 7 (l0), gI (l1)] (fi_134 l0 l1) := gxM_of (L := [gR 7 (l0), gI (l1), gB, gB, gB]) hG 3 (by decide +kernel) rfl rfl rfl rfl (List.forall_mem_cons.mpr ⟨rfl, List.forall_mem_cons.mpr ⟨rfl, fun _ h => nomatch h⟩⟩) (fun M n c K => h_134_L0 hG  l0 l1 M n c)
/-! Farfiles signAt (I)C -/
def gY_135 : gxY := (false, prog_1_method_18_code, 2, (Option.some Jvm.ClassFile.FieldType.char), "Farfiles", 2, 61, 1, [], "signAt")
theorem ok_135 {Y : gxY} (h1 : gy_f gY_135 + 1 ≤ gy_f Y) (h2 : 8 + (gy_l gY_135 + 11) + gy_k gY_135 ≤ gy_k Y) : gh_ok Y gY_135 yX7_signAt 1 := ⟨wd_1240, wd_51, ⟨by decide, by decide⟩, by decide +kernel, h1, h2⟩
noncomputable def fi_135_L0 (K : Nat → Nat → Nat → Nat → Bool) (l0 l1 M n c : Nat) : Bool := gx_lt (l1) 0 (false) (gx_get (l0) 0 M (fun v1 => gx_get (v1) 1 M (fun v2 => gx_lt (l1) (v2) (gx_get (l0) 0 M (fun v3 => gx_nn (v3) (fi_52 (v3) (l1) M n c (fun v4 M5 n6 c7 => gx_rt gx_f1 (v4) (K (v4) M5 n6 c7))))) (false))))
theorem h_135_L0 {G : gxG} (hG : gxG0 G) {K : Nat → Nat → Nat → Nat → Bool} (l0 l1 M n c : Nat) : gxJ G gY_135 K 0 [] [gR 7 (l0), gI (l1)] M n c (fi_135_L0 K l0 l1 M n c) := by
  unfold fi_135_L0
  refine gr_iload_n (pc := 0) (i := 1) (l1) (show decode (gy_b gY_135) 0 = .ok (.iload_n 1, 1) by decide +kernel) rfl rfl ?_
  refine gr_iflt (pc := 1) (tgt := 15) (off := 14) hG.2.1 (show decode (gy_b gY_135) 1 = .ok (.ifCond .lt (14), 3) by decide +kernel) (by decide) ?_ ?_
  · exact gj_false
  · refine gr_iload_n (pc := 4) (i := 1) (l1) (show decode (gy_b gY_135) 4 = .ok (.iload_n 1, 1) by decide +kernel) rfl rfl ?_
    refine gr_aload_n (pc := 5) (i := 0) 7 (l0) (show decode (gy_b gY_135) 5 = .ok (.aload_n 0, 1) by decide +kernel) rfl rfl ?_
    refine gr_getf (pc := 6) (index := 10) (t := 7) (j := 0) (σ := 12) (sv := (gR 4)) (show decode (gy_b gY_135) 6 = .ok (.getfield 10, 3) by decide +kernel) rfl rfl (fun _ => rfl) wd_294 (by decide) ?_
    intro v1
    refine gr_getfN (pc := 9) (index := 133) (t := 4) (j := 1) (σ := 0) (sv := gI) (show decode (gy_b gY_135) 9 = .ok (.getfield 133, 3) by decide +kernel) rfl rfl (fun _ => rfl) wd_102 (by decide) ?_
    intro v2
    refine gr_icmp_lt (pc := 12) (tgt := 25) (off := 13) hG.2.1 (show decode (gy_b gY_135) 12 = .ok (.if_icmp .lt (13), 3) by decide +kernel) (by decide) ?_ ?_
    · refine gr_aload_n (pc := 25) (i := 0) 7 (l0) (show decode (gy_b gY_135) 25 = .ok (.aload_n 0, 1) by decide +kernel) rfl rfl ?_
      refine gr_getf (pc := 26) (index := 10) (t := 7) (j := 0) (σ := 12) (sv := (gR 4)) (show decode (gy_b gY_135) 26 = .ok (.getfield 10, 3) by decide +kernel) rfl rfl (fun _ => rfl) wd_294 (by decide) ?_
      intro v3
      refine gr_iload_n (pc := 29) (i := 1) (l1) (show decode (gy_b gY_135) 29 = .ok (.iload_n 1, 1) by decide +kernel) rfl rfl ?_
      refine gj_nn (fun hx30 => ?_)
      refine gj_c0 (pc := 30) (Y' := gY_52) (y := yX4_at) (vs := [gR 4 (v3), gI (l1)]) (rest := []) (rs := fun v4 => [gI (v4)]) [gI (l1), gR 4 (v3)] rfl (hm_52 hG (v3) (l1)) rfl (gh_V (t := 4) (vs := [gI (l1)]) (rest := []) (show decode (gy_b gY_135) 30 = .ok (.invokevirtual 152, 3) by decide +kernel) rfl hx30 rfl rfl (ok_52 (by decide) (by decide)) wd_1242 wd_835 wd_836 (Nat.le_of_ble_eq_true rfl)) (fun _ => rfl) ?_
      intro v4 M5 n6 c7
      exact gr_ireturn (pc := 33) (show decode (gy_b gY_135) 33 = .ok (.ireturn, 1) by decide +kernel) rfl rfl (by decide) (gv_1 hG.2.1)
    · exact gj_false
noncomputable def fi_135 (l0 l1 M n c : Nat) (K : Nat → Nat → Nat → Nat → Bool) : Bool := fi_135_L0 K l0 l1 M n c
theorem hm_135 {G : gxG} (hG : gxG0 G) (l0 l1 : Nat) : gxM G gY_135 yX7_signAt [gR 7 (l0), gI (l1)] (fi_135 l0 l1) := gxM_of (L := [gR 7 (l0), gI (l1)]) hG 0 (by decide +kernel) rfl rfl rfl rfl (List.forall_mem_cons.mpr ⟨rfl, List.forall_mem_cons.mpr ⟨rfl, fun _ h => nomatch h⟩⟩) (fun M n c K => h_135_L0 hG  l0 l1 M n c)
/-! FarfilesLaw isText (ILjava/lang/String;Ljava/lang/String;)Z -/
def gY_136 : gxY := (false, method_12_code, 6, (Option.some Jvm.ClassFile.FieldType.boolean), "FarfilesLaw", 12, 225, 2, [], "isText")
theorem ok_136 {Y : gxY} (h1 : gy_f gY_136 + 1 ≤ gy_f Y) (h2 : 8 + (gy_l gY_136 + 11) + gy_k gY_136 ≤ gy_k Y) : gh_ok Y gY_136 yL_isText 3 := ⟨wd_1173, wd_50, ⟨by decide, by decide⟩, by decide +kernel, h1, h2⟩
noncomputable def fi_136_L87 (K : Nat → Nat → Nat → Nat → Bool) (l4 M n c : Nat) : Bool := gx_rt gx_f2 (l4) (K (l4) M n c)
theorem h_136_L87 {G : gxG} (hG : gxG0 G) {K : Nat → Nat → Nat → Nat → Bool} (l4 M n c : Nat) : gxJ G gY_136 K 87 [] [gB, gB, gB, gB, gI (l4), gB] M n c (fi_136_L87 K l4 M n c) := by
  unfold fi_136_L87
  refine gr_iload (pc := 87) (i := 4) (l4) (show decode (gy_b gY_136) 87 = .ok (.iload 4, 2) by decide +kernel) rfl ?_
  exact gr_ireturn (pc := 89) (show decode (gy_b gY_136) 89 = .ok (.ireturn, 1) by decide +kernel) rfl rfl (by decide) gv_2f
noncomputable def fi_136_B42 (K : Nat → Nat → Nat → Nat → Bool) (ih_42 : Nat → Nat → Nat → Nat → Nat → Nat → Nat → Bool) (l0 l3 l4 l5 M n c : Nat) : Bool := gx_nn (l3) (fi_12 (l3) M n c (fun v19 M20 n21 c22 => gx_lt (l5) (v19) (gx_eq (l4) 0 (fi_136_L87 K (l4) M20 n21 c22) (gx_get (l0) 3 M20 (fun v23 => gx_nn (v23) (fi_135 (v23) (l5) M20 n21 c22 (fun v24 M25 n26 c27 => gx_nn (l3) (fi_45 (l3) (l5) M25 n26 c27 (fun v28 M29 n30 c31 => gx_eq (v24) (v28) (gx_add (l5) 1 (fun z32 => ih_42 (l0) (l3) (1) (z32) M29 n30 c31)) (false)))))))) (fi_136_L87 K (l4) M20 n21 c22)))
theorem hb_136_B42 {G : gxG} (hG : gxG0 G) {K : Nat → Nat → Nat → Nat → Bool} {ih_42 : Nat → Nat → Nat → Nat → Nat → Nat → Nat → Bool} (hi_42 : ∀ l0 l3 l4 l5 M n c : Nat, gxJ G gY_136 K 42 [] [gR 10 (l0), gB, gB, gR 8 (l3), gI (l4), gI (l5)] M n c (ih_42 l0 l3 l4 l5 M n c)) (l0 l3 l4 l5 M n c : Nat) : gxJ G gY_136 K 42 [] [gR 10 (l0), gB, gB, gR 8 (l3), gI (l4), gI (l5)] M n c (fi_136_B42 K ih_42 l0 l3 l4 l5 M n c) := by
  unfold fi_136_B42
  refine gr_iload (pc := 42) (i := 5) (l5) (show decode (gy_b gY_136) 42 = .ok (.iload 5, 2) by decide +kernel) rfl ?_
  refine gr_aload_n (pc := 44) (i := 3) 8 (l3) (show decode (gy_b gY_136) 44 = .ok (.aload_n 3, 1) by decide +kernel) rfl rfl ?_
  refine gj_nn (fun hx45 => ?_)
  refine gj_c0 (pc := 45) (Y' := gY_12) (y := yJ0_length_8abf5) (vs := [gR 8 (l3)]) (rest := [gI (l5)]) (rs := fun v19 => [gI (v19), gI (l5)]) [gR 8 (l3)] rfl (hm_12 hG (l3)) rfl (gh_V (t := 8) (vs := []) (rest := [gI (l5)]) (show decode (gy_b gY_136) 45 = .ok (.invokevirtual 49, 3) by decide +kernel) rfl hx45 rfl rfl (ok_12 (by decide) (by decide)) wd_748 wd_501 wd_502 (Nat.le_of_ble_eq_true rfl)) (fun _ => rfl) ?_
  intro v19 M20 n21 c22
  refine gr_icmp_ge (pc := 48) (tgt := 87) (off := 39) hG.2.1 (show decode (gy_b gY_136) 48 = .ok (.if_icmp .ge (39), 3) by decide +kernel) (by decide) ?_ ?_
  · refine gr_wk [false, true, true, false, true, false] rfl ?_
    exact h_136_L87 hG (l4) M20 n21 c22
  · refine gr_iload (pc := 51) (i := 4) (l4) (show decode (gy_b gY_136) 51 = .ok (.iload 4, 2) by decide +kernel) rfl ?_
    refine gr_ifeq (pc := 53) (tgt := 87) (off := 34) hG.2.1 (show decode (gy_b gY_136) 53 = .ok (.ifCond .eq (34), 3) by decide +kernel) (by decide) ?_ ?_
    · refine gr_wk [false, true, true, false, true, false] rfl ?_
      exact h_136_L87 hG (l4) M20 n21 c22
    · refine gr_aload_n (pc := 56) (i := 0) 10 (l0) (show decode (gy_b gY_136) 56 = .ok (.aload_n 0, 1) by decide +kernel) rfl rfl ?_
      refine gr_getf (pc := 57) (index := 10) (t := 10) (j := 3) (σ := 15) (sv := (gR 7)) (show decode (gy_b gY_136) 57 = .ok (.getfield 10, 3) by decide +kernel) rfl rfl (fun _ => rfl) wd_346 (by decide) ?_
      intro v23
      refine gr_iload (pc := 60) (i := 5) (l5) (show decode (gy_b gY_136) 60 = .ok (.iload 5, 2) by decide +kernel) rfl ?_
      refine gj_nn (fun hx62 => ?_)
      refine gj_c0 (pc := 62) (Y' := gY_135) (y := yX7_signAt) (vs := [gR 7 (v23), gI (l5)]) (rest := []) (rs := fun v24 => [gI (v24)]) [gI (l5), gR 7 (v23)] rfl (hm_135 hG (v23) (l5)) rfl (gh_V (t := 7) (vs := [gI (l5)]) (rest := []) (show decode (gy_b gY_136) 62 = .ok (.invokevirtual 118, 3) by decide +kernel) rfl hx62 rfl rfl (ok_135 (by decide) (by decide)) wd_1237 wd_1238 wd_1239 (Nat.le_of_ble_eq_true rfl)) (fun _ => rfl) ?_
      intro v24 M25 n26 c27
      refine gr_aload_n (pc := 65) (i := 3) 8 (l3) (show decode (gy_b gY_136) 65 = .ok (.aload_n 3, 1) by decide +kernel) rfl rfl ?_
      refine gr_iload (pc := 66) (i := 5) (l5) (show decode (gy_b gY_136) 66 = .ok (.iload 5, 2) by decide +kernel) rfl ?_
      refine gj_nn (fun hx68 => ?_)
      refine gj_c0 (pc := 68) (Y' := gY_45) (y := yJ0_charAt_5068e) (vs := [gR 8 (l3), gI (l5)]) (rest := [gI (v24)]) (rs := fun v28 => [gI (v28), gI (v24)]) [gI (l5), gR 8 (l3)] rfl (hm_45 hG (l3) (l5)) rfl (gh_V (t := 8) (vs := [gI (l5)]) (rest := [gI (v24)]) (show decode (gy_b gY_136) 68 = .ok (.invokevirtual 54, 3) by decide +kernel) rfl hx68 rfl rfl (ok_45 (by decide) (by decide)) wd_749 wd_750 wd_751 (Nat.le_of_ble_eq_true rfl)) (fun _ => rfl) ?_
      intro v28 M29 n30 c31
      refine gr_icmp_ne (pc := 71) (tgt := 78) (off := 7) hG.2.1 (show decode (gy_b gY_136) 71 = .ok (.if_icmp .ne (7), 3) by decide +kernel) (by decide) ?_ ?_
      · exact gj_false
      · refine gr_iconst (pc := 74) (z := 1) 1 (show decode (gy_b gY_136) 74 = .ok (.iconst (1), 1) by decide +kernel) kc_1 ?_
        refine gr_goto (pc := 75) (tgt := 79) (off := 4) (show decode (gy_b gY_136) 75 = .ok (.goto (4), 3) by decide +kernel) (by decide) ?_
        refine gr_istore (pc := 79) (i := 4) (L' := [gR 10 (l0), gB, gB, gR 8 (l3), gI (1), gI (l5)]) (show decode (gy_b gY_136) 79 = .ok (.istore 4, 2) by decide +kernel) (by decide) rfl rfl ?_
        refine gr_iinc (pc := 81) (i := 5) (d := 1) (z := 1) (L' := fun z32 => [gR 10 (l0), gB, gB, gR 8 (l3), gI (1), gI (z32)]) (show decode (gy_b gY_136) 81 = .ok (.iinc 5 (1), 3) by decide +kernel) (by decide +kernel) (by decide) rfl rfl (fun _ => rfl) ?_
        intro z32
        refine gr_goto (pc := 84) (tgt := 42) (off := -42) (show decode (gy_b gY_136) 84 = .ok (.goto (-42), 3) by decide +kernel) (by decide) ?_
        exact hi_42 (l0) (l3) (1) (z32) M29 n30 c31
noncomputable def fi_136_W42 (K : Nat → Nat → Nat → Nat → Bool) (u : Nat) : Nat → Nat → Nat → Nat → Nat → Nat → Nat → Bool := Nat.rec (motive := fun _ => Nat → Nat → Nat → Nat → Nat → Nat → Nat → Bool) (fun _ _ _ _ _ _ _ => false) (fun _ ih => fi_136_B42 K ih) u
theorem hw_136_42 {G : gxG} (hG : gxG0 G) {K : Nat → Nat → Nat → Nat → Bool} (u : Nat) : ∀ l0 l3 l4 l5 M n c : Nat, gxJ G gY_136 K 42 [] [gR 10 (l0), gB, gB, gR 8 (l3), gI (l4), gI (l5)] M n c (fi_136_W42 K u l0 l3 l4 l5 M n c) := by
  induction u with
  | zero => intro l0 l3 l4 l5 M n c; exact gj_false
  | succ u ih => intro l0 l3 l4 l5 M n c; exact hb_136_B42 hG ih l0 l3 l4 l5 M n c
noncomputable def fi_136_L0 (K : Nat → Nat → Nat → Nat → Bool) (l0 l1 l2 l3 M n c : Nat) : Bool := gx_nn (l0) (fi_49 (l0) (l2) M n c (fun v1 M2 n3 c4 => gx_get (l0) 3 M2 (fun v5 => gx_nn (v5) (fi_132 (v5) (l1) M2 n3 c4 (fun v6 M7 n8 c9 => gx_eq (v6) (1) (gx_get (l0) 3 M7 (fun v10 => gx_nn (v10) (fi_134 (v10) (0) M7 n8 c9 (fun v11 M12 n13 c14 => gx_nn (l3) (fi_12 (l3) M12 n13 c14 (fun v15 M16 n17 c18 => gx_eq (v11) (v15) (fi_136_W42 K 65536 (l0) (l3) (1) (0) M16 n17 c18) (false))))))) (false))))))
theorem h_136_L0 {G : gxG} (hG : gxG0 G) {K : Nat → Nat → Nat → Nat → Bool} (l0 l1 l2 l3 M n c : Nat) : gxJ G gY_136 K 0 [] [gR 10 (l0), gI (l1), gR 8 (l2), gR 8 (l3), gB, gB] M n c (fi_136_L0 K l0 l1 l2 l3 M n c) := by
  unfold fi_136_L0
  refine gr_aload_n (pc := 0) (i := 0) 10 (l0) (show decode (gy_b gY_136) 0 = .ok (.aload_n 0, 1) by decide +kernel) rfl rfl ?_
  refine gr_aload_n (pc := 1) (i := 2) 8 (l2) (show decode (gy_b gY_136) 1 = .ok (.aload_n 2, 1) by decide +kernel) rfl rfl ?_
  refine gj_nn (fun hx2 => ?_)
  refine gj_c0 (pc := 2) (Y' := gY_49) (y := yL_types) (vs := [gR 10 (l0), gR 8 (l2)]) (rest := []) (rs := fun v1 => []) [gR 8 (l2), gR 10 (l0)] rfl (hm_49 hG (l0) (l2)) rfl (gh_V (t := 10) (vs := [gR 8 (l2)]) (rest := []) (show decode (gy_b gY_136) 2 = .ok (.invokevirtual 108, 3) by decide +kernel) rfl hx2 rfl rfl (ok_49 (by decide) (by decide)) wd_736 wd_738 wd_11 (Nat.le_of_ble_eq_true rfl)) (fun _ => rfl) ?_
  intro v1 M2 n3 c4
  refine gr_aload_n (pc := 5) (i := 0) 10 (l0) (show decode (gy_b gY_136) 5 = .ok (.aload_n 0, 1) by decide +kernel) rfl rfl ?_
  refine gr_getf (pc := 6) (index := 10) (t := 10) (j := 3) (σ := 15) (sv := (gR 7)) (show decode (gy_b gY_136) 6 = .ok (.getfield 10, 3) by decide +kernel) rfl rfl (fun _ => rfl) wd_346 (by decide) ?_
  intro v5
  refine gr_iload_n (pc := 9) (i := 1) (l1) (show decode (gy_b gY_136) 9 = .ok (.iload_n 1, 1) by decide +kernel) rfl rfl ?_
  refine gj_nn (fun hx10 => ?_)
  refine gj_c0 (pc := 10) (Y' := gY_132) (y := yX7_read) (vs := [gR 7 (v5), gI (l1)]) (rest := []) (rs := fun v6 => [gI (v6)]) [gI (l1), gR 7 (v5)] rfl (hm_132 hG (v5) (l1)) rfl (gh_V (t := 7) (vs := [gI (l1)]) (rest := []) (show decode (gy_b gY_136) 10 = .ok (.invokevirtual 112, 3) by decide +kernel) rfl hx10 rfl rfl (ok_132 (by decide) (by decide)) wd_1174 wd_1175 wd_1176 (Nat.le_of_ble_eq_true rfl)) (fun _ => rfl) ?_
  intro v6 M7 n8 c9
  refine gr_iconst (pc := 13) (z := 1) 1 (show decode (gy_b gY_136) 13 = .ok (.iconst (1), 1) by decide +kernel) kc_1 ?_
  refine gr_icmp_ne (pc := 14) (tgt := 36) (off := 22) hG.2.1 (show decode (gy_b gY_136) 14 = .ok (.if_icmp .ne (22), 3) by decide +kernel) (by decide) ?_ ?_
  · exact gj_false
  · refine gr_aload_n (pc := 17) (i := 0) 10 (l0) (show decode (gy_b gY_136) 17 = .ok (.aload_n 0, 1) by decide +kernel) rfl rfl ?_
    refine gr_getf (pc := 18) (index := 10) (t := 10) (j := 3) (σ := 15) (sv := (gR 7)) (show decode (gy_b gY_136) 18 = .ok (.getfield 10, 3) by decide +kernel) rfl rfl (fun _ => rfl) wd_346 (by decide) ?_
    intro v10
    refine gr_iconst (pc := 21) (z := 0) 0 (show decode (gy_b gY_136) 21 = .ok (.iconst (0), 1) by decide +kernel) kc_0 ?_
    refine gj_nn (fun hx22 => ?_)
    refine gj_c0 (pc := 22) (Y' := gY_134) (y := yX7_answer) (vs := [gR 7 (v10), gI (0)]) (rest := []) (rs := fun v11 => [gI (v11)]) [gI (0), gR 7 (v10)] rfl (hm_134 hG (v10) (0)) rfl (gh_V (t := 7) (vs := [gI (0)]) (rest := []) (show decode (gy_b gY_136) 22 = .ok (.invokevirtual 115, 3) by decide +kernel) rfl hx22 rfl rfl (ok_134 (by decide) (by decide)) wd_1225 wd_1226 wd_1227 (Nat.le_of_ble_eq_true rfl)) (fun _ => rfl) ?_
    intro v11 M12 n13 c14
    refine gr_aload_n (pc := 25) (i := 3) 8 (l3) (show decode (gy_b gY_136) 25 = .ok (.aload_n 3, 1) by decide +kernel) rfl rfl ?_
    refine gj_nn (fun hx26 => ?_)
    refine gj_c0 (pc := 26) (Y' := gY_12) (y := yJ0_length_8abf5) (vs := [gR 8 (l3)]) (rest := [gI (v11)]) (rs := fun v15 => [gI (v15), gI (v11)]) [gR 8 (l3)] rfl (hm_12 hG (l3)) rfl (gh_V (t := 8) (vs := []) (rest := [gI (v11)]) (show decode (gy_b gY_136) 26 = .ok (.invokevirtual 49, 3) by decide +kernel) rfl hx26 rfl rfl (ok_12 (by decide) (by decide)) wd_748 wd_501 wd_502 (Nat.le_of_ble_eq_true rfl)) (fun _ => rfl) ?_
    intro v15 M16 n17 c18
    refine gr_icmp_ne (pc := 29) (tgt := 36) (off := 7) hG.2.1 (show decode (gy_b gY_136) 29 = .ok (.if_icmp .ne (7), 3) by decide +kernel) (by decide) ?_ ?_
    · exact gj_false
    · refine gr_iconst (pc := 32) (z := 1) 1 (show decode (gy_b gY_136) 32 = .ok (.iconst (1), 1) by decide +kernel) kc_1 ?_
      refine gr_goto (pc := 33) (tgt := 37) (off := 4) (show decode (gy_b gY_136) 33 = .ok (.goto (4), 3) by decide +kernel) (by decide) ?_
      refine gr_istore (pc := 37) (i := 4) (L' := [gR 10 (l0), gI (l1), gR 8 (l2), gR 8 (l3), gI (1), gB]) (show decode (gy_b gY_136) 37 = .ok (.istore 4, 2) by decide +kernel) (by decide) rfl rfl ?_
      refine gr_iconst (pc := 39) (z := 0) 0 (show decode (gy_b gY_136) 39 = .ok (.iconst (0), 1) by decide +kernel) kc_0 ?_
      refine gr_istore (pc := 40) (i := 5) (L' := [gR 10 (l0), gI (l1), gR 8 (l2), gR 8 (l3), gI (1), gI (0)]) (show decode (gy_b gY_136) 40 = .ok (.istore 5, 2) by decide +kernel) (by decide) rfl rfl ?_
      refine gr_wk [true, false, false, true, true, true] rfl ?_
      exact hw_136_42 hG 65536 (l0) (l3) (1) (0) M16 n17 c18
noncomputable def fi_136 (l0 l1 l2 l3 M n c : Nat) (K : Nat → Nat → Nat → Nat → Bool) : Bool := fi_136_L0 K l0 l1 l2 l3 M n c
theorem hm_136 {G : gxG} (hG : gxG0 G) (l0 l1 l2 l3 : Nat) : gxM G gY_136 yL_isText [gR 10 (l0), gI (l1), gR 8 (l2), gR 8 (l3)] (fi_136 l0 l1 l2 l3) := gxM_of (L := [gR 10 (l0), gI (l1), gR 8 (l2), gR 8 (l3), gB, gB]) hG 2 (by decide +kernel) rfl rfl rfl rfl (List.forall_mem_cons.mpr ⟨rfl, List.forall_mem_cons.mpr ⟨rfl, List.forall_mem_cons.mpr ⟨rfl, List.forall_mem_cons.mpr ⟨rfl, fun _ h => nomatch h⟩⟩⟩⟩) (fun M n c K => h_136_L0 hG  l0 l1 l2 l3 M n c)
/-! Farfiles near (I)I -/
def gY_137 : gxY := (false, prog_1_method_21_code, 2, (Option.some Jvm.ClassFile.FieldType.int), "Farfiles", 2, 62, 0, [], "near")
theorem ok_137 {Y : gxY} (h1 : gy_f gY_137 + 1 ≤ gy_f Y) (h2 : 8 + (gy_l gY_137 + 11) + gy_k gY_137 ≤ gy_k Y) : gh_ok Y gY_137 yX7_near 1 := ⟨wd_1248, wd_51, ⟨by decide, by decide⟩, by decide +kernel, h1, h2⟩
noncomputable def fi_137_L0 (K : Nat → Nat → Nat → Nat → Bool) (l0 l1 M n c : Nat) : Bool := gx_nn (l0) (fi_38 (l0) (l1) M n c (fun v1 M2 n3 c4 => gx_nn (v1) (fi_65 (v1) M2 n3 c4 (fun v5 M6 n7 c8 => gx_rt gx_f0 (v5) (K (v5) M6 n7 c8)))))
theorem h_137_L0 {G : gxG} (hG : gxG0 G) {K : Nat → Nat → Nat → Nat → Bool} (l0 l1 M n c : Nat) : gxJ G gY_137 K 0 [] [gR 7 (l0), gI (l1)] M n c (fi_137_L0 K l0 l1 M n c) := by
  unfold fi_137_L0
  refine gr_aload_n (pc := 0) (i := 0) 7 (l0) (show decode (gy_b gY_137) 0 = .ok (.aload_n 0, 1) by decide +kernel) rfl rfl ?_
  refine gr_iload_n (pc := 1) (i := 1) (l1) (show decode (gy_b gY_137) 1 = .ok (.iload_n 1, 1) by decide +kernel) rfl rfl ?_
  refine gj_nn (fun hx2 => ?_)
  refine gj_c0 (pc := 2) (Y' := gY_38) (y := yX7_clientOf) (vs := [gR 7 (l0), gI (l1)]) (rest := []) (rs := fun v1 => [gR 3 (v1)]) [gI (l1), gR 7 (l0)] rfl (hm_38 hG (l0) (l1)) rfl (gh_V (t := 7) (vs := [gI (l1)]) (rest := []) (show decode (gy_b gY_137) 2 = .ok (.invokevirtual 155, 3) by decide +kernel) rfl hx2 rfl rfl (ok_38 (by decide) (by decide)) wd_662 wd_664 wd_9 (Nat.le_of_ble_eq_true rfl)) (fun _ => rfl) ?_
  intro v1 M2 n3 c4
  refine gj_nn (fun hx5 => ?_)
  refine gj_c0 (pc := 5) (Y' := gY_65) (y := yX3_nearBits) (vs := [gR 3 (v1)]) (rest := []) (rs := fun v5 => [gI (v5)]) [gR 3 (v1)] rfl (hm_65 hG (v1)) rfl (gh_V (t := 3) (vs := []) (rest := []) (show decode (gy_b gY_137) 5 = .ok (.invokevirtual 165, 3) by decide +kernel) rfl hx5 rfl rfl (ok_65 (by decide) (by decide)) wd_906 wd_907 wd_908 (Nat.le_of_ble_eq_true rfl)) (fun _ => rfl) ?_
  intro v5 M6 n7 c8
  exact gr_ireturn (pc := 8) (show decode (gy_b gY_137) 8 = .ok (.ireturn, 1) by decide +kernel) rfl rfl (by decide) gv_0
noncomputable def fi_137 (l0 l1 M n c : Nat) (K : Nat → Nat → Nat → Nat → Bool) : Bool := fi_137_L0 K l0 l1 M n c
theorem hm_137 {G : gxG} (hG : gxG0 G) (l0 l1 : Nat) : gxM G gY_137 yX7_near [gR 7 (l0), gI (l1)] (fi_137 l0 l1) := gxM_of (L := [gR 7 (l0), gI (l1)]) hG 0 (by decide +kernel) rfl rfl rfl rfl (List.forall_mem_cons.mpr ⟨rfl, List.forall_mem_cons.mpr ⟨rfl, fun _ h => nomatch h⟩⟩) (fun M n c K => h_137_L0 hG  l0 l1 M n c)
/-! Farfiles hasSeen (II)Z -/
def gY_138 : gxY := (false, prog_1_method_74_code, 4, (Option.some Jvm.ClassFile.FieldType.boolean), "Farfiles", 3, 83, 2, [], "hasSeen")
theorem ok_138 {Y : gxY} (h1 : gy_f gY_138 + 1 ≤ gy_f Y) (h2 : 8 + (gy_l gY_138 + 11) + gy_k gY_138 ≤ gy_k Y) : gh_ok Y gY_138 yX7_hasSeen 2 := ⟨wd_1252, wd_51, ⟨by decide, by decide⟩, by decide +kernel, h1, h2⟩
noncomputable def fi_138_L0 (K : Nat → Nat → Nat → Nat → Bool) (l0 l1 l2 M n c : Nat) : Bool := gx_nn (l0) (fi_99 (l0) (l1) M n c (fun v1 M2 n3 c4 => gx_nn (l0) (fi_99 (l0) (l2) M2 n3 c4 (fun v5 M6 n7 c8 => gx_get (v1) 6 M6 (fun v9 => gx_nn (v9) (fi_69 (v9) (l2) M6 n7 c8 (fun v10 M11 n12 c13 => gx_rt gx_f2 (v10) (K (v10) M11 n12 c13))))))))
theorem h_138_L0 {G : gxG} (hG : gxG0 G) {K : Nat → Nat → Nat → Nat → Bool} (l0 l1 l2 M n c : Nat) : gxJ G gY_138 K 0 [] [gR 7 (l0), gI (l1), gI (l2), gB] M n c (fi_138_L0 K l0 l1 l2 M n c) := by
  unfold fi_138_L0
  refine gr_aload_n (pc := 0) (i := 0) 7 (l0) (show decode (gy_b gY_138) 0 = .ok (.aload_n 0, 1) by decide +kernel) rfl rfl ?_
  refine gr_iload_n (pc := 1) (i := 1) (l1) (show decode (gy_b gY_138) 1 = .ok (.iload_n 1, 1) by decide +kernel) rfl rfl ?_
  refine gj_nn (fun hx2 => ?_)
  refine gj_c0 (pc := 2) (Y' := gY_99) (y := yX7_actOf) (vs := [gR 7 (l0), gI (l1)]) (rest := []) (rs := fun v1 => [gR 0 (v1)]) [gI (l1), gR 7 (l0)] rfl (hm_99 hG (l0) (l1)) rfl (gh_V (t := 7) (vs := [gI (l1)]) (rest := []) (show decode (gy_b gY_138) 2 = .ok (.invokevirtual 421, 3) by decide +kernel) rfl hx2 rfl rfl (ok_99 (by decide) (by decide)) wd_1069 wd_1071 wd_31 (Nat.le_of_ble_eq_true rfl)) (fun _ => rfl) ?_
  intro v1 M2 n3 c4
  refine gr_astore_n (pc := 5) (i := 3) (L' := [gR 7 (l0), gI (l1), gI (l2), gR 0 (v1)]) (show decode (gy_b gY_138) 5 = .ok (.astore_n 3, 1) by decide +kernel) rfl (by decide) rfl rfl ?_
  refine gr_aload_n (pc := 6) (i := 0) 7 (l0) (show decode (gy_b gY_138) 6 = .ok (.aload_n 0, 1) by decide +kernel) rfl rfl ?_
  refine gr_iload_n (pc := 7) (i := 2) (l2) (show decode (gy_b gY_138) 7 = .ok (.iload_n 2, 1) by decide +kernel) rfl rfl ?_
  refine gj_nn (fun hx8 => ?_)
  refine gj_c0 (pc := 8) (Y' := gY_99) (y := yX7_actOf) (vs := [gR 7 (l0), gI (l2)]) (rest := []) (rs := fun v5 => [gR 0 (v5)]) [gI (l2), gR 7 (l0)] rfl (hm_99 hG (l0) (l2)) rfl (gh_V (t := 7) (vs := [gI (l2)]) (rest := []) (show decode (gy_b gY_138) 8 = .ok (.invokevirtual 421, 3) by decide +kernel) rfl hx8 rfl rfl (ok_99 (by decide) (by decide)) wd_1069 wd_1071 wd_31 (Nat.le_of_ble_eq_true rfl)) (fun _ => rfl) ?_
  intro v5 M6 n7 c8
  refine gr_pop (b := gB) (pc := 11) (show decode (gy_b gY_138) 11 = .ok (.pop, 1) by decide +kernel) rfl ?_
  refine gr_aload_n (pc := 12) (i := 3) 0 (v1) (show decode (gy_b gY_138) 12 = .ok (.aload_n 3, 1) by decide +kernel) rfl rfl ?_
  refine gr_getfN (pc := 13) (index := 258) (t := 0) (j := 6) (σ := 9) (sv := (gR 1)) (show decode (gy_b gY_138) 13 = .ok (.getfield 258, 3) by decide +kernel) rfl rfl (fun _ => rfl) wd_153 (by decide) ?_
  intro v9
  refine gr_iload_n (pc := 16) (i := 2) (l2) (show decode (gy_b gY_138) 16 = .ok (.iload_n 2, 1) by decide +kernel) rfl rfl ?_
  refine gj_nn (fun hx17 => ?_)
  refine gj_c0 (pc := 17) (Y' := gY_69) (y := yX1_has) (vs := [gR 1 (v9), gI (l2)]) (rest := []) (rs := fun v10 => [gI (v10)]) [gI (l2), gR 1 (v9)] rfl (hm_69 hG (v9) (l2)) rfl (gh_V (t := 1) (vs := [gI (l2)]) (rest := []) (show decode (gy_b gY_138) 17 = .ok (.invokevirtual 255, 3) by decide +kernel) rfl hx17 rfl rfl (ok_69 (by decide) (by decide)) wd_1038 wd_923 wd_924 (Nat.le_of_ble_eq_true rfl)) (fun _ => rfl) ?_
  intro v10 M11 n12 c13
  exact gr_ireturn (pc := 20) (show decode (gy_b gY_138) 20 = .ok (.ireturn, 1) by decide +kernel) rfl rfl (by decide) gv_2f
noncomputable def fi_138 (l0 l1 l2 M n c : Nat) (K : Nat → Nat → Nat → Nat → Bool) : Bool := fi_138_L0 K l0 l1 l2 M n c
theorem hm_138 {G : gxG} (hG : gxG0 G) (l0 l1 l2 : Nat) : gxM G gY_138 yX7_hasSeen [gR 7 (l0), gI (l1), gI (l2)] (fi_138 l0 l1 l2) := gxM_of (L := [gR 7 (l0), gI (l1), gI (l2), gB]) hG 1 (by decide +kernel) rfl rfl rfl rfl (List.forall_mem_cons.mpr ⟨rfl, List.forall_mem_cons.mpr ⟨rfl, List.forall_mem_cons.mpr ⟨rfl, fun _ h => nomatch h⟩⟩⟩) (fun M n c K => h_138_L0 hG  l0 l1 l2 M n c)
/-! Farfiles hasObject (I)Z -/
def gY_139 : gxY := (false, prog_1_method_12_code, 2, (Option.some Jvm.ClassFile.FieldType.boolean), "Farfiles", 2, 60, 2, [], "hasObject")
theorem ok_139 {Y : gxY} (h1 : gy_f gY_139 + 1 ≤ gy_f Y) (h2 : 8 + (gy_l gY_139 + 11) + gy_k gY_139 ≤ gy_k Y) : gh_ok Y gY_139 yX7_hasObject 1 := ⟨wd_1262, wd_51, ⟨by decide, by decide⟩, by decide +kernel, h1, h2⟩
noncomputable def fi_139_L0 (K : Nat → Nat → Nat → Nat → Bool) (l0 l1 M n c : Nat) : Bool := fi_63 (l1) M n c (fun v1 M2 n3 c4 => gx_eq (v1) 0 (false) (gx_get (l0) 6 M2 (fun v5 => gx_ald (v5) (l1) M2 (fun v6 => gx_eq (v6) 0 (false) (gx_rt gx_f2 (1) (K (1) M2 n3 c4))))))
theorem h_139_L0 {G : gxG} (hG : gxG0 G) {K : Nat → Nat → Nat → Nat → Bool} (l0 l1 M n c : Nat) : gxJ G gY_139 K 0 [] [gR 7 (l0), gI (l1)] M n c (fi_139_L0 K l0 l1 M n c) := by
  unfold fi_139_L0
  refine gr_iload_n (pc := 0) (i := 1) (l1) (show decode (gy_b gY_139) 0 = .ok (.iload_n 1, 1) by decide +kernel) rfl rfl ?_
  refine gj_c0 (pc := 1) (Y' := gY_63) (y := yX7_isObject) (vs := [gI (l1)]) (rest := []) (rs := fun v1 => [gI (v1)]) [gI (l1)] rfl (hm_63 hG (l1)) rfl (gh_S (vs := [gI (l1)]) (rest := []) (show decode (gy_b gY_139) 1 = .ok (.invokestatic 123, 3) by decide +kernel) rfl (ok_63 (by decide) (by decide)) rfl rfl wd_976 wd_904 (Nat.le_of_ble_eq_true rfl)) (fun _ => rfl) ?_
  intro v1 M2 n3 c4
  refine gr_ifeq (pc := 4) (tgt := 20) (off := 16) hG.2.1 (show decode (gy_b gY_139) 4 = .ok (.ifCond .eq (16), 3) by decide +kernel) (by decide) ?_ ?_
  · exact gj_false
  · refine gr_aload_n (pc := 7) (i := 0) 7 (l0) (show decode (gy_b gY_139) 7 = .ok (.aload_n 0, 1) by decide +kernel) rfl rfl ?_
    refine gr_getf (pc := 8) (index := 46) (t := 7) (j := 6) (σ := 74) (sv := (gR 66)) (show decode (gy_b gY_139) 8 = .ok (.getfield 46, 3) by decide +kernel) rfl rfl (fun _ => rfl) wd_300 (by decide) ?_
    intro v5
    refine gr_iload_n (pc := 11) (i := 1) (l1) (show decode (gy_b gY_139) 11 = .ok (.iload_n 1, 1) by decide +kernel) rfl rfl ?_
    refine gr_zald (pc := 12) (show decode (gy_b gY_139) 12 = .ok (.baload, 1) by decide +kernel) ?_
    intro v6
    refine gr_ifeq (pc := 13) (tgt := 20) (off := 7) hG.2.1 (show decode (gy_b gY_139) 13 = .ok (.ifCond .eq (7), 3) by decide +kernel) (by decide) ?_ ?_
    · exact gj_false
    · refine gr_iconst (pc := 16) (z := 1) 1 (show decode (gy_b gY_139) 16 = .ok (.iconst (1), 1) by decide +kernel) kc_1 ?_
      refine gr_goto (pc := 17) (tgt := 21) (off := 4) (show decode (gy_b gY_139) 17 = .ok (.goto (4), 3) by decide +kernel) (by decide) ?_
      exact gr_ireturn (pc := 21) (show decode (gy_b gY_139) 21 = .ok (.ireturn, 1) by decide +kernel) rfl rfl (by decide) gv_2f
noncomputable def fi_139 (l0 l1 M n c : Nat) (K : Nat → Nat → Nat → Nat → Bool) : Bool := fi_139_L0 K l0 l1 M n c
theorem hm_139 {G : gxG} (hG : gxG0 G) (l0 l1 : Nat) : gxM G gY_139 yX7_hasObject [gR 7 (l0), gI (l1)] (fi_139 l0 l1) := gxM_of (L := [gR 7 (l0), gI (l1)]) hG 0 (by decide +kernel) rfl rfl rfl rfl (List.forall_mem_cons.mpr ⟨rfl, List.forall_mem_cons.mpr ⟨rfl, fun _ h => nomatch h⟩⟩) (fun M n c K => h_139_L0 hG  l0 l1 M n c)
/-! Farfiles serverTells (II)I -/
def gY_140 : gxY := (false, prog_1_method_65_code, 4, (Option.some Jvm.ClassFile.FieldType.int), "Farfiles", 6, 153, 0, [], "serverTells")
theorem ok_140 {Y : gxY} (h1 : gy_f gY_140 + 1 ≤ gy_f Y) (h2 : 8 + (gy_l gY_140 + 11) + gy_k gY_140 ≤ gy_k Y) : gh_ok Y gY_140 yX7_serverTells 2 := ⟨wd_1258, wd_51, ⟨by decide, by decide⟩, by decide +kernel, h1, h2⟩
noncomputable def fi_140_L0 (K : Nat → Nat → Nat → Nat → Bool) (l0 l1 l2 M n c : Nat) : Bool := gx_nn (l0) (fi_115 (l0) (l1) M n c (fun v1 M2 n3 c4 => gx_nn (l0) (fi_139 (l0) (l2) M2 n3 c4 (fun v5 M6 n7 c8 => gx_eq (v5) 0 (false) (gx_nn (l0) (fi_130 (l0) (v1) (l2) M6 n7 c8 (fun v9 M10 n11 c12 => gx_rt gx_f0 (v9) (K (v9) M10 n11 c12))))))))
theorem h_140_L0 {G : gxG} (hG : gxG0 G) {K : Nat → Nat → Nat → Nat → Bool} (l0 l1 l2 M n c : Nat) : gxJ G gY_140 K 0 [] [gR 7 (l0), gI (l1), gI (l2), gB] M n c (fi_140_L0 K l0 l1 l2 M n c) := by
  unfold fi_140_L0
  refine gr_aload_n (pc := 0) (i := 0) 7 (l0) (show decode (gy_b gY_140) 0 = .ok (.aload_n 0, 1) by decide +kernel) rfl rfl ?_
  refine gr_iload_n (pc := 1) (i := 1) (l1) (show decode (gy_b gY_140) 1 = .ok (.iload_n 1, 1) by decide +kernel) rfl rfl ?_
  refine gj_nn (fun hx2 => ?_)
  refine gj_c0 (pc := 2) (Y' := gY_115) (y := yX7_serverOf) (vs := [gR 7 (l0), gI (l1)]) (rest := []) (rs := fun v1 => [gR 1 (v1)]) [gI (l1), gR 7 (l0)] rfl (hm_115 hG (l0) (l1)) rfl (gh_V (t := 7) (vs := [gI (l1)]) (rest := []) (show decode (gy_b gY_140) 2 = .ok (.invokevirtual 409, 3) by decide +kernel) rfl hx2 rfl rfl (ok_115 (by decide) (by decide)) wd_1153 wd_1155 wd_36 (Nat.le_of_ble_eq_true rfl)) (fun _ => rfl) ?_
  intro v1 M2 n3 c4
  refine gr_astore_n (pc := 5) (i := 3) (L' := [gR 7 (l0), gI (l1), gI (l2), gR 1 (v1)]) (show decode (gy_b gY_140) 5 = .ok (.astore_n 3, 1) by decide +kernel) rfl (by decide) rfl rfl ?_
  refine gr_aload_n (pc := 6) (i := 0) 7 (l0) (show decode (gy_b gY_140) 6 = .ok (.aload_n 0, 1) by decide +kernel) rfl rfl ?_
  refine gr_iload_n (pc := 7) (i := 2) (l2) (show decode (gy_b gY_140) 7 = .ok (.iload_n 2, 1) by decide +kernel) rfl rfl ?_
  refine gj_nn (fun hx8 => ?_)
  refine gj_c0 (pc := 8) (Y' := gY_139) (y := yX7_hasObject) (vs := [gR 7 (l0), gI (l2)]) (rest := []) (rs := fun v5 => [gI (v5)]) [gI (l2), gR 7 (l0)] rfl (hm_139 hG (l0) (l2)) rfl (gh_V (t := 7) (vs := [gI (l2)]) (rest := []) (show decode (gy_b gY_140) 8 = .ok (.invokevirtual 424, 3) by decide +kernel) rfl hx8 rfl rfl (ok_139 (by decide) (by decide)) wd_1259 wd_1261 wd_41 (Nat.le_of_ble_eq_true rfl)) (fun _ => rfl) ?_
  intro v5 M6 n7 c8
  refine gr_ifne (pc := 11) (tgt := 25) (off := 14) hG.2.1 (show decode (gy_b gY_140) 11 = .ok (.ifCond .ne (14), 3) by decide +kernel) (by decide) ?_ ?_
  · refine gr_aload_n (pc := 25) (i := 0) 7 (l0) (show decode (gy_b gY_140) 25 = .ok (.aload_n 0, 1) by decide +kernel) rfl rfl ?_
    refine gr_aload_n (pc := 26) (i := 3) 1 (v1) (show decode (gy_b gY_140) 26 = .ok (.aload_n 3, 1) by decide +kernel) rfl rfl ?_
    refine gr_iload_n (pc := 27) (i := 2) (l2) (show decode (gy_b gY_140) 27 = .ok (.iload_n 2, 1) by decide +kernel) rfl rfl ?_
    refine gj_nn (fun hx28 => ?_)
    refine gj_c0 (pc := 28) (Y' := gY_130) (y := yX7_tellOf) (vs := [gR 7 (l0), gR 1 (v1), gI (l2)]) (rest := []) (rs := fun v9 => [gI (v9)]) [gI (l2), gR 1 (v1), gR 7 (l0)] rfl (hm_130 hG (l0) (v1) (l2)) rfl (gh_V (t := 7) (vs := [gR 1 (v1), gI (l2)]) (rest := []) (show decode (gy_b gY_140) 28 = .ok (.invokevirtual 356, 3) by decide +kernel) rfl hx28 rfl rfl (ok_130 (by decide) (by decide)) wd_1182 wd_1184 wd_39 (Nat.le_of_ble_eq_true rfl)) (fun _ => rfl) ?_
    intro v9 M10 n11 c12
    exact gr_ireturn (pc := 31) (show decode (gy_b gY_140) 31 = .ok (.ireturn, 1) by decide +kernel) rfl rfl (by decide) gv_0
  · exact gj_false
noncomputable def fi_140 (l0 l1 l2 M n c : Nat) (K : Nat → Nat → Nat → Nat → Bool) : Bool := fi_140_L0 K l0 l1 l2 M n c
theorem hm_140 {G : gxG} (hG : gxG0 G) (l0 l1 l2 : Nat) : gxM G gY_140 yX7_serverTells [gR 7 (l0), gI (l1), gI (l2)] (fi_140 l0 l1 l2) := gxM_of (L := [gR 7 (l0), gI (l1), gI (l2), gB]) hG 1 (by decide +kernel) rfl rfl rfl rfl (List.forall_mem_cons.mpr ⟨rfl, List.forall_mem_cons.mpr ⟨rfl, List.forall_mem_cons.mpr ⟨rfl, fun _ h => nomatch h⟩⟩⟩) (fun M n c K => h_140_L0 hG  l0 l1 l2 M n c)
/-! FarfilesLaw areStored ()Z -/
def gY_141 : gxY := (false, method_13_code, 11, (Option.some Jvm.ClassFile.FieldType.boolean), "FarfilesLaw", 13, 250, 2, [], "areStored")
theorem ok_141 {Y : gxY} (h1 : gy_f gY_141 + 1 ≤ gy_f Y) (h2 : 8 + (gy_l gY_141 + 11) + gy_k gY_141 ≤ gy_k Y) : gh_ok Y gY_141 yL_areStored 0 := ⟨wd_385, wd_50, ⟨by decide, by decide⟩, by decide +kernel, h1, h2⟩
noncomputable def fi_141_L644 (T : Nat) (K : Nat → Nat → Nat → Nat → Bool) (l0 l1 l3 l4 l5 M n c : Nat) : Bool := gx_nn (l0) (fi_136 (l0) (l1) (l3) (l4) M n c (fun v372 M373 n374 c375 => gx_eq (v372) 0 (false) (gx_get (l0) 3 M373 (fun v376 => gx_nn (v376) (fi_140 (v376) (2) (l5) M373 n374 c375 (fun v377 M378 n379 c380 => gx_eq (v377) (1) (gx_rt gx_f2 (1) (K (1) M378 n379 c380)) (false)))))))
theorem h_141_L644 {G : gxG} (hG : gxG0 G) (T : Nat) (hdr : ∀ x nn : Nat, gxM G gY_draw yL_draw [gR 10 x, gI nn] (fd_draw T x nn)) {K : Nat → Nat → Nat → Nat → Bool} (l0 l1 l3 l4 l5 M n c : Nat) : gxJ G gY_141 K 644 [] [gR 10 (l0), gI (l1), gB, gR 8 (l3), gR 8 (l4), gI (l5), gB, gB, gB, gB, gB] M n c (fi_141_L644 T K l0 l1 l3 l4 l5 M n c) := by
  unfold fi_141_L644
  refine gr_aload_n (pc := 644) (i := 0) 10 (l0) (show decode (gy_b gY_141) 644 = .ok (.aload_n 0, 1) by decide +kernel) rfl rfl ?_
  refine gr_iload_n (pc := 645) (i := 1) (l1) (show decode (gy_b gY_141) 645 = .ok (.iload_n 1, 1) by decide +kernel) rfl rfl ?_
  refine gr_aload_n (pc := 646) (i := 3) 8 (l3) (show decode (gy_b gY_141) 646 = .ok (.aload_n 3, 1) by decide +kernel) rfl rfl ?_
  refine gr_aload (pc := 647) (i := 4) 8 (l4) (show decode (gy_b gY_141) 647 = .ok (.aload 4, 2) by decide +kernel) rfl ?_
  refine gj_nn (fun hx649 => ?_)
  refine gj_c0 (pc := 649) (Y' := gY_136) (y := yL_isText) (vs := [gR 10 (l0), gI (l1), gR 8 (l3), gR 8 (l4)]) (rest := []) (rs := fun v372 => [gI (v372)]) [gR 8 (l4), gR 8 (l3), gI (l1), gR 10 (l0)] rfl (hm_136 hG (l0) (l1) (l3) (l4)) rfl (gh_V (t := 10) (vs := [gI (l1), gR 8 (l3), gR 8 (l4)]) (rest := []) (show decode (gy_b gY_141) 649 = .ok (.invokevirtual 162, 3) by decide +kernel) rfl hx649 rfl rfl (ok_136 (by decide) (by decide)) wd_1170 wd_1172 wd_37 (Nat.le_of_ble_eq_true rfl)) (fun _ => rfl) ?_
  intro v372 M373 n374 c375
  refine gr_ifeq (pc := 652) (tgt := 673) (off := 21) hG.2.1 (show decode (gy_b gY_141) 652 = .ok (.ifCond .eq (21), 3) by decide +kernel) (by decide) ?_ ?_
  · exact gj_false
  · refine gr_aload_n (pc := 655) (i := 0) 10 (l0) (show decode (gy_b gY_141) 655 = .ok (.aload_n 0, 1) by decide +kernel) rfl rfl ?_
    refine gr_getf (pc := 656) (index := 10) (t := 10) (j := 3) (σ := 15) (sv := (gR 7)) (show decode (gy_b gY_141) 656 = .ok (.getfield 10, 3) by decide +kernel) rfl rfl (fun _ => rfl) wd_346 (by decide) ?_
    intro v376
    refine gr_iconst (pc := 659) (z := 2) 2 (show decode (gy_b gY_141) 659 = .ok (.iconst (2), 1) by decide +kernel) kc_2 ?_
    refine gr_iload (pc := 660) (i := 5) (l5) (show decode (gy_b gY_141) 660 = .ok (.iload 5, 2) by decide +kernel) rfl ?_
    refine gj_nn (fun hx662 => ?_)
    refine gj_c0 (pc := 662) (Y' := gY_140) (y := yX7_serverTells) (vs := [gR 7 (v376), gI (2), gI (l5)]) (rest := []) (rs := fun v377 => [gI (v377)]) [gI (l5), gI (2), gR 7 (v376)] rfl (hm_140 hG (v376) (2) (l5)) rfl (gh_V (t := 7) (vs := [gI (2), gI (l5)]) (rest := []) (show decode (gy_b gY_141) 662 = .ok (.invokevirtual 180, 3) by decide +kernel) rfl hx662 rfl rfl (ok_140 (by decide) (by decide)) wd_1255 wd_1256 wd_1257 (Nat.le_of_ble_eq_true rfl)) (fun _ => rfl) ?_
    intro v377 M378 n379 c380
    refine gr_iconst (pc := 665) (z := 1) 1 (show decode (gy_b gY_141) 665 = .ok (.iconst (1), 1) by decide +kernel) kc_1 ?_
    refine gr_icmp_ne (pc := 666) (tgt := 673) (off := 7) hG.2.1 (show decode (gy_b gY_141) 666 = .ok (.if_icmp .ne (7), 3) by decide +kernel) (by decide) ?_ ?_
    · exact gj_false
    · refine gr_iconst (pc := 669) (z := 1) 1 (show decode (gy_b gY_141) 669 = .ok (.iconst (1), 1) by decide +kernel) kc_1 ?_
      refine gr_goto (pc := 670) (tgt := 674) (off := 4) (show decode (gy_b gY_141) 670 = .ok (.goto (4), 3) by decide +kernel) (by decide) ?_
      exact gr_ireturn (pc := 674) (show decode (gy_b gY_141) 674 = .ok (.ireturn, 1) by decide +kernel) rfl rfl (by decide) gv_2f
noncomputable def fi_141_L590 (T : Nat) (K : Nat → Nat → Nat → Nat → Bool) (l0 l1 l2 l3 l4 l5 l6 s0 M n c : Nat) : Bool := gx_new 4 n c (fun v332 n333 c334 => gx_nn (v332) (fi_10 (v332) M n333 c334 (fun v335 M336 n337 c338 => gx_nn (v332) (fi_18 (v332) (l3) M336 n337 c338 (fun v339 M340 n341 c342 => gx_nn (v339) (fi_18 (v339) (9) M340 n341 c342 (fun v343 M344 n345 c346 => gx_nn (v343) (fi_18 (v343) (l4) M344 n345 c346 (fun v347 M348 n349 c350 => gx_nn (v347) (fi_31 (v347) M348 n349 c350 (fun v351 M352 n353 c354 => gx_nn (s0) (fi_49 (s0) (v351) M352 n353 c354 (fun v355 M356 n357 c358 => gx_get (l0) 3 M356 (fun v359 => gx_nn (v359) (fi_104 (v359) (l2) M356 n357 c358 (fun v360 M361 n362 c363 => gx_nn (l0) (fi_112 (l0) (l2) M361 n362 c363 (fun v364 M365 n366 c367 => gx_eq (l6) 0 (false) (gx_nn (l0) (fi_120 (l0) M365 n366 c367 (fun v368 M369 n370 c371 => gx_eq (v368) 0 (false) (fi_141_L644 T K (l0) (l1) (l3) (l4) (l5) M369 n370 c371))))))))))))))))))))))
theorem h_141_L590 {G : gxG} (hG : gxG0 G) (T : Nat) (hdr : ∀ x nn : Nat, gxM G gY_draw yL_draw [gR 10 x, gI nn] (fd_draw T x nn)) {K : Nat → Nat → Nat → Nat → Bool} (l0 l1 l2 l3 l4 l5 l6 s0 M n c : Nat) : gxJ G gY_141 K 590 [gR 10 (s0)] [gR 10 (l0), gI (l1), gI (l2), gR 8 (l3), gR 8 (l4), gI (l5), gI (l6), gB, gB, gB, gB] M n c (fi_141_L590 T K l0 l1 l2 l3 l4 l5 l6 s0 M n c) := by
  unfold fi_141_L590
  refine gr_newo (pc := 590) (index := 62) (t := 9) (show decode (gy_b gY_141) 590 = .ok (.new 62, 3) by decide +kernel) rfl wd_390 wd_391 wd_60 ?_
  intro v332 n333 c334
  refine gr_dup (b := gB) (pc := 593) (show decode (gy_b gY_141) 593 = .ok (.dup, 1) by decide +kernel) rfl ?_
  refine gj_nn (fun hx594 => ?_)
  refine gj_c0 (pc := 594) (Y' := gY_10) (y := yJ4_init_da8c8) (vs := [gR 9 (v332)]) (rest := [gR 9 (v332), gR 10 (s0)]) (rs := fun v335 => [gR 9 (v332), gR 10 (s0)]) [gR 9 (v332)] rfl (hm_10 hG (v332)) rfl (gh_I (t := 9) (vs := []) (rest := [gR 9 (v332), gR 10 (s0)]) (show decode (gy_b gY_141) 594 = .ok (.invokespecial 64, 3) by decide +kernel) rfl hx594 rfl (ok_10 (by decide) (by decide)) rfl rfl rfl rfl wd_392 wd_393 (Nat.le_of_ble_eq_true rfl)) (fun _ => rfl) ?_
  intro v335 M336 n337 c338
  refine gr_aload_n (pc := 597) (i := 3) 8 (l3) (show decode (gy_b gY_141) 597 = .ok (.aload_n 3, 1) by decide +kernel) rfl rfl ?_
  refine gj_nn (fun hx598 => ?_)
  refine gj_c0 (pc := 598) (Y' := gY_18) (y := yJ4_append_15ec4) (vs := [gR 9 (v332), gR 8 (l3)]) (rest := [gR 10 (s0)]) (rs := fun v339 => [gR 9 (v339), gR 10 (s0)]) [gR 8 (l3), gR 9 (v332)] rfl (hm_18 hG (v332) (l3)) rfl (gh_V (t := 9) (vs := [gR 8 (l3)]) (rest := [gR 10 (s0)]) (show decode (gy_b gY_141) 598 = .ok (.invokevirtual 67, 3) by decide +kernel) rfl hx598 rfl rfl (ok_18 (by decide) (by decide)) wd_423 wd_424 wd_425 (Nat.le_of_ble_eq_true rfl)) (fun _ => rfl) ?_
  intro v339 M340 n341 c342
  refine gr_ldcS (pc := 601) (index := 146) (b := 9) (tx := "=") rfl (show decode (gy_b gY_141) 601 = .ok (.ldc 146, 2) by decide +kernel) (by decide) (by decide) (by decide) ?_
  refine gj_nn (fun hx603 => ?_)
  refine gj_c0 (pc := 603) (Y' := gY_18) (y := yJ4_append_15ec4) (vs := [gR 9 (v339), gR 8 (9)]) (rest := [gR 10 (s0)]) (rs := fun v343 => [gR 9 (v343), gR 10 (s0)]) [gR 8 (9), gR 9 (v339)] rfl (hm_18 hG (v339) (9)) rfl (gh_V (t := 9) (vs := [gR 8 (9)]) (rest := [gR 10 (s0)]) (show decode (gy_b gY_141) 603 = .ok (.invokevirtual 67, 3) by decide +kernel) rfl hx603 rfl rfl (ok_18 (by decide) (by decide)) wd_423 wd_424 wd_425 (Nat.le_of_ble_eq_true rfl)) (fun _ => rfl) ?_
  intro v343 M344 n345 c346
  refine gr_aload (pc := 606) (i := 4) 8 (l4) (show decode (gy_b gY_141) 606 = .ok (.aload 4, 2) by decide +kernel) rfl ?_
  refine gj_nn (fun hx608 => ?_)
  refine gj_c0 (pc := 608) (Y' := gY_18) (y := yJ4_append_15ec4) (vs := [gR 9 (v343), gR 8 (l4)]) (rest := [gR 10 (s0)]) (rs := fun v347 => [gR 9 (v347), gR 10 (s0)]) [gR 8 (l4), gR 9 (v343)] rfl (hm_18 hG (v343) (l4)) rfl (gh_V (t := 9) (vs := [gR 8 (l4)]) (rest := [gR 10 (s0)]) (show decode (gy_b gY_141) 608 = .ok (.invokevirtual 67, 3) by decide +kernel) rfl hx608 rfl rfl (ok_18 (by decide) (by decide)) wd_423 wd_424 wd_425 (Nat.le_of_ble_eq_true rfl)) (fun _ => rfl) ?_
  intro v347 M348 n349 c350
  refine gj_nn (fun hx611 => ?_)
  refine gj_c0 (pc := 611) (Y' := gY_31) (y := yJ4_toString_0e30d) (vs := [gR 9 (v347)]) (rest := [gR 10 (s0)]) (rs := fun v351 => [gR 8 (v351), gR 10 (s0)]) [gR 9 (v347)] rfl (hm_31 hG (v347)) rfl (gh_V (t := 9) (vs := []) (rest := [gR 10 (s0)]) (show decode (gy_b gY_141) 611 = .ok (.invokevirtual 78, 3) by decide +kernel) rfl hx611 rfl rfl (ok_31 (by decide) (by decide)) wd_565 wd_566 wd_567 (Nat.le_of_ble_eq_true rfl)) (fun _ => rfl) ?_
  intro v351 M352 n353 c354
  refine gj_nn (fun hx614 => ?_)
  refine gj_c0 (pc := 614) (Y' := gY_49) (y := yL_types) (vs := [gR 10 (s0), gR 8 (v351)]) (rest := []) (rs := fun v355 => []) [gR 8 (v351), gR 10 (s0)] rfl (hm_49 hG (s0) (v351)) rfl (gh_V (t := 10) (vs := [gR 8 (v351)]) (rest := []) (show decode (gy_b gY_141) 614 = .ok (.invokevirtual 108, 3) by decide +kernel) rfl hx614 rfl rfl (ok_49 (by decide) (by decide)) wd_736 wd_738 wd_11 (Nat.le_of_ble_eq_true rfl)) (fun _ => rfl) ?_
  intro v355 M356 n357 c358
  refine gr_aload_n (pc := 617) (i := 0) 10 (l0) (show decode (gy_b gY_141) 617 = .ok (.aload_n 0, 1) by decide +kernel) rfl rfl ?_
  refine gr_getf (pc := 618) (index := 10) (t := 10) (j := 3) (σ := 15) (sv := (gR 7)) (show decode (gy_b gY_141) 618 = .ok (.getfield 10, 3) by decide +kernel) rfl rfl (fun _ => rfl) wd_346 (by decide) ?_
  intro v359
  refine gr_iload_n (pc := 621) (i := 2) (l2) (show decode (gy_b gY_141) 621 = .ok (.iload_n 2, 1) by decide +kernel) rfl rfl ?_
  refine gj_nn (fun hx622 => ?_)
  refine gj_c0 (pc := 622) (Y' := gY_104) (y := yX7_store) (vs := [gR 7 (v359), gI (l2)]) (rest := []) (rs := fun v360 => [gI (v360)]) [gI (l2), gR 7 (v359)] rfl (hm_104 hG (v359) (l2)) rfl (gh_V (t := 7) (vs := [gI (l2)]) (rest := []) (show decode (gy_b gY_141) 622 = .ok (.invokevirtual 148, 3) by decide +kernel) rfl hx622 rfl rfl (ok_104 (by decide) (by decide)) wd_1094 wd_1095 wd_1096 (Nat.le_of_ble_eq_true rfl)) (fun _ => rfl) ?_
  intro v360 M361 n362 c363
  refine gr_istore (pc := 625) (i := 10) (L' := [gR 10 (l0), gI (l1), gI (l2), gR 8 (l3), gR 8 (l4), gI (l5), gI (l6), gB, gB, gB, gI (v360)]) (show decode (gy_b gY_141) 625 = .ok (.istore 10, 2) by decide +kernel) (by decide) rfl rfl ?_
  refine gr_aload_n (pc := 627) (i := 0) 10 (l0) (show decode (gy_b gY_141) 627 = .ok (.aload_n 0, 1) by decide +kernel) rfl rfl ?_
  refine gr_iload_n (pc := 628) (i := 2) (l2) (show decode (gy_b gY_141) 628 = .ok (.iload_n 2, 1) by decide +kernel) rfl rfl ?_
  refine gj_nn (fun hx629 => ?_)
  refine gj_c0 (pc := 629) (Y' := gY_112) (y := yL_brings) (vs := [gR 10 (l0), gI (l2)]) (rest := []) (rs := fun v364 => []) [gI (l2), gR 10 (l0)] rfl (hm_112 hG (l0) (l2)) rfl (gh_V (t := 10) (vs := [gI (l2)]) (rest := []) (show decode (gy_b gY_141) 629 = .ok (.invokevirtual 154, 3) by decide +kernel) rfl hx629 rfl rfl (ok_112 (by decide) (by decide)) wd_1111 wd_1113 wd_33 (Nat.le_of_ble_eq_true rfl)) (fun _ => rfl) ?_
  intro v364 M365 n366 c367
  refine gr_iload (pc := 632) (i := 6) (l6) (show decode (gy_b gY_141) 632 = .ok (.iload 6, 2) by decide +kernel) rfl ?_
  refine gr_ifeq (pc := 634) (tgt := 673) (off := 39) hG.2.1 (show decode (gy_b gY_141) 634 = .ok (.ifCond .eq (39), 3) by decide +kernel) (by decide) ?_ ?_
  · exact gj_false
  · refine gr_aload_n (pc := 637) (i := 0) 10 (l0) (show decode (gy_b gY_141) 637 = .ok (.aload_n 0, 1) by decide +kernel) rfl rfl ?_
    refine gj_nn (fun hx638 => ?_)
    refine gj_c0 (pc := 638) (Y' := gY_120) (y := yL_hears) (vs := [gR 10 (l0)]) (rest := []) (rs := fun v368 => [gI (v368)]) [gR 10 (l0)] rfl (hm_120 hG (l0)) rfl (gh_V (t := 10) (vs := []) (rest := []) (show decode (gy_b gY_141) 638 = .ok (.invokevirtual 158, 3) by decide +kernel) rfl hx638 rfl rfl (ok_120 (by decide) (by decide)) wd_1135 wd_1137 wd_34 (Nat.le_of_ble_eq_true rfl)) (fun _ => rfl) ?_
    intro v368 M369 n370 c371
    refine gr_ifeq (pc := 641) (tgt := 673) (off := 32) hG.2.1 (show decode (gy_b gY_141) 641 = .ok (.ifCond .eq (32), 3) by decide +kernel) (by decide) ?_ ?_
    · exact gj_false
    · refine gr_wk [true, true, false, true, true, true, false, true, true, true, false] rfl ?_
      exact h_141_L644 hG T hdr (l0) (l1) (l3) (l4) (l5) M369 n370 c371
noncomputable def fi_141_L540 (T : Nat) (K : Nat → Nat → Nat → Nat → Bool) (l0 l1 l2 l3 l4 l5 s0 M n c : Nat) : Bool := gx_get (s0) 3 M (fun v312 => gx_nn (v312) (fi_132 (v312) (l1) M n c (fun v313 M314 n315 c316 => gx_eq (v313) (2) (gx_get (l0) 3 M314 (fun v317 => gx_nn (v317) (fi_134 (v317) (1) M314 n315 c316 (fun v318 M319 n320 c321 => gx_nn (l4) (fi_12 (l4) M319 n320 c321 (fun v322 M323 n324 c325 => gx_add (v322) (1) (fun z326 => gx_eq (v318) (z326) (gx_get (l0) 3 M323 (fun v327 => gx_nn (v327) (fi_135 (v327) (0) M323 n324 c325 (fun v328 M329 n330 c331 => gx_eq (v328) (50) (fi_141_L590 T K (l0) (l1) (l2) (l3) (l4) (l5) (1) (l0) M329 n330 c331) (false))))) (false)))))))) (false))))
theorem h_141_L540 {G : gxG} (hG : gxG0 G) (T : Nat) (hdr : ∀ x nn : Nat, gxM G gY_draw yL_draw [gR 10 x, gI nn] (fd_draw T x nn)) {K : Nat → Nat → Nat → Nat → Bool} (l0 l1 l2 l3 l4 l5 s0 M n c : Nat) : gxJ G gY_141 K 540 [gR 10 (s0)] [gR 10 (l0), gI (l1), gI (l2), gR 8 (l3), gR 8 (l4), gI (l5), gB, gB, gB, gB, gB] M n c (fi_141_L540 T K l0 l1 l2 l3 l4 l5 s0 M n c) := by
  unfold fi_141_L540
  refine gr_getf (pc := 540) (index := 10) (t := 10) (j := 3) (σ := 15) (sv := (gR 7)) (show decode (gy_b gY_141) 540 = .ok (.getfield 10, 3) by decide +kernel) rfl rfl (fun _ => rfl) wd_346 (by decide) ?_
  intro v312
  refine gr_iload_n (pc := 543) (i := 1) (l1) (show decode (gy_b gY_141) 543 = .ok (.iload_n 1, 1) by decide +kernel) rfl rfl ?_
  refine gj_nn (fun hx544 => ?_)
  refine gj_c0 (pc := 544) (Y' := gY_132) (y := yX7_read) (vs := [gR 7 (v312), gI (l1)]) (rest := []) (rs := fun v313 => [gI (v313)]) [gI (l1), gR 7 (v312)] rfl (hm_132 hG (v312) (l1)) rfl (gh_V (t := 7) (vs := [gI (l1)]) (rest := []) (show decode (gy_b gY_141) 544 = .ok (.invokevirtual 112, 3) by decide +kernel) rfl hx544 rfl rfl (ok_132 (by decide) (by decide)) wd_1174 wd_1175 wd_1176 (Nat.le_of_ble_eq_true rfl)) (fun _ => rfl) ?_
  intro v313 M314 n315 c316
  refine gr_iconst (pc := 547) (z := 2) 2 (show decode (gy_b gY_141) 547 = .ok (.iconst (2), 1) by decide +kernel) kc_2 ?_
  refine gr_icmp_ne (pc := 548) (tgt := 586) (off := 38) hG.2.1 (show decode (gy_b gY_141) 548 = .ok (.if_icmp .ne (38), 3) by decide +kernel) (by decide) ?_ ?_
  · exact gj_false
  · refine gr_aload_n (pc := 551) (i := 0) 10 (l0) (show decode (gy_b gY_141) 551 = .ok (.aload_n 0, 1) by decide +kernel) rfl rfl ?_
    refine gr_getf (pc := 552) (index := 10) (t := 10) (j := 3) (σ := 15) (sv := (gR 7)) (show decode (gy_b gY_141) 552 = .ok (.getfield 10, 3) by decide +kernel) rfl rfl (fun _ => rfl) wd_346 (by decide) ?_
    intro v317
    refine gr_iconst (pc := 555) (z := 1) 1 (show decode (gy_b gY_141) 555 = .ok (.iconst (1), 1) by decide +kernel) kc_1 ?_
    refine gj_nn (fun hx556 => ?_)
    refine gj_c0 (pc := 556) (Y' := gY_134) (y := yX7_answer) (vs := [gR 7 (v317), gI (1)]) (rest := []) (rs := fun v318 => [gI (v318)]) [gI (1), gR 7 (v317)] rfl (hm_134 hG (v317) (1)) rfl (gh_V (t := 7) (vs := [gI (1)]) (rest := []) (show decode (gy_b gY_141) 556 = .ok (.invokevirtual 115, 3) by decide +kernel) rfl hx556 rfl rfl (ok_134 (by decide) (by decide)) wd_1225 wd_1226 wd_1227 (Nat.le_of_ble_eq_true rfl)) (fun _ => rfl) ?_
    intro v318 M319 n320 c321
    refine gr_aload (pc := 559) (i := 4) 8 (l4) (show decode (gy_b gY_141) 559 = .ok (.aload 4, 2) by decide +kernel) rfl ?_
    refine gj_nn (fun hx561 => ?_)
    refine gj_c0 (pc := 561) (Y' := gY_12) (y := yJ0_length_8abf5) (vs := [gR 8 (l4)]) (rest := [gI (v318)]) (rs := fun v322 => [gI (v322), gI (v318)]) [gR 8 (l4)] rfl (hm_12 hG (l4)) rfl (gh_V (t := 8) (vs := []) (rest := [gI (v318)]) (show decode (gy_b gY_141) 561 = .ok (.invokevirtual 49, 3) by decide +kernel) rfl hx561 rfl rfl (ok_12 (by decide) (by decide)) wd_748 wd_501 wd_502 (Nat.le_of_ble_eq_true rfl)) (fun _ => rfl) ?_
    intro v322 M323 n324 c325
    refine gr_iconst (pc := 564) (z := 1) 1 (show decode (gy_b gY_141) 564 = .ok (.iconst (1), 1) by decide +kernel) kc_1 ?_
    refine gr_iadd (pc := 565) (show decode (gy_b gY_141) 565 = .ok (.iadd, 1) by decide +kernel) ?_
    intro z326
    refine gr_icmp_ne (pc := 566) (tgt := 586) (off := 20) hG.2.1 (show decode (gy_b gY_141) 566 = .ok (.if_icmp .ne (20), 3) by decide +kernel) (by decide) ?_ ?_
    · exact gj_false
    · refine gr_aload_n (pc := 569) (i := 0) 10 (l0) (show decode (gy_b gY_141) 569 = .ok (.aload_n 0, 1) by decide +kernel) rfl rfl ?_
      refine gr_getf (pc := 570) (index := 10) (t := 10) (j := 3) (σ := 15) (sv := (gR 7)) (show decode (gy_b gY_141) 570 = .ok (.getfield 10, 3) by decide +kernel) rfl rfl (fun _ => rfl) wd_346 (by decide) ?_
      intro v327
      refine gr_iconst (pc := 573) (z := 0) 0 (show decode (gy_b gY_141) 573 = .ok (.iconst (0), 1) by decide +kernel) kc_0 ?_
      refine gj_nn (fun hx574 => ?_)
      refine gj_c0 (pc := 574) (Y' := gY_135) (y := yX7_signAt) (vs := [gR 7 (v327), gI (0)]) (rest := []) (rs := fun v328 => [gI (v328)]) [gI (0), gR 7 (v327)] rfl (hm_135 hG (v327) (0)) rfl (gh_V (t := 7) (vs := [gI (0)]) (rest := []) (show decode (gy_b gY_141) 574 = .ok (.invokevirtual 118, 3) by decide +kernel) rfl hx574 rfl rfl (ok_135 (by decide) (by decide)) wd_1237 wd_1238 wd_1239 (Nat.le_of_ble_eq_true rfl)) (fun _ => rfl) ?_
      intro v328 M329 n330 c331
      refine gr_bipush (pc := 577) (z := 50) 50 (show decode (gy_b gY_141) 577 = .ok (.bipush (50), 2) by decide +kernel) (by decide +kernel) ?_
      refine gr_icmp_ne (pc := 579) (tgt := 586) (off := 7) hG.2.1 (show decode (gy_b gY_141) 579 = .ok (.if_icmp .ne (7), 3) by decide +kernel) (by decide) ?_ ?_
      · exact gj_false
      · refine gr_iconst (pc := 582) (z := 1) 1 (show decode (gy_b gY_141) 582 = .ok (.iconst (1), 1) by decide +kernel) kc_1 ?_
        refine gr_goto (pc := 583) (tgt := 587) (off := 4) (show decode (gy_b gY_141) 583 = .ok (.goto (4), 3) by decide +kernel) (by decide) ?_
        refine gr_istore (pc := 587) (i := 6) (L' := [gR 10 (l0), gI (l1), gI (l2), gR 8 (l3), gR 8 (l4), gI (l5), gI (1), gB, gB, gB, gB]) (show decode (gy_b gY_141) 587 = .ok (.istore 6, 2) by decide +kernel) (by decide) rfl rfl ?_
        refine gr_aload_n (pc := 589) (i := 0) 10 (l0) (show decode (gy_b gY_141) 589 = .ok (.aload_n 0, 1) by decide +kernel) rfl rfl ?_
        exact h_141_L590 hG T hdr (l0) (l1) (l2) (l3) (l4) (l5) (1) (l0) M329 n330 c331
noncomputable def fi_141_L498 (T : Nat) (K : Nat → Nat → Nat → Nat → Bool) (l0 l1 l2 l3 l4 l5 s0 M n c : Nat) : Bool := gx_nn (l0) (fi_40 (l0) (l1) (1) M n c (fun v288 M289 n290 c291 => gx_nn (l0) (fi_40 (l0) (l2) (1) M289 n290 c291 (fun v292 M293 n294 c295 => gx_nn (l0) (fi_112 (l0) (l1) M293 n294 c295 (fun v296 M297 n298 c299 => gx_nn (l0) (fi_112 (l0) (l2) M297 n298 c299 (fun v300 M301 n302 c303 => gx_nn (l0) (fi_49 (l0) (l3) M301 n302 c303 (fun v304 M305 n306 c307 => gx_eq (s0) 0 (false) (gx_nn (l0) (fi_120 (l0) M305 n306 c307 (fun v308 M309 n310 c311 => gx_eq (v308) 0 (false) (fi_141_L540 T K (l0) (l1) (l2) (l3) (l4) (l5) (l0) M309 n310 c311))))))))))))))
theorem h_141_L498 {G : gxG} (hG : gxG0 G) (T : Nat) (hdr : ∀ x nn : Nat, gxM G gY_draw yL_draw [gR 10 x, gI nn] (fd_draw T x nn)) {K : Nat → Nat → Nat → Nat → Bool} (l0 l1 l2 l3 l4 l5 s0 M n c : Nat) : gxJ G gY_141 K 498 [gI (s0)] [gR 10 (l0), gI (l1), gI (l2), gR 8 (l3), gR 8 (l4), gI (l5), gB, gB, gB, gB, gB] M n c (fi_141_L498 T K l0 l1 l2 l3 l4 l5 s0 M n c) := by
  unfold fi_141_L498
  refine gr_istore (pc := 498) (i := 6) (L' := [gR 10 (l0), gI (l1), gI (l2), gR 8 (l3), gR 8 (l4), gI (l5), gI (s0), gB, gB, gB, gB]) (show decode (gy_b gY_141) 498 = .ok (.istore 6, 2) by decide +kernel) (by decide) rfl rfl ?_
  refine gr_aload_n (pc := 500) (i := 0) 10 (l0) (show decode (gy_b gY_141) 500 = .ok (.aload_n 0, 1) by decide +kernel) rfl rfl ?_
  refine gr_iload_n (pc := 501) (i := 1) (l1) (show decode (gy_b gY_141) 501 = .ok (.iload_n 1, 1) by decide +kernel) rfl rfl ?_
  refine gr_iconst (pc := 502) (z := 1) 1 (show decode (gy_b gY_141) 502 = .ok (.iconst (1), 1) by decide +kernel) kc_1 ?_
  refine gj_nn (fun hx503 => ?_)
  refine gj_c0 (pc := 503) (Y' := gY_40) (y := yL_links) (vs := [gR 10 (l0), gI (l1), gI (1)]) (rest := []) (rs := fun v288 => []) [gI (1), gI (l1), gR 10 (l0)] rfl (hm_40 hG (l0) (l1) (1)) rfl (gh_V (t := 10) (vs := [gI (l1), gI (1)]) (rest := []) (show decode (gy_b gY_141) 503 = .ok (.invokevirtual 130, 3) by decide +kernel) rfl hx503 rfl rfl (ok_40 (by decide) (by decide)) wd_654 wd_656 wd_8 (Nat.le_of_ble_eq_true rfl)) (fun _ => rfl) ?_
  intro v288 M289 n290 c291
  refine gr_aload_n (pc := 506) (i := 0) 10 (l0) (show decode (gy_b gY_141) 506 = .ok (.aload_n 0, 1) by decide +kernel) rfl rfl ?_
  refine gr_iload_n (pc := 507) (i := 2) (l2) (show decode (gy_b gY_141) 507 = .ok (.iload_n 2, 1) by decide +kernel) rfl rfl ?_
  refine gr_iconst (pc := 508) (z := 1) 1 (show decode (gy_b gY_141) 508 = .ok (.iconst (1), 1) by decide +kernel) kc_1 ?_
  refine gj_nn (fun hx509 => ?_)
  refine gj_c0 (pc := 509) (Y' := gY_40) (y := yL_links) (vs := [gR 10 (l0), gI (l2), gI (1)]) (rest := []) (rs := fun v292 => []) [gI (1), gI (l2), gR 10 (l0)] rfl (hm_40 hG (l0) (l2) (1)) rfl (gh_V (t := 10) (vs := [gI (l2), gI (1)]) (rest := []) (show decode (gy_b gY_141) 509 = .ok (.invokevirtual 130, 3) by decide +kernel) rfl hx509 rfl rfl (ok_40 (by decide) (by decide)) wd_654 wd_656 wd_8 (Nat.le_of_ble_eq_true rfl)) (fun _ => rfl) ?_
  intro v292 M293 n294 c295
  refine gr_aload_n (pc := 512) (i := 0) 10 (l0) (show decode (gy_b gY_141) 512 = .ok (.aload_n 0, 1) by decide +kernel) rfl rfl ?_
  refine gr_iload_n (pc := 513) (i := 1) (l1) (show decode (gy_b gY_141) 513 = .ok (.iload_n 1, 1) by decide +kernel) rfl rfl ?_
  refine gj_nn (fun hx514 => ?_)
  refine gj_c0 (pc := 514) (Y' := gY_112) (y := yL_brings) (vs := [gR 10 (l0), gI (l1)]) (rest := []) (rs := fun v296 => []) [gI (l1), gR 10 (l0)] rfl (hm_112 hG (l0) (l1)) rfl (gh_V (t := 10) (vs := [gI (l1)]) (rest := []) (show decode (gy_b gY_141) 514 = .ok (.invokevirtual 154, 3) by decide +kernel) rfl hx514 rfl rfl (ok_112 (by decide) (by decide)) wd_1111 wd_1113 wd_33 (Nat.le_of_ble_eq_true rfl)) (fun _ => rfl) ?_
  intro v296 M297 n298 c299
  refine gr_aload_n (pc := 517) (i := 0) 10 (l0) (show decode (gy_b gY_141) 517 = .ok (.aload_n 0, 1) by decide +kernel) rfl rfl ?_
  refine gr_iload_n (pc := 518) (i := 2) (l2) (show decode (gy_b gY_141) 518 = .ok (.iload_n 2, 1) by decide +kernel) rfl rfl ?_
  refine gj_nn (fun hx519 => ?_)
  refine gj_c0 (pc := 519) (Y' := gY_112) (y := yL_brings) (vs := [gR 10 (l0), gI (l2)]) (rest := []) (rs := fun v300 => []) [gI (l2), gR 10 (l0)] rfl (hm_112 hG (l0) (l2)) rfl (gh_V (t := 10) (vs := [gI (l2)]) (rest := []) (show decode (gy_b gY_141) 519 = .ok (.invokevirtual 154, 3) by decide +kernel) rfl hx519 rfl rfl (ok_112 (by decide) (by decide)) wd_1111 wd_1113 wd_33 (Nat.le_of_ble_eq_true rfl)) (fun _ => rfl) ?_
  intro v300 M301 n302 c303
  refine gr_aload_n (pc := 522) (i := 0) 10 (l0) (show decode (gy_b gY_141) 522 = .ok (.aload_n 0, 1) by decide +kernel) rfl rfl ?_
  refine gr_aload_n (pc := 523) (i := 3) 8 (l3) (show decode (gy_b gY_141) 523 = .ok (.aload_n 3, 1) by decide +kernel) rfl rfl ?_
  refine gj_nn (fun hx524 => ?_)
  refine gj_c0 (pc := 524) (Y' := gY_49) (y := yL_types) (vs := [gR 10 (l0), gR 8 (l3)]) (rest := []) (rs := fun v304 => []) [gR 8 (l3), gR 10 (l0)] rfl (hm_49 hG (l0) (l3)) rfl (gh_V (t := 10) (vs := [gR 8 (l3)]) (rest := []) (show decode (gy_b gY_141) 524 = .ok (.invokevirtual 108, 3) by decide +kernel) rfl hx524 rfl rfl (ok_49 (by decide) (by decide)) wd_736 wd_738 wd_11 (Nat.le_of_ble_eq_true rfl)) (fun _ => rfl) ?_
  intro v304 M305 n306 c307
  refine gr_iload (pc := 527) (i := 6) (s0) (show decode (gy_b gY_141) 527 = .ok (.iload 6, 2) by decide +kernel) rfl ?_
  refine gr_ifeq (pc := 529) (tgt := 586) (off := 57) hG.2.1 (show decode (gy_b gY_141) 529 = .ok (.ifCond .eq (57), 3) by decide +kernel) (by decide) ?_ ?_
  · exact gj_false
  · refine gr_aload_n (pc := 532) (i := 0) 10 (l0) (show decode (gy_b gY_141) 532 = .ok (.aload_n 0, 1) by decide +kernel) rfl rfl ?_
    refine gj_nn (fun hx533 => ?_)
    refine gj_c0 (pc := 533) (Y' := gY_120) (y := yL_hears) (vs := [gR 10 (l0)]) (rest := []) (rs := fun v308 => [gI (v308)]) [gR 10 (l0)] rfl (hm_120 hG (l0)) rfl (gh_V (t := 10) (vs := []) (rest := []) (show decode (gy_b gY_141) 533 = .ok (.invokevirtual 158, 3) by decide +kernel) rfl hx533 rfl rfl (ok_120 (by decide) (by decide)) wd_1135 wd_1137 wd_34 (Nat.le_of_ble_eq_true rfl)) (fun _ => rfl) ?_
    intro v308 M309 n310 c311
    refine gr_ifeq (pc := 536) (tgt := 586) (off := 50) hG.2.1 (show decode (gy_b gY_141) 536 = .ok (.ifCond .eq (50), 3) by decide +kernel) (by decide) ?_ ?_
    · exact gj_false
    · refine gr_aload_n (pc := 539) (i := 0) 10 (l0) (show decode (gy_b gY_141) 539 = .ok (.aload_n 0, 1) by decide +kernel) rfl rfl ?_
      refine gr_wk [true, true, true, true, true, true, false, true, true, true, true] rfl ?_
      exact h_141_L540 hG T hdr (l0) (l1) (l2) (l3) (l4) (l5) (l0) M309 n310 c311
noncomputable def fi_141_L441 (T : Nat) (K : Nat → Nat → Nat → Nat → Bool) (l0 l1 l2 l3 l4 l5 s0 s1 s2 s3 M n c : Nat) : Bool := gx_nn (s3) (fi_10 (s3) M n c (fun v245 M246 n247 c248 => gx_nn (s3) (fi_18 (s3) (23) M246 n247 c248 (fun v249 M250 n251 c252 => gx_nn (v249) (fi_18 (v249) (l4) M250 n251 c252 (fun v253 M254 n255 c256 => gx_nn (v253) (fi_31 (v253) M254 n255 c256 (fun v257 M258 n259 c260 => gx_nn (s0) (fi_136 (s0) (s1) (s2) (v257) M258 n259 c260 (fun v261 M262 n263 c264 => gx_eq (v261) 0 (false) (gx_new 4 n263 c264 (fun v265 n266 c267 => gx_nn (v265) (fi_10 (v265) M262 n266 c267 (fun v268 M269 n270 c271 => gx_nn (v265) (fi_18 (v265) (27) M269 n270 c271 (fun v272 M273 n274 c275 => gx_nn (v272) (fi_18 (v272) (l4) M273 n274 c275 (fun v276 M277 n278 c279 => gx_nn (v276) (fi_31 (v276) M277 n278 c279 (fun v280 M281 n282 c283 => gx_nn (l0) (fi_136 (l0) (l2) (l3) (v280) M281 n282 c283 (fun v284 M285 n286 c287 => gx_eq (v284) 0 (false) (fi_141_L498 T K (l0) (l1) (l2) (l3) (l4) (l5) (1) M285 n286 c287)))))))))))))))))))))))
theorem h_141_L441 {G : gxG} (hG : gxG0 G) (T : Nat) (hdr : ∀ x nn : Nat, gxM G gY_draw yL_draw [gR 10 x, gI nn] (fd_draw T x nn)) {K : Nat → Nat → Nat → Nat → Bool} (l0 l1 l2 l3 l4 l5 s0 s1 s2 s3 M n c : Nat) : gxJ G gY_141 K 441 [gR 9 (s3), gR 8 (s2), gI (s1), gR 10 (s0)] [gR 10 (l0), gI (l1), gI (l2), gR 8 (l3), gR 8 (l4), gI (l5), gB, gB, gB, gB, gB] M n c (fi_141_L441 T K l0 l1 l2 l3 l4 l5 s0 s1 s2 s3 M n c) := by
  unfold fi_141_L441
  refine gr_dup (b := gB) (pc := 441) (show decode (gy_b gY_141) 441 = .ok (.dup, 1) by decide +kernel) rfl ?_
  refine gj_nn (fun hx442 => ?_)
  refine gj_c0 (pc := 442) (Y' := gY_10) (y := yJ4_init_da8c8) (vs := [gR 9 (s3)]) (rest := [gR 9 (s3), gR 8 (s2), gI (s1), gR 10 (s0)]) (rs := fun v245 => [gR 9 (s3), gR 8 (s2), gI (s1), gR 10 (s0)]) [gR 9 (s3)] rfl (hm_10 hG (s3)) rfl (gh_I (t := 9) (vs := []) (rest := [gR 9 (s3), gR 8 (s2), gI (s1), gR 10 (s0)]) (show decode (gy_b gY_141) 442 = .ok (.invokespecial 64, 3) by decide +kernel) rfl hx442 rfl (ok_10 (by decide) (by decide)) rfl rfl rfl rfl wd_392 wd_393 (Nat.le_of_ble_eq_true rfl)) (fun _ => rfl) ?_
  intro v245 M246 n247 c248
  refine gr_ldcS (pc := 445) (index := 176) (b := 23) (tx := "1") rfl (show decode (gy_b gY_141) 445 = .ok (.ldc 176, 2) by decide +kernel) (by decide) (by decide) (by decide) ?_
  refine gj_nn (fun hx447 => ?_)
  refine gj_c0 (pc := 447) (Y' := gY_18) (y := yJ4_append_15ec4) (vs := [gR 9 (s3), gR 8 (23)]) (rest := [gR 8 (s2), gI (s1), gR 10 (s0)]) (rs := fun v249 => [gR 9 (v249), gR 8 (s2), gI (s1), gR 10 (s0)]) [gR 8 (23), gR 9 (s3)] rfl (hm_18 hG (s3) (23)) rfl (gh_V (t := 9) (vs := [gR 8 (23)]) (rest := [gR 8 (s2), gI (s1), gR 10 (s0)]) (show decode (gy_b gY_141) 447 = .ok (.invokevirtual 67, 3) by decide +kernel) rfl hx447 rfl rfl (ok_18 (by decide) (by decide)) wd_423 wd_424 wd_425 (Nat.le_of_ble_eq_true rfl)) (fun _ => rfl) ?_
  intro v249 M250 n251 c252
  refine gr_aload (pc := 450) (i := 4) 8 (l4) (show decode (gy_b gY_141) 450 = .ok (.aload 4, 2) by decide +kernel) rfl ?_
  refine gj_nn (fun hx452 => ?_)
  refine gj_c0 (pc := 452) (Y' := gY_18) (y := yJ4_append_15ec4) (vs := [gR 9 (v249), gR 8 (l4)]) (rest := [gR 8 (s2), gI (s1), gR 10 (s0)]) (rs := fun v253 => [gR 9 (v253), gR 8 (s2), gI (s1), gR 10 (s0)]) [gR 8 (l4), gR 9 (v249)] rfl (hm_18 hG (v249) (l4)) rfl (gh_V (t := 9) (vs := [gR 8 (l4)]) (rest := [gR 8 (s2), gI (s1), gR 10 (s0)]) (show decode (gy_b gY_141) 452 = .ok (.invokevirtual 67, 3) by decide +kernel) rfl hx452 rfl rfl (ok_18 (by decide) (by decide)) wd_423 wd_424 wd_425 (Nat.le_of_ble_eq_true rfl)) (fun _ => rfl) ?_
  intro v253 M254 n255 c256
  refine gj_nn (fun hx455 => ?_)
  refine gj_c0 (pc := 455) (Y' := gY_31) (y := yJ4_toString_0e30d) (vs := [gR 9 (v253)]) (rest := [gR 8 (s2), gI (s1), gR 10 (s0)]) (rs := fun v257 => [gR 8 (v257), gR 8 (s2), gI (s1), gR 10 (s0)]) [gR 9 (v253)] rfl (hm_31 hG (v253)) rfl (gh_V (t := 9) (vs := []) (rest := [gR 8 (s2), gI (s1), gR 10 (s0)]) (show decode (gy_b gY_141) 455 = .ok (.invokevirtual 78, 3) by decide +kernel) rfl hx455 rfl rfl (ok_31 (by decide) (by decide)) wd_565 wd_566 wd_567 (Nat.le_of_ble_eq_true rfl)) (fun _ => rfl) ?_
  intro v257 M258 n259 c260
  refine gj_nn (fun hx458 => ?_)
  refine gj_c0 (pc := 458) (Y' := gY_136) (y := yL_isText) (vs := [gR 10 (s0), gI (s1), gR 8 (s2), gR 8 (v257)]) (rest := []) (rs := fun v261 => [gI (v261)]) [gR 8 (v257), gR 8 (s2), gI (s1), gR 10 (s0)] rfl (hm_136 hG (s0) (s1) (s2) (v257)) rfl (gh_V (t := 10) (vs := [gI (s1), gR 8 (s2), gR 8 (v257)]) (rest := []) (show decode (gy_b gY_141) 458 = .ok (.invokevirtual 162, 3) by decide +kernel) rfl hx458 rfl rfl (ok_136 (by decide) (by decide)) wd_1170 wd_1172 wd_37 (Nat.le_of_ble_eq_true rfl)) (fun _ => rfl) ?_
  intro v261 M262 n263 c264
  refine gr_ifeq (pc := 461) (tgt := 497) (off := 36) hG.2.1 (show decode (gy_b gY_141) 461 = .ok (.ifCond .eq (36), 3) by decide +kernel) (by decide) ?_ ?_
  · exact gj_false
  · refine gr_aload_n (pc := 464) (i := 0) 10 (l0) (show decode (gy_b gY_141) 464 = .ok (.aload_n 0, 1) by decide +kernel) rfl rfl ?_
    refine gr_iload_n (pc := 465) (i := 2) (l2) (show decode (gy_b gY_141) 465 = .ok (.iload_n 2, 1) by decide +kernel) rfl rfl ?_
    refine gr_aload_n (pc := 466) (i := 3) 8 (l3) (show decode (gy_b gY_141) 466 = .ok (.aload_n 3, 1) by decide +kernel) rfl rfl ?_
    refine gr_newo (pc := 467) (index := 62) (t := 9) (show decode (gy_b gY_141) 467 = .ok (.new 62, 3) by decide +kernel) rfl wd_390 wd_391 wd_60 ?_
    intro v265 n266 c267
    refine gr_dup (b := gB) (pc := 470) (show decode (gy_b gY_141) 470 = .ok (.dup, 1) by decide +kernel) rfl ?_
    refine gj_nn (fun hx471 => ?_)
    refine gj_c0 (pc := 471) (Y' := gY_10) (y := yJ4_init_da8c8) (vs := [gR 9 (v265)]) (rest := [gR 9 (v265), gR 8 (l3), gI (l2), gR 10 (l0)]) (rs := fun v268 => [gR 9 (v265), gR 8 (l3), gI (l2), gR 10 (l0)]) [gR 9 (v265)] rfl (hm_10 hG (v265)) rfl (gh_I (t := 9) (vs := []) (rest := [gR 9 (v265), gR 8 (l3), gI (l2), gR 10 (l0)]) (show decode (gy_b gY_141) 471 = .ok (.invokespecial 64, 3) by decide +kernel) rfl hx471 rfl (ok_10 (by decide) (by decide)) rfl rfl rfl rfl wd_392 wd_393 (Nat.le_of_ble_eq_true rfl)) (fun _ => rfl) ?_
    intro v268 M269 n270 c271
    refine gr_ldcS (pc := 474) (index := 178) (b := 27) (tx := "2") rfl (show decode (gy_b gY_141) 474 = .ok (.ldc 178, 2) by decide +kernel) (by decide) (by decide) (by decide) ?_
    refine gj_nn (fun hx476 => ?_)
    refine gj_c0 (pc := 476) (Y' := gY_18) (y := yJ4_append_15ec4) (vs := [gR 9 (v265), gR 8 (27)]) (rest := [gR 8 (l3), gI (l2), gR 10 (l0)]) (rs := fun v272 => [gR 9 (v272), gR 8 (l3), gI (l2), gR 10 (l0)]) [gR 8 (27), gR 9 (v265)] rfl (hm_18 hG (v265) (27)) rfl (gh_V (t := 9) (vs := [gR 8 (27)]) (rest := [gR 8 (l3), gI (l2), gR 10 (l0)]) (show decode (gy_b gY_141) 476 = .ok (.invokevirtual 67, 3) by decide +kernel) rfl hx476 rfl rfl (ok_18 (by decide) (by decide)) wd_423 wd_424 wd_425 (Nat.le_of_ble_eq_true rfl)) (fun _ => rfl) ?_
    intro v272 M273 n274 c275
    refine gr_aload (pc := 479) (i := 4) 8 (l4) (show decode (gy_b gY_141) 479 = .ok (.aload 4, 2) by decide +kernel) rfl ?_
    refine gj_nn (fun hx481 => ?_)
    refine gj_c0 (pc := 481) (Y' := gY_18) (y := yJ4_append_15ec4) (vs := [gR 9 (v272), gR 8 (l4)]) (rest := [gR 8 (l3), gI (l2), gR 10 (l0)]) (rs := fun v276 => [gR 9 (v276), gR 8 (l3), gI (l2), gR 10 (l0)]) [gR 8 (l4), gR 9 (v272)] rfl (hm_18 hG (v272) (l4)) rfl (gh_V (t := 9) (vs := [gR 8 (l4)]) (rest := [gR 8 (l3), gI (l2), gR 10 (l0)]) (show decode (gy_b gY_141) 481 = .ok (.invokevirtual 67, 3) by decide +kernel) rfl hx481 rfl rfl (ok_18 (by decide) (by decide)) wd_423 wd_424 wd_425 (Nat.le_of_ble_eq_true rfl)) (fun _ => rfl) ?_
    intro v276 M277 n278 c279
    refine gj_nn (fun hx484 => ?_)
    refine gj_c0 (pc := 484) (Y' := gY_31) (y := yJ4_toString_0e30d) (vs := [gR 9 (v276)]) (rest := [gR 8 (l3), gI (l2), gR 10 (l0)]) (rs := fun v280 => [gR 8 (v280), gR 8 (l3), gI (l2), gR 10 (l0)]) [gR 9 (v276)] rfl (hm_31 hG (v276)) rfl (gh_V (t := 9) (vs := []) (rest := [gR 8 (l3), gI (l2), gR 10 (l0)]) (show decode (gy_b gY_141) 484 = .ok (.invokevirtual 78, 3) by decide +kernel) rfl hx484 rfl rfl (ok_31 (by decide) (by decide)) wd_565 wd_566 wd_567 (Nat.le_of_ble_eq_true rfl)) (fun _ => rfl) ?_
    intro v280 M281 n282 c283
    refine gj_nn (fun hx487 => ?_)
    refine gj_c0 (pc := 487) (Y' := gY_136) (y := yL_isText) (vs := [gR 10 (l0), gI (l2), gR 8 (l3), gR 8 (v280)]) (rest := []) (rs := fun v284 => [gI (v284)]) [gR 8 (v280), gR 8 (l3), gI (l2), gR 10 (l0)] rfl (hm_136 hG (l0) (l2) (l3) (v280)) rfl (gh_V (t := 10) (vs := [gI (l2), gR 8 (l3), gR 8 (v280)]) (rest := []) (show decode (gy_b gY_141) 487 = .ok (.invokevirtual 162, 3) by decide +kernel) rfl hx487 rfl rfl (ok_136 (by decide) (by decide)) wd_1170 wd_1172 wd_37 (Nat.le_of_ble_eq_true rfl)) (fun _ => rfl) ?_
    intro v284 M285 n286 c287
    refine gr_ifeq (pc := 490) (tgt := 497) (off := 7) hG.2.1 (show decode (gy_b gY_141) 490 = .ok (.ifCond .eq (7), 3) by decide +kernel) (by decide) ?_ ?_
    · exact gj_false
    · refine gr_iconst (pc := 493) (z := 1) 1 (show decode (gy_b gY_141) 493 = .ok (.iconst (1), 1) by decide +kernel) kc_1 ?_
      refine gr_goto (pc := 494) (tgt := 498) (off := 4) (show decode (gy_b gY_141) 494 = .ok (.goto (4), 3) by decide +kernel) (by decide) ?_
      exact h_141_L498 hG T hdr (l0) (l1) (l2) (l3) (l4) (l5) (1) M285 n286 c287
noncomputable def fi_141_L387 (T : Nat) (K : Nat → Nat → Nat → Nat → Bool) (l0 l1 l2 l3 l4 l5 l7 l8 l9 s0 s1 M n c : Nat) : Bool := gx_nn (s0) (fi_138 (s0) (s1) (l8) M n c (fun v228 M229 n230 c231 => gx_eq (v228) 0 (gx_get (l0) 3 M229 (fun v232 => gx_nn (v232) (fi_138 (v232) (l8) (l7) M229 n230 c231 (fun v233 M234 n235 c236 => gx_eq (v233) 0 (false) (gx_get (l0) 3 M234 (fun v237 => gx_nn (v237) (fi_138 (v237) (l9) (l7) M234 n235 c236 (fun v238 M239 n240 c241 => gx_eq (v238) 0 (false) (gx_eq (1) 0 (false) (gx_new 4 n240 c241 (fun v242 n243 c244 => fi_141_L441 T K (l0) (l1) (l2) (l3) (l4) (l5) (l0) (l1) (l3) (v242) M239 n243 c244))))))))))) (false)))
theorem h_141_L387 {G : gxG} (hG : gxG0 G) (T : Nat) (hdr : ∀ x nn : Nat, gxM G gY_draw yL_draw [gR 10 x, gI nn] (fd_draw T x nn)) {K : Nat → Nat → Nat → Nat → Bool} (l0 l1 l2 l3 l4 l5 l7 l8 l9 s0 s1 M n c : Nat) : gxJ G gY_141 K 387 [gI (s1), gR 7 (s0)] [gR 10 (l0), gI (l1), gI (l2), gR 8 (l3), gR 8 (l4), gI (l5), gB, gI (l7), gI (l8), gI (l9), gB] M n c (fi_141_L387 T K l0 l1 l2 l3 l4 l5 l7 l8 l9 s0 s1 M n c) := by
  unfold fi_141_L387
  refine gr_iload (pc := 387) (i := 8) (l8) (show decode (gy_b gY_141) 387 = .ok (.iload 8, 2) by decide +kernel) rfl ?_
  refine gj_nn (fun hx389 => ?_)
  refine gj_c0 (pc := 389) (Y' := gY_138) (y := yX7_hasSeen) (vs := [gR 7 (s0), gI (s1), gI (l8)]) (rest := []) (rs := fun v228 => [gI (v228)]) [gI (l8), gI (s1), gR 7 (s0)] rfl (hm_138 hG (s0) (s1) (l8)) rfl (gh_V (t := 7) (vs := [gI (s1), gI (l8)]) (rest := []) (show decode (gy_b gY_141) 389 = .ok (.invokevirtual 173, 3) by decide +kernel) rfl hx389 rfl rfl (ok_138 (by decide) (by decide)) wd_1249 wd_1250 wd_1251 (Nat.le_of_ble_eq_true rfl)) (fun _ => rfl) ?_
  intro v228 M229 n230 c231
  refine gr_ifne (pc := 392) (tgt := 427) (off := 35) hG.2.1 (show decode (gy_b gY_141) 392 = .ok (.ifCond .ne (35), 3) by decide +kernel) (by decide) ?_ ?_
  · exact gj_false
  · refine gr_aload_n (pc := 395) (i := 0) 10 (l0) (show decode (gy_b gY_141) 395 = .ok (.aload_n 0, 1) by decide +kernel) rfl rfl ?_
    refine gr_getf (pc := 396) (index := 10) (t := 10) (j := 3) (σ := 15) (sv := (gR 7)) (show decode (gy_b gY_141) 396 = .ok (.getfield 10, 3) by decide +kernel) rfl rfl (fun _ => rfl) wd_346 (by decide) ?_
    intro v232
    refine gr_iload (pc := 399) (i := 8) (l8) (show decode (gy_b gY_141) 399 = .ok (.iload 8, 2) by decide +kernel) rfl ?_
    refine gr_iload (pc := 401) (i := 7) (l7) (show decode (gy_b gY_141) 401 = .ok (.iload 7, 2) by decide +kernel) rfl ?_
    refine gj_nn (fun hx403 => ?_)
    refine gj_c0 (pc := 403) (Y' := gY_138) (y := yX7_hasSeen) (vs := [gR 7 (v232), gI (l8), gI (l7)]) (rest := []) (rs := fun v233 => [gI (v233)]) [gI (l7), gI (l8), gR 7 (v232)] rfl (hm_138 hG (v232) (l8) (l7)) rfl (gh_V (t := 7) (vs := [gI (l8), gI (l7)]) (rest := []) (show decode (gy_b gY_141) 403 = .ok (.invokevirtual 173, 3) by decide +kernel) rfl hx403 rfl rfl (ok_138 (by decide) (by decide)) wd_1249 wd_1250 wd_1251 (Nat.le_of_ble_eq_true rfl)) (fun _ => rfl) ?_
    intro v233 M234 n235 c236
    refine gr_ifeq (pc := 406) (tgt := 427) (off := 21) hG.2.1 (show decode (gy_b gY_141) 406 = .ok (.ifCond .eq (21), 3) by decide +kernel) (by decide) ?_ ?_
    · exact gj_false
    · refine gr_aload_n (pc := 409) (i := 0) 10 (l0) (show decode (gy_b gY_141) 409 = .ok (.aload_n 0, 1) by decide +kernel) rfl rfl ?_
      refine gr_getf (pc := 410) (index := 10) (t := 10) (j := 3) (σ := 15) (sv := (gR 7)) (show decode (gy_b gY_141) 410 = .ok (.getfield 10, 3) by decide +kernel) rfl rfl (fun _ => rfl) wd_346 (by decide) ?_
      intro v237
      refine gr_iload (pc := 413) (i := 9) (l9) (show decode (gy_b gY_141) 413 = .ok (.iload 9, 2) by decide +kernel) rfl ?_
      refine gr_iload (pc := 415) (i := 7) (l7) (show decode (gy_b gY_141) 415 = .ok (.iload 7, 2) by decide +kernel) rfl ?_
      refine gj_nn (fun hx417 => ?_)
      refine gj_c0 (pc := 417) (Y' := gY_138) (y := yX7_hasSeen) (vs := [gR 7 (v237), gI (l9), gI (l7)]) (rest := []) (rs := fun v238 => [gI (v238)]) [gI (l7), gI (l9), gR 7 (v237)] rfl (hm_138 hG (v237) (l9) (l7)) rfl (gh_V (t := 7) (vs := [gI (l9), gI (l7)]) (rest := []) (show decode (gy_b gY_141) 417 = .ok (.invokevirtual 173, 3) by decide +kernel) rfl hx417 rfl rfl (ok_138 (by decide) (by decide)) wd_1249 wd_1250 wd_1251 (Nat.le_of_ble_eq_true rfl)) (fun _ => rfl) ?_
      intro v238 M239 n240 c241
      refine gr_ifeq (pc := 420) (tgt := 427) (off := 7) hG.2.1 (show decode (gy_b gY_141) 420 = .ok (.ifCond .eq (7), 3) by decide +kernel) (by decide) ?_ ?_
      · exact gj_false
      · refine gr_iconst (pc := 423) (z := 1) 1 (show decode (gy_b gY_141) 423 = .ok (.iconst (1), 1) by decide +kernel) kc_1 ?_
        refine gr_goto (pc := 424) (tgt := 428) (off := 4) (show decode (gy_b gY_141) 424 = .ok (.goto (4), 3) by decide +kernel) (by decide) ?_
        refine gr_istore (pc := 428) (i := 6) (L' := [gR 10 (l0), gI (l1), gI (l2), gR 8 (l3), gR 8 (l4), gI (l5), gI (1), gI (l7), gI (l8), gI (l9), gB]) (show decode (gy_b gY_141) 428 = .ok (.istore 6, 2) by decide +kernel) (by decide) rfl rfl ?_
        refine gr_iload (pc := 430) (i := 6) (1) (show decode (gy_b gY_141) 430 = .ok (.iload 6, 2) by decide +kernel) rfl ?_
        refine gr_ifeq (pc := 432) (tgt := 497) (off := 65) hG.2.1 (show decode (gy_b gY_141) 432 = .ok (.ifCond .eq (65), 3) by decide +kernel) (by decide) ?_ ?_
        · exact gj_false
        · refine gr_aload_n (pc := 435) (i := 0) 10 (l0) (show decode (gy_b gY_141) 435 = .ok (.aload_n 0, 1) by decide +kernel) rfl rfl ?_
          refine gr_iload_n (pc := 436) (i := 1) (l1) (show decode (gy_b gY_141) 436 = .ok (.iload_n 1, 1) by decide +kernel) rfl rfl ?_
          refine gr_aload_n (pc := 437) (i := 3) 8 (l3) (show decode (gy_b gY_141) 437 = .ok (.aload_n 3, 1) by decide +kernel) rfl rfl ?_
          refine gr_newo (pc := 438) (index := 62) (t := 9) (show decode (gy_b gY_141) 438 = .ok (.new 62, 3) by decide +kernel) rfl wd_390 wd_391 wd_60 ?_
          intro v242 n243 c244
          refine gr_wk [true, true, true, true, true, true, false, false, false, false, true] rfl ?_
          exact h_141_L441 hG T hdr (l0) (l1) (l2) (l3) (l4) (l5) (l0) (l1) (l3) (v242) M239 n243 c244
noncomputable def fi_141_L332 (T : Nat) (K : Nat → Nat → Nat → Nat → Bool) (l0 l1 l2 l3 l4 l5 l6 l7 l8 s0 s1 s2 M n c : Nat) : Bool := gx_nn (s1) (fi_18 (s1) (s2) M n c (fun v200 M201 n202 c203 => gx_nn (v200) (fi_31 (v200) M201 n202 c203 (fun v204 M205 n206 c207 => gx_nn (s0) (fi_49 (s0) (v204) M205 n206 c207 (fun v208 M209 n210 c211 => gx_get (l0) 3 M209 (fun v212 => gx_nn (v212) (fi_104 (v212) (l2) M209 n210 c211 (fun v213 M214 n215 c216 => gx_eq (l6) 0 (false) (gx_get (l0) 3 M214 (fun v217 => gx_nn (v217) (fi_137 (v217) (l1) M214 n215 c216 (fun v218 M219 n220 c221 => gx_eq (v218) 0 (gx_get (l0) 3 M219 (fun v222 => gx_nn (v222) (fi_138 (v222) (l8) (v213) M219 n220 c221 (fun v223 M224 n225 c226 => gx_eq (v223) 0 (gx_get (l0) 3 M224 (fun v227 => fi_141_L387 T K (l0) (l1) (l2) (l3) (l4) (l5) (l7) (l8) (v213) (v227) (v213) M224 n225 c226)) (false))))) (false))))))))))))))
theorem h_141_L332 {G : gxG} (hG : gxG0 G) (T : Nat) (hdr : ∀ x nn : Nat, gxM G gY_draw yL_draw [gR 10 x, gI nn] (fd_draw T x nn)) {K : Nat → Nat → Nat → Nat → Bool} (l0 l1 l2 l3 l4 l5 l6 l7 l8 s0 s1 s2 M n c : Nat) : gxJ G gY_141 K 332 [gR 8 (s2), gR 9 (s1), gR 10 (s0)] [gR 10 (l0), gI (l1), gI (l2), gR 8 (l3), gR 8 (l4), gI (l5), gI (l6), gI (l7), gI (l8), gB, gB] M n c (fi_141_L332 T K l0 l1 l2 l3 l4 l5 l6 l7 l8 s0 s1 s2 M n c) := by
  unfold fi_141_L332
  refine gj_nn (fun hx332 => ?_)
  refine gj_c0 (pc := 332) (Y' := gY_18) (y := yJ4_append_15ec4) (vs := [gR 9 (s1), gR 8 (s2)]) (rest := [gR 10 (s0)]) (rs := fun v200 => [gR 9 (v200), gR 10 (s0)]) [gR 8 (s2), gR 9 (s1)] rfl (hm_18 hG (s1) (s2)) rfl (gh_V (t := 9) (vs := [gR 8 (s2)]) (rest := [gR 10 (s0)]) (show decode (gy_b gY_141) 332 = .ok (.invokevirtual 67, 3) by decide +kernel) rfl hx332 rfl rfl (ok_18 (by decide) (by decide)) wd_423 wd_424 wd_425 (Nat.le_of_ble_eq_true rfl)) (fun _ => rfl) ?_
  intro v200 M201 n202 c203
  refine gj_nn (fun hx335 => ?_)
  refine gj_c0 (pc := 335) (Y' := gY_31) (y := yJ4_toString_0e30d) (vs := [gR 9 (v200)]) (rest := [gR 10 (s0)]) (rs := fun v204 => [gR 8 (v204), gR 10 (s0)]) [gR 9 (v200)] rfl (hm_31 hG (v200)) rfl (gh_V (t := 9) (vs := []) (rest := [gR 10 (s0)]) (show decode (gy_b gY_141) 335 = .ok (.invokevirtual 78, 3) by decide +kernel) rfl hx335 rfl rfl (ok_31 (by decide) (by decide)) wd_565 wd_566 wd_567 (Nat.le_of_ble_eq_true rfl)) (fun _ => rfl) ?_
  intro v204 M205 n206 c207
  refine gj_nn (fun hx338 => ?_)
  refine gj_c0 (pc := 338) (Y' := gY_49) (y := yL_types) (vs := [gR 10 (s0), gR 8 (v204)]) (rest := []) (rs := fun v208 => []) [gR 8 (v204), gR 10 (s0)] rfl (hm_49 hG (s0) (v204)) rfl (gh_V (t := 10) (vs := [gR 8 (v204)]) (rest := []) (show decode (gy_b gY_141) 338 = .ok (.invokevirtual 108, 3) by decide +kernel) rfl hx338 rfl rfl (ok_49 (by decide) (by decide)) wd_736 wd_738 wd_11 (Nat.le_of_ble_eq_true rfl)) (fun _ => rfl) ?_
  intro v208 M209 n210 c211
  refine gr_aload_n (pc := 341) (i := 0) 10 (l0) (show decode (gy_b gY_141) 341 = .ok (.aload_n 0, 1) by decide +kernel) rfl rfl ?_
  refine gr_getf (pc := 342) (index := 10) (t := 10) (j := 3) (σ := 15) (sv := (gR 7)) (show decode (gy_b gY_141) 342 = .ok (.getfield 10, 3) by decide +kernel) rfl rfl (fun _ => rfl) wd_346 (by decide) ?_
  intro v212
  refine gr_iload_n (pc := 345) (i := 2) (l2) (show decode (gy_b gY_141) 345 = .ok (.iload_n 2, 1) by decide +kernel) rfl rfl ?_
  refine gj_nn (fun hx346 => ?_)
  refine gj_c0 (pc := 346) (Y' := gY_104) (y := yX7_store) (vs := [gR 7 (v212), gI (l2)]) (rest := []) (rs := fun v213 => [gI (v213)]) [gI (l2), gR 7 (v212)] rfl (hm_104 hG (v212) (l2)) rfl (gh_V (t := 7) (vs := [gI (l2)]) (rest := []) (show decode (gy_b gY_141) 346 = .ok (.invokevirtual 148, 3) by decide +kernel) rfl hx346 rfl rfl (ok_104 (by decide) (by decide)) wd_1094 wd_1095 wd_1096 (Nat.le_of_ble_eq_true rfl)) (fun _ => rfl) ?_
  intro v213 M214 n215 c216
  refine gr_istore (pc := 349) (i := 9) (L' := [gR 10 (l0), gI (l1), gI (l2), gR 8 (l3), gR 8 (l4), gI (l5), gI (l6), gI (l7), gI (l8), gI (v213), gB]) (show decode (gy_b gY_141) 349 = .ok (.istore 9, 2) by decide +kernel) (by decide) rfl rfl ?_
  refine gr_iload (pc := 351) (i := 6) (l6) (show decode (gy_b gY_141) 351 = .ok (.iload 6, 2) by decide +kernel) rfl ?_
  refine gr_ifeq (pc := 353) (tgt := 427) (off := 74) hG.2.1 (show decode (gy_b gY_141) 353 = .ok (.ifCond .eq (74), 3) by decide +kernel) (by decide) ?_ ?_
  · exact gj_false
  · refine gr_aload_n (pc := 356) (i := 0) 10 (l0) (show decode (gy_b gY_141) 356 = .ok (.aload_n 0, 1) by decide +kernel) rfl rfl ?_
    refine gr_getf (pc := 357) (index := 10) (t := 10) (j := 3) (σ := 15) (sv := (gR 7)) (show decode (gy_b gY_141) 357 = .ok (.getfield 10, 3) by decide +kernel) rfl rfl (fun _ => rfl) wd_346 (by decide) ?_
    intro v217
    refine gr_iload_n (pc := 360) (i := 1) (l1) (show decode (gy_b gY_141) 360 = .ok (.iload_n 1, 1) by decide +kernel) rfl rfl ?_
    refine gj_nn (fun hx361 => ?_)
    refine gj_c0 (pc := 361) (Y' := gY_137) (y := yX7_near) (vs := [gR 7 (v217), gI (l1)]) (rest := []) (rs := fun v218 => [gI (v218)]) [gI (l1), gR 7 (v217)] rfl (hm_137 hG (v217) (l1)) rfl (gh_V (t := 7) (vs := [gI (l1)]) (rest := []) (show decode (gy_b gY_141) 361 = .ok (.invokevirtual 170, 3) by decide +kernel) rfl hx361 rfl rfl (ok_137 (by decide) (by decide)) wd_1245 wd_1246 wd_1247 (Nat.le_of_ble_eq_true rfl)) (fun _ => rfl) ?_
    intro v218 M219 n220 c221
    refine gr_ifne (pc := 364) (tgt := 427) (off := 63) hG.2.1 (show decode (gy_b gY_141) 364 = .ok (.ifCond .ne (63), 3) by decide +kernel) (by decide) ?_ ?_
    · exact gj_false
    · refine gr_aload_n (pc := 367) (i := 0) 10 (l0) (show decode (gy_b gY_141) 367 = .ok (.aload_n 0, 1) by decide +kernel) rfl rfl ?_
      refine gr_getf (pc := 368) (index := 10) (t := 10) (j := 3) (σ := 15) (sv := (gR 7)) (show decode (gy_b gY_141) 368 = .ok (.getfield 10, 3) by decide +kernel) rfl rfl (fun _ => rfl) wd_346 (by decide) ?_
      intro v222
      refine gr_iload (pc := 371) (i := 8) (l8) (show decode (gy_b gY_141) 371 = .ok (.iload 8, 2) by decide +kernel) rfl ?_
      refine gr_iload (pc := 373) (i := 9) (v213) (show decode (gy_b gY_141) 373 = .ok (.iload 9, 2) by decide +kernel) rfl ?_
      refine gj_nn (fun hx375 => ?_)
      refine gj_c0 (pc := 375) (Y' := gY_138) (y := yX7_hasSeen) (vs := [gR 7 (v222), gI (l8), gI (v213)]) (rest := []) (rs := fun v223 => [gI (v223)]) [gI (v213), gI (l8), gR 7 (v222)] rfl (hm_138 hG (v222) (l8) (v213)) rfl (gh_V (t := 7) (vs := [gI (l8), gI (v213)]) (rest := []) (show decode (gy_b gY_141) 375 = .ok (.invokevirtual 173, 3) by decide +kernel) rfl hx375 rfl rfl (ok_138 (by decide) (by decide)) wd_1249 wd_1250 wd_1251 (Nat.le_of_ble_eq_true rfl)) (fun _ => rfl) ?_
      intro v223 M224 n225 c226
      refine gr_ifne (pc := 378) (tgt := 427) (off := 49) hG.2.1 (show decode (gy_b gY_141) 378 = .ok (.ifCond .ne (49), 3) by decide +kernel) (by decide) ?_ ?_
      · exact gj_false
      · refine gr_aload_n (pc := 381) (i := 0) 10 (l0) (show decode (gy_b gY_141) 381 = .ok (.aload_n 0, 1) by decide +kernel) rfl rfl ?_
        refine gr_getf (pc := 382) (index := 10) (t := 10) (j := 3) (σ := 15) (sv := (gR 7)) (show decode (gy_b gY_141) 382 = .ok (.getfield 10, 3) by decide +kernel) rfl rfl (fun _ => rfl) wd_346 (by decide) ?_
        intro v227
        refine gr_iload (pc := 385) (i := 9) (v213) (show decode (gy_b gY_141) 385 = .ok (.iload 9, 2) by decide +kernel) rfl ?_
        refine gr_wk [true, true, true, true, true, true, false, true, true, true, true] rfl ?_
        exact h_141_L387 hG T hdr (l0) (l1) (l2) (l3) (l4) (l5) (l7) (l8) (v213) (v227) (v213) M224 n225 c226
noncomputable def fi_141_L279 (T : Nat) (K : Nat → Nat → Nat → Nat → Bool) (l0 l1 l2 l3 l4 l5 l6 l7 s0 s1 M n c : Nat) : Bool := gx_nn (s1) (fi_10 (s1) M n c (fun v156 M157 n158 c159 => gx_nn (s1) (fi_18 (s1) (l3) M157 n158 c159 (fun v160 M161 n162 c163 => gx_nn (v160) (fi_18 (v160) (13) M161 n162 c163 (fun v164 M165 n166 c167 => gx_nn (v164) (fi_18 (v164) (l4) M165 n166 c167 (fun v168 M169 n170 c171 => gx_nn (v168) (fi_31 (v168) M169 n170 c171 (fun v172 M173 n174 c175 => gx_nn (s0) (fi_49 (s0) (v172) M173 n174 c175 (fun v176 M177 n178 c179 => gx_get (l0) 3 M177 (fun v180 => gx_nn (v180) (fi_104 (v180) (l1) M177 n178 c179 (fun v181 M182 n183 c184 => gx_new 4 n183 c184 (fun v185 n186 c187 => gx_nn (v185) (fi_10 (v185) M182 n186 c187 (fun v188 M189 n190 c191 => gx_nn (v185) (fi_18 (v185) (l3) M189 n190 c191 (fun v192 M193 n194 c195 => gx_nn (v192) (fi_18 (v192) (18) M193 n194 c195 (fun v196 M197 n198 c199 => fi_141_L332 T K (l0) (l1) (l2) (l3) (l4) (l5) (l6) (l7) (v181) (l0) (v196) (l4) M197 n198 c199))))))))))))))))))))))
theorem h_141_L279 {G : gxG} (hG : gxG0 G) (T : Nat) (hdr : ∀ x nn : Nat, gxM G gY_draw yL_draw [gR 10 x, gI nn] (fd_draw T x nn)) {K : Nat → Nat → Nat → Nat → Bool} (l0 l1 l2 l3 l4 l5 l6 l7 s0 s1 M n c : Nat) : gxJ G gY_141 K 279 [gR 9 (s1), gR 10 (s0)] [gR 10 (l0), gI (l1), gI (l2), gR 8 (l3), gR 8 (l4), gI (l5), gI (l6), gI (l7), gB, gB, gB] M n c (fi_141_L279 T K l0 l1 l2 l3 l4 l5 l6 l7 s0 s1 M n c) := by
  unfold fi_141_L279
  refine gr_dup (b := gB) (pc := 279) (show decode (gy_b gY_141) 279 = .ok (.dup, 1) by decide +kernel) rfl ?_
  refine gj_nn (fun hx280 => ?_)
  refine gj_c0 (pc := 280) (Y' := gY_10) (y := yJ4_init_da8c8) (vs := [gR 9 (s1)]) (rest := [gR 9 (s1), gR 10 (s0)]) (rs := fun v156 => [gR 9 (s1), gR 10 (s0)]) [gR 9 (s1)] rfl (hm_10 hG (s1)) rfl (gh_I (t := 9) (vs := []) (rest := [gR 9 (s1), gR 10 (s0)]) (show decode (gy_b gY_141) 280 = .ok (.invokespecial 64, 3) by decide +kernel) rfl hx280 rfl (ok_10 (by decide) (by decide)) rfl rfl rfl rfl wd_392 wd_393 (Nat.le_of_ble_eq_true rfl)) (fun _ => rfl) ?_
  intro v156 M157 n158 c159
  refine gr_aload_n (pc := 283) (i := 3) 8 (l3) (show decode (gy_b gY_141) 283 = .ok (.aload_n 3, 1) by decide +kernel) rfl rfl ?_
  refine gj_nn (fun hx284 => ?_)
  refine gj_c0 (pc := 284) (Y' := gY_18) (y := yJ4_append_15ec4) (vs := [gR 9 (s1), gR 8 (l3)]) (rest := [gR 10 (s0)]) (rs := fun v160 => [gR 9 (v160), gR 10 (s0)]) [gR 8 (l3), gR 9 (s1)] rfl (hm_18 hG (s1) (l3)) rfl (gh_V (t := 9) (vs := [gR 8 (l3)]) (rest := [gR 10 (s0)]) (show decode (gy_b gY_141) 284 = .ok (.invokevirtual 67, 3) by decide +kernel) rfl hx284 rfl rfl (ok_18 (by decide) (by decide)) wd_423 wd_424 wd_425 (Nat.le_of_ble_eq_true rfl)) (fun _ => rfl) ?_
  intro v160 M161 n162 c163
  refine gr_ldcS (pc := 287) (index := 166) (b := 13) (tx := "=1") rfl (show decode (gy_b gY_141) 287 = .ok (.ldc 166, 2) by decide +kernel) (by decide) (by decide) (by decide) ?_
  refine gj_nn (fun hx289 => ?_)
  refine gj_c0 (pc := 289) (Y' := gY_18) (y := yJ4_append_15ec4) (vs := [gR 9 (v160), gR 8 (13)]) (rest := [gR 10 (s0)]) (rs := fun v164 => [gR 9 (v164), gR 10 (s0)]) [gR 8 (13), gR 9 (v160)] rfl (hm_18 hG (v160) (13)) rfl (gh_V (t := 9) (vs := [gR 8 (13)]) (rest := [gR 10 (s0)]) (show decode (gy_b gY_141) 289 = .ok (.invokevirtual 67, 3) by decide +kernel) rfl hx289 rfl rfl (ok_18 (by decide) (by decide)) wd_423 wd_424 wd_425 (Nat.le_of_ble_eq_true rfl)) (fun _ => rfl) ?_
  intro v164 M165 n166 c167
  refine gr_aload (pc := 292) (i := 4) 8 (l4) (show decode (gy_b gY_141) 292 = .ok (.aload 4, 2) by decide +kernel) rfl ?_
  refine gj_nn (fun hx294 => ?_)
  refine gj_c0 (pc := 294) (Y' := gY_18) (y := yJ4_append_15ec4) (vs := [gR 9 (v164), gR 8 (l4)]) (rest := [gR 10 (s0)]) (rs := fun v168 => [gR 9 (v168), gR 10 (s0)]) [gR 8 (l4), gR 9 (v164)] rfl (hm_18 hG (v164) (l4)) rfl (gh_V (t := 9) (vs := [gR 8 (l4)]) (rest := [gR 10 (s0)]) (show decode (gy_b gY_141) 294 = .ok (.invokevirtual 67, 3) by decide +kernel) rfl hx294 rfl rfl (ok_18 (by decide) (by decide)) wd_423 wd_424 wd_425 (Nat.le_of_ble_eq_true rfl)) (fun _ => rfl) ?_
  intro v168 M169 n170 c171
  refine gj_nn (fun hx297 => ?_)
  refine gj_c0 (pc := 297) (Y' := gY_31) (y := yJ4_toString_0e30d) (vs := [gR 9 (v168)]) (rest := [gR 10 (s0)]) (rs := fun v172 => [gR 8 (v172), gR 10 (s0)]) [gR 9 (v168)] rfl (hm_31 hG (v168)) rfl (gh_V (t := 9) (vs := []) (rest := [gR 10 (s0)]) (show decode (gy_b gY_141) 297 = .ok (.invokevirtual 78, 3) by decide +kernel) rfl hx297 rfl rfl (ok_31 (by decide) (by decide)) wd_565 wd_566 wd_567 (Nat.le_of_ble_eq_true rfl)) (fun _ => rfl) ?_
  intro v172 M173 n174 c175
  refine gj_nn (fun hx300 => ?_)
  refine gj_c0 (pc := 300) (Y' := gY_49) (y := yL_types) (vs := [gR 10 (s0), gR 8 (v172)]) (rest := []) (rs := fun v176 => []) [gR 8 (v172), gR 10 (s0)] rfl (hm_49 hG (s0) (v172)) rfl (gh_V (t := 10) (vs := [gR 8 (v172)]) (rest := []) (show decode (gy_b gY_141) 300 = .ok (.invokevirtual 108, 3) by decide +kernel) rfl hx300 rfl rfl (ok_49 (by decide) (by decide)) wd_736 wd_738 wd_11 (Nat.le_of_ble_eq_true rfl)) (fun _ => rfl) ?_
  intro v176 M177 n178 c179
  refine gr_aload_n (pc := 303) (i := 0) 10 (l0) (show decode (gy_b gY_141) 303 = .ok (.aload_n 0, 1) by decide +kernel) rfl rfl ?_
  refine gr_getf (pc := 304) (index := 10) (t := 10) (j := 3) (σ := 15) (sv := (gR 7)) (show decode (gy_b gY_141) 304 = .ok (.getfield 10, 3) by decide +kernel) rfl rfl (fun _ => rfl) wd_346 (by decide) ?_
  intro v180
  refine gr_iload_n (pc := 307) (i := 1) (l1) (show decode (gy_b gY_141) 307 = .ok (.iload_n 1, 1) by decide +kernel) rfl rfl ?_
  refine gj_nn (fun hx308 => ?_)
  refine gj_c0 (pc := 308) (Y' := gY_104) (y := yX7_store) (vs := [gR 7 (v180), gI (l1)]) (rest := []) (rs := fun v181 => [gI (v181)]) [gI (l1), gR 7 (v180)] rfl (hm_104 hG (v180) (l1)) rfl (gh_V (t := 7) (vs := [gI (l1)]) (rest := []) (show decode (gy_b gY_141) 308 = .ok (.invokevirtual 148, 3) by decide +kernel) rfl hx308 rfl rfl (ok_104 (by decide) (by decide)) wd_1094 wd_1095 wd_1096 (Nat.le_of_ble_eq_true rfl)) (fun _ => rfl) ?_
  intro v181 M182 n183 c184
  refine gr_istore (pc := 311) (i := 8) (L' := [gR 10 (l0), gI (l1), gI (l2), gR 8 (l3), gR 8 (l4), gI (l5), gI (l6), gI (l7), gI (v181), gB, gB]) (show decode (gy_b gY_141) 311 = .ok (.istore 8, 2) by decide +kernel) (by decide) rfl rfl ?_
  refine gr_aload_n (pc := 313) (i := 0) 10 (l0) (show decode (gy_b gY_141) 313 = .ok (.aload_n 0, 1) by decide +kernel) rfl rfl ?_
  refine gr_newo (pc := 314) (index := 62) (t := 9) (show decode (gy_b gY_141) 314 = .ok (.new 62, 3) by decide +kernel) rfl wd_390 wd_391 wd_60 ?_
  intro v185 n186 c187
  refine gr_dup (b := gB) (pc := 317) (show decode (gy_b gY_141) 317 = .ok (.dup, 1) by decide +kernel) rfl ?_
  refine gj_nn (fun hx318 => ?_)
  refine gj_c0 (pc := 318) (Y' := gY_10) (y := yJ4_init_da8c8) (vs := [gR 9 (v185)]) (rest := [gR 9 (v185), gR 10 (l0)]) (rs := fun v188 => [gR 9 (v185), gR 10 (l0)]) [gR 9 (v185)] rfl (hm_10 hG (v185)) rfl (gh_I (t := 9) (vs := []) (rest := [gR 9 (v185), gR 10 (l0)]) (show decode (gy_b gY_141) 318 = .ok (.invokespecial 64, 3) by decide +kernel) rfl hx318 rfl (ok_10 (by decide) (by decide)) rfl rfl rfl rfl wd_392 wd_393 (Nat.le_of_ble_eq_true rfl)) (fun _ => rfl) ?_
  intro v188 M189 n190 c191
  refine gr_aload_n (pc := 321) (i := 3) 8 (l3) (show decode (gy_b gY_141) 321 = .ok (.aload_n 3, 1) by decide +kernel) rfl rfl ?_
  refine gj_nn (fun hx322 => ?_)
  refine gj_c0 (pc := 322) (Y' := gY_18) (y := yJ4_append_15ec4) (vs := [gR 9 (v185), gR 8 (l3)]) (rest := [gR 10 (l0)]) (rs := fun v192 => [gR 9 (v192), gR 10 (l0)]) [gR 8 (l3), gR 9 (v185)] rfl (hm_18 hG (v185) (l3)) rfl (gh_V (t := 9) (vs := [gR 8 (l3)]) (rest := [gR 10 (l0)]) (show decode (gy_b gY_141) 322 = .ok (.invokevirtual 67, 3) by decide +kernel) rfl hx322 rfl rfl (ok_18 (by decide) (by decide)) wd_423 wd_424 wd_425 (Nat.le_of_ble_eq_true rfl)) (fun _ => rfl) ?_
  intro v192 M193 n194 c195
  refine gr_ldcS (pc := 325) (index := 168) (b := 18) (tx := "=2") rfl (show decode (gy_b gY_141) 325 = .ok (.ldc 168, 2) by decide +kernel) (by decide) (by decide) (by decide) ?_
  refine gj_nn (fun hx327 => ?_)
  refine gj_c0 (pc := 327) (Y' := gY_18) (y := yJ4_append_15ec4) (vs := [gR 9 (v192), gR 8 (18)]) (rest := [gR 10 (l0)]) (rs := fun v196 => [gR 9 (v196), gR 10 (l0)]) [gR 8 (18), gR 9 (v192)] rfl (hm_18 hG (v192) (18)) rfl (gh_V (t := 9) (vs := [gR 8 (18)]) (rest := [gR 10 (l0)]) (show decode (gy_b gY_141) 327 = .ok (.invokevirtual 67, 3) by decide +kernel) rfl hx327 rfl rfl (ok_18 (by decide) (by decide)) wd_423 wd_424 wd_425 (Nat.le_of_ble_eq_true rfl)) (fun _ => rfl) ?_
  intro v196 M197 n198 c199
  refine gr_aload (pc := 330) (i := 4) 8 (l4) (show decode (gy_b gY_141) 330 = .ok (.aload 4, 2) by decide +kernel) rfl ?_
  exact h_141_L332 hG T hdr (l0) (l1) (l2) (l3) (l4) (l5) (l6) (l7) (v181) (l0) (v196) (l4) M197 n198 c199
noncomputable def fi_141_L233 (T : Nat) (K : Nat → Nat → Nat → Nat → Bool) (l0 l1 l2 l3 l4 l5 l6 l7 M n c : Nat) : Bool := gx_eq (l6) 0 (false) (gx_nn (l0) (fi_120 (l0) M n c (fun v137 M138 n139 c140 => gx_eq (v137) 0 (false) (gx_nn (l0) (fi_136 (l0) (l2) (l3) (l4) M138 n139 c140 (fun v141 M142 n143 c144 => gx_eq (v141) 0 (false) (gx_nn (l0) (fi_40 (l0) (l1) (0) M142 n143 c144 (fun v145 M146 n147 c148 => gx_nn (l0) (fi_40 (l0) (l2) (0) M146 n147 c148 (fun v149 M150 n151 c152 => gx_new 4 n151 c152 (fun v153 n154 c155 => fi_141_L279 T K (l0) (l1) (l2) (l3) (l4) (l5) (1) (l7) (l0) (v153) M150 n154 c155))))))))))))
theorem h_141_L233 {G : gxG} (hG : gxG0 G) (T : Nat) (hdr : ∀ x nn : Nat, gxM G gY_draw yL_draw [gR 10 x, gI nn] (fd_draw T x nn)) {K : Nat → Nat → Nat → Nat → Bool} (l0 l1 l2 l3 l4 l5 l6 l7 M n c : Nat) : gxJ G gY_141 K 233 [] [gR 10 (l0), gI (l1), gI (l2), gR 8 (l3), gR 8 (l4), gI (l5), gI (l6), gI (l7), gB, gB, gB] M n c (fi_141_L233 T K l0 l1 l2 l3 l4 l5 l6 l7 M n c) := by
  unfold fi_141_L233
  refine gr_iload (pc := 233) (i := 6) (l6) (show decode (gy_b gY_141) 233 = .ok (.iload 6, 2) by decide +kernel) rfl ?_
  refine gr_ifeq (pc := 235) (tgt := 260) (off := 25) hG.2.1 (show decode (gy_b gY_141) 235 = .ok (.ifCond .eq (25), 3) by decide +kernel) (by decide) ?_ ?_
  · exact gj_false
  · refine gr_aload_n (pc := 238) (i := 0) 10 (l0) (show decode (gy_b gY_141) 238 = .ok (.aload_n 0, 1) by decide +kernel) rfl rfl ?_
    refine gj_nn (fun hx239 => ?_)
    refine gj_c0 (pc := 239) (Y' := gY_120) (y := yL_hears) (vs := [gR 10 (l0)]) (rest := []) (rs := fun v137 => [gI (v137)]) [gR 10 (l0)] rfl (hm_120 hG (l0)) rfl (gh_V (t := 10) (vs := []) (rest := []) (show decode (gy_b gY_141) 239 = .ok (.invokevirtual 158, 3) by decide +kernel) rfl hx239 rfl rfl (ok_120 (by decide) (by decide)) wd_1135 wd_1137 wd_34 (Nat.le_of_ble_eq_true rfl)) (fun _ => rfl) ?_
    intro v137 M138 n139 c140
    refine gr_ifeq (pc := 242) (tgt := 260) (off := 18) hG.2.1 (show decode (gy_b gY_141) 242 = .ok (.ifCond .eq (18), 3) by decide +kernel) (by decide) ?_ ?_
    · exact gj_false
    · refine gr_aload_n (pc := 245) (i := 0) 10 (l0) (show decode (gy_b gY_141) 245 = .ok (.aload_n 0, 1) by decide +kernel) rfl rfl ?_
      refine gr_iload_n (pc := 246) (i := 2) (l2) (show decode (gy_b gY_141) 246 = .ok (.iload_n 2, 1) by decide +kernel) rfl rfl ?_
      refine gr_aload_n (pc := 247) (i := 3) 8 (l3) (show decode (gy_b gY_141) 247 = .ok (.aload_n 3, 1) by decide +kernel) rfl rfl ?_
      refine gr_aload (pc := 248) (i := 4) 8 (l4) (show decode (gy_b gY_141) 248 = .ok (.aload 4, 2) by decide +kernel) rfl ?_
      refine gj_nn (fun hx250 => ?_)
      refine gj_c0 (pc := 250) (Y' := gY_136) (y := yL_isText) (vs := [gR 10 (l0), gI (l2), gR 8 (l3), gR 8 (l4)]) (rest := []) (rs := fun v141 => [gI (v141)]) [gR 8 (l4), gR 8 (l3), gI (l2), gR 10 (l0)] rfl (hm_136 hG (l0) (l2) (l3) (l4)) rfl (gh_V (t := 10) (vs := [gI (l2), gR 8 (l3), gR 8 (l4)]) (rest := []) (show decode (gy_b gY_141) 250 = .ok (.invokevirtual 162, 3) by decide +kernel) rfl hx250 rfl rfl (ok_136 (by decide) (by decide)) wd_1170 wd_1172 wd_37 (Nat.le_of_ble_eq_true rfl)) (fun _ => rfl) ?_
      intro v141 M142 n143 c144
      refine gr_ifeq (pc := 253) (tgt := 260) (off := 7) hG.2.1 (show decode (gy_b gY_141) 253 = .ok (.ifCond .eq (7), 3) by decide +kernel) (by decide) ?_ ?_
      · exact gj_false
      · refine gr_iconst (pc := 256) (z := 1) 1 (show decode (gy_b gY_141) 256 = .ok (.iconst (1), 1) by decide +kernel) kc_1 ?_
        refine gr_goto (pc := 257) (tgt := 261) (off := 4) (show decode (gy_b gY_141) 257 = .ok (.goto (4), 3) by decide +kernel) (by decide) ?_
        refine gr_istore (pc := 261) (i := 6) (L' := [gR 10 (l0), gI (l1), gI (l2), gR 8 (l3), gR 8 (l4), gI (l5), gI (1), gI (l7), gB, gB, gB]) (show decode (gy_b gY_141) 261 = .ok (.istore 6, 2) by decide +kernel) (by decide) rfl rfl ?_
        refine gr_aload_n (pc := 263) (i := 0) 10 (l0) (show decode (gy_b gY_141) 263 = .ok (.aload_n 0, 1) by decide +kernel) rfl rfl ?_
        refine gr_iload_n (pc := 264) (i := 1) (l1) (show decode (gy_b gY_141) 264 = .ok (.iload_n 1, 1) by decide +kernel) rfl rfl ?_
        refine gr_iconst (pc := 265) (z := 0) 0 (show decode (gy_b gY_141) 265 = .ok (.iconst (0), 1) by decide +kernel) kc_0 ?_
        refine gj_nn (fun hx266 => ?_)
        refine gj_c0 (pc := 266) (Y' := gY_40) (y := yL_links) (vs := [gR 10 (l0), gI (l1), gI (0)]) (rest := []) (rs := fun v145 => []) [gI (0), gI (l1), gR 10 (l0)] rfl (hm_40 hG (l0) (l1) (0)) rfl (gh_V (t := 10) (vs := [gI (l1), gI (0)]) (rest := []) (show decode (gy_b gY_141) 266 = .ok (.invokevirtual 130, 3) by decide +kernel) rfl hx266 rfl rfl (ok_40 (by decide) (by decide)) wd_654 wd_656 wd_8 (Nat.le_of_ble_eq_true rfl)) (fun _ => rfl) ?_
        intro v145 M146 n147 c148
        refine gr_aload_n (pc := 269) (i := 0) 10 (l0) (show decode (gy_b gY_141) 269 = .ok (.aload_n 0, 1) by decide +kernel) rfl rfl ?_
        refine gr_iload_n (pc := 270) (i := 2) (l2) (show decode (gy_b gY_141) 270 = .ok (.iload_n 2, 1) by decide +kernel) rfl rfl ?_
        refine gr_iconst (pc := 271) (z := 0) 0 (show decode (gy_b gY_141) 271 = .ok (.iconst (0), 1) by decide +kernel) kc_0 ?_
        refine gj_nn (fun hx272 => ?_)
        refine gj_c0 (pc := 272) (Y' := gY_40) (y := yL_links) (vs := [gR 10 (l0), gI (l2), gI (0)]) (rest := []) (rs := fun v149 => []) [gI (0), gI (l2), gR 10 (l0)] rfl (hm_40 hG (l0) (l2) (0)) rfl (gh_V (t := 10) (vs := [gI (l2), gI (0)]) (rest := []) (show decode (gy_b gY_141) 272 = .ok (.invokevirtual 130, 3) by decide +kernel) rfl hx272 rfl rfl (ok_40 (by decide) (by decide)) wd_654 wd_656 wd_8 (Nat.le_of_ble_eq_true rfl)) (fun _ => rfl) ?_
        intro v149 M150 n151 c152
        refine gr_aload_n (pc := 275) (i := 0) 10 (l0) (show decode (gy_b gY_141) 275 = .ok (.aload_n 0, 1) by decide +kernel) rfl rfl ?_
        refine gr_newo (pc := 276) (index := 62) (t := 9) (show decode (gy_b gY_141) 276 = .ok (.new 62, 3) by decide +kernel) rfl wd_390 wd_391 wd_60 ?_
        intro v153 n154 c155
        exact h_141_L279 hG T hdr (l0) (l1) (l2) (l3) (l4) (l5) (1) (l7) (l0) (v153) M150 n154 c155
noncomputable def fi_141_L182 (T : Nat) (K : Nat → Nat → Nat → Nat → Bool) (l0 l1 l2 l3 l4 l5 l7 s0 M n c : Nat) : Bool := gx_get (l0) 3 M (fun v117 => gx_nn (v117) (fi_98 (v117) M n c (fun v118 M119 n120 c121 => gx_sub (v118) (1) (fun z122 => gx_eq (s0) (z122) (gx_get (l0) 3 M119 (fun v123 => gx_nn (v123) (fi_105 (v123) (l7) M119 n120 c121 (fun v124 M125 n126 c127 => gx_eq (v124) (l1) (gx_get (l0) 3 M125 (fun v128 => gx_nn (v128) (fi_100 (v128) (l7) M125 n126 c127 (fun v129 M130 n131 c132 => gx_eq (v129) (115) (gx_nn (l0) (fi_112 (l0) (l1) M130 n131 c132 (fun v133 M134 n135 c136 => fi_141_L233 T K (l0) (l1) (l2) (l3) (l4) (l5) (1) (l7) M134 n135 c136))) (false))))) (false))))) (false)))))
theorem h_141_L182 {G : gxG} (hG : gxG0 G) (T : Nat) (hdr : ∀ x nn : Nat, gxM G gY_draw yL_draw [gR 10 x, gI nn] (fd_draw T x nn)) {K : Nat → Nat → Nat → Nat → Bool} (l0 l1 l2 l3 l4 l5 l7 s0 M n c : Nat) : gxJ G gY_141 K 182 [gI (s0)] [gR 10 (l0), gI (l1), gI (l2), gR 8 (l3), gR 8 (l4), gI (l5), gB, gI (l7), gB, gB, gB] M n c (fi_141_L182 T K l0 l1 l2 l3 l4 l5 l7 s0 M n c) := by
  unfold fi_141_L182
  refine gr_aload_n (pc := 182) (i := 0) 10 (l0) (show decode (gy_b gY_141) 182 = .ok (.aload_n 0, 1) by decide +kernel) rfl rfl ?_
  refine gr_getf (pc := 183) (index := 10) (t := 10) (j := 3) (σ := 15) (sv := (gR 7)) (show decode (gy_b gY_141) 183 = .ok (.getfield 10, 3) by decide +kernel) rfl rfl (fun _ => rfl) wd_346 (by decide) ?_
  intro v117
  refine gj_nn (fun hx186 => ?_)
  refine gj_c0 (pc := 186) (Y' := gY_98) (y := yX7_acts) (vs := [gR 7 (v117)]) (rest := [gI (s0)]) (rs := fun v118 => [gI (v118), gI (s0)]) [gR 7 (v117)] rfl (hm_98 hG (v117)) rfl (gh_V (t := 7) (vs := []) (rest := [gI (s0)]) (show decode (gy_b gY_141) 186 = .ok (.invokevirtual 137, 3) by decide +kernel) rfl hx186 rfl rfl (ok_98 (by decide) (by decide)) wd_1061 wd_1062 wd_1063 (Nat.le_of_ble_eq_true rfl)) (fun _ => rfl) ?_
  intro v118 M119 n120 c121
  refine gr_iconst (pc := 189) (z := 1) 1 (show decode (gy_b gY_141) 189 = .ok (.iconst (1), 1) by decide +kernel) kc_1 ?_
  refine gr_isub (pc := 190) hG.2.1 (show decode (gy_b gY_141) 190 = .ok (.isub, 1) by decide +kernel) ?_
  intro z122
  refine gr_icmp_ne (pc := 191) (tgt := 225) (off := 34) hG.2.1 (show decode (gy_b gY_141) 191 = .ok (.if_icmp .ne (34), 3) by decide +kernel) (by decide) ?_ ?_
  · exact gj_false
  · refine gr_aload_n (pc := 194) (i := 0) 10 (l0) (show decode (gy_b gY_141) 194 = .ok (.aload_n 0, 1) by decide +kernel) rfl rfl ?_
    refine gr_getf (pc := 195) (index := 10) (t := 10) (j := 3) (σ := 15) (sv := (gR 7)) (show decode (gy_b gY_141) 195 = .ok (.getfield 10, 3) by decide +kernel) rfl rfl (fun _ => rfl) wd_346 (by decide) ?_
    intro v123
    refine gr_iload (pc := 198) (i := 7) (l7) (show decode (gy_b gY_141) 198 = .ok (.iload 7, 2) by decide +kernel) rfl ?_
    refine gj_nn (fun hx200 => ?_)
    refine gj_c0 (pc := 200) (Y' := gY_105) (y := yX7_actClient) (vs := [gR 7 (v123), gI (l7)]) (rest := []) (rs := fun v124 => [gI (v124)]) [gI (l7), gR 7 (v123)] rfl (hm_105 hG (v123) (l7)) rfl (gh_V (t := 7) (vs := [gI (l7)]) (rest := []) (show decode (gy_b gY_141) 200 = .ok (.invokevirtual 151, 3) by decide +kernel) rfl hx200 rfl rfl (ok_105 (by decide) (by decide)) wd_1107 wd_1108 wd_1109 (Nat.le_of_ble_eq_true rfl)) (fun _ => rfl) ?_
    intro v124 M125 n126 c127
    refine gr_iload_n (pc := 203) (i := 1) (l1) (show decode (gy_b gY_141) 203 = .ok (.iload_n 1, 1) by decide +kernel) rfl rfl ?_
    refine gr_icmp_ne (pc := 204) (tgt := 225) (off := 21) hG.2.1 (show decode (gy_b gY_141) 204 = .ok (.if_icmp .ne (21), 3) by decide +kernel) (by decide) ?_ ?_
    · exact gj_false
    · refine gr_aload_n (pc := 207) (i := 0) 10 (l0) (show decode (gy_b gY_141) 207 = .ok (.aload_n 0, 1) by decide +kernel) rfl rfl ?_
      refine gr_getf (pc := 208) (index := 10) (t := 10) (j := 3) (σ := 15) (sv := (gR 7)) (show decode (gy_b gY_141) 208 = .ok (.getfield 10, 3) by decide +kernel) rfl rfl (fun _ => rfl) wd_346 (by decide) ?_
      intro v128
      refine gr_iload (pc := 211) (i := 7) (l7) (show decode (gy_b gY_141) 211 = .ok (.iload 7, 2) by decide +kernel) rfl ?_
      refine gj_nn (fun hx213 => ?_)
      refine gj_c0 (pc := 213) (Y' := gY_100) (y := yX7_actKind) (vs := [gR 7 (v128), gI (l7)]) (rest := []) (rs := fun v129 => [gI (v129)]) [gI (l7), gR 7 (v128)] rfl (hm_100 hG (v128) (l7)) rfl (gh_V (t := 7) (vs := [gI (l7)]) (rest := []) (show decode (gy_b gY_141) 213 = .ok (.invokevirtual 140, 3) by decide +kernel) rfl hx213 rfl rfl (ok_100 (by decide) (by decide)) wd_1065 wd_1066 wd_1067 (Nat.le_of_ble_eq_true rfl)) (fun _ => rfl) ?_
      intro v129 M130 n131 c132
      refine gr_bipush (pc := 216) (z := 115) 115 (show decode (gy_b gY_141) 216 = .ok (.bipush (115), 2) by decide +kernel) (by decide +kernel) ?_
      refine gr_icmp_ne (pc := 218) (tgt := 225) (off := 7) hG.2.1 (show decode (gy_b gY_141) 218 = .ok (.if_icmp .ne (7), 3) by decide +kernel) (by decide) ?_ ?_
      · exact gj_false
      · refine gr_iconst (pc := 221) (z := 1) 1 (show decode (gy_b gY_141) 221 = .ok (.iconst (1), 1) by decide +kernel) kc_1 ?_
        refine gr_goto (pc := 222) (tgt := 226) (off := 4) (show decode (gy_b gY_141) 222 = .ok (.goto (4), 3) by decide +kernel) (by decide) ?_
        refine gr_istore (pc := 226) (i := 6) (L' := [gR 10 (l0), gI (l1), gI (l2), gR 8 (l3), gR 8 (l4), gI (l5), gI (1), gI (l7), gB, gB, gB]) (show decode (gy_b gY_141) 226 = .ok (.istore 6, 2) by decide +kernel) (by decide) rfl rfl ?_
        refine gr_aload_n (pc := 228) (i := 0) 10 (l0) (show decode (gy_b gY_141) 228 = .ok (.aload_n 0, 1) by decide +kernel) rfl rfl ?_
        refine gr_iload_n (pc := 229) (i := 1) (l1) (show decode (gy_b gY_141) 229 = .ok (.iload_n 1, 1) by decide +kernel) rfl rfl ?_
        refine gj_nn (fun hx230 => ?_)
        refine gj_c0 (pc := 230) (Y' := gY_112) (y := yL_brings) (vs := [gR 10 (l0), gI (l1)]) (rest := []) (rs := fun v133 => []) [gI (l1), gR 10 (l0)] rfl (hm_112 hG (l0) (l1)) rfl (gh_V (t := 10) (vs := [gI (l1)]) (rest := []) (show decode (gy_b gY_141) 230 = .ok (.invokevirtual 154, 3) by decide +kernel) rfl hx230 rfl rfl (ok_112 (by decide) (by decide)) wd_1111 wd_1113 wd_33 (Nat.le_of_ble_eq_true rfl)) (fun _ => rfl) ?_
        intro v133 M134 n135 c136
        exact h_141_L233 hG T hdr (l0) (l1) (l2) (l3) (l4) (l5) (1) (l7) M134 n135 c136
noncomputable def fi_141_L127 (T : Nat) (K : Nat → Nat → Nat → Nat → Bool) (l0 l1 l2 l3 l4 l5 s0 M n c : Nat) : Bool := gx_eq (s0) 0 (gx_new 4 n c (fun v85 n86 c87 => gx_nn (v85) (fi_10 (v85) M n86 c87 (fun v88 M89 n90 c91 => gx_nn (v85) (fi_18 (v85) (l3) M89 n90 c91 (fun v92 M93 n94 c95 => gx_nn (v92) (fi_18 (v92) (9) M93 n94 c95 (fun v96 M97 n98 c99 => gx_nn (v96) (fi_18 (v96) (l4) M97 n98 c99 (fun v100 M101 n102 c103 => gx_nn (v100) (fi_31 (v100) M101 n102 c103 (fun v104 M105 n106 c107 => gx_nn (l0) (fi_49 (l0) (v104) M105 n106 c107 (fun v108 M109 n110 c111 => gx_get (l0) 3 M109 (fun v112 => gx_nn (v112) (fi_104 (v112) (l1) M109 n110 c111 (fun v113 M114 n115 c116 => gx_eq (1) 0 (false) (fi_141_L182 T K (l0) (l1) (l2) (l3) (l4) (l5) (v113) (v113) M114 n115 c116)))))))))))))))))) (false)
theorem h_141_L127 {G : gxG} (hG : gxG0 G) (T : Nat) (hdr : ∀ x nn : Nat, gxM G gY_draw yL_draw [gR 10 x, gI nn] (fd_draw T x nn)) {K : Nat → Nat → Nat → Nat → Bool} (l0 l1 l2 l3 l4 l5 s0 M n c : Nat) : gxJ G gY_141 K 127 [gI (s0)] [gR 10 (l0), gI (l1), gI (l2), gR 8 (l3), gR 8 (l4), gI (l5), gB, gB, gB, gB, gB] M n c (fi_141_L127 T K l0 l1 l2 l3 l4 l5 s0 M n c) := by
  unfold fi_141_L127
  refine gr_ifne (pc := 127) (tgt := 134) (off := 7) hG.2.1 (show decode (gy_b gY_141) 127 = .ok (.ifCond .ne (7), 3) by decide +kernel) (by decide) ?_ ?_
  · exact gj_false
  · refine gr_iconst (pc := 130) (z := 1) 1 (show decode (gy_b gY_141) 130 = .ok (.iconst (1), 1) by decide +kernel) kc_1 ?_
    refine gr_goto (pc := 131) (tgt := 135) (off := 4) (show decode (gy_b gY_141) 131 = .ok (.goto (4), 3) by decide +kernel) (by decide) ?_
    refine gr_istore (pc := 135) (i := 6) (L' := [gR 10 (l0), gI (l1), gI (l2), gR 8 (l3), gR 8 (l4), gI (l5), gI (1), gB, gB, gB, gB]) (show decode (gy_b gY_141) 135 = .ok (.istore 6, 2) by decide +kernel) (by decide) rfl rfl ?_
    refine gr_aload_n (pc := 137) (i := 0) 10 (l0) (show decode (gy_b gY_141) 137 = .ok (.aload_n 0, 1) by decide +kernel) rfl rfl ?_
    refine gr_newo (pc := 138) (index := 62) (t := 9) (show decode (gy_b gY_141) 138 = .ok (.new 62, 3) by decide +kernel) rfl wd_390 wd_391 wd_60 ?_
    intro v85 n86 c87
    refine gr_dup (b := gB) (pc := 141) (show decode (gy_b gY_141) 141 = .ok (.dup, 1) by decide +kernel) rfl ?_
    refine gj_nn (fun hx142 => ?_)
    refine gj_c0 (pc := 142) (Y' := gY_10) (y := yJ4_init_da8c8) (vs := [gR 9 (v85)]) (rest := [gR 9 (v85), gR 10 (l0)]) (rs := fun v88 => [gR 9 (v85), gR 10 (l0)]) [gR 9 (v85)] rfl (hm_10 hG (v85)) rfl (gh_I (t := 9) (vs := []) (rest := [gR 9 (v85), gR 10 (l0)]) (show decode (gy_b gY_141) 142 = .ok (.invokespecial 64, 3) by decide +kernel) rfl hx142 rfl (ok_10 (by decide) (by decide)) rfl rfl rfl rfl wd_392 wd_393 (Nat.le_of_ble_eq_true rfl)) (fun _ => rfl) ?_
    intro v88 M89 n90 c91
    refine gr_aload_n (pc := 145) (i := 3) 8 (l3) (show decode (gy_b gY_141) 145 = .ok (.aload_n 3, 1) by decide +kernel) rfl rfl ?_
    refine gj_nn (fun hx146 => ?_)
    refine gj_c0 (pc := 146) (Y' := gY_18) (y := yJ4_append_15ec4) (vs := [gR 9 (v85), gR 8 (l3)]) (rest := [gR 10 (l0)]) (rs := fun v92 => [gR 9 (v92), gR 10 (l0)]) [gR 8 (l3), gR 9 (v85)] rfl (hm_18 hG (v85) (l3)) rfl (gh_V (t := 9) (vs := [gR 8 (l3)]) (rest := [gR 10 (l0)]) (show decode (gy_b gY_141) 146 = .ok (.invokevirtual 67, 3) by decide +kernel) rfl hx146 rfl rfl (ok_18 (by decide) (by decide)) wd_423 wd_424 wd_425 (Nat.le_of_ble_eq_true rfl)) (fun _ => rfl) ?_
    intro v92 M93 n94 c95
    refine gr_ldcS (pc := 149) (index := 146) (b := 9) (tx := "=") rfl (show decode (gy_b gY_141) 149 = .ok (.ldc 146, 2) by decide +kernel) (by decide) (by decide) (by decide) ?_
    refine gj_nn (fun hx151 => ?_)
    refine gj_c0 (pc := 151) (Y' := gY_18) (y := yJ4_append_15ec4) (vs := [gR 9 (v92), gR 8 (9)]) (rest := [gR 10 (l0)]) (rs := fun v96 => [gR 9 (v96), gR 10 (l0)]) [gR 8 (9), gR 9 (v92)] rfl (hm_18 hG (v92) (9)) rfl (gh_V (t := 9) (vs := [gR 8 (9)]) (rest := [gR 10 (l0)]) (show decode (gy_b gY_141) 151 = .ok (.invokevirtual 67, 3) by decide +kernel) rfl hx151 rfl rfl (ok_18 (by decide) (by decide)) wd_423 wd_424 wd_425 (Nat.le_of_ble_eq_true rfl)) (fun _ => rfl) ?_
    intro v96 M97 n98 c99
    refine gr_aload (pc := 154) (i := 4) 8 (l4) (show decode (gy_b gY_141) 154 = .ok (.aload 4, 2) by decide +kernel) rfl ?_
    refine gj_nn (fun hx156 => ?_)
    refine gj_c0 (pc := 156) (Y' := gY_18) (y := yJ4_append_15ec4) (vs := [gR 9 (v96), gR 8 (l4)]) (rest := [gR 10 (l0)]) (rs := fun v100 => [gR 9 (v100), gR 10 (l0)]) [gR 8 (l4), gR 9 (v96)] rfl (hm_18 hG (v96) (l4)) rfl (gh_V (t := 9) (vs := [gR 8 (l4)]) (rest := [gR 10 (l0)]) (show decode (gy_b gY_141) 156 = .ok (.invokevirtual 67, 3) by decide +kernel) rfl hx156 rfl rfl (ok_18 (by decide) (by decide)) wd_423 wd_424 wd_425 (Nat.le_of_ble_eq_true rfl)) (fun _ => rfl) ?_
    intro v100 M101 n102 c103
    refine gj_nn (fun hx159 => ?_)
    refine gj_c0 (pc := 159) (Y' := gY_31) (y := yJ4_toString_0e30d) (vs := [gR 9 (v100)]) (rest := [gR 10 (l0)]) (rs := fun v104 => [gR 8 (v104), gR 10 (l0)]) [gR 9 (v100)] rfl (hm_31 hG (v100)) rfl (gh_V (t := 9) (vs := []) (rest := [gR 10 (l0)]) (show decode (gy_b gY_141) 159 = .ok (.invokevirtual 78, 3) by decide +kernel) rfl hx159 rfl rfl (ok_31 (by decide) (by decide)) wd_565 wd_566 wd_567 (Nat.le_of_ble_eq_true rfl)) (fun _ => rfl) ?_
    intro v104 M105 n106 c107
    refine gj_nn (fun hx162 => ?_)
    refine gj_c0 (pc := 162) (Y' := gY_49) (y := yL_types) (vs := [gR 10 (l0), gR 8 (v104)]) (rest := []) (rs := fun v108 => []) [gR 8 (v104), gR 10 (l0)] rfl (hm_49 hG (l0) (v104)) rfl (gh_V (t := 10) (vs := [gR 8 (v104)]) (rest := []) (show decode (gy_b gY_141) 162 = .ok (.invokevirtual 108, 3) by decide +kernel) rfl hx162 rfl rfl (ok_49 (by decide) (by decide)) wd_736 wd_738 wd_11 (Nat.le_of_ble_eq_true rfl)) (fun _ => rfl) ?_
    intro v108 M109 n110 c111
    refine gr_aload_n (pc := 165) (i := 0) 10 (l0) (show decode (gy_b gY_141) 165 = .ok (.aload_n 0, 1) by decide +kernel) rfl rfl ?_
    refine gr_getf (pc := 166) (index := 10) (t := 10) (j := 3) (σ := 15) (sv := (gR 7)) (show decode (gy_b gY_141) 166 = .ok (.getfield 10, 3) by decide +kernel) rfl rfl (fun _ => rfl) wd_346 (by decide) ?_
    intro v112
    refine gr_iload_n (pc := 169) (i := 1) (l1) (show decode (gy_b gY_141) 169 = .ok (.iload_n 1, 1) by decide +kernel) rfl rfl ?_
    refine gj_nn (fun hx170 => ?_)
    refine gj_c0 (pc := 170) (Y' := gY_104) (y := yX7_store) (vs := [gR 7 (v112), gI (l1)]) (rest := []) (rs := fun v113 => [gI (v113)]) [gI (l1), gR 7 (v112)] rfl (hm_104 hG (v112) (l1)) rfl (gh_V (t := 7) (vs := [gI (l1)]) (rest := []) (show decode (gy_b gY_141) 170 = .ok (.invokevirtual 148, 3) by decide +kernel) rfl hx170 rfl rfl (ok_104 (by decide) (by decide)) wd_1094 wd_1095 wd_1096 (Nat.le_of_ble_eq_true rfl)) (fun _ => rfl) ?_
    intro v113 M114 n115 c116
    refine gr_istore (pc := 173) (i := 7) (L' := [gR 10 (l0), gI (l1), gI (l2), gR 8 (l3), gR 8 (l4), gI (l5), gI (1), gI (v113), gB, gB, gB]) (show decode (gy_b gY_141) 173 = .ok (.istore 7, 2) by decide +kernel) (by decide) rfl rfl ?_
    refine gr_iload (pc := 175) (i := 6) (1) (show decode (gy_b gY_141) 175 = .ok (.iload 6, 2) by decide +kernel) rfl ?_
    refine gr_ifeq (pc := 177) (tgt := 225) (off := 48) hG.2.1 (show decode (gy_b gY_141) 177 = .ok (.ifCond .eq (48), 3) by decide +kernel) (by decide) ?_ ?_
    · exact gj_false
    · refine gr_iload (pc := 180) (i := 7) (v113) (show decode (gy_b gY_141) 180 = .ok (.iload 7, 2) by decide +kernel) rfl ?_
      refine gr_wk [true, true, true, true, true, true, false, true, true, true, true] rfl ?_
      exact h_141_L182 hG T hdr (l0) (l1) (l2) (l3) (l4) (l5) (v113) (v113) M114 n115 c116
noncomputable def fi_141_L82 (T : Nat) (K : Nat → Nat → Nat → Nat → Bool) (l0 l1 l2 l3 l4 l5 s0 M n c : Nat) : Bool := gx_add (l1) (1) (fun z61 => gx_rem (z61) (4) (fun z62 => gx_eq (s0) (z62) (gx_get (l0) 3 M (fun v63 => gx_get (l0) 3 M (fun v64 => gx_nn (v64) (fi_98 (v64) M n c (fun v65 M66 n67 c68 => gx_sub (v65) (1) (fun z69 => gx_nn (v63) (fi_100 (v63) (z69) M66 n67 c68 (fun v70 M71 n72 c73 => gx_eq (v70) (97) (gx_get (l0) 3 M71 (fun v74 => gx_get (l0) 3 M71 (fun v75 => gx_nn (v75) (fi_98 (v75) M71 n72 c73 (fun v76 M77 n78 c79 => gx_sub (v76) (1) (fun z80 => gx_nn (v74) (fi_101 (v74) (z80) M77 n78 c79 (fun v81 M82 n83 c84 => fi_141_L127 T K (l0) (l1) (l2) (l3) (l4) (l5) (v81) M82 n83 c84)))))))) (false))))))))) (false)))
theorem h_141_L82 {G : gxG} (hG : gxG0 G) (T : Nat) (hdr : ∀ x nn : Nat, gxM G gY_draw yL_draw [gR 10 x, gI nn] (fd_draw T x nn)) {K : Nat → Nat → Nat → Nat → Bool} (l0 l1 l2 l3 l4 l5 s0 M n c : Nat) : gxJ G gY_141 K 82 [gI (s0)] [gR 10 (l0), gI (l1), gI (l2), gR 8 (l3), gR 8 (l4), gI (l5), gB, gB, gB, gB, gB] M n c (fi_141_L82 T K l0 l1 l2 l3 l4 l5 s0 M n c) := by
  unfold fi_141_L82
  refine gr_iload_n (pc := 82) (i := 1) (l1) (show decode (gy_b gY_141) 82 = .ok (.iload_n 1, 1) by decide +kernel) rfl rfl ?_
  refine gr_iconst (pc := 83) (z := 1) 1 (show decode (gy_b gY_141) 83 = .ok (.iconst (1), 1) by decide +kernel) kc_1 ?_
  refine gr_iadd (pc := 84) (show decode (gy_b gY_141) 84 = .ok (.iadd, 1) by decide +kernel) ?_
  intro z61
  refine gr_iconst (pc := 85) (z := 4) 4 (show decode (gy_b gY_141) 85 = .ok (.iconst (4), 1) by decide +kernel) kc_4 ?_
  refine gr_irem (pc := 86) (show decode (gy_b gY_141) 86 = .ok (.irem, 1) by decide +kernel) ?_
  intro z62
  refine gr_icmp_ne (pc := 87) (tgt := 134) (off := 47) hG.2.1 (show decode (gy_b gY_141) 87 = .ok (.if_icmp .ne (47), 3) by decide +kernel) (by decide) ?_ ?_
  · exact gj_false
  · refine gr_aload_n (pc := 90) (i := 0) 10 (l0) (show decode (gy_b gY_141) 90 = .ok (.aload_n 0, 1) by decide +kernel) rfl rfl ?_
    refine gr_getf (pc := 91) (index := 10) (t := 10) (j := 3) (σ := 15) (sv := (gR 7)) (show decode (gy_b gY_141) 91 = .ok (.getfield 10, 3) by decide +kernel) rfl rfl (fun _ => rfl) wd_346 (by decide) ?_
    intro v63
    refine gr_aload_n (pc := 94) (i := 0) 10 (l0) (show decode (gy_b gY_141) 94 = .ok (.aload_n 0, 1) by decide +kernel) rfl rfl ?_
    refine gr_getf (pc := 95) (index := 10) (t := 10) (j := 3) (σ := 15) (sv := (gR 7)) (show decode (gy_b gY_141) 95 = .ok (.getfield 10, 3) by decide +kernel) rfl rfl (fun _ => rfl) wd_346 (by decide) ?_
    intro v64
    refine gj_nn (fun hx98 => ?_)
    refine gj_c0 (pc := 98) (Y' := gY_98) (y := yX7_acts) (vs := [gR 7 (v64)]) (rest := [gR 7 (v63)]) (rs := fun v65 => [gI (v65), gR 7 (v63)]) [gR 7 (v64)] rfl (hm_98 hG (v64)) rfl (gh_V (t := 7) (vs := []) (rest := [gR 7 (v63)]) (show decode (gy_b gY_141) 98 = .ok (.invokevirtual 137, 3) by decide +kernel) rfl hx98 rfl rfl (ok_98 (by decide) (by decide)) wd_1061 wd_1062 wd_1063 (Nat.le_of_ble_eq_true rfl)) (fun _ => rfl) ?_
    intro v65 M66 n67 c68
    refine gr_iconst (pc := 101) (z := 1) 1 (show decode (gy_b gY_141) 101 = .ok (.iconst (1), 1) by decide +kernel) kc_1 ?_
    refine gr_isub (pc := 102) hG.2.1 (show decode (gy_b gY_141) 102 = .ok (.isub, 1) by decide +kernel) ?_
    intro z69
    refine gj_nn (fun hx103 => ?_)
    refine gj_c0 (pc := 103) (Y' := gY_100) (y := yX7_actKind) (vs := [gR 7 (v63), gI (z69)]) (rest := []) (rs := fun v70 => [gI (v70)]) [gI (z69), gR 7 (v63)] rfl (hm_100 hG (v63) (z69)) rfl (gh_V (t := 7) (vs := [gI (z69)]) (rest := []) (show decode (gy_b gY_141) 103 = .ok (.invokevirtual 140, 3) by decide +kernel) rfl hx103 rfl rfl (ok_100 (by decide) (by decide)) wd_1065 wd_1066 wd_1067 (Nat.le_of_ble_eq_true rfl)) (fun _ => rfl) ?_
    intro v70 M71 n72 c73
    refine gr_bipush (pc := 106) (z := 97) 97 (show decode (gy_b gY_141) 106 = .ok (.bipush (97), 2) by decide +kernel) (by decide +kernel) ?_
    refine gr_icmp_ne (pc := 108) (tgt := 134) (off := 26) hG.2.1 (show decode (gy_b gY_141) 108 = .ok (.if_icmp .ne (26), 3) by decide +kernel) (by decide) ?_ ?_
    · exact gj_false
    · refine gr_aload_n (pc := 111) (i := 0) 10 (l0) (show decode (gy_b gY_141) 111 = .ok (.aload_n 0, 1) by decide +kernel) rfl rfl ?_
      refine gr_getf (pc := 112) (index := 10) (t := 10) (j := 3) (σ := 15) (sv := (gR 7)) (show decode (gy_b gY_141) 112 = .ok (.getfield 10, 3) by decide +kernel) rfl rfl (fun _ => rfl) wd_346 (by decide) ?_
      intro v74
      refine gr_aload_n (pc := 115) (i := 0) 10 (l0) (show decode (gy_b gY_141) 115 = .ok (.aload_n 0, 1) by decide +kernel) rfl rfl ?_
      refine gr_getf (pc := 116) (index := 10) (t := 10) (j := 3) (σ := 15) (sv := (gR 7)) (show decode (gy_b gY_141) 116 = .ok (.getfield 10, 3) by decide +kernel) rfl rfl (fun _ => rfl) wd_346 (by decide) ?_
      intro v75
      refine gj_nn (fun hx119 => ?_)
      refine gj_c0 (pc := 119) (Y' := gY_98) (y := yX7_acts) (vs := [gR 7 (v75)]) (rest := [gR 7 (v74)]) (rs := fun v76 => [gI (v76), gR 7 (v74)]) [gR 7 (v75)] rfl (hm_98 hG (v75)) rfl (gh_V (t := 7) (vs := []) (rest := [gR 7 (v74)]) (show decode (gy_b gY_141) 119 = .ok (.invokevirtual 137, 3) by decide +kernel) rfl hx119 rfl rfl (ok_98 (by decide) (by decide)) wd_1061 wd_1062 wd_1063 (Nat.le_of_ble_eq_true rfl)) (fun _ => rfl) ?_
      intro v76 M77 n78 c79
      refine gr_iconst (pc := 122) (z := 1) 1 (show decode (gy_b gY_141) 122 = .ok (.iconst (1), 1) by decide +kernel) kc_1 ?_
      refine gr_isub (pc := 123) hG.2.1 (show decode (gy_b gY_141) 123 = .ok (.isub, 1) by decide +kernel) ?_
      intro z80
      refine gj_nn (fun hx124 => ?_)
      refine gj_c0 (pc := 124) (Y' := gY_101) (y := yX7_actObject) (vs := [gR 7 (v74), gI (z80)]) (rest := []) (rs := fun v81 => [gI (v81)]) [gI (z80), gR 7 (v74)] rfl (hm_101 hG (v74) (z80)) rfl (gh_V (t := 7) (vs := [gI (z80)]) (rest := []) (show decode (gy_b gY_141) 124 = .ok (.invokevirtual 143, 3) by decide +kernel) rfl hx124 rfl rfl (ok_101 (by decide) (by decide)) wd_1089 wd_1090 wd_1091 (Nat.le_of_ble_eq_true rfl)) (fun _ => rfl) ?_
      intro v81 M82 n83 c84
      exact h_141_L127 hG T hdr (l0) (l1) (l2) (l3) (l4) (l5) (v81) M82 n83 c84
noncomputable def fi_141_L38 (T : Nat) (K : Nat → Nat → Nat → Nat → Bool) (l0 l1 l2 l3 s0 s1 M n c : Nat) : Bool := gx_nn (s1) (fd_draw T (s1) (100) M n c (fun v31 M32 n33 c34 => gx_nn (s0) (fi_37 (s0) (v31) M32 n33 c34 (fun v35 M36 n37 c38 => gx_nn (v35) (fi_31 (v35) M36 n37 c38 (fun v39 M40 n41 c42 => gx_nn (l0) (fi_40 (l0) (l1) (1) M40 n41 c42 (fun v43 M44 n45 c46 => gx_nn (l0) (fi_40 (l0) (l2) (1) M44 n45 c46 (fun v47 M48 n49 c50 => gx_nn (l0) (fi_49 (l0) (l3) M48 n49 c50 (fun v51 M52 n53 c54 => gx_get (l0) 3 M52 (fun v55 => gx_nn (v55) (fi_97 (v55) (l1) M52 n53 c54 (fun v56 M57 n58 c59 => gx_rem (v56) (4) (fun z60 => fi_141_L82 T K (l0) (l1) (l2) (l3) (v39) (v56) (z60) M57 n58 c59))))))))))))))))
theorem h_141_L38 {G : gxG} (hG : gxG0 G) (T : Nat) (hdr : ∀ x nn : Nat, gxM G gY_draw yL_draw [gR 10 x, gI nn] (fd_draw T x nn)) {K : Nat → Nat → Nat → Nat → Bool} (l0 l1 l2 l3 s0 s1 M n c : Nat) : gxJ G gY_141 K 38 [gR 10 (s1), gR 9 (s0)] [gR 10 (l0), gI (l1), gI (l2), gR 8 (l3), gB, gB, gB, gB, gB, gB, gB] M n c (fi_141_L38 T K l0 l1 l2 l3 s0 s1 M n c) := by
  unfold fi_141_L38
  refine gr_bipush (pc := 38) (z := 100) 100 (show decode (gy_b gY_141) 38 = .ok (.bipush (100), 2) by decide +kernel) (by decide +kernel) ?_
  refine gj_nn (fun hx40 => ?_)
  refine gj_c0 (pc := 40) (Y' := gY_draw) (y := yL_draw) (vs := [gR 10 (s1), gI (100)]) (rest := [gR 9 (s0)]) (rs := fun v31 => [gI (v31), gR 9 (s0)]) [gI (100), gR 10 (s1)] rfl (hdr (s1) (100)) rfl (gh_V (t := 10) (vs := [gI (100)]) (rest := [gR 9 (s0)]) (show decode (gy_b gY_141) 40 = .ok (.invokevirtual 71, 3) by decide +kernel) rfl hx40 rfl rfl (ok_draw (by decide) (by decide)) wd_363 wd_365 wd_4 (Nat.le_of_ble_eq_true rfl)) (fun _ => rfl) ?_
  intro v31 M32 n33 c34
  refine gj_nn (fun hx43 => ?_)
  refine gj_c0 (pc := 43) (Y' := gY_37) (y := yJ4_append_bf812) (vs := [gR 9 (s0), gI (v31)]) (rest := []) (rs := fun v35 => [gR 9 (v35)]) [gI (v31), gR 9 (s0)] rfl (hm_37 hG (s0) (v31)) rfl (gh_V (t := 9) (vs := [gI (v31)]) (rest := []) (show decode (gy_b gY_141) 43 = .ok (.invokevirtual 127, 3) by decide +kernel) rfl hx43 rfl rfl (ok_37 (by decide) (by decide)) wd_629 wd_630 wd_631 (Nat.le_of_ble_eq_true rfl)) (fun _ => rfl) ?_
  intro v35 M36 n37 c38
  refine gj_nn (fun hx46 => ?_)
  refine gj_c0 (pc := 46) (Y' := gY_31) (y := yJ4_toString_0e30d) (vs := [gR 9 (v35)]) (rest := []) (rs := fun v39 => [gR 8 (v39)]) [gR 9 (v35)] rfl (hm_31 hG (v35)) rfl (gh_V (t := 9) (vs := []) (rest := []) (show decode (gy_b gY_141) 46 = .ok (.invokevirtual 78, 3) by decide +kernel) rfl hx46 rfl rfl (ok_31 (by decide) (by decide)) wd_565 wd_566 wd_567 (Nat.le_of_ble_eq_true rfl)) (fun _ => rfl) ?_
  intro v39 M40 n41 c42
  refine gr_astore (pc := 49) (i := 4) (L' := [gR 10 (l0), gI (l1), gI (l2), gR 8 (l3), gR 8 (v39), gB, gB, gB, gB, gB, gB]) (show decode (gy_b gY_141) 49 = .ok (.astore 4, 2) by decide +kernel) (by decide) rfl rfl ?_
  refine gr_aload_n (pc := 51) (i := 0) 10 (l0) (show decode (gy_b gY_141) 51 = .ok (.aload_n 0, 1) by decide +kernel) rfl rfl ?_
  refine gr_iload_n (pc := 52) (i := 1) (l1) (show decode (gy_b gY_141) 52 = .ok (.iload_n 1, 1) by decide +kernel) rfl rfl ?_
  refine gr_iconst (pc := 53) (z := 1) 1 (show decode (gy_b gY_141) 53 = .ok (.iconst (1), 1) by decide +kernel) kc_1 ?_
  refine gj_nn (fun hx54 => ?_)
  refine gj_c0 (pc := 54) (Y' := gY_40) (y := yL_links) (vs := [gR 10 (l0), gI (l1), gI (1)]) (rest := []) (rs := fun v43 => []) [gI (1), gI (l1), gR 10 (l0)] rfl (hm_40 hG (l0) (l1) (1)) rfl (gh_V (t := 10) (vs := [gI (l1), gI (1)]) (rest := []) (show decode (gy_b gY_141) 54 = .ok (.invokevirtual 130, 3) by decide +kernel) rfl hx54 rfl rfl (ok_40 (by decide) (by decide)) wd_654 wd_656 wd_8 (Nat.le_of_ble_eq_true rfl)) (fun _ => rfl) ?_
  intro v43 M44 n45 c46
  refine gr_aload_n (pc := 57) (i := 0) 10 (l0) (show decode (gy_b gY_141) 57 = .ok (.aload_n 0, 1) by decide +kernel) rfl rfl ?_
  refine gr_iload_n (pc := 58) (i := 2) (l2) (show decode (gy_b gY_141) 58 = .ok (.iload_n 2, 1) by decide +kernel) rfl rfl ?_
  refine gr_iconst (pc := 59) (z := 1) 1 (show decode (gy_b gY_141) 59 = .ok (.iconst (1), 1) by decide +kernel) kc_1 ?_
  refine gj_nn (fun hx60 => ?_)
  refine gj_c0 (pc := 60) (Y' := gY_40) (y := yL_links) (vs := [gR 10 (l0), gI (l2), gI (1)]) (rest := []) (rs := fun v47 => []) [gI (1), gI (l2), gR 10 (l0)] rfl (hm_40 hG (l0) (l2) (1)) rfl (gh_V (t := 10) (vs := [gI (l2), gI (1)]) (rest := []) (show decode (gy_b gY_141) 60 = .ok (.invokevirtual 130, 3) by decide +kernel) rfl hx60 rfl rfl (ok_40 (by decide) (by decide)) wd_654 wd_656 wd_8 (Nat.le_of_ble_eq_true rfl)) (fun _ => rfl) ?_
  intro v47 M48 n49 c50
  refine gr_aload_n (pc := 63) (i := 0) 10 (l0) (show decode (gy_b gY_141) 63 = .ok (.aload_n 0, 1) by decide +kernel) rfl rfl ?_
  refine gr_aload_n (pc := 64) (i := 3) 8 (l3) (show decode (gy_b gY_141) 64 = .ok (.aload_n 3, 1) by decide +kernel) rfl rfl ?_
  refine gj_nn (fun hx65 => ?_)
  refine gj_c0 (pc := 65) (Y' := gY_49) (y := yL_types) (vs := [gR 10 (l0), gR 8 (l3)]) (rest := []) (rs := fun v51 => []) [gR 8 (l3), gR 10 (l0)] rfl (hm_49 hG (l0) (l3)) rfl (gh_V (t := 10) (vs := [gR 8 (l3)]) (rest := []) (show decode (gy_b gY_141) 65 = .ok (.invokevirtual 108, 3) by decide +kernel) rfl hx65 rfl rfl (ok_49 (by decide) (by decide)) wd_736 wd_738 wd_11 (Nat.le_of_ble_eq_true rfl)) (fun _ => rfl) ?_
  intro v51 M52 n53 c54
  refine gr_aload_n (pc := 68) (i := 0) 10 (l0) (show decode (gy_b gY_141) 68 = .ok (.aload_n 0, 1) by decide +kernel) rfl rfl ?_
  refine gr_getf (pc := 69) (index := 10) (t := 10) (j := 3) (σ := 15) (sv := (gR 7)) (show decode (gy_b gY_141) 69 = .ok (.getfield 10, 3) by decide +kernel) rfl rfl (fun _ => rfl) wd_346 (by decide) ?_
  intro v55
  refine gr_iload_n (pc := 72) (i := 1) (l1) (show decode (gy_b gY_141) 72 = .ok (.iload_n 1, 1) by decide +kernel) rfl rfl ?_
  refine gj_nn (fun hx73 => ?_)
  refine gj_c0 (pc := 73) (Y' := gY_97) (y := yX7_makeFile) (vs := [gR 7 (v55), gI (l1)]) (rest := []) (rs := fun v56 => [gI (v56)]) [gI (l1), gR 7 (v55)] rfl (hm_97 hG (v55) (l1)) rfl (gh_V (t := 7) (vs := [gI (l1)]) (rest := []) (show decode (gy_b gY_141) 73 = .ok (.invokevirtual 134, 3) by decide +kernel) rfl hx73 rfl rfl (ok_97 (by decide) (by decide)) wd_807 wd_808 wd_809 (Nat.le_of_ble_eq_true rfl)) (fun _ => rfl) ?_
  intro v56 M57 n58 c59
  refine gr_istore (pc := 76) (i := 5) (L' := [gR 10 (l0), gI (l1), gI (l2), gR 8 (l3), gR 8 (v39), gI (v56), gB, gB, gB, gB, gB]) (show decode (gy_b gY_141) 76 = .ok (.istore 5, 2) by decide +kernel) (by decide) rfl rfl ?_
  refine gr_iload (pc := 78) (i := 5) (v56) (show decode (gy_b gY_141) 78 = .ok (.iload 5, 2) by decide +kernel) rfl ?_
  refine gr_iconst (pc := 80) (z := 4) 4 (show decode (gy_b gY_141) 80 = .ok (.iconst (4), 1) by decide +kernel) kc_4 ?_
  refine gr_irem (pc := 81) (show decode (gy_b gY_141) 81 = .ok (.irem, 1) by decide +kernel) ?_
  intro z60
  exact h_141_L82 hG T hdr (l0) (l1) (l2) (l3) (v39) (v56) (z60) M57 n58 c59
noncomputable def fi_141_L0 (T : Nat) (K : Nat → Nat → Nat → Nat → Bool) (l0 M n c : Nat) : Bool := gx_nn (l0) (fd_draw T (l0) (4) M n c (fun v1 M2 n3 c4 => gx_add (v1) (1) (fun z5 => gx_nn (l0) (fd_draw T (l0) (3) M2 n3 c4 (fun v6 M7 n8 c9 => gx_add (z5) (v6) (fun z10 => gx_rem (z10) (4) (fun z11 => gx_nn (l0) (fi_32 T (l0) M7 n8 c9 (fun v12 M13 n14 c15 => gx_new 4 n14 c15 (fun v16 n17 c18 => gx_nn (v16) (fi_10 (v16) M13 n17 c18 (fun v19 M20 n21 c22 => gx_nn (l0) (fi_33 T (l0) M20 n21 c22 (fun v23 M24 n25 c26 => gx_nn (v16) (fi_18 (v16) (v23) M24 n25 c26 (fun v27 M28 n29 c30 => fi_141_L38 T K (l0) (v1) (z11) (v12) (v27) (l0) M28 n29 c30))))))))))))))))
theorem h_141_L0 {G : gxG} (hG : gxG0 G) (T : Nat) (hdr : ∀ x nn : Nat, gxM G gY_draw yL_draw [gR 10 x, gI nn] (fd_draw T x nn)) {K : Nat → Nat → Nat → Nat → Bool} (l0 M n c : Nat) : gxJ G gY_141 K 0 [] [gR 10 (l0), gB, gB, gB, gB, gB, gB, gB, gB, gB, gB] M n c (fi_141_L0 T K l0 M n c) := by
  unfold fi_141_L0
  refine gr_aload_n (pc := 0) (i := 0) 10 (l0) (show decode (gy_b gY_141) 0 = .ok (.aload_n 0, 1) by decide +kernel) rfl rfl ?_
  refine gr_iconst (pc := 1) (z := 4) 4 (show decode (gy_b gY_141) 1 = .ok (.iconst (4), 1) by decide +kernel) kc_4 ?_
  refine gj_nn (fun hx2 => ?_)
  refine gj_c0 (pc := 2) (Y' := gY_draw) (y := yL_draw) (vs := [gR 10 (l0), gI (4)]) (rest := []) (rs := fun v1 => [gI (v1)]) [gI (4), gR 10 (l0)] rfl (hdr (l0) (4)) rfl (gh_V (t := 10) (vs := [gI (4)]) (rest := []) (show decode (gy_b gY_141) 2 = .ok (.invokevirtual 71, 3) by decide +kernel) rfl hx2 rfl rfl (ok_draw (by decide) (by decide)) wd_363 wd_365 wd_4 (Nat.le_of_ble_eq_true rfl)) (fun _ => rfl) ?_
  intro v1 M2 n3 c4
  refine gr_istore_n (pc := 5) (i := 1) (L' := [gR 10 (l0), gI (v1), gB, gB, gB, gB, gB, gB, gB, gB, gB]) (show decode (gy_b gY_141) 5 = .ok (.istore_n 1, 1) by decide +kernel) rfl (by decide) rfl rfl ?_
  refine gr_iload_n (pc := 6) (i := 1) (v1) (show decode (gy_b gY_141) 6 = .ok (.iload_n 1, 1) by decide +kernel) rfl rfl ?_
  refine gr_iconst (pc := 7) (z := 1) 1 (show decode (gy_b gY_141) 7 = .ok (.iconst (1), 1) by decide +kernel) kc_1 ?_
  refine gr_iadd (pc := 8) (show decode (gy_b gY_141) 8 = .ok (.iadd, 1) by decide +kernel) ?_
  intro z5
  refine gr_aload_n (pc := 9) (i := 0) 10 (l0) (show decode (gy_b gY_141) 9 = .ok (.aload_n 0, 1) by decide +kernel) rfl rfl ?_
  refine gr_iconst (pc := 10) (z := 3) 3 (show decode (gy_b gY_141) 10 = .ok (.iconst (3), 1) by decide +kernel) kc_3 ?_
  refine gj_nn (fun hx11 => ?_)
  refine gj_c0 (pc := 11) (Y' := gY_draw) (y := yL_draw) (vs := [gR 10 (l0), gI (3)]) (rest := [gI (z5)]) (rs := fun v6 => [gI (v6), gI (z5)]) [gI (3), gR 10 (l0)] rfl (hdr (l0) (3)) rfl (gh_V (t := 10) (vs := [gI (3)]) (rest := [gI (z5)]) (show decode (gy_b gY_141) 11 = .ok (.invokevirtual 71, 3) by decide +kernel) rfl hx11 rfl rfl (ok_draw (by decide) (by decide)) wd_363 wd_365 wd_4 (Nat.le_of_ble_eq_true rfl)) (fun _ => rfl) ?_
  intro v6 M7 n8 c9
  refine gr_iadd (pc := 14) (show decode (gy_b gY_141) 14 = .ok (.iadd, 1) by decide +kernel) ?_
  intro z10
  refine gr_iconst (pc := 15) (z := 4) 4 (show decode (gy_b gY_141) 15 = .ok (.iconst (4), 1) by decide +kernel) kc_4 ?_
  refine gr_irem (pc := 16) (show decode (gy_b gY_141) 16 = .ok (.irem, 1) by decide +kernel) ?_
  intro z11
  refine gr_istore_n (pc := 17) (i := 2) (L' := [gR 10 (l0), gI (v1), gI (z11), gB, gB, gB, gB, gB, gB, gB, gB]) (show decode (gy_b gY_141) 17 = .ok (.istore_n 2, 1) by decide +kernel) rfl (by decide) rfl rfl ?_
  refine gr_aload_n (pc := 18) (i := 0) 10 (l0) (show decode (gy_b gY_141) 18 = .ok (.aload_n 0, 1) by decide +kernel) rfl rfl ?_
  refine gj_nn (fun hx19 => ?_)
  refine gj_c0 (pc := 19) (Y' := gY_32) (y := yL_name) (vs := [gR 10 (l0)]) (rest := []) (rs := fun v12 => [gR 8 (v12)]) [gR 10 (l0)] rfl (hm_32 hG T hdr (l0)) rfl (gh_V (t := 10) (vs := []) (rest := []) (show decode (gy_b gY_141) 19 = .ok (.invokevirtual 121, 3) by decide +kernel) rfl hx19 rfl rfl (ok_32 (by decide) (by decide)) wd_386 wd_388 wd_6 (Nat.le_of_ble_eq_true rfl)) (fun _ => rfl) ?_
  intro v12 M13 n14 c15
  refine gr_astore_n (pc := 22) (i := 3) (L' := [gR 10 (l0), gI (v1), gI (z11), gR 8 (v12), gB, gB, gB, gB, gB, gB, gB]) (show decode (gy_b gY_141) 22 = .ok (.astore_n 3, 1) by decide +kernel) rfl (by decide) rfl rfl ?_
  refine gr_newo (pc := 23) (index := 62) (t := 9) (show decode (gy_b gY_141) 23 = .ok (.new 62, 3) by decide +kernel) rfl wd_390 wd_391 wd_60 ?_
  intro v16 n17 c18
  refine gr_dup (b := gB) (pc := 26) (show decode (gy_b gY_141) 26 = .ok (.dup, 1) by decide +kernel) rfl ?_
  refine gj_nn (fun hx27 => ?_)
  refine gj_c0 (pc := 27) (Y' := gY_10) (y := yJ4_init_da8c8) (vs := [gR 9 (v16)]) (rest := [gR 9 (v16)]) (rs := fun v19 => [gR 9 (v16)]) [gR 9 (v16)] rfl (hm_10 hG (v16)) rfl (gh_I (t := 9) (vs := []) (rest := [gR 9 (v16)]) (show decode (gy_b gY_141) 27 = .ok (.invokespecial 64, 3) by decide +kernel) rfl hx27 rfl (ok_10 (by decide) (by decide)) rfl rfl rfl rfl wd_392 wd_393 (Nat.le_of_ble_eq_true rfl)) (fun _ => rfl) ?_
  intro v19 M20 n21 c22
  refine gr_aload_n (pc := 30) (i := 0) 10 (l0) (show decode (gy_b gY_141) 30 = .ok (.aload_n 0, 1) by decide +kernel) rfl rfl ?_
  refine gj_nn (fun hx31 => ?_)
  refine gj_c0 (pc := 31) (Y' := gY_33) (y := yL_word) (vs := [gR 10 (l0)]) (rest := [gR 9 (v16)]) (rs := fun v23 => [gR 8 (v23), gR 9 (v16)]) [gR 10 (l0)] rfl (hm_33 hG T hdr (l0)) rfl (gh_V (t := 10) (vs := []) (rest := [gR 9 (v16)]) (show decode (gy_b gY_141) 31 = .ok (.invokevirtual 124, 3) by decide +kernel) rfl hx31 rfl rfl (ok_33 (by decide) (by decide)) wd_625 wd_627 wd_7 (Nat.le_of_ble_eq_true rfl)) (fun _ => rfl) ?_
  intro v23 M24 n25 c26
  refine gj_nn (fun hx34 => ?_)
  refine gj_c0 (pc := 34) (Y' := gY_18) (y := yJ4_append_15ec4) (vs := [gR 9 (v16), gR 8 (v23)]) (rest := []) (rs := fun v27 => [gR 9 (v27)]) [gR 8 (v23), gR 9 (v16)] rfl (hm_18 hG (v16) (v23)) rfl (gh_V (t := 9) (vs := [gR 8 (v23)]) (rest := []) (show decode (gy_b gY_141) 34 = .ok (.invokevirtual 67, 3) by decide +kernel) rfl hx34 rfl rfl (ok_18 (by decide) (by decide)) wd_423 wd_424 wd_425 (Nat.le_of_ble_eq_true rfl)) (fun _ => rfl) ?_
  intro v27 M28 n29 c30
  refine gr_aload_n (pc := 37) (i := 0) 10 (l0) (show decode (gy_b gY_141) 37 = .ok (.aload_n 0, 1) by decide +kernel) rfl rfl ?_
  exact h_141_L38 hG T hdr (l0) (v1) (z11) (v12) (v27) (l0) M28 n29 c30
noncomputable def fi_141 (T : Nat) (l0 M n c : Nat) (K : Nat → Nat → Nat → Nat → Bool) : Bool := fi_141_L0 T K l0 M n c
theorem hm_141 {G : gxG} (hG : gxG0 G) (T : Nat) (hdr : ∀ x nn : Nat, gxM G gY_draw yL_draw [gR 10 x, gI nn] (fd_draw T x nn)) (l0 : Nat) : gxM G gY_141 yL_areStored [gR 10 (l0)] (fi_141 T l0) := gxM_of (L := [gR 10 (l0), gB, gB, gB, gB, gB, gB, gB, gB, gB, gB]) hG 10 (by decide +kernel) rfl rfl rfl rfl (List.forall_mem_cons.mpr ⟨rfl, fun _ h => nomatch h⟩) (fun M n c K => h_141_L0 hG T hdr  l0 M n c)
