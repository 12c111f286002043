/-! METHODS 10 -/
set_option maxRecDepth 100000
/-! Farfiles nameOfNumber (I)I -/
def gY_151 : gxY := (false, prog_1_method_3_code, 1, (Option.some Jvm.ClassFile.FieldType.int), "Farfiles", 2, 62, 0, [], "nameOfNumber")
theorem ok_151 {Y : gxY} (h1 : gy_f gY_151 + 1 ≤ gy_f Y) (h2 : 8 + (gy_l gY_151 + 11) + gy_k gY_151 ≤ gy_k Y) : gh_ok Y gY_151 yX7_nameOfNumber 1 := ⟨wd_858, wd_51, ⟨by decide, by decide⟩, by decide +kernel, h1, h2⟩
noncomputable def fi_151_L0 (K : Nat → Nat → Nat → Nat → Bool) (l0 M n c : Nat) : Bool := gx_lt (l0) (10) (gx_add (48) (l0) (fun z11 => gx_i2c (z11) (fun z12 => fi_56 (35) (z12) (0) M n c (fun v13 M14 n15 c16 => gx_rt gx_f0 (v13) (K (v13) M14 n15 c16))))) (gx_div (l0) (10) (fun z1 => gx_add (48) (z1) (fun z2 => gx_i2c (z2) (fun z3 => gx_rem (l0) (10) (fun z4 => gx_add (48) (z4) (fun z5 => gx_i2c (z5) (fun z6 => fi_56 (35) (z3) (z6) M n c (fun v7 M8 n9 c10 => gx_rt gx_f0 (v7) (K (v7) M8 n9 c10)))))))))
theorem h_151_L0 {G : gxG} (hG : gxG0 G) {K : Nat → Nat → Nat → Nat → Bool} (l0 M n c : Nat) : gxJ G gY_151 K 0 [] [gI (l0)] M n c (fi_151_L0 K l0 M n c) := by
  unfold fi_151_L0
  refine gr_iload_n (pc := 0) (i := 0) (l0) (show decode (gy_b gY_151) 0 = .ok (.iload_n 0, 1) by decide +kernel) rfl rfl ?_
  refine gr_bipush (pc := 1) (z := 10) 10 (show decode (gy_b gY_151) 1 = .ok (.bipush (10), 2) by decide +kernel) (by decide +kernel) ?_
  refine gr_icmp_ge (pc := 3) (tgt := 18) (off := 15) hG.2.1 (show decode (gy_b gY_151) 3 = .ok (.if_icmp .ge (15), 3) by decide +kernel) (by decide) ?_ ?_
  · refine gr_bipush (pc := 18) (z := 35) 35 (show decode (gy_b gY_151) 18 = .ok (.bipush (35), 2) by decide +kernel) (by decide +kernel) ?_
    refine gr_bipush (pc := 20) (z := 48) 48 (show decode (gy_b gY_151) 20 = .ok (.bipush (48), 2) by decide +kernel) (by decide +kernel) ?_
    refine gr_iload_n (pc := 22) (i := 0) (l0) (show decode (gy_b gY_151) 22 = .ok (.iload_n 0, 1) by decide +kernel) rfl rfl ?_
    refine gr_bipush (pc := 23) (z := 10) 10 (show decode (gy_b gY_151) 23 = .ok (.bipush (10), 2) by decide +kernel) (by decide +kernel) ?_
    refine gr_idiv (pc := 25) hG.2.1 (show decode (gy_b gY_151) 25 = .ok (.idiv, 1) by decide +kernel) ?_
    intro z1
    refine gr_iadd (pc := 26) (show decode (gy_b gY_151) 26 = .ok (.iadd, 1) by decide +kernel) ?_
    intro z2
    refine gr_i2c (pc := 27) hG.2.1 (show decode (gy_b gY_151) 27 = .ok (.i2c, 1) by decide +kernel) ?_
    intro z3
    refine gr_bipush (pc := 28) (z := 48) 48 (show decode (gy_b gY_151) 28 = .ok (.bipush (48), 2) by decide +kernel) (by decide +kernel) ?_
    refine gr_iload_n (pc := 30) (i := 0) (l0) (show decode (gy_b gY_151) 30 = .ok (.iload_n 0, 1) by decide +kernel) rfl rfl ?_
    refine gr_bipush (pc := 31) (z := 10) 10 (show decode (gy_b gY_151) 31 = .ok (.bipush (10), 2) by decide +kernel) (by decide +kernel) ?_
    refine gr_irem (pc := 33) (show decode (gy_b gY_151) 33 = .ok (.irem, 1) by decide +kernel) ?_
    intro z4
    refine gr_iadd (pc := 34) (show decode (gy_b gY_151) 34 = .ok (.iadd, 1) by decide +kernel) ?_
    intro z5
    refine gr_i2c (pc := 35) hG.2.1 (show decode (gy_b gY_151) 35 = .ok (.i2c, 1) by decide +kernel) ?_
    intro z6
    refine gj_c0 (pc := 36) (Y' := gY_56) (y := yX7_packed) (vs := [gI (35), gI (z3), gI (z6)]) (rest := []) (rs := fun v7 => [gI (v7)]) [gI (z6), gI (z3), gI (35)] rfl (hm_56 hG (35) (z3) (z6)) rfl (gh_S (vs := [gI (35), gI (z3), gI (z6)]) (rest := []) (show decode (gy_b gY_151) 36 = .ok (.invokestatic 86, 3) by decide +kernel) rfl (ok_56 (by decide) (by decide)) rfl rfl wd_859 wd_854 (Nat.le_of_ble_eq_true rfl)) (fun _ => rfl) ?_
    intro v7 M8 n9 c10
    exact gr_ireturn (pc := 39) (show decode (gy_b gY_151) 39 = .ok (.ireturn, 1) by decide +kernel) rfl rfl (by decide) gv_0
  · refine gr_bipush (pc := 6) (z := 35) 35 (show decode (gy_b gY_151) 6 = .ok (.bipush (35), 2) by decide +kernel) (by decide +kernel) ?_
    refine gr_bipush (pc := 8) (z := 48) 48 (show decode (gy_b gY_151) 8 = .ok (.bipush (48), 2) by decide +kernel) (by decide +kernel) ?_
    refine gr_iload_n (pc := 10) (i := 0) (l0) (show decode (gy_b gY_151) 10 = .ok (.iload_n 0, 1) by decide +kernel) rfl rfl ?_
    refine gr_iadd (pc := 11) (show decode (gy_b gY_151) 11 = .ok (.iadd, 1) by decide +kernel) ?_
    intro z11
    refine gr_i2c (pc := 12) hG.2.1 (show decode (gy_b gY_151) 12 = .ok (.i2c, 1) by decide +kernel) ?_
    intro z12
    refine gr_iconst (pc := 13) (z := 0) 0 (show decode (gy_b gY_151) 13 = .ok (.iconst (0), 1) by decide +kernel) kc_0 ?_
    refine gj_c0 (pc := 14) (Y' := gY_56) (y := yX7_packed) (vs := [gI (35), gI (z12), gI (0)]) (rest := []) (rs := fun v13 => [gI (v13)]) [gI (0), gI (z12), gI (35)] rfl (hm_56 hG (35) (z12) (0)) rfl (gh_S (vs := [gI (35), gI (z12), gI (0)]) (rest := []) (show decode (gy_b gY_151) 14 = .ok (.invokestatic 86, 3) by decide +kernel) rfl (ok_56 (by decide) (by decide)) rfl rfl wd_859 wd_854 (Nat.le_of_ble_eq_true rfl)) (fun _ => rfl) ?_
    intro v13 M14 n15 c16
    exact gr_ireturn (pc := 17) (show decode (gy_b gY_151) 17 = .ok (.ireturn, 1) by decide +kernel) rfl rfl (by decide) gv_0
noncomputable def fi_151 (l0 M n c : Nat) (K : Nat → Nat → Nat → Nat → Bool) : Bool := fi_151_L0 K l0 M n c
theorem hm_151 {G : gxG} (hG : gxG0 G) (l0 : Nat) : gxM G gY_151 yX7_nameOfNumber [gI (l0)] (fi_151 l0) := gxM_of (L := [gI (l0)]) hG 0 (by decide +kernel) rfl rfl rfl rfl (List.forall_mem_cons.mpr ⟨rfl, fun _ h => nomatch h⟩) (fun M n c K => h_151_L0 hG  l0 M n c)
/-! Farfiles$Answers putBehind (II)V -/
def gY_152 : gxY := (false, prog_4_method_5_code, 3, (Option.none : Option FieldType), "Farfiles$Answers", 2, 65, 5, [], "putBehind")
theorem ok_152 {Y : gxY} (h1 : gy_f gY_152 + 1 ≤ gy_f Y) (h2 : 8 + (gy_l gY_152 + 11) + gy_k gY_152 ≤ gy_k Y) : gh_ok Y gY_152 yX2_putBehind 2 := ⟨wd_1316, wd_56, ⟨by decide, by decide⟩, by decide +kernel, h1, h2⟩
noncomputable def fi_152_L0 (K : Nat → Nat → Nat → Nat → Bool) (l0 l1 l2 M n c : Nat) : Bool := gx_get (l0) 3 M (fun v1 => gx_nn (l0) (fi_122 (l0) (v1) (0) (l1) (l2) M n c (fun v2 M3 n4 c5 => K 0 M3 n4 c5)))
theorem h_152_L0 {G : gxG} (hG : gxG0 G) {K : Nat → Nat → Nat → Nat → Bool} (l0 l1 l2 M n c : Nat) : gxJ G gY_152 K 0 [] [gR 2 (l0), gI (l1), gI (l2)] M n c (fi_152_L0 K l0 l1 l2 M n c) := by
  unfold fi_152_L0
  refine gr_aload_n (pc := 0) (i := 0) 2 (l0) (show decode (gy_b gY_152) 0 = .ok (.aload_n 0, 1) by decide +kernel) rfl rfl ?_
  refine gr_aload_n (pc := 1) (i := 0) 2 (l0) (show decode (gy_b gY_152) 1 = .ok (.aload_n 0, 1) by decide +kernel) rfl rfl ?_
  refine gr_getf (pc := 2) (index := 24) (t := 2) (j := 3) (σ := 0) (sv := gI) (show decode (gy_b gY_152) 2 = .ok (.getfield 24, 3) by decide +kernel) rfl rfl (fun _ => rfl) wd_203 (by decide) ?_
  intro v1
  refine gr_null (pc := 5) 0 (show decode (gy_b gY_152) 5 = .ok (.aconst_null, 1) by decide +kernel) ?_
  refine gr_iload_n (pc := 6) (i := 1) (l1) (show decode (gy_b gY_152) 6 = .ok (.iload_n 1, 1) by decide +kernel) rfl rfl ?_
  refine gr_iload_n (pc := 7) (i := 2) (l2) (show decode (gy_b gY_152) 7 = .ok (.iload_n 2, 1) by decide +kernel) rfl rfl ?_
  refine gj_nn (fun hx8 => ?_)
  refine gj_c0 (pc := 8) (Y' := gY_122) (y := yX2_putAt) (vs := [gR 2 (l0), gI (v1), gR 0 (0), gI (l1), gI (l2)]) (rest := []) (rs := fun v2 => []) [gI (l2), gI (l1), gR 0 (0), gI (v1), gR 2 (l0)] rfl (hm_122 hG (l0) (v1) (0) (l1) (l2)) rfl (gh_V (t := 2) (vs := [gI (v1), gR 0 (0), gI (l1), gI (l2)]) (rest := []) (show decode (gy_b gY_152) 8 = .ok (.invokevirtual 40, 3) by decide +kernel) rfl hx8 rfl rfl (ok_122 (by decide) (by decide)) wd_1198 wd_1200 wd_40 (Nat.le_of_ble_eq_true rfl)) (fun _ => rfl) ?_
  intro v2 M3 n4 c5
  exact gr_return (pc := 11) (show decode (gy_b gY_152) 11 = .ok (.return_, 1) by decide +kernel) rfl rfl
noncomputable def fi_152 (l0 l1 l2 M n c : Nat) (K : Nat → Nat → Nat → Nat → Bool) : Bool := fi_152_L0 K l0 l1 l2 M n c
theorem hm_152 {G : gxG} (hG : gxG0 G) (l0 l1 l2 : Nat) : gxM G gY_152 yX2_putBehind [gR 2 (l0), gI (l1), gI (l2)] (fi_152 l0 l1 l2) := gxM_of (L := [gR 2 (l0), gI (l1), gI (l2)]) hG 0 (by decide +kernel) rfl rfl rfl rfl (List.forall_mem_cons.mpr ⟨rfl, List.forall_mem_cons.mpr ⟨rfl, List.forall_mem_cons.mpr ⟨rfl, fun _ h => nomatch h⟩⟩⟩) (fun M n c K => h_152_L0 hG  l0 l1 l2 M n c)
/-! Farfiles lost (I)I -/
def gY_153 : gxY := (false, prog_1_method_69_code, 3, (Option.some Jvm.ClassFile.FieldType.int), "Farfiles", 6, 158, 0, [], "lost")
theorem ok_153 {Y : gxY} (h1 : gy_f gY_153 + 1 ≤ gy_f Y) (h2 : 8 + (gy_l gY_153 + 11) + gy_k gY_153 ≤ gy_k Y) : gh_ok Y gY_153 yX7_lost 1 := ⟨wd_1294, wd_51, ⟨by decide, by decide⟩, by decide +kernel, h1, h2⟩
noncomputable def fi_153_L49 (K : Nat → Nat → Nat → Nat → Bool) (ih_22 : Nat → Nat → Nat → Nat → Nat → Bool) (l0 l2 M n c : Nat) : Bool := gx_add (l2) 1 (fun z19 => ih_22 (l0) (z19) M n c)
theorem h_153_L49 {G : gxG} (hG : gxG0 G) {K : Nat → Nat → Nat → Nat → Bool} {ih_22 : Nat → Nat → Nat → Nat → Nat → Bool} (hi_22 : ∀ l0 l2 M n c : Nat, gxJ G gY_153 K 22 [] [gR 7 (l0), gB, gI (l2)] M n c (ih_22 l0 l2 M n c)) (l0 l2 M n c : Nat) : gxJ G gY_153 K 49 [] [gR 7 (l0), gB, gI (l2)] M n c (fi_153_L49 K ih_22 l0 l2 M n c) := by
  unfold fi_153_L49
  refine gr_iinc (pc := 49) (i := 2) (d := 1) (z := 1) (L' := fun z19 => [gR 7 (l0), gB, gI (z19)]) (show decode (gy_b gY_153) 49 = .ok (.iinc 2 (1), 3) by decide +kernel) (by decide +kernel) (by decide) rfl rfl (fun _ => rfl) ?_
  intro z19
  refine gr_goto (pc := 52) (tgt := 22) (off := -30) (show decode (gy_b gY_153) 52 = .ok (.goto (-30), 3) by decide +kernel) (by decide) ?_
  exact hi_22 (l0) (z19) M n c
noncomputable def fi_153_B22 (K : Nat → Nat → Nat → Nat → Bool) (ih_22 : Nat → Nat → Nat → Nat → Nat → Bool) (l0 l2 M n c : Nat) : Bool := gx_lt (l2) (49) (gx_get (l0) 13 M (fun v17 => gx_ald (v17) (l2) M (fun v18 => gx_eq (v18) 0 (fi_153_L49 K ih_22 (l0) (l2) M n c) (gx_get (l0) 2 M (fun v20 => fi_151 (l2) M n c (fun v21 M22 n23 c24 => gx_nn (v20) (fi_152 (v20) (v21) (l2) M22 n23 c24 (fun v25 M26 n27 c28 => fi_153_L49 K ih_22 (l0) (l2) M26 n27 c28)))))))) (gx_get (l0) 2 M (fun v15 => gx_get (v15) 3 M (fun v16 => gx_rt gx_f0 (v16) (K (v16) M n c))))
theorem hb_153_B22 {G : gxG} (hG : gxG0 G) {K : Nat → Nat → Nat → Nat → Bool} {ih_22 : Nat → Nat → Nat → Nat → Nat → Bool} (hi_22 : ∀ l0 l2 M n c : Nat, gxJ G gY_153 K 22 [] [gR 7 (l0), gB, gI (l2)] M n c (ih_22 l0 l2 M n c)) (l0 l2 M n c : Nat) : gxJ G gY_153 K 22 [] [gR 7 (l0), gB, gI (l2)] M n c (fi_153_B22 K ih_22 l0 l2 M n c) := by
  unfold fi_153_B22
  refine gr_iload_n (pc := 22) (i := 2) (l2) (show decode (gy_b gY_153) 22 = .ok (.iload_n 2, 1) by decide +kernel) rfl rfl ?_
  refine gr_bipush (pc := 23) (z := 49) 49 (show decode (gy_b gY_153) 23 = .ok (.bipush (49), 2) by decide +kernel) (by decide +kernel) ?_
  refine gr_icmp_ge (pc := 25) (tgt := 55) (off := 30) hG.2.1 (show decode (gy_b gY_153) 25 = .ok (.if_icmp .ge (30), 3) by decide +kernel) (by decide) ?_ ?_
  · refine gr_aload_n (pc := 55) (i := 0) 7 (l0) (show decode (gy_b gY_153) 55 = .ok (.aload_n 0, 1) by decide +kernel) rfl rfl ?_
    refine gr_getf (pc := 56) (index := 26) (t := 7) (j := 2) (σ := 10) (sv := (gR 2)) (show decode (gy_b gY_153) 56 = .ok (.getfield 26, 3) by decide +kernel) rfl rfl (fun _ => rfl) wd_296 (by decide) ?_
    intro v15
    refine gr_getfN (pc := 59) (index := 355) (t := 2) (j := 3) (σ := 0) (sv := gI) (show decode (gy_b gY_153) 59 = .ok (.getfield 355, 3) by decide +kernel) rfl rfl (fun _ => rfl) wd_205 (by decide) ?_
    intro v16
    exact gr_ireturn (pc := 62) (show decode (gy_b gY_153) 62 = .ok (.ireturn, 1) by decide +kernel) rfl rfl (by decide) gv_0
  · refine gr_aload_n (pc := 28) (i := 0) 7 (l0) (show decode (gy_b gY_153) 28 = .ok (.aload_n 0, 1) by decide +kernel) rfl rfl ?_
    refine gr_getf (pc := 29) (index := 73) (t := 7) (j := 13) (σ := 74) (sv := (gR 66)) (show decode (gy_b gY_153) 29 = .ok (.getfield 73, 3) by decide +kernel) rfl rfl (fun _ => rfl) wd_307 (by decide) ?_
    intro v17
    refine gr_iload_n (pc := 32) (i := 2) (l2) (show decode (gy_b gY_153) 32 = .ok (.iload_n 2, 1) by decide +kernel) rfl rfl ?_
    refine gr_zald (pc := 33) (show decode (gy_b gY_153) 33 = .ok (.baload, 1) by decide +kernel) ?_
    intro v18
    refine gr_ifeq (pc := 34) (tgt := 49) (off := 15) hG.2.1 (show decode (gy_b gY_153) 34 = .ok (.ifCond .eq (15), 3) by decide +kernel) (by decide) ?_ ?_
    · exact h_153_L49 hG hi_22 (l0) (l2) M n c
    · refine gr_aload_n (pc := 37) (i := 0) 7 (l0) (show decode (gy_b gY_153) 37 = .ok (.aload_n 0, 1) by decide +kernel) rfl rfl ?_
      refine gr_getf (pc := 38) (index := 26) (t := 7) (j := 2) (σ := 10) (sv := (gR 2)) (show decode (gy_b gY_153) 38 = .ok (.getfield 26, 3) by decide +kernel) rfl rfl (fun _ => rfl) wd_296 (by decide) ?_
      intro v20
      refine gr_iload_n (pc := 41) (i := 2) (l2) (show decode (gy_b gY_153) 41 = .ok (.iload_n 2, 1) by decide +kernel) rfl rfl ?_
      refine gj_c0 (pc := 42) (Y' := gY_151) (y := yX7_nameOfNumber) (vs := [gI (l2)]) (rest := [gR 2 (v20)]) (rs := fun v21 => [gI (v21), gR 2 (v20)]) [gI (l2)] rfl (hm_151 hG (l2)) rfl (gh_S (vs := [gI (l2)]) (rest := [gR 2 (v20)]) (show decode (gy_b gY_153) 42 = .ok (.invokestatic 445, 3) by decide +kernel) rfl (ok_151 (by decide) (by decide)) rfl rfl wd_1312 wd_857 (Nat.le_of_ble_eq_true rfl)) (fun _ => rfl) ?_
      intro v21 M22 n23 c24
      refine gr_iload_n (pc := 45) (i := 2) (l2) (show decode (gy_b gY_153) 45 = .ok (.iload_n 2, 1) by decide +kernel) rfl rfl ?_
      refine gj_nn (fun hx46 => ?_)
      refine gj_c0 (pc := 46) (Y' := gY_152) (y := yX2_putBehind) (vs := [gR 2 (v20), gI (v21), gI (l2)]) (rest := []) (rs := fun v25 => []) [gI (l2), gI (v21), gR 2 (v20)] rfl (hm_152 hG (v20) (v21) (l2)) rfl (gh_V (t := 2) (vs := [gI (v21), gI (l2)]) (rest := []) (show decode (gy_b gY_153) 46 = .ok (.invokevirtual 448, 3) by decide +kernel) rfl hx46 rfl rfl (ok_152 (by decide) (by decide)) wd_1313 wd_1314 wd_1315 (Nat.le_of_ble_eq_true rfl)) (fun _ => rfl) ?_
      intro v25 M26 n27 c28
      exact h_153_L49 hG hi_22 (l0) (l2) M26 n27 c28
noncomputable def fi_153_W22 (K : Nat → Nat → Nat → Nat → Bool) (u : Nat) : Nat → Nat → Nat → Nat → Nat → Bool := Nat.rec (motive := fun _ => Nat → Nat → Nat → Nat → Nat → Bool) (fun _ _ _ _ _ => false) (fun _ ih => fi_153_B22 K ih) u
theorem hw_153_22 {G : gxG} (hG : gxG0 G) {K : Nat → Nat → Nat → Nat → Bool} (u : Nat) : ∀ l0 l2 M n c : Nat, gxJ G gY_153 K 22 [] [gR 7 (l0), gB, gI (l2)] M n c (fi_153_W22 K u l0 l2 M n c) := by
  induction u with
  | zero => intro l0 l2 M n c; exact gj_false
  | succ u ih => intro l0 l2 M n c; exact hb_153_B22 hG ih l0 l2 M n c
noncomputable def fi_153_L0 (K : Nat → Nat → Nat → Nat → Bool) (l0 l1 M n c : Nat) : Bool := gx_nn (l0) (fi_115 (l0) (l1) M n c (fun v1 M2 n3 c4 => gx_get (l0) 13 M2 (fun v5 => gx_nn (l0) (fi_150 (l0) (v1) (v5) M2 n3 c4 (fun v6 M7 n8 c9 => gx_get (l0) 2 M7 (fun v10 => gx_nn (v10) (fi_121 (v10) M7 n8 c9 (fun v11 M12 n13 c14 => fi_153_W22 K 65536 (l0) (0) M12 n13 c14))))))))
theorem h_153_L0 {G : gxG} (hG : gxG0 G) {K : Nat → Nat → Nat → Nat → Bool} (l0 l1 M n c : Nat) : gxJ G gY_153 K 0 [] [gR 7 (l0), gI (l1), gB] M n c (fi_153_L0 K l0 l1 M n c) := by
  unfold fi_153_L0
  refine gr_aload_n (pc := 0) (i := 0) 7 (l0) (show decode (gy_b gY_153) 0 = .ok (.aload_n 0, 1) by decide +kernel) rfl rfl ?_
  refine gr_aload_n (pc := 1) (i := 0) 7 (l0) (show decode (gy_b gY_153) 1 = .ok (.aload_n 0, 1) by decide +kernel) rfl rfl ?_
  refine gr_iload_n (pc := 2) (i := 1) (l1) (show decode (gy_b gY_153) 2 = .ok (.iload_n 1, 1) by decide +kernel) rfl rfl ?_
  refine gj_nn (fun hx3 => ?_)
  refine gj_c0 (pc := 3) (Y' := gY_115) (y := yX7_serverOf) (vs := [gR 7 (l0), gI (l1)]) (rest := [gR 7 (l0)]) (rs := fun v1 => [gR 1 (v1), gR 7 (l0)]) [gI (l1), gR 7 (l0)] rfl (hm_115 hG (l0) (l1)) rfl (gh_V (t := 7) (vs := [gI (l1)]) (rest := [gR 7 (l0)]) (show decode (gy_b gY_153) 3 = .ok (.invokevirtual 409, 3) by decide +kernel) rfl hx3 rfl rfl (ok_115 (by decide) (by decide)) wd_1153 wd_1155 wd_36 (Nat.le_of_ble_eq_true rfl)) (fun _ => rfl) ?_
  intro v1 M2 n3 c4
  refine gr_aload_n (pc := 6) (i := 0) 7 (l0) (show decode (gy_b gY_153) 6 = .ok (.aload_n 0, 1) by decide +kernel) rfl rfl ?_
  refine gr_getf (pc := 7) (index := 73) (t := 7) (j := 13) (σ := 74) (sv := (gR 66)) (show decode (gy_b gY_153) 7 = .ok (.getfield 73, 3) by decide +kernel) rfl rfl (fun _ => rfl) wd_307 (by decide) ?_
  intro v5
  refine gj_nn (fun hx10 => ?_)
  refine gj_c0 (pc := 10) (Y' := gY_150) (y := yX7_markLost) (vs := [gR 7 (l0), gR 1 (v1), gR 66 (v5)]) (rest := []) (rs := fun v6 => []) [gR 66 (v5), gR 1 (v1), gR 7 (l0)] rfl (hm_150 hG (l0) (v1) (v5)) rfl (gh_V (t := 7) (vs := [gR 1 (v1), gR 66 (v5)]) (rest := []) (show decode (gy_b gY_153) 10 = .ok (.invokevirtual 440, 3) by decide +kernel) rfl hx10 rfl rfl (ok_150 (by decide) (by decide)) wd_1295 wd_1297 wd_44 (Nat.le_of_ble_eq_true rfl)) (fun _ => rfl) ?_
  intro v6 M7 n8 c9
  refine gr_aload_n (pc := 13) (i := 0) 7 (l0) (show decode (gy_b gY_153) 13 = .ok (.aload_n 0, 1) by decide +kernel) rfl rfl ?_
  refine gr_getf (pc := 14) (index := 26) (t := 7) (j := 2) (σ := 10) (sv := (gR 2)) (show decode (gy_b gY_153) 14 = .ok (.getfield 26, 3) by decide +kernel) rfl rfl (fun _ => rfl) wd_296 (by decide) ?_
  intro v10
  refine gj_nn (fun hx17 => ?_)
  refine gj_c0 (pc := 17) (Y' := gY_121) (y := yX2_empty) (vs := [gR 2 (v10)]) (rest := []) (rs := fun v11 => []) [gR 2 (v10)] rfl (hm_121 hG (v10)) rfl (gh_V (t := 2) (vs := []) (rest := []) (show decode (gy_b gY_153) 17 = .ok (.invokevirtual 444, 3) by decide +kernel) rfl hx17 rfl rfl (ok_121 (by decide) (by decide)) wd_1311 wd_1191 wd_1192 (Nat.le_of_ble_eq_true rfl)) (fun _ => rfl) ?_
  intro v11 M12 n13 c14
  refine gr_iconst (pc := 20) (z := 0) 0 (show decode (gy_b gY_153) 20 = .ok (.iconst (0), 1) by decide +kernel) kc_0 ?_
  refine gr_istore_n (pc := 21) (i := 2) (L' := [gR 7 (l0), gI (l1), gI (0)]) (show decode (gy_b gY_153) 21 = .ok (.istore_n 2, 1) by decide +kernel) rfl (by decide) rfl rfl ?_
  refine gr_wk [true, false, true] rfl ?_
  exact hw_153_22 hG 65536 (l0) (0) M12 n13 c14
noncomputable def fi_153 (l0 l1 M n c : Nat) (K : Nat → Nat → Nat → Nat → Bool) : Bool := fi_153_L0 K l0 l1 M n c
theorem hm_153 {G : gxG} (hG : gxG0 G) (l0 l1 : Nat) : gxM G gY_153 yX7_lost [gR 7 (l0), gI (l1)] (fi_153 l0 l1) := gxM_of (L := [gR 7 (l0), gI (l1), gB]) hG 1 (by decide +kernel) rfl rfl rfl rfl (List.forall_mem_cons.mpr ⟨rfl, List.forall_mem_cons.mpr ⟨rfl, fun _ h => nomatch h⟩⟩) (fun M n c K => h_153_L0 hG  l0 l1 M n c)
/-! Farfiles$Answers objectAt (I)I -/
def gY_154 : gxY := (false, prog_4_method_10_code, 2, (Option.some Jvm.ClassFile.FieldType.int), "Farfiles$Answers", 2, 61, 0, [], "objectAt")
theorem ok_154 {Y : gxY} (h1 : gy_f gY_154 + 1 ≤ gy_f Y) (h2 : 8 + (gy_l gY_154 + 11) + gy_k gY_154 ≤ gy_k Y) : gh_ok Y gY_154 yX2_objectAt 1 := ⟨wd_1324, wd_56, ⟨by decide, by decide⟩, by decide +kernel, h1, h2⟩
noncomputable def fi_154_L0 (K : Nat → Nat → Nat → Nat → Bool) (l0 l1 M n c : Nat) : Bool := gx_nn (l0) (fi_125 (l0) (l1) M n c (fun v1 M2 n3 c4 => gx_eq (v1) 0 (false) (gx_get (l0) 2 M2 (fun v5 => gx_ald (v5) (l1) M2 (fun v6 => gx_rt gx_f0 (v6) (K (v6) M2 n3 c4))))))
theorem h_154_L0 {G : gxG} (hG : gxG0 G) {K : Nat → Nat → Nat → Nat → Bool} (l0 l1 M n c : Nat) : gxJ G gY_154 K 0 [] [gR 2 (l0), gI (l1)] M n c (fi_154_L0 K l0 l1 M n c) := by
  unfold fi_154_L0
  refine gr_aload_n (pc := 0) (i := 0) 2 (l0) (show decode (gy_b gY_154) 0 = .ok (.aload_n 0, 1) by decide +kernel) rfl rfl ?_
  refine gr_iload_n (pc := 1) (i := 1) (l1) (show decode (gy_b gY_154) 1 = .ok (.iload_n 1, 1) by decide +kernel) rfl rfl ?_
  refine gj_nn (fun hx2 => ?_)
  refine gj_c0 (pc := 2) (Y' := gY_125) (y := yX2_hasPlace) (vs := [gR 2 (l0), gI (l1)]) (rest := []) (rs := fun v1 => [gI (v1)]) [gI (l1), gR 2 (l0)] rfl (hm_125 hG (l0) (l1)) rfl (gh_V (t := 2) (vs := [gI (l1)]) (rest := []) (show decode (gy_b gY_154) 2 = .ok (.invokevirtual 44, 3) by decide +kernel) rfl hx2 rfl rfl (ok_125 (by decide) (by decide)) wd_1214 wd_1215 wd_1216 (Nat.le_of_ble_eq_true rfl)) (fun _ => rfl) ?_
  intro v1 M2 n3 c4
  refine gr_ifeq (pc := 5) (tgt := 17) (off := 12) hG.2.1 (show decode (gy_b gY_154) 5 = .ok (.ifCond .eq (12), 3) by decide +kernel) (by decide) ?_ ?_
  · exact gj_false
  · refine gr_aload_n (pc := 8) (i := 0) 2 (l0) (show decode (gy_b gY_154) 8 = .ok (.aload_n 0, 1) by decide +kernel) rfl rfl ?_
    refine gr_getf (pc := 9) (index := 21) (t := 2) (j := 2) (σ := 72) (sv := (gR 64)) (show decode (gy_b gY_154) 9 = .ok (.getfield 21, 3) by decide +kernel) rfl rfl (fun _ => rfl) wd_202 (by decide) ?_
    intro v5
    refine gr_iload_n (pc := 12) (i := 1) (l1) (show decode (gy_b gY_154) 12 = .ok (.iload_n 1, 1) by decide +kernel) rfl rfl ?_
    refine gr_iald (pc := 13) (show decode (gy_b gY_154) 13 = .ok (.iaload, 1) by decide +kernel) ?_
    intro v6
    refine gr_goto (pc := 14) (tgt := 18) (off := 4) (show decode (gy_b gY_154) 14 = .ok (.goto (4), 3) by decide +kernel) (by decide) ?_
    exact gr_ireturn (pc := 18) (show decode (gy_b gY_154) 18 = .ok (.ireturn, 1) by decide +kernel) rfl rfl (by decide) gv_0
noncomputable def fi_154 (l0 l1 M n c : Nat) (K : Nat → Nat → Nat → Nat → Bool) : Bool := fi_154_L0 K l0 l1 M n c
theorem hm_154 {G : gxG} (hG : gxG0 G) (l0 l1 : Nat) : gxM G gY_154 yX2_objectAt [gR 2 (l0), gI (l1)] (fi_154 l0 l1) := gxM_of (L := [gR 2 (l0), gI (l1)]) hG 0 (by decide +kernel) rfl rfl rfl rfl (List.forall_mem_cons.mpr ⟨rfl, List.forall_mem_cons.mpr ⟨rfl, fun _ h => nomatch h⟩⟩) (fun M n c K => h_154_L0 hG  l0 l1 M n c)
/-! Farfiles answerObject (I)I -/
def gY_155 : gxY := (false, prog_1_method_52_code, 2, (Option.some Jvm.ClassFile.FieldType.int), "Farfiles", 3, 82, 0, [], "answerObject")
theorem ok_155 {Y : gxY} (h1 : gy_f gY_155 + 1 ≤ gy_f Y) (h2 : 8 + (gy_l gY_155 + 11) + gy_k gY_155 ≤ gy_k Y) : gh_ok Y gY_155 yX7_answerObject 1 := ⟨wd_1320, wd_51, ⟨by decide, by decide⟩, by decide +kernel, h1, h2⟩
noncomputable def fi_155_L0 (K : Nat → Nat → Nat → Nat → Bool) (l0 l1 M n c : Nat) : Bool := gx_get (l0) 2 M (fun v1 => gx_nn (v1) (fi_125 (v1) (l1) M n c (fun v2 M3 n4 c5 => gx_eq (v2) 0 (false) (gx_get (l0) 2 M3 (fun v6 => gx_nn (v6) (fi_154 (v6) (l1) M3 n4 c5 (fun v7 M8 n9 c10 => gx_rt gx_f0 (v7) (K (v7) M8 n9 c10))))))))
theorem h_155_L0 {G : gxG} (hG : gxG0 G) {K : Nat → Nat → Nat → Nat → Bool} (l0 l1 M n c : Nat) : gxJ G gY_155 K 0 [] [gR 7 (l0), gI (l1)] M n c (fi_155_L0 K l0 l1 M n c) := by
  unfold fi_155_L0
  refine gr_aload_n (pc := 0) (i := 0) 7 (l0) (show decode (gy_b gY_155) 0 = .ok (.aload_n 0, 1) by decide +kernel) rfl rfl ?_
  refine gr_getf (pc := 1) (index := 26) (t := 7) (j := 2) (σ := 10) (sv := (gR 2)) (show decode (gy_b gY_155) 1 = .ok (.getfield 26, 3) by decide +kernel) rfl rfl (fun _ => rfl) wd_296 (by decide) ?_
  intro v1
  refine gr_iload_n (pc := 4) (i := 1) (l1) (show decode (gy_b gY_155) 4 = .ok (.iload_n 1, 1) by decide +kernel) rfl rfl ?_
  refine gj_nn (fun hx5 => ?_)
  refine gj_c0 (pc := 5) (Y' := gY_125) (y := yX2_hasPlace) (vs := [gR 2 (v1), gI (l1)]) (rest := []) (rs := fun v2 => [gI (v2)]) [gI (l1), gR 2 (v1)] rfl (hm_125 hG (v1) (l1)) rfl (gh_V (t := 2) (vs := [gI (l1)]) (rest := []) (show decode (gy_b gY_155) 5 = .ok (.invokevirtual 364, 3) by decide +kernel) rfl hx5 rfl rfl (ok_125 (by decide) (by decide)) wd_1229 wd_1215 wd_1216 (Nat.le_of_ble_eq_true rfl)) (fun _ => rfl) ?_
  intro v2 M3 n4 c5
  refine gr_ifne (pc := 8) (tgt := 22) (off := 14) hG.2.1 (show decode (gy_b gY_155) 8 = .ok (.ifCond .ne (14), 3) by decide +kernel) (by decide) ?_ ?_
  · refine gr_aload_n (pc := 22) (i := 0) 7 (l0) (show decode (gy_b gY_155) 22 = .ok (.aload_n 0, 1) by decide +kernel) rfl rfl ?_
    refine gr_getf (pc := 23) (index := 26) (t := 7) (j := 2) (σ := 10) (sv := (gR 2)) (show decode (gy_b gY_155) 23 = .ok (.getfield 26, 3) by decide +kernel) rfl rfl (fun _ => rfl) wd_296 (by decide) ?_
    intro v6
    refine gr_iload_n (pc := 26) (i := 1) (l1) (show decode (gy_b gY_155) 26 = .ok (.iload_n 1, 1) by decide +kernel) rfl rfl ?_
    refine gj_nn (fun hx27 => ?_)
    refine gj_c0 (pc := 27) (Y' := gY_154) (y := yX2_objectAt) (vs := [gR 2 (v6), gI (l1)]) (rest := []) (rs := fun v7 => [gI (v7)]) [gI (l1), gR 2 (v6)] rfl (hm_154 hG (v6) (l1)) rfl (gh_V (t := 2) (vs := [gI (l1)]) (rest := []) (show decode (gy_b gY_155) 27 = .ok (.invokevirtual 377, 3) by decide +kernel) rfl hx27 rfl rfl (ok_154 (by decide) (by decide)) wd_1321 wd_1322 wd_1323 (Nat.le_of_ble_eq_true rfl)) (fun _ => rfl) ?_
    intro v7 M8 n9 c10
    exact gr_ireturn (pc := 30) (show decode (gy_b gY_155) 30 = .ok (.ireturn, 1) by decide +kernel) rfl rfl (by decide) gv_0
  · exact gj_false
noncomputable def fi_155 (l0 l1 M n c : Nat) (K : Nat → Nat → Nat → Nat → Bool) : Bool := fi_155_L0 K l0 l1 M n c
theorem hm_155 {G : gxG} (hG : gxG0 G) (l0 l1 : Nat) : gxM G gY_155 yX7_answerObject [gR 7 (l0), gI (l1)] (fi_155 l0 l1) := gxM_of (L := [gR 7 (l0), gI (l1)]) hG 0 (by decide +kernel) rfl rfl rfl rfl (List.forall_mem_cons.mpr ⟨rfl, List.forall_mem_cons.mpr ⟨rfl, fun _ h => nomatch h⟩⟩) (fun M n c K => h_155_L0 hG  l0 l1 M n c)
/-! FarfilesLaw isLost ()Z -/
def gY_156 : gxY := (false, method_14_code, 12, (Option.some Jvm.ClassFile.FieldType.boolean), "FarfilesLaw", 12, 231, 2, [], "isLost")
theorem ok_156 {Y : gxY} (h1 : gy_f gY_156 + 1 ≤ gy_f Y) (h2 : 8 + (gy_l gY_156 + 11) + gy_k gY_156 ≤ gy_k Y) : gh_ok Y gY_156 yL_isLost 0 := ⟨wd_1267, wd_50, ⟨by decide, by decide⟩, by decide +kernel, h1, h2⟩
noncomputable def fi_156_L309 (T : Nat) (K : Nat → Nat → Nat → Nat → Bool) (ih_252 : Nat → Nat → Nat → Nat → Nat → Nat → Nat → Nat → Nat → Nat → Nat → Bool) (l0 l4 l5 l6 l8 l9 l11 s0 M n c : Nat) : Bool := gx_add (l11) 1 (fun z153 => ih_252 (l0) (l4) (l5) (l6) (l8) (l9) (s0) (z153) M n c)
theorem h_156_L309 {G : gxG} (hG : gxG0 G) (T : Nat) (hdr : ∀ x nn : Nat, gxM G gY_draw yL_draw [gR 10 x, gI nn] (fd_draw T x nn)) {K : Nat → Nat → Nat → Nat → Bool} {ih_252 : Nat → Nat → Nat → Nat → Nat → Nat → Nat → Nat → Nat → Nat → Nat → Bool} (hi_252 : ∀ l0 l4 l5 l6 l8 l9 l10 l11 M n c : Nat, gxJ G gY_156 K 252 [] [gR 10 (l0), gB, gB, gB, gI (l4), gI (l5), gI (l6), gB, gI (l8), gI (l9), gI (l10), gI (l11)] M n c (ih_252 l0 l4 l5 l6 l8 l9 l10 l11 M n c)) (l0 l4 l5 l6 l8 l9 l11 s0 M n c : Nat) : gxJ G gY_156 K 309 [gI (s0)] [gR 10 (l0), gB, gB, gB, gI (l4), gI (l5), gI (l6), gB, gI (l8), gI (l9), gB, gI (l11)] M n c (fi_156_L309 T K ih_252 l0 l4 l5 l6 l8 l9 l11 s0 M n c) := by
  unfold fi_156_L309
  refine gr_istore (pc := 309) (i := 10) (L' := [gR 10 (l0), gB, gB, gB, gI (l4), gI (l5), gI (l6), gB, gI (l8), gI (l9), gI (s0), gI (l11)]) (show decode (gy_b gY_156) 309 = .ok (.istore 10, 2) by decide +kernel) (by decide) rfl rfl ?_
  refine gr_iinc (pc := 311) (i := 11) (d := 1) (z := 1) (L' := fun z153 => [gR 10 (l0), gB, gB, gB, gI (l4), gI (l5), gI (l6), gB, gI (l8), gI (l9), gI (s0), gI (z153)]) (show decode (gy_b gY_156) 311 = .ok (.iinc 11 (1), 3) by decide +kernel) (by decide +kernel) (by decide) rfl rfl (fun _ => rfl) ?_
  intro z153
  refine gr_goto (pc := 314) (tgt := 252) (off := -62) (show decode (gy_b gY_156) 314 = .ok (.goto (-62), 3) by decide +kernel) (by decide) ?_
  exact hi_252 (l0) (l4) (l5) (l6) (l8) (l9) (s0) (z153) M n c
noncomputable def fi_156_L304 (T : Nat) (K : Nat → Nat → Nat → Nat → Bool) (ih_252 : Nat → Nat → Nat → Nat → Nat → Nat → Nat → Nat → Nat → Nat → Nat → Bool) (l0 l4 l5 l6 l8 l9 l11 M n c : Nat) : Bool := fi_156_L309 T K ih_252 (l0) (l4) (l5) (l6) (l8) (l9) (l11) (1) M n c
theorem h_156_L304 {G : gxG} (hG : gxG0 G) (T : Nat) (hdr : ∀ x nn : Nat, gxM G gY_draw yL_draw [gR 10 x, gI nn] (fd_draw T x nn)) {K : Nat → Nat → Nat → Nat → Bool} {ih_252 : Nat → Nat → Nat → Nat → Nat → Nat → Nat → Nat → Nat → Nat → Nat → Bool} (hi_252 : ∀ l0 l4 l5 l6 l8 l9 l10 l11 M n c : Nat, gxJ G gY_156 K 252 [] [gR 10 (l0), gB, gB, gB, gI (l4), gI (l5), gI (l6), gB, gI (l8), gI (l9), gI (l10), gI (l11)] M n c (ih_252 l0 l4 l5 l6 l8 l9 l10 l11 M n c)) (l0 l4 l5 l6 l8 l9 l11 M n c : Nat) : gxJ G gY_156 K 304 [] [gR 10 (l0), gB, gB, gB, gI (l4), gI (l5), gI (l6), gB, gI (l8), gI (l9), gB, gI (l11)] M n c (fi_156_L304 T K ih_252 l0 l4 l5 l6 l8 l9 l11 M n c) := by
  unfold fi_156_L304
  refine gr_iconst (pc := 304) (z := 1) 1 (show decode (gy_b gY_156) 304 = .ok (.iconst (1), 1) by decide +kernel) kc_1 ?_
  refine gr_goto (pc := 305) (tgt := 309) (off := 4) (show decode (gy_b gY_156) 305 = .ok (.goto (4), 3) by decide +kernel) (by decide) ?_
  exact h_156_L309 hG T hdr hi_252 (l0) (l4) (l5) (l6) (l8) (l9) (l11) (1) M n c
noncomputable def fi_156_L283 (T : Nat) (K : Nat → Nat → Nat → Nat → Bool) (ih_252 : Nat → Nat → Nat → Nat → Nat → Nat → Nat → Nat → Nat → Nat → Nat → Bool) (l0 l4 l5 l6 l8 l10 l11 s0 M n c : Nat) : Bool := gx_eq (l10) 0 (gx_get (l0) 3 M (fun v154 => gx_nn (v154) (fi_155 (v154) (l11) M n c (fun v155 M156 n157 c158 => gx_eq (v155) (l6) (fi_156_L304 T K ih_252 (l0) (l4) (l5) (l6) (l8) (s0) (l11) M156 n157 c158) (fi_156_L309 T K ih_252 (l0) (l4) (l5) (l6) (l8) (s0) (l11) (0) M156 n157 c158))))) (fi_156_L304 T K ih_252 (l0) (l4) (l5) (l6) (l8) (s0) (l11) M n c)
theorem h_156_L283 {G : gxG} (hG : gxG0 G) (T : Nat) (hdr : ∀ x nn : Nat, gxM G gY_draw yL_draw [gR 10 x, gI nn] (fd_draw T x nn)) {K : Nat → Nat → Nat → Nat → Bool} {ih_252 : Nat → Nat → Nat → Nat → Nat → Nat → Nat → Nat → Nat → Nat → Nat → Bool} (hi_252 : ∀ l0 l4 l5 l6 l8 l9 l10 l11 M n c : Nat, gxJ G gY_156 K 252 [] [gR 10 (l0), gB, gB, gB, gI (l4), gI (l5), gI (l6), gB, gI (l8), gI (l9), gI (l10), gI (l11)] M n c (ih_252 l0 l4 l5 l6 l8 l9 l10 l11 M n c)) (l0 l4 l5 l6 l8 l10 l11 s0 M n c : Nat) : gxJ G gY_156 K 283 [gI (s0)] [gR 10 (l0), gB, gB, gB, gI (l4), gI (l5), gI (l6), gB, gI (l8), gB, gI (l10), gI (l11)] M n c (fi_156_L283 T K ih_252 l0 l4 l5 l6 l8 l10 l11 s0 M n c) := by
  unfold fi_156_L283
  refine gr_istore (pc := 283) (i := 9) (L' := [gR 10 (l0), gB, gB, gB, gI (l4), gI (l5), gI (l6), gB, gI (l8), gI (s0), gI (l10), gI (l11)]) (show decode (gy_b gY_156) 283 = .ok (.istore 9, 2) by decide +kernel) (by decide) rfl rfl ?_
  refine gr_iload (pc := 285) (i := 10) (l10) (show decode (gy_b gY_156) 285 = .ok (.iload 10, 2) by decide +kernel) rfl ?_
  refine gr_ifne (pc := 287) (tgt := 304) (off := 17) hG.2.1 (show decode (gy_b gY_156) 287 = .ok (.ifCond .ne (17), 3) by decide +kernel) (by decide) ?_ ?_
  · refine gr_wk [true, true, true, true, true, true, true, true, true, true, false, true] rfl ?_
    exact h_156_L304 hG T hdr hi_252 (l0) (l4) (l5) (l6) (l8) (s0) (l11) M n c
  · refine gr_aload_n (pc := 290) (i := 0) 10 (l0) (show decode (gy_b gY_156) 290 = .ok (.aload_n 0, 1) by decide +kernel) rfl rfl ?_
    refine gr_getf (pc := 291) (index := 10) (t := 10) (j := 3) (σ := 15) (sv := (gR 7)) (show decode (gy_b gY_156) 291 = .ok (.getfield 10, 3) by decide +kernel) rfl rfl (fun _ => rfl) wd_346 (by decide) ?_
    intro v154
    refine gr_iload (pc := 294) (i := 11) (l11) (show decode (gy_b gY_156) 294 = .ok (.iload 11, 2) by decide +kernel) rfl ?_
    refine gj_nn (fun hx296 => ?_)
    refine gj_c0 (pc := 296) (Y' := gY_155) (y := yX7_answerObject) (vs := [gR 7 (v154), gI (l11)]) (rest := []) (rs := fun v155 => [gI (v155)]) [gI (l11), gR 7 (v154)] rfl (hm_155 hG (v154) (l11)) rfl (gh_V (t := 7) (vs := [gI (l11)]) (rest := []) (show decode (gy_b gY_156) 296 = .ok (.invokevirtual 199, 3) by decide +kernel) rfl hx296 rfl rfl (ok_155 (by decide) (by decide)) wd_1317 wd_1318 wd_1319 (Nat.le_of_ble_eq_true rfl)) (fun _ => rfl) ?_
    intro v155 M156 n157 c158
    refine gr_iload (pc := 299) (i := 6) (l6) (show decode (gy_b gY_156) 299 = .ok (.iload 6, 2) by decide +kernel) rfl ?_
    refine gr_icmp_ne (pc := 301) (tgt := 308) (off := 7) hG.2.1 (show decode (gy_b gY_156) 301 = .ok (.if_icmp .ne (7), 3) by decide +kernel) (by decide) ?_ ?_
    · refine gr_iconst (pc := 308) (z := 0) 0 (show decode (gy_b gY_156) 308 = .ok (.iconst (0), 1) by decide +kernel) kc_0 ?_
      refine gr_wk [true, true, true, true, true, true, true, true, true, true, false, true] rfl ?_
      exact h_156_L309 hG T hdr hi_252 (l0) (l4) (l5) (l6) (l8) (s0) (l11) (0) M156 n157 c158
    · refine gr_wk [true, true, true, true, true, true, true, true, true, true, false, true] rfl ?_
      exact h_156_L304 hG T hdr hi_252 (l0) (l4) (l5) (l6) (l8) (s0) (l11) M156 n157 c158
noncomputable def fi_156_L278 (T : Nat) (K : Nat → Nat → Nat → Nat → Bool) (ih_252 : Nat → Nat → Nat → Nat → Nat → Nat → Nat → Nat → Nat → Nat → Nat → Bool) (l0 l4 l5 l6 l8 l10 l11 M n c : Nat) : Bool := fi_156_L283 T K ih_252 (l0) (l4) (l5) (l6) (l8) (l10) (l11) (1) M n c
theorem h_156_L278 {G : gxG} (hG : gxG0 G) (T : Nat) (hdr : ∀ x nn : Nat, gxM G gY_draw yL_draw [gR 10 x, gI nn] (fd_draw T x nn)) {K : Nat → Nat → Nat → Nat → Bool} {ih_252 : Nat → Nat → Nat → Nat → Nat → Nat → Nat → Nat → Nat → Nat → Nat → Bool} (hi_252 : ∀ l0 l4 l5 l6 l8 l9 l10 l11 M n c : Nat, gxJ G gY_156 K 252 [] [gR 10 (l0), gB, gB, gB, gI (l4), gI (l5), gI (l6), gB, gI (l8), gI (l9), gI (l10), gI (l11)] M n c (ih_252 l0 l4 l5 l6 l8 l9 l10 l11 M n c)) (l0 l4 l5 l6 l8 l10 l11 M n c : Nat) : gxJ G gY_156 K 278 [] [gR 10 (l0), gB, gB, gB, gI (l4), gI (l5), gI (l6), gB, gI (l8), gB, gI (l10), gI (l11)] M n c (fi_156_L278 T K ih_252 l0 l4 l5 l6 l8 l10 l11 M n c) := by
  unfold fi_156_L278
  refine gr_iconst (pc := 278) (z := 1) 1 (show decode (gy_b gY_156) 278 = .ok (.iconst (1), 1) by decide +kernel) kc_1 ?_
  refine gr_goto (pc := 279) (tgt := 283) (off := 4) (show decode (gy_b gY_156) 279 = .ok (.goto (4), 3) by decide +kernel) (by decide) ?_
  exact h_156_L283 hG T hdr hi_252 (l0) (l4) (l5) (l6) (l8) (l10) (l11) (1) M n c
noncomputable def fi_156_B252 (T : Nat) (K : Nat → Nat → Nat → Nat → Bool) (ih_252 : Nat → Nat → Nat → Nat → Nat → Nat → Nat → Nat → Nat → Nat → Nat → Bool) (l0 l4 l5 l6 l8 l9 l10 l11 M n c : Nat) : Bool := gx_lt (l11) (l8) (gx_eq (l9) 0 (gx_get (l0) 3 M (fun v159 => gx_nn (v159) (fi_155 (v159) (l11) M n c (fun v160 M161 n162 c163 => gx_eq (v160) (l4) (fi_156_L278 T K ih_252 (l0) (l4) (l5) (l6) (l8) (l10) (l11) M161 n162 c163) (fi_156_L283 T K ih_252 (l0) (l4) (l5) (l6) (l8) (l10) (l11) (0) M161 n162 c163))))) (fi_156_L278 T K ih_252 (l0) (l4) (l5) (l6) (l8) (l10) (l11) M n c)) (gx_eq (l5) 0 (false) (gx_eq (l9) 0 (false) (gx_eq (l10) 0 (false) (gx_get (l0) 3 M (fun v148 => gx_nn (v148) (fi_140 (v148) (0) (l4) M n c (fun v149 M150 n151 c152 => gx_eq (v149) (1) (gx_rt gx_f2 (1) (K (1) M150 n151 c152)) (false))))))))
theorem hb_156_B252 {G : gxG} (hG : gxG0 G) (T : Nat) (hdr : ∀ x nn : Nat, gxM G gY_draw yL_draw [gR 10 x, gI nn] (fd_draw T x nn)) {K : Nat → Nat → Nat → Nat → Bool} {ih_252 : Nat → Nat → Nat → Nat → Nat → Nat → Nat → Nat → Nat → Nat → Nat → Bool} (hi_252 : ∀ l0 l4 l5 l6 l8 l9 l10 l11 M n c : Nat, gxJ G gY_156 K 252 [] [gR 10 (l0), gB, gB, gB, gI (l4), gI (l5), gI (l6), gB, gI (l8), gI (l9), gI (l10), gI (l11)] M n c (ih_252 l0 l4 l5 l6 l8 l9 l10 l11 M n c)) (l0 l4 l5 l6 l8 l9 l10 l11 M n c : Nat) : gxJ G gY_156 K 252 [] [gR 10 (l0), gB, gB, gB, gI (l4), gI (l5), gI (l6), gB, gI (l8), gI (l9), gI (l10), gI (l11)] M n c (fi_156_B252 T K ih_252 l0 l4 l5 l6 l8 l9 l10 l11 M n c) := by
  unfold fi_156_B252
  refine gr_iload (pc := 252) (i := 11) (l11) (show decode (gy_b gY_156) 252 = .ok (.iload 11, 2) by decide +kernel) rfl ?_
  refine gr_iload (pc := 254) (i := 8) (l8) (show decode (gy_b gY_156) 254 = .ok (.iload 8, 2) by decide +kernel) rfl ?_
  refine gr_icmp_ge (pc := 256) (tgt := 317) (off := 61) hG.2.1 (show decode (gy_b gY_156) 256 = .ok (.if_icmp .ge (61), 3) by decide +kernel) (by decide) ?_ ?_
  · refine gr_iload (pc := 317) (i := 5) (l5) (show decode (gy_b gY_156) 317 = .ok (.iload 5, 2) by decide +kernel) rfl ?_
    refine gr_ifeq (pc := 319) (tgt := 350) (off := 31) hG.2.1 (show decode (gy_b gY_156) 319 = .ok (.ifCond .eq (31), 3) by decide +kernel) (by decide) ?_ ?_
    · exact gj_false
    · refine gr_iload (pc := 322) (i := 9) (l9) (show decode (gy_b gY_156) 322 = .ok (.iload 9, 2) by decide +kernel) rfl ?_
      refine gr_ifeq (pc := 324) (tgt := 350) (off := 26) hG.2.1 (show decode (gy_b gY_156) 324 = .ok (.ifCond .eq (26), 3) by decide +kernel) (by decide) ?_ ?_
      · exact gj_false
      · refine gr_iload (pc := 327) (i := 10) (l10) (show decode (gy_b gY_156) 327 = .ok (.iload 10, 2) by decide +kernel) rfl ?_
        refine gr_ifeq (pc := 329) (tgt := 350) (off := 21) hG.2.1 (show decode (gy_b gY_156) 329 = .ok (.ifCond .eq (21), 3) by decide +kernel) (by decide) ?_ ?_
        · exact gj_false
        · refine gr_aload_n (pc := 332) (i := 0) 10 (l0) (show decode (gy_b gY_156) 332 = .ok (.aload_n 0, 1) by decide +kernel) rfl rfl ?_
          refine gr_getf (pc := 333) (index := 10) (t := 10) (j := 3) (σ := 15) (sv := (gR 7)) (show decode (gy_b gY_156) 333 = .ok (.getfield 10, 3) by decide +kernel) rfl rfl (fun _ => rfl) wd_346 (by decide) ?_
          intro v148
          refine gr_iconst (pc := 336) (z := 0) 0 (show decode (gy_b gY_156) 336 = .ok (.iconst (0), 1) by decide +kernel) kc_0 ?_
          refine gr_iload (pc := 337) (i := 4) (l4) (show decode (gy_b gY_156) 337 = .ok (.iload 4, 2) by decide +kernel) rfl ?_
          refine gj_nn (fun hx339 => ?_)
          refine gj_c0 (pc := 339) (Y' := gY_140) (y := yX7_serverTells) (vs := [gR 7 (v148), gI (0), gI (l4)]) (rest := []) (rs := fun v149 => [gI (v149)]) [gI (l4), gI (0), gR 7 (v148)] rfl (hm_140 hG (v148) (0) (l4)) rfl (gh_V (t := 7) (vs := [gI (0), gI (l4)]) (rest := []) (show decode (gy_b gY_156) 339 = .ok (.invokevirtual 180, 3) by decide +kernel) rfl hx339 rfl rfl (ok_140 (by decide) (by decide)) wd_1255 wd_1256 wd_1257 (Nat.le_of_ble_eq_true rfl)) (fun _ => rfl) ?_
          intro v149 M150 n151 c152
          refine gr_iconst (pc := 342) (z := 1) 1 (show decode (gy_b gY_156) 342 = .ok (.iconst (1), 1) by decide +kernel) kc_1 ?_
          refine gr_icmp_ne (pc := 343) (tgt := 350) (off := 7) hG.2.1 (show decode (gy_b gY_156) 343 = .ok (.if_icmp .ne (7), 3) by decide +kernel) (by decide) ?_ ?_
          · exact gj_false
          · refine gr_iconst (pc := 346) (z := 1) 1 (show decode (gy_b gY_156) 346 = .ok (.iconst (1), 1) by decide +kernel) kc_1 ?_
            refine gr_goto (pc := 347) (tgt := 351) (off := 4) (show decode (gy_b gY_156) 347 = .ok (.goto (4), 3) by decide +kernel) (by decide) ?_
            exact gr_ireturn (pc := 351) (show decode (gy_b gY_156) 351 = .ok (.ireturn, 1) by decide +kernel) rfl rfl (by decide) gv_2f
  · refine gr_iload (pc := 259) (i := 9) (l9) (show decode (gy_b gY_156) 259 = .ok (.iload 9, 2) by decide +kernel) rfl ?_
    refine gr_ifne (pc := 261) (tgt := 278) (off := 17) hG.2.1 (show decode (gy_b gY_156) 261 = .ok (.ifCond .ne (17), 3) by decide +kernel) (by decide) ?_ ?_
    · refine gr_wk [true, true, true, true, true, true, true, true, true, false, true, true] rfl ?_
      exact h_156_L278 hG T hdr hi_252 (l0) (l4) (l5) (l6) (l8) (l10) (l11) M n c
    · refine gr_aload_n (pc := 264) (i := 0) 10 (l0) (show decode (gy_b gY_156) 264 = .ok (.aload_n 0, 1) by decide +kernel) rfl rfl ?_
      refine gr_getf (pc := 265) (index := 10) (t := 10) (j := 3) (σ := 15) (sv := (gR 7)) (show decode (gy_b gY_156) 265 = .ok (.getfield 10, 3) by decide +kernel) rfl rfl (fun _ => rfl) wd_346 (by decide) ?_
      intro v159
      refine gr_iload (pc := 268) (i := 11) (l11) (show decode (gy_b gY_156) 268 = .ok (.iload 11, 2) by decide +kernel) rfl ?_
      refine gj_nn (fun hx270 => ?_)
      refine gj_c0 (pc := 270) (Y' := gY_155) (y := yX7_answerObject) (vs := [gR 7 (v159), gI (l11)]) (rest := []) (rs := fun v160 => [gI (v160)]) [gI (l11), gR 7 (v159)] rfl (hm_155 hG (v159) (l11)) rfl (gh_V (t := 7) (vs := [gI (l11)]) (rest := []) (show decode (gy_b gY_156) 270 = .ok (.invokevirtual 199, 3) by decide +kernel) rfl hx270 rfl rfl (ok_155 (by decide) (by decide)) wd_1317 wd_1318 wd_1319 (Nat.le_of_ble_eq_true rfl)) (fun _ => rfl) ?_
      intro v160 M161 n162 c163
      refine gr_iload (pc := 273) (i := 4) (l4) (show decode (gy_b gY_156) 273 = .ok (.iload 4, 2) by decide +kernel) rfl ?_
      refine gr_icmp_ne (pc := 275) (tgt := 282) (off := 7) hG.2.1 (show decode (gy_b gY_156) 275 = .ok (.if_icmp .ne (7), 3) by decide +kernel) (by decide) ?_ ?_
      · refine gr_iconst (pc := 282) (z := 0) 0 (show decode (gy_b gY_156) 282 = .ok (.iconst (0), 1) by decide +kernel) kc_0 ?_
        refine gr_wk [true, true, true, true, true, true, true, true, true, false, true, true] rfl ?_
        exact h_156_L283 hG T hdr hi_252 (l0) (l4) (l5) (l6) (l8) (l10) (l11) (0) M161 n162 c163
      · refine gr_wk [true, true, true, true, true, true, true, true, true, false, true, true] rfl ?_
        exact h_156_L278 hG T hdr hi_252 (l0) (l4) (l5) (l6) (l8) (l10) (l11) M161 n162 c163
noncomputable def fi_156_W252 (T : Nat) (K : Nat → Nat → Nat → Nat → Bool) (u : Nat) : Nat → Nat → Nat → Nat → Nat → Nat → Nat → Nat → Nat → Nat → Nat → Bool := Nat.rec (motive := fun _ => Nat → Nat → Nat → Nat → Nat → Nat → Nat → Nat → Nat → Nat → Nat → Bool) (fun _ _ _ _ _ _ _ _ _ _ _ => false) (fun _ ih => fi_156_B252 T K ih) u
theorem hw_156_252 {G : gxG} (hG : gxG0 G) (T : Nat) (hdr : ∀ x nn : Nat, gxM G gY_draw yL_draw [gR 10 x, gI nn] (fd_draw T x nn)) {K : Nat → Nat → Nat → Nat → Bool} (u : Nat) : ∀ l0 l4 l5 l6 l8 l9 l10 l11 M n c : Nat, gxJ G gY_156 K 252 [] [gR 10 (l0), gB, gB, gB, gI (l4), gI (l5), gI (l6), gB, gI (l8), gI (l9), gI (l10), gI (l11)] M n c (fi_156_W252 T K u l0 l4 l5 l6 l8 l9 l10 l11 M n c) := by
  induction u with
  | zero => intro l0 l4 l5 l6 l8 l9 l10 l11 M n c; exact gj_false
  | succ u ih => intro l0 l4 l5 l6 l8 l9 l10 l11 M n c; exact hb_156_B252 hG T hdr ih l0 l4 l5 l6 l8 l9 l10 l11 M n c
noncomputable def fi_156_L231 (T : Nat) (K : Nat → Nat → Nat → Nat → Bool) (l0 l4 l6 s0 M n c : Nat) : Bool := gx_get (l0) 3 M (fun v143 => gx_nn (v143) (fi_153 (v143) (1) M n c (fun v144 M145 n146 c147 => fi_156_W252 T K 65536 (l0) (l4) (s0) (l6) (v144) (0) (0) (0) M145 n146 c147)))
theorem h_156_L231 {G : gxG} (hG : gxG0 G) (T : Nat) (hdr : ∀ x nn : Nat, gxM G gY_draw yL_draw [gR 10 x, gI nn] (fd_draw T x nn)) {K : Nat → Nat → Nat → Nat → Bool} (l0 l4 l6 s0 M n c : Nat) : gxJ G gY_156 K 231 [gI (s0)] [gR 10 (l0), gB, gB, gB, gI (l4), gB, gI (l6), gB, gB, gB, gB, gB] M n c (fi_156_L231 T K l0 l4 l6 s0 M n c) := by
  unfold fi_156_L231
  refine gr_istore (pc := 231) (i := 5) (L' := [gR 10 (l0), gB, gB, gB, gI (l4), gI (s0), gI (l6), gB, gB, gB, gB, gB]) (show decode (gy_b gY_156) 231 = .ok (.istore 5, 2) by decide +kernel) (by decide) rfl rfl ?_
  refine gr_aload_n (pc := 233) (i := 0) 10 (l0) (show decode (gy_b gY_156) 233 = .ok (.aload_n 0, 1) by decide +kernel) rfl rfl ?_
  refine gr_getf (pc := 234) (index := 10) (t := 10) (j := 3) (σ := 15) (sv := (gR 7)) (show decode (gy_b gY_156) 234 = .ok (.getfield 10, 3) by decide +kernel) rfl rfl (fun _ => rfl) wd_346 (by decide) ?_
  intro v143
  refine gr_iconst (pc := 237) (z := 1) 1 (show decode (gy_b gY_156) 237 = .ok (.iconst (1), 1) by decide +kernel) kc_1 ?_
  refine gj_nn (fun hx238 => ?_)
  refine gj_c0 (pc := 238) (Y' := gY_153) (y := yX7_lost) (vs := [gR 7 (v143), gI (1)]) (rest := []) (rs := fun v144 => [gI (v144)]) [gI (1), gR 7 (v143)] rfl (hm_153 hG (v143) (1)) rfl (gh_V (t := 7) (vs := [gI (1)]) (rest := []) (show decode (gy_b gY_156) 238 = .ok (.invokevirtual 196, 3) by decide +kernel) rfl hx238 rfl rfl (ok_153 (by decide) (by decide)) wd_1291 wd_1292 wd_1293 (Nat.le_of_ble_eq_true rfl)) (fun _ => rfl) ?_
  intro v144 M145 n146 c147
  refine gr_istore (pc := 241) (i := 8) (L' := [gR 10 (l0), gB, gB, gB, gI (l4), gI (s0), gI (l6), gB, gI (v144), gB, gB, gB]) (show decode (gy_b gY_156) 241 = .ok (.istore 8, 2) by decide +kernel) (by decide) rfl rfl ?_
  refine gr_iconst (pc := 243) (z := 0) 0 (show decode (gy_b gY_156) 243 = .ok (.iconst (0), 1) by decide +kernel) kc_0 ?_
  refine gr_istore (pc := 244) (i := 9) (L' := [gR 10 (l0), gB, gB, gB, gI (l4), gI (s0), gI (l6), gB, gI (v144), gI (0), gB, gB]) (show decode (gy_b gY_156) 244 = .ok (.istore 9, 2) by decide +kernel) (by decide) rfl rfl ?_
  refine gr_iconst (pc := 246) (z := 0) 0 (show decode (gy_b gY_156) 246 = .ok (.iconst (0), 1) by decide +kernel) kc_0 ?_
  refine gr_istore (pc := 247) (i := 10) (L' := [gR 10 (l0), gB, gB, gB, gI (l4), gI (s0), gI (l6), gB, gI (v144), gI (0), gI (0), gB]) (show decode (gy_b gY_156) 247 = .ok (.istore 10, 2) by decide +kernel) (by decide) rfl rfl ?_
  refine gr_iconst (pc := 249) (z := 0) 0 (show decode (gy_b gY_156) 249 = .ok (.iconst (0), 1) by decide +kernel) kc_0 ?_
  refine gr_istore (pc := 250) (i := 11) (L' := [gR 10 (l0), gB, gB, gB, gI (l4), gI (s0), gI (l6), gB, gI (v144), gI (0), gI (0), gI (0)]) (show decode (gy_b gY_156) 250 = .ok (.istore 11, 2) by decide +kernel) (by decide) rfl rfl ?_
  exact hw_156_252 hG T hdr 65536 (l0) (l4) (s0) (l6) (v144) (0) (0) (0) M145 n146 c147
noncomputable def fi_156_L182 (T : Nat) (K : Nat → Nat → Nat → Nat → Bool) (l0 l1 l2 l4 l6 s0 M n c : Nat) : Bool := gx_nn (s0) (fi_146 (s0) (l1) M n c (fun v123 M124 n125 c126 => gx_nth v123 (gx_eq (v123) (l4) (gx_nn (l0) (fi_112 (l0) (l1) M124 n125 c126 (fun v127 M128 n129 c130 => gx_nn (l0) (fi_40 (l0) (l2) (1) M128 n129 c130 (fun v131 M132 n133 c134 => gx_nn (l0) (fi_112 (l0) (l2) M132 n133 c134 (fun v135 M136 n137 c138 => gx_eq (1) 0 (false) (gx_nn (l0) (fi_120 (l0) M136 n137 c138 (fun v139 M140 n141 c142 => gx_eq (v139) 0 (false) (fi_156_L231 T K (l0) (l4) (l6) (1) M140 n141 c142))))))))))) (false))))
theorem h_156_L182 {G : gxG} (hG : gxG0 G) (T : Nat) (hdr : ∀ x nn : Nat, gxM G gY_draw yL_draw [gR 10 x, gI nn] (fd_draw T x nn)) {K : Nat → Nat → Nat → Nat → Bool} (l0 l1 l2 l4 l6 s0 M n c : Nat) : gxJ G gY_156 K 182 [gR 7 (s0)] [gR 10 (l0), gI (l1), gI (l2), gB, gI (l4), gB, gI (l6), gB, gB, gB, gB, gB] M n c (fi_156_L182 T K l0 l1 l2 l4 l6 s0 M n c) := by
  unfold fi_156_L182
  refine gr_iload_n (pc := 182) (i := 1) (l1) (show decode (gy_b gY_156) 182 = .ok (.iload_n 1, 1) by decide +kernel) rfl rfl ?_
  refine gj_nn (fun hx183 => ?_)
  refine gj_c2 (pc := 183) (Y' := gY_146) (y := yX7_remove) (vs := [gR 7 (s0), gI (l1)]) (rest := []) (rs := fun v123 => [gI (v123)]) [gI (l1), gR 7 (s0)] rfl (hm_146 hG (s0) (l1)) (gh_V (t := 7) (vs := [gI (l1)]) (rest := []) (show decode (gy_b gY_156) 183 = .ok (.invokevirtual 193, 3) by decide +kernel) rfl hx183 rfl rfl (ok_146 (by decide) (by decide)) wd_1278 wd_1279 wd_1280 (Nat.le_of_ble_eq_true rfl)) (fun _ => rfl) ?_
  intro v123 M124 n125 c126
  refine gr_iload (pc := 186) (i := 4) (l4) (show decode (gy_b gY_156) 186 = .ok (.iload 4, 2) by decide +kernel) rfl ?_
  refine gr_icmp_ne (pc := 188) (tgt := 195) (off := 7) hG.2.1 (show decode (gy_b gY_156) 188 = .ok (.if_icmp .ne (7), 3) by decide +kernel) (by decide) ?_ ?_
  · exact gj_false
  · refine gr_iconst (pc := 191) (z := 1) 1 (show decode (gy_b gY_156) 191 = .ok (.iconst (1), 1) by decide +kernel) kc_1 ?_
    refine gr_goto (pc := 192) (tgt := 196) (off := 4) (show decode (gy_b gY_156) 192 = .ok (.goto (4), 3) by decide +kernel) (by decide) ?_
    refine gr_istore (pc := 196) (i := 5) (L' := [gR 10 (l0), gI (l1), gI (l2), gB, gI (l4), gI (1), gI (l6), gB, gB, gB, gB, gB]) (show decode (gy_b gY_156) 196 = .ok (.istore 5, 2) by decide +kernel) (by decide) rfl rfl ?_
    refine gr_aload_n (pc := 198) (i := 0) 10 (l0) (show decode (gy_b gY_156) 198 = .ok (.aload_n 0, 1) by decide +kernel) rfl rfl ?_
    refine gr_iload_n (pc := 199) (i := 1) (l1) (show decode (gy_b gY_156) 199 = .ok (.iload_n 1, 1) by decide +kernel) rfl rfl ?_
    refine gj_nn (fun hx200 => ?_)
    refine gj_c0 (pc := 200) (Y' := gY_112) (y := yL_brings) (vs := [gR 10 (l0), gI (l1)]) (rest := []) (rs := fun v127 => []) [gI (l1), gR 10 (l0)] rfl (hm_112 hG (l0) (l1)) rfl (gh_V (t := 10) (vs := [gI (l1)]) (rest := []) (show decode (gy_b gY_156) 200 = .ok (.invokevirtual 154, 3) by decide +kernel) rfl hx200 rfl rfl (ok_112 (by decide) (by decide)) wd_1111 wd_1113 wd_33 (Nat.le_of_ble_eq_true rfl)) (fun _ => rfl) ?_
    intro v127 M128 n129 c130
    refine gr_aload_n (pc := 203) (i := 0) 10 (l0) (show decode (gy_b gY_156) 203 = .ok (.aload_n 0, 1) by decide +kernel) rfl rfl ?_
    refine gr_iload_n (pc := 204) (i := 2) (l2) (show decode (gy_b gY_156) 204 = .ok (.iload_n 2, 1) by decide +kernel) rfl rfl ?_
    refine gr_iconst (pc := 205) (z := 1) 1 (show decode (gy_b gY_156) 205 = .ok (.iconst (1), 1) by decide +kernel) kc_1 ?_
    refine gj_nn (fun hx206 => ?_)
    refine gj_c0 (pc := 206) (Y' := gY_40) (y := yL_links) (vs := [gR 10 (l0), gI (l2), gI (1)]) (rest := []) (rs := fun v131 => []) [gI (1), gI (l2), gR 10 (l0)] rfl (hm_40 hG (l0) (l2) (1)) rfl (gh_V (t := 10) (vs := [gI (l2), gI (1)]) (rest := []) (show decode (gy_b gY_156) 206 = .ok (.invokevirtual 130, 3) by decide +kernel) rfl hx206 rfl rfl (ok_40 (by decide) (by decide)) wd_654 wd_656 wd_8 (Nat.le_of_ble_eq_true rfl)) (fun _ => rfl) ?_
    intro v131 M132 n133 c134
    refine gr_aload_n (pc := 209) (i := 0) 10 (l0) (show decode (gy_b gY_156) 209 = .ok (.aload_n 0, 1) by decide +kernel) rfl rfl ?_
    refine gr_iload_n (pc := 210) (i := 2) (l2) (show decode (gy_b gY_156) 210 = .ok (.iload_n 2, 1) by decide +kernel) rfl rfl ?_
    refine gj_nn (fun hx211 => ?_)
    refine gj_c0 (pc := 211) (Y' := gY_112) (y := yL_brings) (vs := [gR 10 (l0), gI (l2)]) (rest := []) (rs := fun v135 => []) [gI (l2), gR 10 (l0)] rfl (hm_112 hG (l0) (l2)) rfl (gh_V (t := 10) (vs := [gI (l2)]) (rest := []) (show decode (gy_b gY_156) 211 = .ok (.invokevirtual 154, 3) by decide +kernel) rfl hx211 rfl rfl (ok_112 (by decide) (by decide)) wd_1111 wd_1113 wd_33 (Nat.le_of_ble_eq_true rfl)) (fun _ => rfl) ?_
    intro v135 M136 n137 c138
    refine gr_iload (pc := 214) (i := 5) (1) (show decode (gy_b gY_156) 214 = .ok (.iload 5, 2) by decide +kernel) rfl ?_
    refine gr_ifeq (pc := 216) (tgt := 230) (off := 14) hG.2.1 (show decode (gy_b gY_156) 216 = .ok (.ifCond .eq (14), 3) by decide +kernel) (by decide) ?_ ?_
    · exact gj_false
    · refine gr_aload_n (pc := 219) (i := 0) 10 (l0) (show decode (gy_b gY_156) 219 = .ok (.aload_n 0, 1) by decide +kernel) rfl rfl ?_
      refine gj_nn (fun hx220 => ?_)
      refine gj_c0 (pc := 220) (Y' := gY_120) (y := yL_hears) (vs := [gR 10 (l0)]) (rest := []) (rs := fun v139 => [gI (v139)]) [gR 10 (l0)] rfl (hm_120 hG (l0)) rfl (gh_V (t := 10) (vs := []) (rest := []) (show decode (gy_b gY_156) 220 = .ok (.invokevirtual 158, 3) by decide +kernel) rfl hx220 rfl rfl (ok_120 (by decide) (by decide)) wd_1135 wd_1137 wd_34 (Nat.le_of_ble_eq_true rfl)) (fun _ => rfl) ?_
      intro v139 M140 n141 c142
      refine gr_ifeq (pc := 223) (tgt := 230) (off := 7) hG.2.1 (show decode (gy_b gY_156) 223 = .ok (.ifCond .eq (7), 3) by decide +kernel) (by decide) ?_ ?_
      · exact gj_false
      · refine gr_iconst (pc := 226) (z := 1) 1 (show decode (gy_b gY_156) 226 = .ok (.iconst (1), 1) by decide +kernel) kc_1 ?_
        refine gr_goto (pc := 227) (tgt := 231) (off := 4) (show decode (gy_b gY_156) 227 = .ok (.goto (4), 3) by decide +kernel) (by decide) ?_
        refine gr_wk [true, false, false, true, true, false, true, true, true, true, true, true] rfl ?_
        exact h_156_L231 hG T hdr (l0) (l4) (l6) (1) M140 n141 c142
noncomputable def fi_156_L129 (T : Nat) (K : Nat → Nat → Nat → Nat → Bool) (l0 l1 l2 l3 l4 l5 l6 s0 M n c : Nat) : Bool := gx_new 4 n c (fun v82 n83 c84 => gx_nn (v82) (fi_10 (v82) M n83 c84 (fun v85 M86 n87 c88 => gx_nn (v82) (fi_18 (v82) (l3) M86 n87 c88 (fun v89 M90 n91 c92 => gx_nn (v89) (fi_18 (v89) (36) M90 n91 c92 (fun v93 M94 n95 c96 => gx_nn (l0) (fi_33 T (l0) M94 n95 c96 (fun v97 M98 n99 c100 => gx_nn (v93) (fi_18 (v93) (v97) M98 n99 c100 (fun v101 M102 n103 c104 => gx_nn (v101) (fi_31 (v101) M102 n103 c104 (fun v105 M106 n107 c108 => gx_nn (s0) (fi_49 (s0) (v105) M106 n107 c108 (fun v109 M110 n111 c112 => gx_get (l0) 3 M110 (fun v113 => gx_nn (v113) (fi_104 (v113) (l2) M110 n111 c112 (fun v114 M115 n116 c117 => gx_nn (l0) (fi_49 (l0) (l3) M115 n116 c117 (fun v118 M119 n120 c121 => gx_eq (l5) 0 (false) (gx_get (l0) 3 M119 (fun v122 => fi_156_L182 T K (l0) (l1) (l2) (l4) (l6) (v122) M119 n120 c121))))))))))))))))))))))
theorem h_156_L129 {G : gxG} (hG : gxG0 G) (T : Nat) (hdr : ∀ x nn : Nat, gxM G gY_draw yL_draw [gR 10 x, gI nn] (fd_draw T x nn)) {K : Nat → Nat → Nat → Nat → Bool} (l0 l1 l2 l3 l4 l5 l6 s0 M n c : Nat) : gxJ G gY_156 K 129 [gR 10 (s0)] [gR 10 (l0), gI (l1), gI (l2), gR 8 (l3), gI (l4), gI (l5), gI (l6), gB, gB, gB, gB, gB] M n c (fi_156_L129 T K l0 l1 l2 l3 l4 l5 l6 s0 M n c) := by
  unfold fi_156_L129
  refine gr_newo (pc := 129) (index := 62) (t := 9) (show decode (gy_b gY_156) 129 = .ok (.new 62, 3) by decide +kernel) rfl wd_390 wd_391 wd_60 ?_
  intro v82 n83 c84
  refine gr_dup (b := gB) (pc := 132) (show decode (gy_b gY_156) 132 = .ok (.dup, 1) by decide +kernel) rfl ?_
  refine gj_nn (fun hx133 => ?_)
  refine gj_c0 (pc := 133) (Y' := gY_10) (y := yJ4_init_da8c8) (vs := [gR 9 (v82)]) (rest := [gR 9 (v82), gR 10 (s0)]) (rs := fun v85 => [gR 9 (v82), gR 10 (s0)]) [gR 9 (v82)] rfl (hm_10 hG (v82)) rfl (gh_I (t := 9) (vs := []) (rest := [gR 9 (v82), gR 10 (s0)]) (show decode (gy_b gY_156) 133 = .ok (.invokespecial 64, 3) by decide +kernel) rfl hx133 rfl (ok_10 (by decide) (by decide)) rfl rfl rfl rfl wd_392 wd_393 (Nat.le_of_ble_eq_true rfl)) (fun _ => rfl) ?_
  intro v85 M86 n87 c88
  refine gr_aload_n (pc := 136) (i := 3) 8 (l3) (show decode (gy_b gY_156) 136 = .ok (.aload_n 3, 1) by decide +kernel) rfl rfl ?_
  refine gj_nn (fun hx137 => ?_)
  refine gj_c0 (pc := 137) (Y' := gY_18) (y := yJ4_append_15ec4) (vs := [gR 9 (v82), gR 8 (l3)]) (rest := [gR 10 (s0)]) (rs := fun v89 => [gR 9 (v89), gR 10 (s0)]) [gR 8 (l3), gR 9 (v82)] rfl (hm_18 hG (v82) (l3)) rfl (gh_V (t := 9) (vs := [gR 8 (l3)]) (rest := [gR 10 (s0)]) (show decode (gy_b gY_156) 137 = .ok (.invokevirtual 67, 3) by decide +kernel) rfl hx137 rfl rfl (ok_18 (by decide) (by decide)) wd_423 wd_424 wd_425 (Nat.le_of_ble_eq_true rfl)) (fun _ => rfl) ?_
  intro v89 M90 n91 c92
  refine gr_ldcS (pc := 140) (index := 191) (b := 36) (tx := "/f=") rfl (show decode (gy_b gY_156) 140 = .ok (.ldc 191, 2) by decide +kernel) (by decide) (by decide) (by decide) ?_
  refine gj_nn (fun hx142 => ?_)
  refine gj_c0 (pc := 142) (Y' := gY_18) (y := yJ4_append_15ec4) (vs := [gR 9 (v89), gR 8 (36)]) (rest := [gR 10 (s0)]) (rs := fun v93 => [gR 9 (v93), gR 10 (s0)]) [gR 8 (36), gR 9 (v89)] rfl (hm_18 hG (v89) (36)) rfl (gh_V (t := 9) (vs := [gR 8 (36)]) (rest := [gR 10 (s0)]) (show decode (gy_b gY_156) 142 = .ok (.invokevirtual 67, 3) by decide +kernel) rfl hx142 rfl rfl (ok_18 (by decide) (by decide)) wd_423 wd_424 wd_425 (Nat.le_of_ble_eq_true rfl)) (fun _ => rfl) ?_
  intro v93 M94 n95 c96
  refine gr_aload_n (pc := 145) (i := 0) 10 (l0) (show decode (gy_b gY_156) 145 = .ok (.aload_n 0, 1) by decide +kernel) rfl rfl ?_
  refine gj_nn (fun hx146 => ?_)
  refine gj_c0 (pc := 146) (Y' := gY_33) (y := yL_word) (vs := [gR 10 (l0)]) (rest := [gR 9 (v93), gR 10 (s0)]) (rs := fun v97 => [gR 8 (v97), gR 9 (v93), gR 10 (s0)]) [gR 10 (l0)] rfl (hm_33 hG T hdr (l0)) rfl (gh_V (t := 10) (vs := []) (rest := [gR 9 (v93), gR 10 (s0)]) (show decode (gy_b gY_156) 146 = .ok (.invokevirtual 124, 3) by decide +kernel) rfl hx146 rfl rfl (ok_33 (by decide) (by decide)) wd_625 wd_627 wd_7 (Nat.le_of_ble_eq_true rfl)) (fun _ => rfl) ?_
  intro v97 M98 n99 c100
  refine gj_nn (fun hx149 => ?_)
  refine gj_c0 (pc := 149) (Y' := gY_18) (y := yJ4_append_15ec4) (vs := [gR 9 (v93), gR 8 (v97)]) (rest := [gR 10 (s0)]) (rs := fun v101 => [gR 9 (v101), gR 10 (s0)]) [gR 8 (v97), gR 9 (v93)] rfl (hm_18 hG (v93) (v97)) rfl (gh_V (t := 9) (vs := [gR 8 (v97)]) (rest := [gR 10 (s0)]) (show decode (gy_b gY_156) 149 = .ok (.invokevirtual 67, 3) by decide +kernel) rfl hx149 rfl rfl (ok_18 (by decide) (by decide)) wd_423 wd_424 wd_425 (Nat.le_of_ble_eq_true rfl)) (fun _ => rfl) ?_
  intro v101 M102 n103 c104
  refine gj_nn (fun hx152 => ?_)
  refine gj_c0 (pc := 152) (Y' := gY_31) (y := yJ4_toString_0e30d) (vs := [gR 9 (v101)]) (rest := [gR 10 (s0)]) (rs := fun v105 => [gR 8 (v105), gR 10 (s0)]) [gR 9 (v101)] rfl (hm_31 hG (v101)) rfl (gh_V (t := 9) (vs := []) (rest := [gR 10 (s0)]) (show decode (gy_b gY_156) 152 = .ok (.invokevirtual 78, 3) by decide +kernel) rfl hx152 rfl rfl (ok_31 (by decide) (by decide)) wd_565 wd_566 wd_567 (Nat.le_of_ble_eq_true rfl)) (fun _ => rfl) ?_
  intro v105 M106 n107 c108
  refine gj_nn (fun hx155 => ?_)
  refine gj_c0 (pc := 155) (Y' := gY_49) (y := yL_types) (vs := [gR 10 (s0), gR 8 (v105)]) (rest := []) (rs := fun v109 => []) [gR 8 (v105), gR 10 (s0)] rfl (hm_49 hG (s0) (v105)) rfl (gh_V (t := 10) (vs := [gR 8 (v105)]) (rest := []) (show decode (gy_b gY_156) 155 = .ok (.invokevirtual 108, 3) by decide +kernel) rfl hx155 rfl rfl (ok_49 (by decide) (by decide)) wd_736 wd_738 wd_11 (Nat.le_of_ble_eq_true rfl)) (fun _ => rfl) ?_
  intro v109 M110 n111 c112
  refine gr_aload_n (pc := 158) (i := 0) 10 (l0) (show decode (gy_b gY_156) 158 = .ok (.aload_n 0, 1) by decide +kernel) rfl rfl ?_
  refine gr_getf (pc := 159) (index := 10) (t := 10) (j := 3) (σ := 15) (sv := (gR 7)) (show decode (gy_b gY_156) 159 = .ok (.getfield 10, 3) by decide +kernel) rfl rfl (fun _ => rfl) wd_346 (by decide) ?_
  intro v113
  refine gr_iload_n (pc := 162) (i := 2) (l2) (show decode (gy_b gY_156) 162 = .ok (.iload_n 2, 1) by decide +kernel) rfl rfl ?_
  refine gj_nn (fun hx163 => ?_)
  refine gj_c0 (pc := 163) (Y' := gY_104) (y := yX7_store) (vs := [gR 7 (v113), gI (l2)]) (rest := []) (rs := fun v114 => [gI (v114)]) [gI (l2), gR 7 (v113)] rfl (hm_104 hG (v113) (l2)) rfl (gh_V (t := 7) (vs := [gI (l2)]) (rest := []) (show decode (gy_b gY_156) 163 = .ok (.invokevirtual 148, 3) by decide +kernel) rfl hx163 rfl rfl (ok_104 (by decide) (by decide)) wd_1094 wd_1095 wd_1096 (Nat.le_of_ble_eq_true rfl)) (fun _ => rfl) ?_
  intro v114 M115 n116 c117
  refine gr_istore (pc := 166) (i := 7) (L' := [gR 10 (l0), gI (l1), gI (l2), gR 8 (l3), gI (l4), gI (l5), gI (l6), gI (v114), gB, gB, gB, gB]) (show decode (gy_b gY_156) 166 = .ok (.istore 7, 2) by decide +kernel) (by decide) rfl rfl ?_
  refine gr_aload_n (pc := 168) (i := 0) 10 (l0) (show decode (gy_b gY_156) 168 = .ok (.aload_n 0, 1) by decide +kernel) rfl rfl ?_
  refine gr_aload_n (pc := 169) (i := 3) 8 (l3) (show decode (gy_b gY_156) 169 = .ok (.aload_n 3, 1) by decide +kernel) rfl rfl ?_
  refine gj_nn (fun hx170 => ?_)
  refine gj_c0 (pc := 170) (Y' := gY_49) (y := yL_types) (vs := [gR 10 (l0), gR 8 (l3)]) (rest := []) (rs := fun v118 => []) [gR 8 (l3), gR 10 (l0)] rfl (hm_49 hG (l0) (l3)) rfl (gh_V (t := 10) (vs := [gR 8 (l3)]) (rest := []) (show decode (gy_b gY_156) 170 = .ok (.invokevirtual 108, 3) by decide +kernel) rfl hx170 rfl rfl (ok_49 (by decide) (by decide)) wd_736 wd_738 wd_11 (Nat.le_of_ble_eq_true rfl)) (fun _ => rfl) ?_
  intro v118 M119 n120 c121
  refine gr_iload (pc := 173) (i := 5) (l5) (show decode (gy_b gY_156) 173 = .ok (.iload 5, 2) by decide +kernel) rfl ?_
  refine gr_ifeq (pc := 175) (tgt := 195) (off := 20) hG.2.1 (show decode (gy_b gY_156) 175 = .ok (.ifCond .eq (20), 3) by decide +kernel) (by decide) ?_ ?_
  · exact gj_false
  · refine gr_aload_n (pc := 178) (i := 0) 10 (l0) (show decode (gy_b gY_156) 178 = .ok (.aload_n 0, 1) by decide +kernel) rfl rfl ?_
    refine gr_getf (pc := 179) (index := 10) (t := 10) (j := 3) (σ := 15) (sv := (gR 7)) (show decode (gy_b gY_156) 179 = .ok (.getfield 10, 3) by decide +kernel) rfl rfl (fun _ => rfl) wd_346 (by decide) ?_
    intro v122
    refine gr_wk [true, true, true, false, true, false, true, false, true, true, true, true] rfl ?_
    exact h_156_L182 hG T hdr (l0) (l1) (l2) (l4) (l6) (v122) M119 n120 c121
noncomputable def fi_156_L79 (T : Nat) (K : Nat → Nat → Nat → Nat → Bool) (l0 l1 l2 l3 l4 s0 M n c : Nat) : Bool := gx_eq (s0) 0 (gx_nn (l0) (fi_40 (l0) (l2) (0) M n c (fun v50 M51 n52 c53 => gx_new 4 n52 c53 (fun v54 n55 c56 => gx_nn (v54) (fi_10 (v54) M51 n55 c56 (fun v57 M58 n59 c60 => gx_nn (v54) (fi_18 (v54) (l3) M58 n59 c60 (fun v61 M62 n63 c64 => gx_nn (v61) (fi_18 (v61) (31) M62 n63 c64 (fun v65 M66 n67 c68 => gx_nn (v65) (fi_31 (v65) M66 n67 c68 (fun v69 M70 n71 c72 => gx_nn (l0) (fi_49 (l0) (v69) M70 n71 c72 (fun v73 M74 n75 c76 => gx_get (l0) 3 M74 (fun v77 => gx_nn (v77) (fi_97 (v77) (l2) M74 n75 c76 (fun v78 M79 n80 c81 => fi_156_L129 T K (l0) (l1) (l2) (l3) (l4) (1) (v78) (l0) M79 n80 c81))))))))))))))))) (false)
theorem h_156_L79 {G : gxG} (hG : gxG0 G) (T : Nat) (hdr : ∀ x nn : Nat, gxM G gY_draw yL_draw [gR 10 x, gI nn] (fd_draw T x nn)) {K : Nat → Nat → Nat → Nat → Bool} (l0 l1 l2 l3 l4 s0 M n c : Nat) : gxJ G gY_156 K 79 [gI (s0)] [gR 10 (l0), gI (l1), gI (l2), gR 8 (l3), gI (l4), gB, gB, gB, gB, gB, gB, gB] M n c (fi_156_L79 T K l0 l1 l2 l3 l4 s0 M n c) := by
  unfold fi_156_L79
  refine gr_ifne (pc := 79) (tgt := 86) (off := 7) hG.2.1 (show decode (gy_b gY_156) 79 = .ok (.ifCond .ne (7), 3) by decide +kernel) (by decide) ?_ ?_
  · exact gj_false
  · refine gr_iconst (pc := 82) (z := 1) 1 (show decode (gy_b gY_156) 82 = .ok (.iconst (1), 1) by decide +kernel) kc_1 ?_
    refine gr_goto (pc := 83) (tgt := 87) (off := 4) (show decode (gy_b gY_156) 83 = .ok (.goto (4), 3) by decide +kernel) (by decide) ?_
    refine gr_istore (pc := 87) (i := 5) (L' := [gR 10 (l0), gI (l1), gI (l2), gR 8 (l3), gI (l4), gI (1), gB, gB, gB, gB, gB, gB]) (show decode (gy_b gY_156) 87 = .ok (.istore 5, 2) by decide +kernel) (by decide) rfl rfl ?_
    refine gr_aload_n (pc := 89) (i := 0) 10 (l0) (show decode (gy_b gY_156) 89 = .ok (.aload_n 0, 1) by decide +kernel) rfl rfl ?_
    refine gr_iload_n (pc := 90) (i := 2) (l2) (show decode (gy_b gY_156) 90 = .ok (.iload_n 2, 1) by decide +kernel) rfl rfl ?_
    refine gr_iconst (pc := 91) (z := 0) 0 (show decode (gy_b gY_156) 91 = .ok (.iconst (0), 1) by decide +kernel) kc_0 ?_
    refine gj_nn (fun hx92 => ?_)
    refine gj_c0 (pc := 92) (Y' := gY_40) (y := yL_links) (vs := [gR 10 (l0), gI (l2), gI (0)]) (rest := []) (rs := fun v50 => []) [gI (0), gI (l2), gR 10 (l0)] rfl (hm_40 hG (l0) (l2) (0)) rfl (gh_V (t := 10) (vs := [gI (l2), gI (0)]) (rest := []) (show decode (gy_b gY_156) 92 = .ok (.invokevirtual 130, 3) by decide +kernel) rfl hx92 rfl rfl (ok_40 (by decide) (by decide)) wd_654 wd_656 wd_8 (Nat.le_of_ble_eq_true rfl)) (fun _ => rfl) ?_
    intro v50 M51 n52 c53
    refine gr_aload_n (pc := 95) (i := 0) 10 (l0) (show decode (gy_b gY_156) 95 = .ok (.aload_n 0, 1) by decide +kernel) rfl rfl ?_
    refine gr_newo (pc := 96) (index := 62) (t := 9) (show decode (gy_b gY_156) 96 = .ok (.new 62, 3) by decide +kernel) rfl wd_390 wd_391 wd_60 ?_
    intro v54 n55 c56
    refine gr_dup (b := gB) (pc := 99) (show decode (gy_b gY_156) 99 = .ok (.dup, 1) by decide +kernel) rfl ?_
    refine gj_nn (fun hx100 => ?_)
    refine gj_c0 (pc := 100) (Y' := gY_10) (y := yJ4_init_da8c8) (vs := [gR 9 (v54)]) (rest := [gR 9 (v54), gR 10 (l0)]) (rs := fun v57 => [gR 9 (v54), gR 10 (l0)]) [gR 9 (v54)] rfl (hm_10 hG (v54)) rfl (gh_I (t := 9) (vs := []) (rest := [gR 9 (v54), gR 10 (l0)]) (show decode (gy_b gY_156) 100 = .ok (.invokespecial 64, 3) by decide +kernel) rfl hx100 rfl (ok_10 (by decide) (by decide)) rfl rfl rfl rfl wd_392 wd_393 (Nat.le_of_ble_eq_true rfl)) (fun _ => rfl) ?_
    intro v57 M58 n59 c60
    refine gr_aload_n (pc := 103) (i := 3) 8 (l3) (show decode (gy_b gY_156) 103 = .ok (.aload_n 3, 1) by decide +kernel) rfl rfl ?_
    refine gj_nn (fun hx104 => ?_)
    refine gj_c0 (pc := 104) (Y' := gY_18) (y := yJ4_append_15ec4) (vs := [gR 9 (v54), gR 8 (l3)]) (rest := [gR 10 (l0)]) (rs := fun v61 => [gR 9 (v61), gR 10 (l0)]) [gR 8 (l3), gR 9 (v54)] rfl (hm_18 hG (v54) (l3)) rfl (gh_V (t := 9) (vs := [gR 8 (l3)]) (rest := [gR 10 (l0)]) (show decode (gy_b gY_156) 104 = .ok (.invokevirtual 67, 3) by decide +kernel) rfl hx104 rfl rfl (ok_18 (by decide) (by decide)) wd_423 wd_424 wd_425 (Nat.le_of_ble_eq_true rfl)) (fun _ => rfl) ?_
    intro v61 M62 n63 c64
    refine gr_ldcS (pc := 107) (index := 189) (b := 31) (tx := "/f") rfl (show decode (gy_b gY_156) 107 = .ok (.ldc 189, 2) by decide +kernel) (by decide) (by decide) (by decide) ?_
    refine gj_nn (fun hx109 => ?_)
    refine gj_c0 (pc := 109) (Y' := gY_18) (y := yJ4_append_15ec4) (vs := [gR 9 (v61), gR 8 (31)]) (rest := [gR 10 (l0)]) (rs := fun v65 => [gR 9 (v65), gR 10 (l0)]) [gR 8 (31), gR 9 (v61)] rfl (hm_18 hG (v61) (31)) rfl (gh_V (t := 9) (vs := [gR 8 (31)]) (rest := [gR 10 (l0)]) (show decode (gy_b gY_156) 109 = .ok (.invokevirtual 67, 3) by decide +kernel) rfl hx109 rfl rfl (ok_18 (by decide) (by decide)) wd_423 wd_424 wd_425 (Nat.le_of_ble_eq_true rfl)) (fun _ => rfl) ?_
    intro v65 M66 n67 c68
    refine gj_nn (fun hx112 => ?_)
    refine gj_c0 (pc := 112) (Y' := gY_31) (y := yJ4_toString_0e30d) (vs := [gR 9 (v65)]) (rest := [gR 10 (l0)]) (rs := fun v69 => [gR 8 (v69), gR 10 (l0)]) [gR 9 (v65)] rfl (hm_31 hG (v65)) rfl (gh_V (t := 9) (vs := []) (rest := [gR 10 (l0)]) (show decode (gy_b gY_156) 112 = .ok (.invokevirtual 78, 3) by decide +kernel) rfl hx112 rfl rfl (ok_31 (by decide) (by decide)) wd_565 wd_566 wd_567 (Nat.le_of_ble_eq_true rfl)) (fun _ => rfl) ?_
    intro v69 M70 n71 c72
    refine gj_nn (fun hx115 => ?_)
    refine gj_c0 (pc := 115) (Y' := gY_49) (y := yL_types) (vs := [gR 10 (l0), gR 8 (v69)]) (rest := []) (rs := fun v73 => []) [gR 8 (v69), gR 10 (l0)] rfl (hm_49 hG (l0) (v69)) rfl (gh_V (t := 10) (vs := [gR 8 (v69)]) (rest := []) (show decode (gy_b gY_156) 115 = .ok (.invokevirtual 108, 3) by decide +kernel) rfl hx115 rfl rfl (ok_49 (by decide) (by decide)) wd_736 wd_738 wd_11 (Nat.le_of_ble_eq_true rfl)) (fun _ => rfl) ?_
    intro v73 M74 n75 c76
    refine gr_aload_n (pc := 118) (i := 0) 10 (l0) (show decode (gy_b gY_156) 118 = .ok (.aload_n 0, 1) by decide +kernel) rfl rfl ?_
    refine gr_getf (pc := 119) (index := 10) (t := 10) (j := 3) (σ := 15) (sv := (gR 7)) (show decode (gy_b gY_156) 119 = .ok (.getfield 10, 3) by decide +kernel) rfl rfl (fun _ => rfl) wd_346 (by decide) ?_
    intro v77
    refine gr_iload_n (pc := 122) (i := 2) (l2) (show decode (gy_b gY_156) 122 = .ok (.iload_n 2, 1) by decide +kernel) rfl rfl ?_
    refine gj_nn (fun hx123 => ?_)
    refine gj_c0 (pc := 123) (Y' := gY_97) (y := yX7_makeFile) (vs := [gR 7 (v77), gI (l2)]) (rest := []) (rs := fun v78 => [gI (v78)]) [gI (l2), gR 7 (v77)] rfl (hm_97 hG (v77) (l2)) rfl (gh_V (t := 7) (vs := [gI (l2)]) (rest := []) (show decode (gy_b gY_156) 123 = .ok (.invokevirtual 134, 3) by decide +kernel) rfl hx123 rfl rfl (ok_97 (by decide) (by decide)) wd_807 wd_808 wd_809 (Nat.le_of_ble_eq_true rfl)) (fun _ => rfl) ?_
    intro v78 M79 n80 c81
    refine gr_istore (pc := 126) (i := 6) (L' := [gR 10 (l0), gI (l1), gI (l2), gR 8 (l3), gI (l4), gI (1), gI (v78), gB, gB, gB, gB, gB]) (show decode (gy_b gY_156) 126 = .ok (.istore 6, 2) by decide +kernel) (by decide) rfl rfl ?_
    refine gr_aload_n (pc := 128) (i := 0) 10 (l0) (show decode (gy_b gY_156) 128 = .ok (.aload_n 0, 1) by decide +kernel) rfl rfl ?_
    exact h_156_L129 hG T hdr (l0) (l1) (l2) (l3) (l4) (1) (v78) (l0) M79 n80 c81
noncomputable def fi_156_L34 (T : Nat) (K : Nat → Nat → Nat → Nat → Bool) (l0 l1 l2 s0 M n c : Nat) : Bool := gx_nn (l0) (fi_49 (l0) (s0) M n c (fun v24 M25 n26 c27 => gx_get (l0) 3 M25 (fun v28 => gx_nn (v28) (fi_142 (v28) (l1) M25 n26 c27 (fun v29 M30 n31 c32 => gx_nn (l0) (fi_112 (l0) (l1) M30 n31 c32 (fun v33 M34 n35 c36 => gx_nn (l0) (fi_120 (l0) M34 n35 c36 (fun v37 M38 n39 c40 => gx_nn (l0) (fi_49 (l0) (s0) M38 n39 c40 (fun v41 M42 n43 c44 => gx_eq (v37) 0 (false) (gx_get (l0) 3 M42 (fun v45 => gx_nn (v45) (fi_143 (v45) (l2) M42 n43 c44 (fun v46 M47 n48 c49 => fi_156_L79 T K (l0) (l1) (l2) (s0) (v29) (v46) M47 n48 c49)))))))))))))))
theorem h_156_L34 {G : gxG} (hG : gxG0 G) (T : Nat) (hdr : ∀ x nn : Nat, gxM G gY_draw yL_draw [gR 10 x, gI nn] (fd_draw T x nn)) {K : Nat → Nat → Nat → Nat → Bool} (l0 l1 l2 s0 M n c : Nat) : gxJ G gY_156 K 34 [gR 8 (s0)] [gR 10 (l0), gI (l1), gI (l2), gB, gB, gB, gB, gB, gB, gB, gB, gB] M n c (fi_156_L34 T K l0 l1 l2 s0 M n c) := by
  unfold fi_156_L34
  refine gr_astore_n (pc := 34) (i := 3) (L' := [gR 10 (l0), gI (l1), gI (l2), gR 8 (s0), gB, gB, gB, gB, gB, gB, gB, gB]) (show decode (gy_b gY_156) 34 = .ok (.astore_n 3, 1) by decide +kernel) rfl (by decide) rfl rfl ?_
  refine gr_aload_n (pc := 35) (i := 0) 10 (l0) (show decode (gy_b gY_156) 35 = .ok (.aload_n 0, 1) by decide +kernel) rfl rfl ?_
  refine gr_aload_n (pc := 36) (i := 3) 8 (s0) (show decode (gy_b gY_156) 36 = .ok (.aload_n 3, 1) by decide +kernel) rfl rfl ?_
  refine gj_nn (fun hx37 => ?_)
  refine gj_c0 (pc := 37) (Y' := gY_49) (y := yL_types) (vs := [gR 10 (l0), gR 8 (s0)]) (rest := []) (rs := fun v24 => []) [gR 8 (s0), gR 10 (l0)] rfl (hm_49 hG (l0) (s0)) rfl (gh_V (t := 10) (vs := [gR 8 (s0)]) (rest := []) (show decode (gy_b gY_156) 37 = .ok (.invokevirtual 108, 3) by decide +kernel) rfl hx37 rfl rfl (ok_49 (by decide) (by decide)) wd_736 wd_738 wd_11 (Nat.le_of_ble_eq_true rfl)) (fun _ => rfl) ?_
  intro v24 M25 n26 c27
  refine gr_aload_n (pc := 40) (i := 0) 10 (l0) (show decode (gy_b gY_156) 40 = .ok (.aload_n 0, 1) by decide +kernel) rfl rfl ?_
  refine gr_getf (pc := 41) (index := 10) (t := 10) (j := 3) (σ := 15) (sv := (gR 7)) (show decode (gy_b gY_156) 41 = .ok (.getfield 10, 3) by decide +kernel) rfl rfl (fun _ => rfl) wd_346 (by decide) ?_
  intro v28
  refine gr_iload_n (pc := 44) (i := 1) (l1) (show decode (gy_b gY_156) 44 = .ok (.iload_n 1, 1) by decide +kernel) rfl rfl ?_
  refine gj_nn (fun hx45 => ?_)
  refine gj_c0 (pc := 45) (Y' := gY_142) (y := yX7_makeDirectory) (vs := [gR 7 (v28), gI (l1)]) (rest := []) (rs := fun v29 => [gI (v29)]) [gI (l1), gR 7 (v28)] rfl (hm_142 hG (v28) (l1)) rfl (gh_V (t := 7) (vs := [gI (l1)]) (rest := []) (show decode (gy_b gY_156) 45 = .ok (.invokevirtual 183, 3) by decide +kernel) rfl hx45 rfl rfl (ok_142 (by decide) (by decide)) wd_1268 wd_1269 wd_1270 (Nat.le_of_ble_eq_true rfl)) (fun _ => rfl) ?_
  intro v29 M30 n31 c32
  refine gr_istore (pc := 48) (i := 4) (L' := [gR 10 (l0), gI (l1), gI (l2), gR 8 (s0), gI (v29), gB, gB, gB, gB, gB, gB, gB]) (show decode (gy_b gY_156) 48 = .ok (.istore 4, 2) by decide +kernel) (by decide) rfl rfl ?_
  refine gr_aload_n (pc := 50) (i := 0) 10 (l0) (show decode (gy_b gY_156) 50 = .ok (.aload_n 0, 1) by decide +kernel) rfl rfl ?_
  refine gr_iload_n (pc := 51) (i := 1) (l1) (show decode (gy_b gY_156) 51 = .ok (.iload_n 1, 1) by decide +kernel) rfl rfl ?_
  refine gj_nn (fun hx52 => ?_)
  refine gj_c0 (pc := 52) (Y' := gY_112) (y := yL_brings) (vs := [gR 10 (l0), gI (l1)]) (rest := []) (rs := fun v33 => []) [gI (l1), gR 10 (l0)] rfl (hm_112 hG (l0) (l1)) rfl (gh_V (t := 10) (vs := [gI (l1)]) (rest := []) (show decode (gy_b gY_156) 52 = .ok (.invokevirtual 154, 3) by decide +kernel) rfl hx52 rfl rfl (ok_112 (by decide) (by decide)) wd_1111 wd_1113 wd_33 (Nat.le_of_ble_eq_true rfl)) (fun _ => rfl) ?_
  intro v33 M34 n35 c36
  refine gr_aload_n (pc := 55) (i := 0) 10 (l0) (show decode (gy_b gY_156) 55 = .ok (.aload_n 0, 1) by decide +kernel) rfl rfl ?_
  refine gj_nn (fun hx56 => ?_)
  refine gj_c0 (pc := 56) (Y' := gY_120) (y := yL_hears) (vs := [gR 10 (l0)]) (rest := []) (rs := fun v37 => [gI (v37)]) [gR 10 (l0)] rfl (hm_120 hG (l0)) rfl (gh_V (t := 10) (vs := []) (rest := []) (show decode (gy_b gY_156) 56 = .ok (.invokevirtual 158, 3) by decide +kernel) rfl hx56 rfl rfl (ok_120 (by decide) (by decide)) wd_1135 wd_1137 wd_34 (Nat.le_of_ble_eq_true rfl)) (fun _ => rfl) ?_
  intro v37 M38 n39 c40
  refine gr_istore (pc := 59) (i := 5) (L' := [gR 10 (l0), gI (l1), gI (l2), gR 8 (s0), gI (v29), gI (v37), gB, gB, gB, gB, gB, gB]) (show decode (gy_b gY_156) 59 = .ok (.istore 5, 2) by decide +kernel) (by decide) rfl rfl ?_
  refine gr_aload_n (pc := 61) (i := 0) 10 (l0) (show decode (gy_b gY_156) 61 = .ok (.aload_n 0, 1) by decide +kernel) rfl rfl ?_
  refine gr_aload_n (pc := 62) (i := 3) 8 (s0) (show decode (gy_b gY_156) 62 = .ok (.aload_n 3, 1) by decide +kernel) rfl rfl ?_
  refine gj_nn (fun hx63 => ?_)
  refine gj_c0 (pc := 63) (Y' := gY_49) (y := yL_types) (vs := [gR 10 (l0), gR 8 (s0)]) (rest := []) (rs := fun v41 => []) [gR 8 (s0), gR 10 (l0)] rfl (hm_49 hG (l0) (s0)) rfl (gh_V (t := 10) (vs := [gR 8 (s0)]) (rest := []) (show decode (gy_b gY_156) 63 = .ok (.invokevirtual 108, 3) by decide +kernel) rfl hx63 rfl rfl (ok_49 (by decide) (by decide)) wd_736 wd_738 wd_11 (Nat.le_of_ble_eq_true rfl)) (fun _ => rfl) ?_
  intro v41 M42 n43 c44
  refine gr_iload (pc := 66) (i := 5) (v37) (show decode (gy_b gY_156) 66 = .ok (.iload 5, 2) by decide +kernel) rfl ?_
  refine gr_ifeq (pc := 68) (tgt := 86) (off := 18) hG.2.1 (show decode (gy_b gY_156) 68 = .ok (.ifCond .eq (18), 3) by decide +kernel) (by decide) ?_ ?_
  · exact gj_false
  · refine gr_aload_n (pc := 71) (i := 0) 10 (l0) (show decode (gy_b gY_156) 71 = .ok (.aload_n 0, 1) by decide +kernel) rfl rfl ?_
    refine gr_getf (pc := 72) (index := 10) (t := 10) (j := 3) (σ := 15) (sv := (gR 7)) (show decode (gy_b gY_156) 72 = .ok (.getfield 10, 3) by decide +kernel) rfl rfl (fun _ => rfl) wd_346 (by decide) ?_
    intro v45
    refine gr_iload_n (pc := 75) (i := 2) (l2) (show decode (gy_b gY_156) 75 = .ok (.iload_n 2, 1) by decide +kernel) rfl rfl ?_
    refine gj_nn (fun hx76 => ?_)
    refine gj_c0 (pc := 76) (Y' := gY_143) (y := yX7_list) (vs := [gR 7 (v45), gI (l2)]) (rest := []) (rs := fun v46 => [gI (v46)]) [gI (l2), gR 7 (v45)] rfl (hm_143 hG (v45) (l2)) rfl (gh_V (t := 7) (vs := [gI (l2)]) (rest := []) (show decode (gy_b gY_156) 76 = .ok (.invokevirtual 186, 3) by decide +kernel) rfl hx76 rfl rfl (ok_143 (by decide) (by decide)) wd_1272 wd_1273 wd_1274 (Nat.le_of_ble_eq_true rfl)) (fun _ => rfl) ?_
    intro v46 M47 n48 c49
    refine gr_wk [true, true, true, true, true, false, true, true, true, true, true, true] rfl ?_
    exact h_156_L79 hG T hdr (l0) (l1) (l2) (s0) (v29) (v46) M47 n48 c49
noncomputable def fi_156_L0 (T : Nat) (K : Nat → Nat → Nat → Nat → Bool) (l0 M n c : Nat) : Bool := gx_nn (l0) (fd_draw T (l0) (4) M n c (fun v1 M2 n3 c4 => gx_add (v1) (1) (fun z5 => gx_nn (l0) (fd_draw T (l0) (3) M2 n3 c4 (fun v6 M7 n8 c9 => gx_add (z5) (v6) (fun z10 => gx_rem (z10) (4) (fun z11 => gx_nn (l0) (fi_40 (l0) (v1) (1) M7 n8 c9 (fun v12 M13 n14 c15 => gx_nn (l0) (fi_40 (l0) (z11) (1) M13 n14 c15 (fun v16 M17 n18 c19 => gx_nn (l0) (fi_32 T (l0) M17 n18 c19 (fun v20 M21 n22 c23 => fi_156_L34 T K (l0) (v1) (z11) (v20) M21 n22 c23)))))))))))))
theorem h_156_L0 {G : gxG} (hG : gxG0 G) (T : Nat) (hdr : ∀ x nn : Nat, gxM G gY_draw yL_draw [gR 10 x, gI nn] (fd_draw T x nn)) {K : Nat → Nat → Nat → Nat → Bool} (l0 M n c : Nat) : gxJ G gY_156 K 0 [] [gR 10 (l0), gB, gB, gB, gB, gB, gB, gB, gB, gB, gB, gB] M n c (fi_156_L0 T K l0 M n c) := by
  unfold fi_156_L0
  refine gr_aload_n (pc := 0) (i := 0) 10 (l0) (show decode (gy_b gY_156) 0 = .ok (.aload_n 0, 1) by decide +kernel) rfl rfl ?_
  refine gr_iconst (pc := 1) (z := 4) 4 (show decode (gy_b gY_156) 1 = .ok (.iconst (4), 1) by decide +kernel) kc_4 ?_
  refine gj_nn (fun hx2 => ?_)
  refine gj_c0 (pc := 2) (Y' := gY_draw) (y := yL_draw) (vs := [gR 10 (l0), gI (4)]) (rest := []) (rs := fun v1 => [gI (v1)]) [gI (4), gR 10 (l0)] rfl (hdr (l0) (4)) rfl (gh_V (t := 10) (vs := [gI (4)]) (rest := []) (show decode (gy_b gY_156) 2 = .ok (.invokevirtual 71, 3) by decide +kernel) rfl hx2 rfl rfl (ok_draw (by decide) (by decide)) wd_363 wd_365 wd_4 (Nat.le_of_ble_eq_true rfl)) (fun _ => rfl) ?_
  intro v1 M2 n3 c4
  refine gr_istore_n (pc := 5) (i := 1) (L' := [gR 10 (l0), gI (v1), gB, gB, gB, gB, gB, gB, gB, gB, gB, gB]) (show decode (gy_b gY_156) 5 = .ok (.istore_n 1, 1) by decide +kernel) rfl (by decide) rfl rfl ?_
  refine gr_iload_n (pc := 6) (i := 1) (v1) (show decode (gy_b gY_156) 6 = .ok (.iload_n 1, 1) by decide +kernel) rfl rfl ?_
  refine gr_iconst (pc := 7) (z := 1) 1 (show decode (gy_b gY_156) 7 = .ok (.iconst (1), 1) by decide +kernel) kc_1 ?_
  refine gr_iadd (pc := 8) (show decode (gy_b gY_156) 8 = .ok (.iadd, 1) by decide +kernel) ?_
  intro z5
  refine gr_aload_n (pc := 9) (i := 0) 10 (l0) (show decode (gy_b gY_156) 9 = .ok (.aload_n 0, 1) by decide +kernel) rfl rfl ?_
  refine gr_iconst (pc := 10) (z := 3) 3 (show decode (gy_b gY_156) 10 = .ok (.iconst (3), 1) by decide +kernel) kc_3 ?_
  refine gj_nn (fun hx11 => ?_)
  refine gj_c0 (pc := 11) (Y' := gY_draw) (y := yL_draw) (vs := [gR 10 (l0), gI (3)]) (rest := [gI (z5)]) (rs := fun v6 => [gI (v6), gI (z5)]) [gI (3), gR 10 (l0)] rfl (hdr (l0) (3)) rfl (gh_V (t := 10) (vs := [gI (3)]) (rest := [gI (z5)]) (show decode (gy_b gY_156) 11 = .ok (.invokevirtual 71, 3) by decide +kernel) rfl hx11 rfl rfl (ok_draw (by decide) (by decide)) wd_363 wd_365 wd_4 (Nat.le_of_ble_eq_true rfl)) (fun _ => rfl) ?_
  intro v6 M7 n8 c9
  refine gr_iadd (pc := 14) (show decode (gy_b gY_156) 14 = .ok (.iadd, 1) by decide +kernel) ?_
  intro z10
  refine gr_iconst (pc := 15) (z := 4) 4 (show decode (gy_b gY_156) 15 = .ok (.iconst (4), 1) by decide +kernel) kc_4 ?_
  refine gr_irem (pc := 16) (show decode (gy_b gY_156) 16 = .ok (.irem, 1) by decide +kernel) ?_
  intro z11
  refine gr_istore_n (pc := 17) (i := 2) (L' := [gR 10 (l0), gI (v1), gI (z11), gB, gB, gB, gB, gB, gB, gB, gB, gB]) (show decode (gy_b gY_156) 17 = .ok (.istore_n 2, 1) by decide +kernel) rfl (by decide) rfl rfl ?_
  refine gr_aload_n (pc := 18) (i := 0) 10 (l0) (show decode (gy_b gY_156) 18 = .ok (.aload_n 0, 1) by decide +kernel) rfl rfl ?_
  refine gr_iload_n (pc := 19) (i := 1) (v1) (show decode (gy_b gY_156) 19 = .ok (.iload_n 1, 1) by decide +kernel) rfl rfl ?_
  refine gr_iconst (pc := 20) (z := 1) 1 (show decode (gy_b gY_156) 20 = .ok (.iconst (1), 1) by decide +kernel) kc_1 ?_
  refine gj_nn (fun hx21 => ?_)
  refine gj_c0 (pc := 21) (Y' := gY_40) (y := yL_links) (vs := [gR 10 (l0), gI (v1), gI (1)]) (rest := []) (rs := fun v12 => []) [gI (1), gI (v1), gR 10 (l0)] rfl (hm_40 hG (l0) (v1) (1)) rfl (gh_V (t := 10) (vs := [gI (v1), gI (1)]) (rest := []) (show decode (gy_b gY_156) 21 = .ok (.invokevirtual 130, 3) by decide +kernel) rfl hx21 rfl rfl (ok_40 (by decide) (by decide)) wd_654 wd_656 wd_8 (Nat.le_of_ble_eq_true rfl)) (fun _ => rfl) ?_
  intro v12 M13 n14 c15
  refine gr_aload_n (pc := 24) (i := 0) 10 (l0) (show decode (gy_b gY_156) 24 = .ok (.aload_n 0, 1) by decide +kernel) rfl rfl ?_
  refine gr_iload_n (pc := 25) (i := 2) (z11) (show decode (gy_b gY_156) 25 = .ok (.iload_n 2, 1) by decide +kernel) rfl rfl ?_
  refine gr_iconst (pc := 26) (z := 1) 1 (show decode (gy_b gY_156) 26 = .ok (.iconst (1), 1) by decide +kernel) kc_1 ?_
  refine gj_nn (fun hx27 => ?_)
  refine gj_c0 (pc := 27) (Y' := gY_40) (y := yL_links) (vs := [gR 10 (l0), gI (z11), gI (1)]) (rest := []) (rs := fun v16 => []) [gI (1), gI (z11), gR 10 (l0)] rfl (hm_40 hG (l0) (z11) (1)) rfl (gh_V (t := 10) (vs := [gI (z11), gI (1)]) (rest := []) (show decode (gy_b gY_156) 27 = .ok (.invokevirtual 130, 3) by decide +kernel) rfl hx27 rfl rfl (ok_40 (by decide) (by decide)) wd_654 wd_656 wd_8 (Nat.le_of_ble_eq_true rfl)) (fun _ => rfl) ?_
  intro v16 M17 n18 c19
  refine gr_aload_n (pc := 30) (i := 0) 10 (l0) (show decode (gy_b gY_156) 30 = .ok (.aload_n 0, 1) by decide +kernel) rfl rfl ?_
  refine gj_nn (fun hx31 => ?_)
  refine gj_c0 (pc := 31) (Y' := gY_32) (y := yL_name) (vs := [gR 10 (l0)]) (rest := []) (rs := fun v20 => [gR 8 (v20)]) [gR 10 (l0)] rfl (hm_32 hG T hdr (l0)) rfl (gh_V (t := 10) (vs := []) (rest := []) (show decode (gy_b gY_156) 31 = .ok (.invokevirtual 121, 3) by decide +kernel) rfl hx31 rfl rfl (ok_32 (by decide) (by decide)) wd_386 wd_388 wd_6 (Nat.le_of_ble_eq_true rfl)) (fun _ => rfl) ?_
  intro v20 M21 n22 c23
  exact h_156_L34 hG T hdr (l0) (v1) (z11) (v20) M21 n22 c23
noncomputable def fi_156 (T : Nat) (l0 M n c : Nat) (K : Nat → Nat → Nat → Nat → Bool) : Bool := fi_156_L0 T K l0 M n c
theorem hm_156 {G : gxG} (hG : gxG0 G) (T : Nat) (hdr : ∀ x nn : Nat, gxM G gY_draw yL_draw [gR 10 x, gI nn] (fd_draw T x nn)) (l0 : Nat) : gxM G gY_156 yL_isLost [gR 10 (l0)] (fi_156 T l0) := gxM_of (L := [gR 10 (l0), gB, gB, gB, gB, gB, gB, gB, gB, gB, gB, gB]) hG 11 (by decide +kernel) rfl rfl rfl rfl (List.forall_mem_cons.mpr ⟨rfl, fun _ h => nomatch h⟩) (fun M n c K => h_156_L0 hG T hdr  l0 M n c)
/-! Farfiles takeTwoPaths ()I -/
def gY_157 : gxY := (false, prog_1_method_33_code, 2, (Option.some Jvm.ClassFile.FieldType.int), "Farfiles", 5, 132, 0, [], "takeTwoPaths")
theorem ok_157 {Y : gxY} (h1 : gy_f gY_157 + 1 ≤ gy_f Y) (h2 : 8 + (gy_l gY_157 + 11) + gy_k gY_157 ≤ gy_k Y) : gh_ok Y gY_157 yX7_takeTwoPaths 0 := ⟨wd_1339, wd_51, ⟨by decide, by decide⟩, by decide +kernel, h1, h2⟩
noncomputable def fi_157_L35 (K : Nat → Nat → Nat → Nat → Bool) (l0 l1 M n c : Nat) : Bool := gx_get (l0) 0 M (fun v7 => gx_nn (v7) (fi_41 (v7) M n c (fun v8 M9 n10 c11 => gx_lt (l1) 0 (false) (gx_get (l0) 9 M9 (fun v12 => gx_nn (v12) (fi_61 (v12) M9 n10 c11 (fun v13 M14 n15 c16 => gx_rt gx_f0 (v13) (K (v13) M14 n15 c16))))))))
theorem h_157_L35 {G : gxG} (hG : gxG0 G) {K : Nat → Nat → Nat → Nat → Bool} (l0 l1 M n c : Nat) : gxJ G gY_157 K 35 [] [gR 7 (l0), gI (l1)] M n c (fi_157_L35 K l0 l1 M n c) := by
  unfold fi_157_L35
  refine gr_aload_n (pc := 35) (i := 0) 7 (l0) (show decode (gy_b gY_157) 35 = .ok (.aload_n 0, 1) by decide +kernel) rfl rfl ?_
  refine gr_getf (pc := 36) (index := 10) (t := 7) (j := 0) (σ := 12) (sv := (gR 4)) (show decode (gy_b gY_157) 36 = .ok (.getfield 10, 3) by decide +kernel) rfl rfl (fun _ => rfl) wd_294 (by decide) ?_
  intro v7
  refine gj_nn (fun hx39 => ?_)
  refine gj_c0 (pc := 39) (Y' := gY_41) (y := yX4_empty) (vs := [gR 4 (v7)]) (rest := []) (rs := fun v8 => []) [gR 4 (v7)] rfl (hm_41 hG (v7)) rfl (gh_V (t := 4) (vs := []) (rest := []) (show decode (gy_b gY_157) 39 = .ok (.invokevirtual 147, 3) by decide +kernel) rfl hx39 rfl rfl (ok_41 (by decide) (by decide)) wd_744 wd_745 wd_746 (Nat.le_of_ble_eq_true rfl)) (fun _ => rfl) ?_
  intro v8 M9 n10 c11
  refine gr_iload_n (pc := 42) (i := 1) (l1) (show decode (gy_b gY_157) 42 = .ok (.iload_n 1, 1) by decide +kernel) rfl rfl ?_
  refine gr_ifge (pc := 43) (tgt := 50) (off := 7) hG.2.1 (show decode (gy_b gY_157) 43 = .ok (.ifCond .ge (7), 3) by decide +kernel) (by decide) ?_ ?_
  · refine gr_aload_n (pc := 50) (i := 0) 7 (l0) (show decode (gy_b gY_157) 50 = .ok (.aload_n 0, 1) by decide +kernel) rfl rfl ?_
    refine gr_getf (pc := 51) (index := 59) (t := 7) (j := 9) (σ := 14) (sv := (gR 6)) (show decode (gy_b gY_157) 51 = .ok (.getfield 59, 3) by decide +kernel) rfl rfl (fun _ => rfl) wd_303 (by decide) ?_
    intro v12
    refine gj_nn (fun hx54 => ?_)
    refine gj_c0 (pc := 54) (Y' := gY_61) (y := yX6_faultOfLastName) (vs := [gR 6 (v12)]) (rest := []) (rs := fun v13 => [gI (v13)]) [gR 6 (v12)] rfl (hm_61 hG (v12)) rfl (gh_V (t := 6) (vs := []) (rest := []) (show decode (gy_b gY_157) 54 = .ok (.invokevirtual 241, 3) by decide +kernel) rfl hx54 rfl rfl (ok_61 (by decide) (by decide)) wd_860 wd_861 wd_862 (Nat.le_of_ble_eq_true rfl)) (fun _ => rfl) ?_
    intro v13 M14 n15 c16
    exact gr_ireturn (pc := 57) (show decode (gy_b gY_157) 57 = .ok (.ireturn, 1) by decide +kernel) rfl rfl (by decide) gv_0
  · exact gj_false
noncomputable def fi_157_L0 (K : Nat → Nat → Nat → Nat → Bool) (l0 M n c : Nat) : Bool := gx_get (l0) 8 M (fun v1 => gx_get (l0) 0 M (fun v2 => gx_nn (v1) (fi_58 (v1) (v2) (0) (32) M n c (fun v3 M4 n5 c6 => gx_lt (v3) 0 (fi_157_L35 K (l0) (v3) M4 n5 c6) (gx_get (l0) 9 M4 (fun v17 => gx_get (l0) 0 M4 (fun v18 => gx_add (v3) (1) (fun z19 => gx_nn (v17) (fi_58 (v17) (v18) (z19) (0) M4 n5 c6 (fun v20 M21 n22 c23 => fi_157_L35 K (l0) (v20) M21 n22 c23))))))))))
theorem h_157_L0 {G : gxG} (hG : gxG0 G) {K : Nat → Nat → Nat → Nat → Bool} (l0 M n c : Nat) : gxJ G gY_157 K 0 [] [gR 7 (l0), gB] M n c (fi_157_L0 K l0 M n c) := by
  unfold fi_157_L0
  refine gr_aload_n (pc := 0) (i := 0) 7 (l0) (show decode (gy_b gY_157) 0 = .ok (.aload_n 0, 1) by decide +kernel) rfl rfl ?_
  refine gr_getf (pc := 1) (index := 55) (t := 7) (j := 8) (σ := 14) (sv := (gR 6)) (show decode (gy_b gY_157) 1 = .ok (.getfield 55, 3) by decide +kernel) rfl rfl (fun _ => rfl) wd_302 (by decide) ?_
  intro v1
  refine gr_aload_n (pc := 4) (i := 0) 7 (l0) (show decode (gy_b gY_157) 4 = .ok (.aload_n 0, 1) by decide +kernel) rfl rfl ?_
  refine gr_getf (pc := 5) (index := 10) (t := 7) (j := 0) (σ := 12) (sv := (gR 4)) (show decode (gy_b gY_157) 5 = .ok (.getfield 10, 3) by decide +kernel) rfl rfl (fun _ => rfl) wd_294 (by decide) ?_
  intro v2
  refine gr_iconst (pc := 8) (z := 0) 0 (show decode (gy_b gY_157) 8 = .ok (.iconst (0), 1) by decide +kernel) kc_0 ?_
  refine gr_bipush (pc := 9) (z := 32) 32 (show decode (gy_b gY_157) 9 = .ok (.bipush (32), 2) by decide +kernel) (by decide +kernel) ?_
  refine gj_nn (fun hx11 => ?_)
  refine gj_c0 (pc := 11) (Y' := gY_58) (y := yX6_readFrom) (vs := [gR 6 (v1), gR 4 (v2), gI (0), gI (32)]) (rest := []) (rs := fun v3 => [gI (v3)]) [gI (32), gI (0), gR 4 (v2), gR 6 (v1)] rfl (hm_58 hG (v1) (v2) (0) (32)) rfl (gh_V (t := 6) (vs := [gR 4 (v2), gI (0), gI (32)]) (rest := []) (show decode (gy_b gY_157) 11 = .ok (.invokevirtual 234, 3) by decide +kernel) rfl hx11 rfl rfl (ok_58 (by decide) (by decide)) wd_827 wd_828 wd_829 (Nat.le_of_ble_eq_true rfl)) (fun _ => rfl) ?_
  intro v3 M4 n5 c6
  refine gr_istore_n (pc := 14) (i := 1) (L' := [gR 7 (l0), gI (v3)]) (show decode (gy_b gY_157) 14 = .ok (.istore_n 1, 1) by decide +kernel) rfl (by decide) rfl rfl ?_
  refine gr_iload_n (pc := 15) (i := 1) (v3) (show decode (gy_b gY_157) 15 = .ok (.iload_n 1, 1) by decide +kernel) rfl rfl ?_
  refine gr_iflt (pc := 16) (tgt := 35) (off := 19) hG.2.1 (show decode (gy_b gY_157) 16 = .ok (.ifCond .lt (19), 3) by decide +kernel) (by decide) ?_ ?_
  · exact h_157_L35 hG (l0) (v3) M4 n5 c6
  · refine gr_aload_n (pc := 19) (i := 0) 7 (l0) (show decode (gy_b gY_157) 19 = .ok (.aload_n 0, 1) by decide +kernel) rfl rfl ?_
    refine gr_getf (pc := 20) (index := 59) (t := 7) (j := 9) (σ := 14) (sv := (gR 6)) (show decode (gy_b gY_157) 20 = .ok (.getfield 59, 3) by decide +kernel) rfl rfl (fun _ => rfl) wd_303 (by decide) ?_
    intro v17
    refine gr_aload_n (pc := 23) (i := 0) 7 (l0) (show decode (gy_b gY_157) 23 = .ok (.aload_n 0, 1) by decide +kernel) rfl rfl ?_
    refine gr_getf (pc := 24) (index := 10) (t := 7) (j := 0) (σ := 12) (sv := (gR 4)) (show decode (gy_b gY_157) 24 = .ok (.getfield 10, 3) by decide +kernel) rfl rfl (fun _ => rfl) wd_294 (by decide) ?_
    intro v18
    refine gr_iload_n (pc := 27) (i := 1) (v3) (show decode (gy_b gY_157) 27 = .ok (.iload_n 1, 1) by decide +kernel) rfl rfl ?_
    refine gr_iconst (pc := 28) (z := 1) 1 (show decode (gy_b gY_157) 28 = .ok (.iconst (1), 1) by decide +kernel) kc_1 ?_
    refine gr_iadd (pc := 29) (show decode (gy_b gY_157) 29 = .ok (.iadd, 1) by decide +kernel) ?_
    intro z19
    refine gr_iconst (pc := 30) (z := 0) 0 (show decode (gy_b gY_157) 30 = .ok (.iconst (0), 1) by decide +kernel) kc_0 ?_
    refine gj_nn (fun hx31 => ?_)
    refine gj_c0 (pc := 31) (Y' := gY_58) (y := yX6_readFrom) (vs := [gR 6 (v17), gR 4 (v18), gI (z19), gI (0)]) (rest := []) (rs := fun v20 => [gI (v20)]) [gI (0), gI (z19), gR 4 (v18), gR 6 (v17)] rfl (hm_58 hG (v17) (v18) (z19) (0)) rfl (gh_V (t := 6) (vs := [gR 4 (v18), gI (z19), gI (0)]) (rest := []) (show decode (gy_b gY_157) 31 = .ok (.invokevirtual 234, 3) by decide +kernel) rfl hx31 rfl rfl (ok_58 (by decide) (by decide)) wd_827 wd_828 wd_829 (Nat.le_of_ble_eq_true rfl)) (fun _ => rfl) ?_
    intro v20 M21 n22 c23
    refine gr_istore_n (pc := 34) (i := 1) (L' := [gR 7 (l0), gI (v20)]) (show decode (gy_b gY_157) 34 = .ok (.istore_n 1, 1) by decide +kernel) rfl (by decide) rfl rfl ?_
    exact h_157_L35 hG (l0) (v20) M21 n22 c23
noncomputable def fi_157 (l0 M n c : Nat) (K : Nat → Nat → Nat → Nat → Bool) : Bool := fi_157_L0 K l0 M n c
theorem hm_157 {G : gxG} (hG : gxG0 G) (l0 : Nat) : gxM G gY_157 yX7_takeTwoPaths [gR 7 (l0)] (fi_157 l0) := gxM_of (L := [gR 7 (l0), gB]) hG 1 (by decide +kernel) rfl rfl rfl rfl (List.forall_mem_cons.mpr ⟨rfl, fun _ h => nomatch h⟩) (fun M n c K => h_157_L0 hG  l0 M n c)
/-! Farfiles$Path hasOnWay (I)Z -/
def gY_158 : gxY := (false, prog_8_method_10_code, 3, (Option.some Jvm.ClassFile.FieldType.boolean), "Farfiles$Path", 1, 40, 2, [], "hasOnWay")
theorem ok_158 {Y : gxY} (h1 : gy_f gY_158 + 1 ≤ gy_f Y) (h2 : 8 + (gy_l gY_158 + 11) + gy_k gY_158 ≤ gy_k Y) : gh_ok Y gY_158 yX6_hasOnWay 1 := ⟨wd_1343, wd_57, ⟨by decide, by decide⟩, by decide +kernel, h1, h2⟩
noncomputable def fi_158_L34 (K : Nat → Nat → Nat → Nat → Bool) (M n c : Nat) : Bool := gx_rt gx_f2 (0) (K (0) M n c)
theorem h_158_L34 {G : gxG} (hG : gxG0 G) {K : Nat → Nat → Nat → Nat → Bool} (M n c : Nat) : gxJ G gY_158 K 34 [] [gB, gB, gB] M n c (fi_158_L34 K M n c) := by
  unfold fi_158_L34
  refine gr_iconst (pc := 34) (z := 0) 0 (show decode (gy_b gY_158) 34 = .ok (.iconst (0), 1) by decide +kernel) kc_0 ?_
  exact gr_ireturn (pc := 35) (show decode (gy_b gY_158) 35 = .ok (.ireturn, 1) by decide +kernel) rfl rfl (by decide) gv_2f
noncomputable def fi_158_B2 (K : Nat → Nat → Nat → Nat → Bool) (ih_2 : Nat → Nat → Nat → Nat → Nat → Nat → Bool) (l0 l1 l2 M n c : Nat) : Bool := gx_get (l0) 4 M (fun v1 => gx_lt (l2) (v1) (gx_lt (20) (l2) (fi_158_L34 K  M n c) (gx_get (l0) 2 M (fun v2 => gx_ald (v2) (l2) M (fun v3 => gx_eq (v3) (l1) (gx_rt gx_f2 (1) (K (1) M n c)) (gx_add (l2) 1 (fun z4 => ih_2 (l0) (l1) (z4) M n c)))))) (fi_158_L34 K  M n c))
theorem hb_158_B2 {G : gxG} (hG : gxG0 G) {K : Nat → Nat → Nat → Nat → Bool} {ih_2 : Nat → Nat → Nat → Nat → Nat → Nat → Bool} (hi_2 : ∀ l0 l1 l2 M n c : Nat, gxJ G gY_158 K 2 [] [gR 6 (l0), gI (l1), gI (l2)] M n c (ih_2 l0 l1 l2 M n c)) (l0 l1 l2 M n c : Nat) : gxJ G gY_158 K 2 [] [gR 6 (l0), gI (l1), gI (l2)] M n c (fi_158_B2 K ih_2 l0 l1 l2 M n c) := by
  unfold fi_158_B2
  refine gr_iload_n (pc := 2) (i := 2) (l2) (show decode (gy_b gY_158) 2 = .ok (.iload_n 2, 1) by decide +kernel) rfl rfl ?_
  refine gr_aload_n (pc := 3) (i := 0) 6 (l0) (show decode (gy_b gY_158) 3 = .ok (.aload_n 0, 1) by decide +kernel) rfl rfl ?_
  refine gr_getf (pc := 4) (index := 25) (t := 6) (j := 4) (σ := 0) (sv := gI) (show decode (gy_b gY_158) 4 = .ok (.getfield 25, 3) by decide +kernel) rfl rfl (fun _ => rfl) wd_231 (by decide) ?_
  intro v1
  refine gr_icmp_ge (pc := 7) (tgt := 34) (off := 27) hG.2.1 (show decode (gy_b gY_158) 7 = .ok (.if_icmp .ge (27), 3) by decide +kernel) (by decide) ?_ ?_
  · refine gr_wk [false, false, false] rfl ?_
    exact h_158_L34 hG  M n c
  · refine gr_iload_n (pc := 10) (i := 2) (l2) (show decode (gy_b gY_158) 10 = .ok (.iload_n 2, 1) by decide +kernel) rfl rfl ?_
    refine gr_bipush (pc := 11) (z := 20) 20 (show decode (gy_b gY_158) 11 = .ok (.bipush (20), 2) by decide +kernel) (by decide +kernel) ?_
    refine gr_icmp_gt (pc := 13) (tgt := 34) (off := 21) hG.2.1 (show decode (gy_b gY_158) 13 = .ok (.if_icmp .gt (21), 3) by decide +kernel) (by decide) ?_ ?_
    · refine gr_wk [false, false, false] rfl ?_
      exact h_158_L34 hG  M n c
    · refine gr_aload_n (pc := 16) (i := 0) 6 (l0) (show decode (gy_b gY_158) 16 = .ok (.aload_n 0, 1) by decide +kernel) rfl rfl ?_
      refine gr_getf (pc := 17) (index := 18) (t := 6) (j := 2) (σ := 72) (sv := (gR 64)) (show decode (gy_b gY_158) 17 = .ok (.getfield 18, 3) by decide +kernel) rfl rfl (fun _ => rfl) wd_228 (by decide) ?_
      intro v2
      refine gr_iload_n (pc := 20) (i := 2) (l2) (show decode (gy_b gY_158) 20 = .ok (.iload_n 2, 1) by decide +kernel) rfl rfl ?_
      refine gr_iald (pc := 21) (show decode (gy_b gY_158) 21 = .ok (.iaload, 1) by decide +kernel) ?_
      intro v3
      refine gr_iload_n (pc := 22) (i := 1) (l1) (show decode (gy_b gY_158) 22 = .ok (.iload_n 1, 1) by decide +kernel) rfl rfl ?_
      refine gr_icmp_ne (pc := 23) (tgt := 28) (off := 5) hG.2.1 (show decode (gy_b gY_158) 23 = .ok (.if_icmp .ne (5), 3) by decide +kernel) (by decide) ?_ ?_
      · refine gr_iinc (pc := 28) (i := 2) (d := 1) (z := 1) (L' := fun z4 => [gR 6 (l0), gI (l1), gI (z4)]) (show decode (gy_b gY_158) 28 = .ok (.iinc 2 (1), 3) by decide +kernel) (by decide +kernel) (by decide) rfl rfl (fun _ => rfl) ?_
        intro z4
        refine gr_goto (pc := 31) (tgt := 2) (off := -29) (show decode (gy_b gY_158) 31 = .ok (.goto (-29), 3) by decide +kernel) (by decide) ?_
        exact hi_2 (l0) (l1) (z4) M n c
      · refine gr_iconst (pc := 26) (z := 1) 1 (show decode (gy_b gY_158) 26 = .ok (.iconst (1), 1) by decide +kernel) kc_1 ?_
        exact gr_ireturn (pc := 27) (show decode (gy_b gY_158) 27 = .ok (.ireturn, 1) by decide +kernel) rfl rfl (by decide) gv_2f
noncomputable def fi_158_W2 (K : Nat → Nat → Nat → Nat → Bool) (u : Nat) : Nat → Nat → Nat → Nat → Nat → Nat → Bool := Nat.rec (motive := fun _ => Nat → Nat → Nat → Nat → Nat → Nat → Bool) (fun _ _ _ _ _ _ => false) (fun _ ih => fi_158_B2 K ih) u
theorem hw_158_2 {G : gxG} (hG : gxG0 G) {K : Nat → Nat → Nat → Nat → Bool} (u : Nat) : ∀ l0 l1 l2 M n c : Nat, gxJ G gY_158 K 2 [] [gR 6 (l0), gI (l1), gI (l2)] M n c (fi_158_W2 K u l0 l1 l2 M n c) := by
  induction u with
  | zero => intro l0 l1 l2 M n c; exact gj_false
  | succ u ih => intro l0 l1 l2 M n c; exact hb_158_B2 hG ih l0 l1 l2 M n c
noncomputable def fi_158_L0 (K : Nat → Nat → Nat → Nat → Bool) (l0 l1 M n c : Nat) : Bool := fi_158_W2 K 65536 (l0) (l1) (0) M n c
theorem h_158_L0 {G : gxG} (hG : gxG0 G) {K : Nat → Nat → Nat → Nat → Bool} (l0 l1 M n c : Nat) : gxJ G gY_158 K 0 [] [gR 6 (l0), gI (l1), gB] M n c (fi_158_L0 K l0 l1 M n c) := by
  unfold fi_158_L0
  refine gr_iconst (pc := 0) (z := 0) 0 (show decode (gy_b gY_158) 0 = .ok (.iconst (0), 1) by decide +kernel) kc_0 ?_
  refine gr_istore_n (pc := 1) (i := 2) (L' := [gR 6 (l0), gI (l1), gI (0)]) (show decode (gy_b gY_158) 1 = .ok (.istore_n 2, 1) by decide +kernel) rfl (by decide) rfl rfl ?_
  exact hw_158_2 hG 65536 (l0) (l1) (0) M n c
noncomputable def fi_158 (l0 l1 M n c : Nat) (K : Nat → Nat → Nat → Nat → Bool) : Bool := fi_158_L0 K l0 l1 M n c
theorem hm_158 {G : gxG} (hG : gxG0 G) (l0 l1 : Nat) : gxM G gY_158 yX6_hasOnWay [gR 6 (l0), gI (l1)] (fi_158 l0 l1) := gxM_of (L := [gR 6 (l0), gI (l1), gB]) hG 1 (by decide +kernel) rfl rfl rfl rfl (List.forall_mem_cons.mpr ⟨rfl, List.forall_mem_cons.mpr ⟨rfl, fun _ h => nomatch h⟩⟩) (fun M n c K => h_158_L0 hG  l0 l1 M n c)
