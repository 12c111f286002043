/-! METHODS 0 -/
set_option maxRecDepth 100000
/-! Farfiles$Line <init> ()V -/
def gY_0 : gxY := (false, prog_6_method_1_code, 1, (Option.none : Option FieldType), "Farfiles$Line", 1, 40, 5, [], "<init>")
theorem ok_0 {Y : gxY} (h1 : gy_f gY_0 + 1 ≤ gy_f Y) (h2 : 8 + (gy_l gY_0 + 11) + gy_k gY_0 ≤ gy_k Y) : gh_ok Y gY_0 yX4_init 0 := ⟨wd_98, wd_52, ⟨by decide, by decide⟩, by decide +kernel, h1, h2⟩
noncomputable def fi_0_L0 (K : Nat → Nat → Nat → Nat → Bool) (l0 M n c : Nat) : Bool := gx_nn (l0) (gx_nea (40) M n c (fun v1 M2 n3 c4 => gx_put (l0) 0 (v1) M2 gx_f0 (fun M5 => K 0 M5 n3 c4)))
theorem h_0_L0 {G : gxG} (hG : gxG0 G) {K : Nat → Nat → Nat → Nat → Bool} (l0 M n c : Nat) : gxJ G gY_0 K 0 [] [gR 4 (l0)] M n c (fi_0_L0 K l0 M n c) := by
  unfold fi_0_L0
  refine gr_aload_n (pc := 0) (i := 0) 4 (l0) (show decode (gy_b gY_0) 0 = .ok (.aload_n 0, 1) by decide +kernel) rfl rfl ?_
  refine gr_objInit (pc := 1) (index := 3) (t := 4) (show decode (gy_b gY_0) 1 = .ok (.invokespecial 3, 3) by decide +kernel) wd_99 wd_86 wd_87 (by decide) (by decide) (Nat.le_of_ble_eq_true rfl) ?_
  refine gr_aload_n (pc := 4) (i := 0) 4 (l0) (show decode (gy_b gY_0) 4 = .ok (.aload_n 0, 1) by decide +kernel) rfl rfl ?_
  refine gr_bipush (pc := 5) (z := 40) 40 (show decode (gy_b gY_0) 5 = .ok (.bipush (40), 2) by decide +kernel) (by decide +kernel) ?_
  refine gr_newC (pc := 7) (show decode (gy_b gY_0) 7 = .ok (.newarray .char, 2) by decide +kernel) wd_108 ?_
  intro v1 M2 n3 c4
  refine gr_putF (pc := 9) (index := 9) (t := 4) (j := 0) (σ := 73) (sv := (gR 65)) (f := gx_f0) (ty := .array (.char)) (show decode (gy_b gY_0) 9 = .ok (.putfield 9, 3) by decide +kernel) rfl rfl (fun _ => rfl) wd_100 rfl gv_a rfl (fun _ _ _ _ _ _ _ X => gx_nm X) rfl ?_
  intro M5
  exact gr_return (pc := 12) (show decode (gy_b gY_0) 12 = .ok (.return_, 1) by decide +kernel) rfl rfl
noncomputable def fi_0 (l0 M n c : Nat) (K : Nat → Nat → Nat → Nat → Bool) : Bool := fi_0_L0 K l0 M n c
theorem hm_0 {G : gxG} (hG : gxG0 G) (l0 : Nat) : gxM G gY_0 yX4_init [gR 4 (l0)] (fi_0 l0) := gxM_of (L := [gR 4 (l0)]) hG 0 (by decide +kernel) rfl rfl rfl rfl (List.forall_mem_cons.mpr ⟨rfl, fun _ h => nomatch h⟩) (fun M n c K => h_0_L0 hG  l0 M n c)
/-! Farfiles$ActSet <init> ()V -/
def gY_1 : gxY := (false, prog_3_method_1_code, 1, (Option.none : Option FieldType), "Farfiles$ActSet", 1, 40, 5, [], "<init>")
theorem ok_1 {Y : gxY} (h1 : gy_f gY_1 + 1 ≤ gy_f Y) (h2 : 8 + (gy_l gY_1 + 11) + gy_k gY_1 ≤ gy_k Y) : gh_ok Y gY_1 yX1_init 0 := ⟨wd_128, wd_55, ⟨by decide, by decide⟩, by decide +kernel, h1, h2⟩
noncomputable def fi_1_L0 (K : Nat → Nat → Nat → Nat → Bool) (l0 M n c : Nat) : Bool := gx_nn (l0) (gx_nea (4) M n c (fun v1 M2 n3 c4 => gx_put (l0) 0 (v1) M2 gx_f0 (fun M5 => K 0 M5 n3 c4)))
theorem h_1_L0 {G : gxG} (hG : gxG0 G) {K : Nat → Nat → Nat → Nat → Bool} (l0 M n c : Nat) : gxJ G gY_1 K 0 [] [gR 1 (l0)] M n c (fi_1_L0 K l0 M n c) := by
  unfold fi_1_L0
  refine gr_aload_n (pc := 0) (i := 0) 1 (l0) (show decode (gy_b gY_1) 0 = .ok (.aload_n 0, 1) by decide +kernel) rfl rfl ?_
  refine gr_objInit (pc := 1) (index := 3) (t := 1) (show decode (gy_b gY_1) 1 = .ok (.invokespecial 3, 3) by decide +kernel) wd_129 wd_86 wd_87 (by decide) (by decide) (Nat.le_of_ble_eq_true rfl) ?_
  refine gr_aload_n (pc := 4) (i := 0) 1 (l0) (show decode (gy_b gY_1) 4 = .ok (.aload_n 0, 1) by decide +kernel) rfl rfl ?_
  refine gr_iconst (pc := 5) (z := 4) 4 (show decode (gy_b gY_1) 5 = .ok (.iconst (4), 1) by decide +kernel) kc_4 ?_
  refine gr_newJ (pc := 6) (show decode (gy_b gY_1) 6 = .ok (.newarray .long, 2) by decide +kernel) wd_134 ?_
  intro v1 M2 n3 c4
  refine gr_putF (pc := 8) (index := 9) (t := 1) (j := 0) (σ := 76) (sv := (gR 68)) (f := gx_f0) (ty := .array (.long)) (show decode (gy_b gY_1) 8 = .ok (.putfield 9, 3) by decide +kernel) rfl rfl (fun _ => rfl) wd_130 rfl gv_a rfl (fun _ _ _ _ _ _ _ X => gx_nm X) rfl ?_
  intro M5
  exact gr_return (pc := 11) (show decode (gy_b gY_1) 11 = .ok (.return_, 1) by decide +kernel) rfl rfl
noncomputable def fi_1 (l0 M n c : Nat) (K : Nat → Nat → Nat → Nat → Bool) : Bool := fi_1_L0 K l0 M n c
theorem hm_1 {G : gxG} (hG : gxG0 G) (l0 : Nat) : gxM G gY_1 yX1_init [gR 1 (l0)] (fi_1 l0) := gxM_of (L := [gR 1 (l0)]) hG 0 (by decide +kernel) rfl rfl rfl rfl (List.forall_mem_cons.mpr ⟨rfl, fun _ h => nomatch h⟩) (fun M n c K => h_1_L0 hG  l0 M n c)
/-! Farfiles$Act <init> (IICII[C)V -/
def gY_2 : gxY := (false, prog_2_method_1_code, 7, (Option.none : Option FieldType), "Farfiles$Act", 2, 60, 5, [], "<init>")
theorem ok_2 {Y : gxY} (h1 : gy_f gY_2 + 1 ≤ gy_f Y) (h2 : 8 + (gy_l gY_2 + 11) + gy_k gY_2 ≤ gy_k Y) : gh_ok Y gY_2 yX0_init 6 := ⟨wd_122, wd_54, ⟨by decide, by decide⟩, by decide +kernel, h1, h2⟩
noncomputable def fi_2_L47 (K : Nat → Nat → Nat → Nat → Bool) (l0 l5 l6 M n c : Nat) : Bool := gx_put (l0) 4 (l5) M gx_f0 (fun M21 => gx_put (l0) 5 (l6) M21 gx_f0 (fun M22 => K 0 M22 n c))
theorem h_2_L47 {G : gxG} (hG : gxG0 G) {K : Nat → Nat → Nat → Nat → Bool} (l0 l5 l6 M n c : Nat) : gxJ G gY_2 K 47 [] [gR 0 (l0), gB, gB, gB, gB, gI (l5), gR 65 (l6)] M n c (fi_2_L47 K l0 l5 l6 M n c) := by
  unfold fi_2_L47
  refine gr_aload_n (pc := 47) (i := 0) 0 (l0) (show decode (gy_b gY_2) 47 = .ok (.aload_n 0, 1) by decide +kernel) rfl rfl ?_
  refine gr_iload (pc := 48) (i := 5) (l5) (show decode (gy_b gY_2) 48 = .ok (.iload 5, 2) by decide +kernel) rfl ?_
  refine gr_putF (pc := 50) (index := 35) (t := 0) (j := 4) (σ := 0) (sv := gI) (f := gx_f0) (ty := .int) (show decode (gy_b gY_2) 50 = .ok (.putfield 35, 3) by decide +kernel) rfl rfl (fun _ => rfl) wd_146 rfl gv_0 rfl (fun _ _ _ _ _ _ _ X => gx_nm X) rfl ?_
  intro M21
  refine gr_aload_n (pc := 53) (i := 0) 0 (l0) (show decode (gy_b gY_2) 53 = .ok (.aload_n 0, 1) by decide +kernel) rfl rfl ?_
  refine gr_aload (pc := 54) (i := 6) 65 (l6) (show decode (gy_b gY_2) 54 = .ok (.aload 6, 2) by decide +kernel) rfl ?_
  refine gr_putF (pc := 56) (index := 38) (t := 0) (j := 5) (σ := 73) (sv := (gR 65)) (f := gx_f0) (ty := .array (.char)) (show decode (gy_b gY_2) 56 = .ok (.putfield 38, 3) by decide +kernel) rfl rfl (fun _ => rfl) wd_149 rfl gv_a rfl (fun _ _ _ _ _ _ _ X => gx_nm X) rfl ?_
  intro M22
  exact gr_return (pc := 59) (show decode (gy_b gY_2) 59 = .ok (.return_, 1) by decide +kernel) rfl rfl
noncomputable def fi_2_L0 (K : Nat → Nat → Nat → Nat → Bool) (l0 l1 l2 l3 l4 l5 l6 M n c : Nat) : Bool := gx_nn (l0) (gx_new 1 n c (fun v1 n2 c3 => gx_nn (v1) (fi_1 (v1) M n2 c3 (fun v4 M5 n6 c7 => gx_put (l0) 6 (v1) M5 gx_f0 (fun M8 => gx_new 1 n6 c7 (fun v9 n10 c11 => gx_nn (v9) (fi_1 (v9) M8 n10 c11 (fun v12 M13 n14 c15 => gx_put (l0) 7 (v9) M13 gx_f0 (fun M16 => gx_put (l0) 0 (l1) M16 gx_f0 (fun M17 => gx_put (l0) 1 (l2) M17 gx_f0 (fun M18 => gx_put (l0) 2 (l3) M18 gx_f1 (fun M19 => gx_put (l0) 3 (l4) M19 gx_f0 (fun M20 => fi_2_L47 K (l0) (l5) (l6) M20 n14 c15)))))))))))))
theorem h_2_L0 {G : gxG} (hG : gxG0 G) {K : Nat → Nat → Nat → Nat → Bool} (l0 l1 l2 l3 l4 l5 l6 M n c : Nat) : gxJ G gY_2 K 0 [] [gR 0 (l0), gI (l1), gI (l2), gI (l3), gI (l4), gI (l5), gR 65 (l6)] M n c (fi_2_L0 K l0 l1 l2 l3 l4 l5 l6 M n c) := by
  unfold fi_2_L0
  refine gr_aload_n (pc := 0) (i := 0) 0 (l0) (show decode (gy_b gY_2) 0 = .ok (.aload_n 0, 1) by decide +kernel) rfl rfl ?_
  refine gr_objInit (pc := 1) (index := 3) (t := 0) (show decode (gy_b gY_2) 1 = .ok (.invokespecial 3, 3) by decide +kernel) wd_123 wd_86 wd_87 (by decide) (by decide) (Nat.le_of_ble_eq_true rfl) ?_
  refine gr_aload_n (pc := 4) (i := 0) 0 (l0) (show decode (gy_b gY_2) 4 = .ok (.aload_n 0, 1) by decide +kernel) rfl rfl ?_
  refine gr_newo (pc := 5) (index := 9) (t := 1) (show decode (gy_b gY_2) 5 = .ok (.new 9, 3) by decide +kernel) rfl wd_124 wd_125 wd_55 ?_
  intro v1 n2 c3
  refine gr_dup (b := gB) (pc := 8) (show decode (gy_b gY_2) 8 = .ok (.dup, 1) by decide +kernel) rfl ?_
  refine gj_nn (fun hx9 => ?_)
  refine gj_c0 (pc := 9) (Y' := gY_1) (y := yX1_init) (vs := [gR 1 (v1)]) (rest := [gR 1 (v1), gR 0 (l0)]) (rs := fun v4 => [gR 1 (v1), gR 0 (l0)]) [gR 1 (v1)] rfl (hm_1 hG (v1)) rfl (gh_IN (t := 1) (vs := []) (rest := [gR 1 (v1), gR 0 (l0)]) (show decode (gy_b gY_2) 9 = .ok (.invokespecial 11, 3) by decide +kernel) rfl hx9 rfl (ok_1 (by decide) (by decide)) rfl rfl rfl rfl wd_126 wd_127 (Nat.le_of_ble_eq_true rfl)) (fun _ => rfl) ?_
  intro v4 M5 n6 c7
  refine gr_putF (pc := 12) (index := 12) (t := 0) (j := 6) (σ := 9) (sv := (gR 1)) (f := gx_f0) (ty := .object "Farfiles$ActSet") (show decode (gy_b gY_2) 12 = .ok (.putfield 12, 3) by decide +kernel) rfl rfl (fun _ => rfl) wd_151 rfl gv_o rfl (fun _ _ _ _ _ _ _ X => gx_nm X) rfl ?_
  intro M8
  refine gr_aload_n (pc := 15) (i := 0) 0 (l0) (show decode (gy_b gY_2) 15 = .ok (.aload_n 0, 1) by decide +kernel) rfl rfl ?_
  refine gr_newo (pc := 16) (index := 9) (t := 1) (show decode (gy_b gY_2) 16 = .ok (.new 9, 3) by decide +kernel) rfl wd_124 wd_125 wd_55 ?_
  intro v9 n10 c11
  refine gr_dup (b := gB) (pc := 19) (show decode (gy_b gY_2) 19 = .ok (.dup, 1) by decide +kernel) rfl ?_
  refine gj_nn (fun hx20 => ?_)
  refine gj_c0 (pc := 20) (Y' := gY_1) (y := yX1_init) (vs := [gR 1 (v9)]) (rest := [gR 1 (v9), gR 0 (l0)]) (rs := fun v12 => [gR 1 (v9), gR 0 (l0)]) [gR 1 (v9)] rfl (hm_1 hG (v9)) rfl (gh_IN (t := 1) (vs := []) (rest := [gR 1 (v9), gR 0 (l0)]) (show decode (gy_b gY_2) 20 = .ok (.invokespecial 11, 3) by decide +kernel) rfl hx20 rfl (ok_1 (by decide) (by decide)) rfl rfl rfl rfl wd_126 wd_127 (Nat.le_of_ble_eq_true rfl)) (fun _ => rfl) ?_
  intro v12 M13 n14 c15
  refine gr_putF (pc := 23) (index := 18) (t := 0) (j := 7) (σ := 9) (sv := (gR 1)) (f := gx_f0) (ty := .object "Farfiles$ActSet") (show decode (gy_b gY_2) 23 = .ok (.putfield 18, 3) by decide +kernel) rfl rfl (fun _ => rfl) wd_154 rfl gv_o rfl (fun _ _ _ _ _ _ _ X => gx_nm X) rfl ?_
  intro M16
  refine gr_aload_n (pc := 26) (i := 0) 0 (l0) (show decode (gy_b gY_2) 26 = .ok (.aload_n 0, 1) by decide +kernel) rfl rfl ?_
  refine gr_iload_n (pc := 27) (i := 1) (l1) (show decode (gy_b gY_2) 27 = .ok (.iload_n 1, 1) by decide +kernel) rfl rfl ?_
  refine gr_putF (pc := 28) (index := 21) (t := 0) (j := 0) (σ := 0) (sv := gI) (f := gx_f0) (ty := .int) (show decode (gy_b gY_2) 28 = .ok (.putfield 21, 3) by decide +kernel) rfl rfl (fun _ => rfl) wd_135 rfl gv_0 rfl (fun _ _ _ _ _ _ _ X => gx_nm X) rfl ?_
  intro M17
  refine gr_aload_n (pc := 31) (i := 0) 0 (l0) (show decode (gy_b gY_2) 31 = .ok (.aload_n 0, 1) by decide +kernel) rfl rfl ?_
  refine gr_iload_n (pc := 32) (i := 2) (l2) (show decode (gy_b gY_2) 32 = .ok (.iload_n 2, 1) by decide +kernel) rfl rfl ?_
  refine gr_putF (pc := 33) (index := 25) (t := 0) (j := 1) (σ := 0) (sv := gI) (f := gx_f0) (ty := .int) (show decode (gy_b gY_2) 33 = .ok (.putfield 25, 3) by decide +kernel) rfl rfl (fun _ => rfl) wd_137 rfl gv_0 rfl (fun _ _ _ _ _ _ _ X => gx_nm X) rfl ?_
  intro M18
  refine gr_aload_n (pc := 36) (i := 0) 0 (l0) (show decode (gy_b gY_2) 36 = .ok (.aload_n 0, 1) by decide +kernel) rfl rfl ?_
  refine gr_iload_n (pc := 37) (i := 3) (l3) (show decode (gy_b gY_2) 37 = .ok (.iload_n 3, 1) by decide +kernel) rfl rfl ?_
  refine gr_putF (pc := 38) (index := 28) (t := 0) (j := 2) (σ := 1) (sv := gI) (f := gx_f1) (ty := .char) (show decode (gy_b gY_2) 38 = .ok (.putfield 28, 3) by decide +kernel) rfl rfl (fun _ => rfl) wd_141 rfl (gv_1 hG.2.1) rfl (fun _ _ _ _ _ _ _ X => gx_nm X) rfl ?_
  intro M19
  refine gr_aload_n (pc := 41) (i := 0) 0 (l0) (show decode (gy_b gY_2) 41 = .ok (.aload_n 0, 1) by decide +kernel) rfl rfl ?_
  refine gr_iload (pc := 42) (i := 4) (l4) (show decode (gy_b gY_2) 42 = .ok (.iload 4, 2) by decide +kernel) rfl ?_
  refine gr_putF (pc := 44) (index := 32) (t := 0) (j := 3) (σ := 0) (sv := gI) (f := gx_f0) (ty := .int) (show decode (gy_b gY_2) 44 = .ok (.putfield 32, 3) by decide +kernel) rfl rfl (fun _ => rfl) wd_144 rfl gv_0 rfl (fun _ _ _ _ _ _ _ X => gx_nm X) rfl ?_
  intro M20
  refine gr_wk [true, false, false, false, false, true, true] rfl ?_
  exact h_2_L47 hG (l0) (l5) (l6) M20 n14 c15
noncomputable def fi_2 (l0 l1 l2 l3 l4 l5 l6 M n c : Nat) (K : Nat → Nat → Nat → Nat → Bool) : Bool := fi_2_L0 K l0 l1 l2 l3 l4 l5 l6 M n c
theorem hm_2 {G : gxG} (hG : gxG0 G) (l0 l1 l2 l3 l4 l5 l6 : Nat) : gxM G gY_2 yX0_init [gR 0 (l0), gI (l1), gI (l2), gI (l3), gI (l4), gI (l5), gR 65 (l6)] (fi_2 l0 l1 l2 l3 l4 l5 l6) := gxM_of (L := [gR 0 (l0), gI (l1), gI (l2), gI (l3), gI (l4), gI (l5), gR 65 (l6)]) hG 0 (by decide +kernel) rfl rfl rfl rfl (List.forall_mem_cons.mpr ⟨rfl, List.forall_mem_cons.mpr ⟨rfl, List.forall_mem_cons.mpr ⟨rfl, List.forall_mem_cons.mpr ⟨rfl, List.forall_mem_cons.mpr ⟨rfl, List.forall_mem_cons.mpr ⟨rfl, List.forall_mem_cons.mpr ⟨rfl, fun _ h => nomatch h⟩⟩⟩⟩⟩⟩⟩) (fun M n c K => h_2_L0 hG  l0 l1 l2 l3 l4 l5 l6 M n c)
/-! Farfiles$Log <init> ()V -/
def gY_3 : gxY := (false, prog_7_method_1_code, 1, (Option.none : Option FieldType), "Farfiles$Log", 3, 86, 5, [], "<init>")
theorem ok_3 {Y : gxY} (h1 : gy_f gY_3 + 1 ≤ gy_f Y) (h2 : 8 + (gy_l gY_3 + 11) + gy_k gY_3 ≤ gy_k Y) : gh_ok Y gY_3 yX5_init 0 := ⟨wd_113, wd_53, ⟨by decide, by decide⟩, by decide +kernel, h1, h2⟩
noncomputable def fi_3_L48 (K : Nat → Nat → Nat → Nat → Bool) (s0 s1 M n c : Nat) : Bool := gx_nn (s1) (fi_1 (s1) M n c (fun v25 M26 n27 c28 => gx_put (s0) 3 (s1) M26 gx_f0 (fun M29 => K 0 M29 n27 c28)))
theorem h_3_L48 {G : gxG} (hG : gxG0 G) {K : Nat → Nat → Nat → Nat → Bool} (s0 s1 M n c : Nat) : gxJ G gY_3 K 48 [gR 1 (s1), gR 5 (s0)] [gB] M n c (fi_3_L48 K s0 s1 M n c) := by
  unfold fi_3_L48
  refine gr_dup (b := gB) (pc := 48) (show decode (gy_b gY_3) 48 = .ok (.dup, 1) by decide +kernel) rfl ?_
  refine gj_nn (fun hx49 => ?_)
  refine gj_c0 (pc := 49) (Y' := gY_1) (y := yX1_init) (vs := [gR 1 (s1)]) (rest := [gR 1 (s1), gR 5 (s0)]) (rs := fun v25 => [gR 1 (s1), gR 5 (s0)]) [gR 1 (s1)] rfl (hm_1 hG (s1)) rfl (gh_IN (t := 1) (vs := []) (rest := [gR 1 (s1), gR 5 (s0)]) (show decode (gy_b gY_3) 49 = .ok (.invokespecial 30, 3) by decide +kernel) rfl hx49 rfl (ok_1 (by decide) (by decide)) rfl rfl rfl rfl wd_174 wd_127 (Nat.le_of_ble_eq_true rfl)) (fun _ => rfl) ?_
  intro v25 M26 n27 c28
  refine gr_putF (pc := 52) (index := 35) (t := 5) (j := 3) (σ := 9) (sv := (gR 1)) (f := gx_f0) (ty := .object "Farfiles$ActSet") (show decode (gy_b gY_3) 52 = .ok (.putfield 35, 3) by decide +kernel) rfl rfl (fun _ => rfl) wd_178 rfl gv_o rfl (fun _ _ _ _ _ _ _ X => gx_nm X) rfl ?_
  intro M29
  exact gr_return (pc := 55) (show decode (gy_b gY_3) 55 = .ok (.return_, 1) by decide +kernel) rfl rfl
noncomputable def fi_3_L0 (K : Nat → Nat → Nat → Nat → Bool) (l0 M n c : Nat) : Bool := gx_nn (l0) (gx_nea (250) M n c (fun v1 M2 n3 c4 => gx_put (l0) 0 (v1) M2 gx_f0 (fun M5 => gx_new 8 n3 c4 (fun v6 n7 c8 => gx_nn (v6) (fi_2 (v6) (4294967295) (4294967295) (0) (0) (4294967295) (2) M5 n7 c8 (fun v9 M10 n11 c12 => gx_put (l0) 1 (v6) M10 gx_f0 (fun M13 => gx_new 1 n11 c12 (fun v14 n15 c16 => gx_nn (v14) (fi_1 (v14) M13 n15 c16 (fun v17 M18 n19 c20 => gx_put (l0) 2 (v14) M18 gx_f0 (fun M21 => gx_new 1 n19 c20 (fun v22 n23 c24 => fi_3_L48 K (l0) (v22) M21 n23 c24))))))))))))
theorem h_3_L0 {G : gxG} (hG : gxG0 G) {K : Nat → Nat → Nat → Nat → Bool} (l0 M n c : Nat) : gxJ G gY_3 K 0 [] [gR 5 (l0)] M n c (fi_3_L0 K l0 M n c) := by
  unfold fi_3_L0
  refine gr_aload_n (pc := 0) (i := 0) 5 (l0) (show decode (gy_b gY_3) 0 = .ok (.aload_n 0, 1) by decide +kernel) rfl rfl ?_
  refine gr_objInit (pc := 1) (index := 3) (t := 5) (show decode (gy_b gY_3) 1 = .ok (.invokespecial 3, 3) by decide +kernel) wd_114 wd_86 wd_87 (by decide) (by decide) (Nat.le_of_ble_eq_true rfl) ?_
  refine gr_aload_n (pc := 4) (i := 0) 5 (l0) (show decode (gy_b gY_3) 4 = .ok (.aload_n 0, 1) by decide +kernel) rfl rfl ?_
  refine gr_sipush (pc := 5) (z := 250) 250 (show decode (gy_b gY_3) 5 = .ok (.sipush (250), 3) by decide +kernel) (by decide +kernel) ?_
  refine gr_newq (pc := 8) (index := 9) (κ := 5) (C := "Farfiles$Act") (show decode (gy_b gY_3) 8 = .ok (.anewarray 9, 3) by decide +kernel) wd_115 wd_116 (by decide) rfl ?_
  intro v1 M2 n3 c4
  refine gr_putF (pc := 11) (index := 11) (t := 5) (j := 0) (σ := 77) (sv := (gR 69)) (f := gx_f0) (ty := .array (.object "Farfiles$Act")) (show decode (gy_b gY_3) 11 = .ok (.putfield 11, 3) by decide +kernel) rfl rfl (fun _ => rfl) wd_175 rfl gv_a rfl (fun _ _ _ _ _ _ _ X => gx_nm X) rfl ?_
  intro M5
  refine gr_aload_n (pc := 14) (i := 0) 5 (l0) (show decode (gy_b gY_3) 14 = .ok (.aload_n 0, 1) by decide +kernel) rfl rfl ?_
  refine gr_newo (pc := 15) (index := 9) (t := 0) (show decode (gy_b gY_3) 15 = .ok (.new 9, 3) by decide +kernel) rfl wd_115 wd_117 wd_54 ?_
  intro v6 n7 c8
  refine gr_dup (b := gB) (pc := 18) (show decode (gy_b gY_3) 18 = .ok (.dup, 1) by decide +kernel) rfl ?_
  refine gr_iconst (pc := 19) (z := -1) 4294967295 (show decode (gy_b gY_3) 19 = .ok (.iconst (-1), 1) by decide +kernel) kc_m1 ?_
  refine gr_iconst (pc := 20) (z := -1) 4294967295 (show decode (gy_b gY_3) 20 = .ok (.iconst (-1), 1) by decide +kernel) kc_m1 ?_
  refine gr_iconst (pc := 21) (z := 0) 0 (show decode (gy_b gY_3) 21 = .ok (.iconst (0), 1) by decide +kernel) kc_0 ?_
  refine gr_iconst (pc := 22) (z := 0) 0 (show decode (gy_b gY_3) 22 = .ok (.iconst (0), 1) by decide +kernel) kc_0 ?_
  refine gr_iconst (pc := 23) (z := -1) 4294967295 (show decode (gy_b gY_3) 23 = .ok (.iconst (-1), 1) by decide +kernel) kc_m1 ?_
  refine gr_nosignsN (pc := 24) (index := 17) (show decode (gy_b gY_3) 24 = .ok (.getstatic 17, 3) by decide +kernel) wd_118 ?_
  refine gj_nn (fun hx27 => ?_)
  refine gj_c0 (pc := 27) (Y' := gY_2) (y := yX0_init) (vs := [gR 0 (v6), gI (4294967295), gI (4294967295), gI (0), gI (0), gI (4294967295), gR 65 (2)]) (rest := [gR 0 (v6), gR 5 (l0)]) (rs := fun v9 => [gR 0 (v6), gR 5 (l0)]) [gR 65 (2), gI (4294967295), gI (0), gI (0), gI (4294967295), gI (4294967295), gR 0 (v6)] rfl (hm_2 hG (v6) (4294967295) (4294967295) (0) (0) (4294967295) (2)) rfl (gh_I (t := 0) (vs := [gI (4294967295), gI (4294967295), gI (0), gI (0), gI (4294967295), gR 65 (2)]) (rest := [gR 0 (v6), gR 5 (l0)]) (show decode (gy_b gY_3) 27 = .ok (.invokespecial 21, 3) by decide +kernel) rfl hx27 rfl (ok_2 (by decide) (by decide)) rfl rfl rfl rfl wd_120 wd_121 (Nat.le_of_ble_eq_true rfl)) (fun _ => rfl) ?_
  intro v9 M10 n11 c12
  refine gr_putF (pc := 30) (index := 24) (t := 5) (j := 1) (σ := 8) (sv := (gR 0)) (f := gx_f0) (ty := .object "Farfiles$Act") (show decode (gy_b gY_3) 30 = .ok (.putfield 24, 3) by decide +kernel) rfl rfl (fun _ => rfl) wd_176 rfl gv_o rfl (fun _ _ _ _ _ _ _ X => gx_nm X) rfl ?_
  intro M13
  refine gr_aload_n (pc := 33) (i := 0) 5 (l0) (show decode (gy_b gY_3) 33 = .ok (.aload_n 0, 1) by decide +kernel) rfl rfl ?_
  refine gr_newo (pc := 34) (index := 28) (t := 1) (show decode (gy_b gY_3) 34 = .ok (.new 28, 3) by decide +kernel) rfl wd_173 wd_125 wd_55 ?_
  intro v14 n15 c16
  refine gr_dup (b := gB) (pc := 37) (show decode (gy_b gY_3) 37 = .ok (.dup, 1) by decide +kernel) rfl ?_
  refine gj_nn (fun hx38 => ?_)
  refine gj_c0 (pc := 38) (Y' := gY_1) (y := yX1_init) (vs := [gR 1 (v14)]) (rest := [gR 1 (v14), gR 5 (l0)]) (rs := fun v17 => [gR 1 (v14), gR 5 (l0)]) [gR 1 (v14)] rfl (hm_1 hG (v14)) rfl (gh_IN (t := 1) (vs := []) (rest := [gR 1 (v14), gR 5 (l0)]) (show decode (gy_b gY_3) 38 = .ok (.invokespecial 30, 3) by decide +kernel) rfl hx38 rfl (ok_1 (by decide) (by decide)) rfl rfl rfl rfl wd_174 wd_127 (Nat.le_of_ble_eq_true rfl)) (fun _ => rfl) ?_
  intro v17 M18 n19 c20
  refine gr_putF (pc := 41) (index := 31) (t := 5) (j := 2) (σ := 9) (sv := (gR 1)) (f := gx_f0) (ty := .object "Farfiles$ActSet") (show decode (gy_b gY_3) 41 = .ok (.putfield 31, 3) by decide +kernel) rfl rfl (fun _ => rfl) wd_177 rfl gv_o rfl (fun _ _ _ _ _ _ _ X => gx_nm X) rfl ?_
  intro M21
  refine gr_aload_n (pc := 44) (i := 0) 5 (l0) (show decode (gy_b gY_3) 44 = .ok (.aload_n 0, 1) by decide +kernel) rfl rfl ?_
  refine gr_newo (pc := 45) (index := 28) (t := 1) (show decode (gy_b gY_3) 45 = .ok (.new 28, 3) by decide +kernel) rfl wd_173 wd_125 wd_55 ?_
  intro v22 n23 c24
  refine gr_wk [false] rfl ?_
  exact h_3_L48 hG (l0) (v22) M21 n23 c24
noncomputable def fi_3 (l0 M n c : Nat) (K : Nat → Nat → Nat → Nat → Bool) : Bool := fi_3_L0 K l0 M n c
theorem hm_3 {G : gxG} (hG : gxG0 G) (l0 : Nat) : gxM G gY_3 yX5_init [gR 5 (l0)] (fi_3 l0) := gxM_of (L := [gR 5 (l0)]) hG 0 (by decide +kernel) rfl rfl rfl rfl (List.forall_mem_cons.mpr ⟨rfl, fun _ h => nomatch h⟩) (fun M n c K => h_3_L0 hG  l0 M n c)
/-! Farfiles$Answers <init> ()V -/
def gY_4 : gxY := (false, prog_4_method_1_code, 1, (Option.none : Option FieldType), "Farfiles$Answers", 1, 40, 5, [], "<init>")
theorem ok_4 {Y : gxY} (h1 : gy_f gY_4 + 1 ≤ gy_f Y) (h2 : 8 + (gy_l gY_4 + 11) + gy_k gY_4 ≤ gy_k Y) : gh_ok Y gY_4 yX2_init 0 := ⟨wd_197, wd_56, ⟨by decide, by decide⟩, by decide +kernel, h1, h2⟩
noncomputable def fi_4_L0 (K : Nat → Nat → Nat → Nat → Bool) (l0 M n c : Nat) : Bool := gx_nn (l0) (gx_nea (250) M n c (fun v1 M2 n3 c4 => gx_put (l0) 0 (v1) M2 gx_f0 (fun M5 => gx_nea (250) M5 n3 c4 (fun v6 M7 n8 c9 => gx_put (l0) 1 (v6) M7 gx_f0 (fun M10 => gx_nea (250) M10 n8 c9 (fun v11 M12 n13 c14 => gx_put (l0) 2 (v11) M12 gx_f0 (fun M15 => K 0 M15 n13 c14)))))))
theorem h_4_L0 {G : gxG} (hG : gxG0 G) {K : Nat → Nat → Nat → Nat → Bool} (l0 M n c : Nat) : gxJ G gY_4 K 0 [] [gR 2 (l0)] M n c (fi_4_L0 K l0 M n c) := by
  unfold fi_4_L0
  refine gr_aload_n (pc := 0) (i := 0) 2 (l0) (show decode (gy_b gY_4) 0 = .ok (.aload_n 0, 1) by decide +kernel) rfl rfl ?_
  refine gr_objInit (pc := 1) (index := 3) (t := 2) (show decode (gy_b gY_4) 1 = .ok (.invokespecial 3, 3) by decide +kernel) wd_198 wd_86 wd_87 (by decide) (by decide) (Nat.le_of_ble_eq_true rfl) ?_
  refine gr_aload_n (pc := 4) (i := 0) 2 (l0) (show decode (gy_b gY_4) 4 = .ok (.aload_n 0, 1) by decide +kernel) rfl rfl ?_
  refine gr_sipush (pc := 5) (z := 250) 250 (show decode (gy_b gY_4) 5 = .ok (.sipush (250), 3) by decide +kernel) (by decide +kernel) ?_
  refine gr_newq (pc := 8) (index := 9) (κ := 5) (C := "Farfiles$Act") (show decode (gy_b gY_4) 8 = .ok (.anewarray 9, 3) by decide +kernel) wd_199 wd_116 (by decide) rfl ?_
  intro v1 M2 n3 c4
  refine gr_putF (pc := 11) (index := 11) (t := 2) (j := 0) (σ := 77) (sv := (gR 69)) (f := gx_f0) (ty := .array (.object "Farfiles$Act")) (show decode (gy_b gY_4) 11 = .ok (.putfield 11, 3) by decide +kernel) rfl rfl (fun _ => rfl) wd_200 rfl gv_a rfl (fun _ _ _ _ _ _ _ X => gx_nm X) rfl ?_
  intro M5
  refine gr_aload_n (pc := 14) (i := 0) 2 (l0) (show decode (gy_b gY_4) 14 = .ok (.aload_n 0, 1) by decide +kernel) rfl rfl ?_
  refine gr_sipush (pc := 15) (z := 250) 250 (show decode (gy_b gY_4) 15 = .ok (.sipush (250), 3) by decide +kernel) (by decide +kernel) ?_
  refine gr_newI (pc := 18) (show decode (gy_b gY_4) 18 = .ok (.newarray .int, 2) by decide +kernel) wd_215 ?_
  intro v6 M7 n8 c9
  refine gr_putF (pc := 20) (index := 17) (t := 2) (j := 1) (σ := 72) (sv := (gR 64)) (f := gx_f0) (ty := .array (.int)) (show decode (gy_b gY_4) 20 = .ok (.putfield 17, 3) by decide +kernel) rfl rfl (fun _ => rfl) wd_201 rfl gv_a rfl (fun _ _ _ _ _ _ _ X => gx_nm X) rfl ?_
  intro M10
  refine gr_aload_n (pc := 23) (i := 0) 2 (l0) (show decode (gy_b gY_4) 23 = .ok (.aload_n 0, 1) by decide +kernel) rfl rfl ?_
  refine gr_sipush (pc := 24) (z := 250) 250 (show decode (gy_b gY_4) 24 = .ok (.sipush (250), 3) by decide +kernel) (by decide +kernel) ?_
  refine gr_newI (pc := 27) (show decode (gy_b gY_4) 27 = .ok (.newarray .int, 2) by decide +kernel) wd_215 ?_
  intro v11 M12 n13 c14
  refine gr_putF (pc := 29) (index := 21) (t := 2) (j := 2) (σ := 72) (sv := (gR 64)) (f := gx_f0) (ty := .array (.int)) (show decode (gy_b gY_4) 29 = .ok (.putfield 21, 3) by decide +kernel) rfl rfl (fun _ => rfl) wd_202 rfl gv_a rfl (fun _ _ _ _ _ _ _ X => gx_nm X) rfl ?_
  intro M15
  exact gr_return (pc := 32) (show decode (gy_b gY_4) 32 = .ok (.return_, 1) by decide +kernel) rfl rfl
noncomputable def fi_4 (l0 M n c : Nat) (K : Nat → Nat → Nat → Nat → Bool) : Bool := fi_4_L0 K l0 M n c
theorem hm_4 {G : gxG} (hG : gxG0 G) (l0 : Nat) : gxM G gY_4 yX2_init [gR 2 (l0)] (fi_4 l0) := gxM_of (L := [gR 2 (l0)]) hG 0 (by decide +kernel) rfl rfl rfl rfl (List.forall_mem_cons.mpr ⟨rfl, fun _ h => nomatch h⟩) (fun M n c K => h_4_L0 hG  l0 M n c)
/-! Farfiles$Path <init> ()V -/
def gY_5 : gxY := (false, prog_8_method_1_code, 1, (Option.none : Option FieldType), "Farfiles$Path", 1, 40, 5, [], "<init>")
theorem ok_5 {Y : gxY} (h1 : gy_f gY_5 + 1 ≤ gy_f Y) (h2 : 8 + (gy_l gY_5 + 11) + gy_k gY_5 ≤ gy_k Y) : gh_ok Y gY_5 yX6_init 0 := ⟨wd_224, wd_57, ⟨by decide, by decide⟩, by decide +kernel, h1, h2⟩
noncomputable def fi_5_L0 (K : Nat → Nat → Nat → Nat → Bool) (l0 M n c : Nat) : Bool := gx_nn (l0) (gx_nea (20) M n c (fun v1 M2 n3 c4 => gx_put (l0) 0 (v1) M2 gx_f0 (fun M5 => gx_nea (20) M5 n3 c4 (fun v6 M7 n8 c9 => gx_put (l0) 1 (v6) M7 gx_f0 (fun M10 => gx_nea (21) M10 n8 c9 (fun v11 M12 n13 c14 => gx_put (l0) 2 (v11) M12 gx_f0 (fun M15 => K 0 M15 n13 c14)))))))
theorem h_5_L0 {G : gxG} (hG : gxG0 G) {K : Nat → Nat → Nat → Nat → Bool} (l0 M n c : Nat) : gxJ G gY_5 K 0 [] [gR 6 (l0)] M n c (fi_5_L0 K l0 M n c) := by
  unfold fi_5_L0
  refine gr_aload_n (pc := 0) (i := 0) 6 (l0) (show decode (gy_b gY_5) 0 = .ok (.aload_n 0, 1) by decide +kernel) rfl rfl ?_
  refine gr_objInit (pc := 1) (index := 3) (t := 6) (show decode (gy_b gY_5) 1 = .ok (.invokespecial 3, 3) by decide +kernel) wd_225 wd_86 wd_87 (by decide) (by decide) (Nat.le_of_ble_eq_true rfl) ?_
  refine gr_aload_n (pc := 4) (i := 0) 6 (l0) (show decode (gy_b gY_5) 4 = .ok (.aload_n 0, 1) by decide +kernel) rfl rfl ?_
  refine gr_bipush (pc := 5) (z := 20) 20 (show decode (gy_b gY_5) 5 = .ok (.bipush (20), 2) by decide +kernel) (by decide +kernel) ?_
  refine gr_newI (pc := 7) (show decode (gy_b gY_5) 7 = .ok (.newarray .int, 2) by decide +kernel) wd_215 ?_
  intro v1 M2 n3 c4
  refine gr_putF (pc := 9) (index := 9) (t := 6) (j := 0) (σ := 72) (sv := (gR 64)) (f := gx_f0) (ty := .array (.int)) (show decode (gy_b gY_5) 9 = .ok (.putfield 9, 3) by decide +kernel) rfl rfl (fun _ => rfl) wd_226 rfl gv_a rfl (fun _ _ _ _ _ _ _ X => gx_nm X) rfl ?_
  intro M5
  refine gr_aload_n (pc := 12) (i := 0) 6 (l0) (show decode (gy_b gY_5) 12 = .ok (.aload_n 0, 1) by decide +kernel) rfl rfl ?_
  refine gr_bipush (pc := 13) (z := 20) 20 (show decode (gy_b gY_5) 13 = .ok (.bipush (20), 2) by decide +kernel) (by decide +kernel) ?_
  refine gr_newI (pc := 15) (show decode (gy_b gY_5) 15 = .ok (.newarray .int, 2) by decide +kernel) wd_215 ?_
  intro v6 M7 n8 c9
  refine gr_putF (pc := 17) (index := 15) (t := 6) (j := 1) (σ := 72) (sv := (gR 64)) (f := gx_f0) (ty := .array (.int)) (show decode (gy_b gY_5) 17 = .ok (.putfield 15, 3) by decide +kernel) rfl rfl (fun _ => rfl) wd_227 rfl gv_a rfl (fun _ _ _ _ _ _ _ X => gx_nm X) rfl ?_
  intro M10
  refine gr_aload_n (pc := 20) (i := 0) 6 (l0) (show decode (gy_b gY_5) 20 = .ok (.aload_n 0, 1) by decide +kernel) rfl rfl ?_
  refine gr_bipush (pc := 21) (z := 21) 21 (show decode (gy_b gY_5) 21 = .ok (.bipush (21), 2) by decide +kernel) (by decide +kernel) ?_
  refine gr_newI (pc := 23) (show decode (gy_b gY_5) 23 = .ok (.newarray .int, 2) by decide +kernel) wd_215 ?_
  intro v11 M12 n13 c14
  refine gr_putF (pc := 25) (index := 18) (t := 6) (j := 2) (σ := 72) (sv := (gR 64)) (f := gx_f0) (ty := .array (.int)) (show decode (gy_b gY_5) 25 = .ok (.putfield 18, 3) by decide +kernel) rfl rfl (fun _ => rfl) wd_228 rfl gv_a rfl (fun _ _ _ _ _ _ _ X => gx_nm X) rfl ?_
  intro M15
  exact gr_return (pc := 28) (show decode (gy_b gY_5) 28 = .ok (.return_, 1) by decide +kernel) rfl rfl
noncomputable def fi_5 (l0 M n c : Nat) (K : Nat → Nat → Nat → Nat → Bool) : Bool := fi_5_L0 K l0 M n c
theorem hm_5 {G : gxG} (hG : gxG0 G) (l0 : Nat) : gxM G gY_5 yX6_init [gR 6 (l0)] (fi_5 l0) := gxM_of (L := [gR 6 (l0)]) hG 0 (by decide +kernel) rfl rfl rfl rfl (List.forall_mem_cons.mpr ⟨rfl, fun _ h => nomatch h⟩) (fun M n c K => h_5_L0 hG  l0 M n c)
/-! Farfiles$Client <init> (I)V -/
def gY_6 : gxY := (false, prog_5_method_1_code, 2, (Option.none : Option FieldType), "Farfiles$Client", 2, 60, 5, [], "<init>")
theorem ok_6 {Y : gxY} (h1 : gy_f gY_6 + 1 ≤ gy_f Y) (h2 : 8 + (gy_l gY_6 + 11) + gy_k gY_6 ≤ gy_k Y) : gh_ok Y gY_6 yX3_init 1 := ⟨wd_248, wd_58, ⟨by decide, by decide⟩, by decide +kernel, h1, h2⟩
noncomputable def fi_6_L34 (K : Nat → Nat → Nat → Nat → Bool) (l0 l1 s0 s1 M n c : Nat) : Bool := gx_nea (s1) M n c (fun v14 M15 n16 c17 => gx_put (s0) 3 (v14) M15 gx_f0 (fun M18 => gx_nea (49) M18 n16 c17 (fun v19 M20 n21 c22 => gx_put (l0) 4 (v19) M20 gx_f0 (fun M23 => gx_new 1 n21 c22 (fun v24 n25 c26 => gx_nn (v24) (fi_1 (v24) M23 n25 c26 (fun v27 M28 n29 c30 => gx_put (l0) 5 (v24) M28 gx_f0 (fun M31 => gx_new 1 n29 c30 (fun v32 n33 c34 => gx_nn (v32) (fi_1 (v32) M31 n33 c34 (fun v35 M36 n37 c38 => gx_put (l0) 6 (v32) M36 gx_f0 (fun M39 => gx_put (l0) 0 (l1) M39 gx_f0 (fun M40 => K 0 M40 n37 c38)))))))))))))
theorem h_6_L34 {G : gxG} (hG : gxG0 G) {K : Nat → Nat → Nat → Nat → Bool} (l0 l1 s0 s1 M n c : Nat) : gxJ G gY_6 K 34 [gI (s1), gR 3 (s0)] [gR 3 (l0), gI (l1)] M n c (fi_6_L34 K l0 l1 s0 s1 M n c) := by
  unfold fi_6_L34
  refine gr_newI (pc := 34) (show decode (gy_b gY_6) 34 = .ok (.newarray .int, 2) by decide +kernel) wd_215 ?_
  intro v14 M15 n16 c17
  refine gr_putF (pc := 36) (index := 18) (t := 3) (j := 3) (σ := 72) (sv := (gR 64)) (f := gx_f0) (ty := .array (.int)) (show decode (gy_b gY_6) 36 = .ok (.putfield 18, 3) by decide +kernel) rfl rfl (fun _ => rfl) wd_257 rfl gv_a rfl (fun _ _ _ _ _ _ _ X => gx_nm X) rfl ?_
  intro M18
  refine gr_aload_n (pc := 39) (i := 0) 3 (l0) (show decode (gy_b gY_6) 39 = .ok (.aload_n 0, 1) by decide +kernel) rfl rfl ?_
  refine gr_bipush (pc := 40) (z := 49) 49 (show decode (gy_b gY_6) 40 = .ok (.bipush (49), 2) by decide +kernel) (by decide +kernel) ?_
  refine gr_newI (pc := 42) (show decode (gy_b gY_6) 42 = .ok (.newarray .int, 2) by decide +kernel) wd_215 ?_
  intro v19 M20 n21 c22
  refine gr_putF (pc := 44) (index := 22) (t := 3) (j := 4) (σ := 72) (sv := (gR 64)) (f := gx_f0) (ty := .array (.int)) (show decode (gy_b gY_6) 44 = .ok (.putfield 22, 3) by decide +kernel) rfl rfl (fun _ => rfl) wd_258 rfl gv_a rfl (fun _ _ _ _ _ _ _ X => gx_nm X) rfl ?_
  intro M23
  refine gr_aload_n (pc := 47) (i := 0) 3 (l0) (show decode (gy_b gY_6) 47 = .ok (.aload_n 0, 1) by decide +kernel) rfl rfl ?_
  refine gr_newo (pc := 48) (index := 25) (t := 1) (show decode (gy_b gY_6) 48 = .ok (.new 25, 3) by decide +kernel) rfl wd_250 wd_125 wd_55 ?_
  intro v24 n25 c26
  refine gr_dup (b := gB) (pc := 51) (show decode (gy_b gY_6) 51 = .ok (.dup, 1) by decide +kernel) rfl ?_
  refine gj_nn (fun hx52 => ?_)
  refine gj_c0 (pc := 52) (Y' := gY_1) (y := yX1_init) (vs := [gR 1 (v24)]) (rest := [gR 1 (v24), gR 3 (l0)]) (rs := fun v27 => [gR 1 (v24), gR 3 (l0)]) [gR 1 (v24)] rfl (hm_1 hG (v24)) rfl (gh_IN (t := 1) (vs := []) (rest := [gR 1 (v24), gR 3 (l0)]) (show decode (gy_b gY_6) 52 = .ok (.invokespecial 27, 3) by decide +kernel) rfl hx52 rfl (ok_1 (by decide) (by decide)) rfl rfl rfl rfl wd_251 wd_127 (Nat.le_of_ble_eq_true rfl)) (fun _ => rfl) ?_
  intro v27 M28 n29 c30
  refine gr_putF (pc := 55) (index := 28) (t := 3) (j := 5) (σ := 9) (sv := (gR 1)) (f := gx_f0) (ty := .object "Farfiles$ActSet") (show decode (gy_b gY_6) 55 = .ok (.putfield 28, 3) by decide +kernel) rfl rfl (fun _ => rfl) wd_259 rfl gv_o rfl (fun _ _ _ _ _ _ _ X => gx_nm X) rfl ?_
  intro M31
  refine gr_aload_n (pc := 58) (i := 0) 3 (l0) (show decode (gy_b gY_6) 58 = .ok (.aload_n 0, 1) by decide +kernel) rfl rfl ?_
  refine gr_newo (pc := 59) (index := 25) (t := 1) (show decode (gy_b gY_6) 59 = .ok (.new 25, 3) by decide +kernel) rfl wd_250 wd_125 wd_55 ?_
  intro v32 n33 c34
  refine gr_dup (b := gB) (pc := 62) (show decode (gy_b gY_6) 62 = .ok (.dup, 1) by decide +kernel) rfl ?_
  refine gj_nn (fun hx63 => ?_)
  refine gj_c0 (pc := 63) (Y' := gY_1) (y := yX1_init) (vs := [gR 1 (v32)]) (rest := [gR 1 (v32), gR 3 (l0)]) (rs := fun v35 => [gR 1 (v32), gR 3 (l0)]) [gR 1 (v32)] rfl (hm_1 hG (v32)) rfl (gh_IN (t := 1) (vs := []) (rest := [gR 1 (v32), gR 3 (l0)]) (show decode (gy_b gY_6) 63 = .ok (.invokespecial 27, 3) by decide +kernel) rfl hx63 rfl (ok_1 (by decide) (by decide)) rfl rfl rfl rfl wd_251 wd_127 (Nat.le_of_ble_eq_true rfl)) (fun _ => rfl) ?_
  intro v35 M36 n37 c38
  refine gr_putF (pc := 66) (index := 32) (t := 3) (j := 6) (σ := 9) (sv := (gR 1)) (f := gx_f0) (ty := .object "Farfiles$ActSet") (show decode (gy_b gY_6) 66 = .ok (.putfield 32, 3) by decide +kernel) rfl rfl (fun _ => rfl) wd_261 rfl gv_o rfl (fun _ _ _ _ _ _ _ X => gx_nm X) rfl ?_
  intro M39
  refine gr_aload_n (pc := 69) (i := 0) 3 (l0) (show decode (gy_b gY_6) 69 = .ok (.aload_n 0, 1) by decide +kernel) rfl rfl ?_
  refine gr_iload_n (pc := 70) (i := 1) (l1) (show decode (gy_b gY_6) 70 = .ok (.iload_n 1, 1) by decide +kernel) rfl rfl ?_
  refine gr_putF (pc := 71) (index := 35) (t := 3) (j := 0) (σ := 0) (sv := gI) (f := gx_f0) (ty := .int) (show decode (gy_b gY_6) 71 = .ok (.putfield 35, 3) by decide +kernel) rfl rfl (fun _ => rfl) wd_252 rfl gv_0 rfl (fun _ _ _ _ _ _ _ X => gx_nm X) rfl ?_
  intro M40
  exact gr_return (pc := 74) (show decode (gy_b gY_6) 74 = .ok (.return_, 1) by decide +kernel) rfl rfl
noncomputable def fi_6_L0 (K : Nat → Nat → Nat → Nat → Bool) (l0 l1 M n c : Nat) : Bool := gx_nn (l0) (gx_nea (3) M n c (fun v1 M2 n3 c4 => gx_ast (v1) (0) (1) M2 gx_f2 (fun M5 => gx_ast (v1) (1) (1) M5 gx_f2 (fun M6 => gx_ast (v1) (2) (1) M6 gx_f2 (fun M7 => gx_put (l0) 1 (v1) M7 gx_f0 (fun M8 => gx_nea (49) M8 n3 c4 (fun v9 M10 n11 c12 => gx_put (l0) 2 (v9) M10 gx_f0 (fun M13 => fi_6_L34 K (l0) (l1) (l0) (49) M13 n11 c12))))))))
theorem h_6_L0 {G : gxG} (hG : gxG0 G) {K : Nat → Nat → Nat → Nat → Bool} (l0 l1 M n c : Nat) : gxJ G gY_6 K 0 [] [gR 3 (l0), gI (l1)] M n c (fi_6_L0 K l0 l1 M n c) := by
  unfold fi_6_L0
  refine gr_aload_n (pc := 0) (i := 0) 3 (l0) (show decode (gy_b gY_6) 0 = .ok (.aload_n 0, 1) by decide +kernel) rfl rfl ?_
  refine gr_objInit (pc := 1) (index := 3) (t := 3) (show decode (gy_b gY_6) 1 = .ok (.invokespecial 3, 3) by decide +kernel) wd_249 wd_86 wd_87 (by decide) (by decide) (Nat.le_of_ble_eq_true rfl) ?_
  refine gr_aload_n (pc := 4) (i := 0) 3 (l0) (show decode (gy_b gY_6) 4 = .ok (.aload_n 0, 1) by decide +kernel) rfl rfl ?_
  refine gr_iconst (pc := 5) (z := 3) 3 (show decode (gy_b gY_6) 5 = .ok (.iconst (3), 1) by decide +kernel) kc_3 ?_
  refine gr_newZ (pc := 6) (show decode (gy_b gY_6) 6 = .ok (.newarray .boolean, 2) by decide +kernel) wd_243 ?_
  intro v1 M2 n3 c4
  refine gr_dup (b := gB) (pc := 8) (show decode (gy_b gY_6) 8 = .ok (.dup, 1) by decide +kernel) rfl ?_
  refine gr_iconst (pc := 9) (z := 0) 0 (show decode (gy_b gY_6) 9 = .ok (.iconst (0), 1) by decide +kernel) kc_0 ?_
  refine gr_iconst (pc := 10) (z := 1) 1 (show decode (gy_b gY_6) 10 = .ok (.iconst (1), 1) by decide +kernel) kc_1 ?_
  refine gr_zast (pc := 11) hG.2.1 (show decode (gy_b gY_6) 11 = .ok (.bastore, 1) by decide +kernel) ?_
  intro M5
  refine gr_dup (b := gB) (pc := 12) (show decode (gy_b gY_6) 12 = .ok (.dup, 1) by decide +kernel) rfl ?_
  refine gr_iconst (pc := 13) (z := 1) 1 (show decode (gy_b gY_6) 13 = .ok (.iconst (1), 1) by decide +kernel) kc_1 ?_
  refine gr_iconst (pc := 14) (z := 1) 1 (show decode (gy_b gY_6) 14 = .ok (.iconst (1), 1) by decide +kernel) kc_1 ?_
  refine gr_zast (pc := 15) hG.2.1 (show decode (gy_b gY_6) 15 = .ok (.bastore, 1) by decide +kernel) ?_
  intro M6
  refine gr_dup (b := gB) (pc := 16) (show decode (gy_b gY_6) 16 = .ok (.dup, 1) by decide +kernel) rfl ?_
  refine gr_iconst (pc := 17) (z := 2) 2 (show decode (gy_b gY_6) 17 = .ok (.iconst (2), 1) by decide +kernel) kc_2 ?_
  refine gr_iconst (pc := 18) (z := 1) 1 (show decode (gy_b gY_6) 18 = .ok (.iconst (1), 1) by decide +kernel) kc_1 ?_
  refine gr_zast (pc := 19) hG.2.1 (show decode (gy_b gY_6) 19 = .ok (.bastore, 1) by decide +kernel) ?_
  intro M7
  refine gr_putF (pc := 20) (index := 9) (t := 3) (j := 1) (σ := 74) (sv := (gR 66)) (f := gx_f0) (ty := .array (.boolean)) (show decode (gy_b gY_6) 20 = .ok (.putfield 9, 3) by decide +kernel) rfl rfl (fun _ => rfl) wd_254 rfl gv_a rfl (fun _ _ _ _ _ _ _ X => gx_nm X) rfl ?_
  intro M8
  refine gr_aload_n (pc := 23) (i := 0) 3 (l0) (show decode (gy_b gY_6) 23 = .ok (.aload_n 0, 1) by decide +kernel) rfl rfl ?_
  refine gr_bipush (pc := 24) (z := 49) 49 (show decode (gy_b gY_6) 24 = .ok (.bipush (49), 2) by decide +kernel) (by decide +kernel) ?_
  refine gr_newZ (pc := 26) (show decode (gy_b gY_6) 26 = .ok (.newarray .boolean, 2) by decide +kernel) wd_243 ?_
  intro v9 M10 n11 c12
  refine gr_putF (pc := 28) (index := 15) (t := 3) (j := 2) (σ := 74) (sv := (gR 66)) (f := gx_f0) (ty := .array (.boolean)) (show decode (gy_b gY_6) 28 = .ok (.putfield 15, 3) by decide +kernel) rfl rfl (fun _ => rfl) wd_256 rfl gv_a rfl (fun _ _ _ _ _ _ _ X => gx_nm X) rfl ?_
  intro M13
  refine gr_aload_n (pc := 31) (i := 0) 3 (l0) (show decode (gy_b gY_6) 31 = .ok (.aload_n 0, 1) by decide +kernel) rfl rfl ?_
  refine gr_bipush (pc := 32) (z := 49) 49 (show decode (gy_b gY_6) 32 = .ok (.bipush (49), 2) by decide +kernel) (by decide +kernel) ?_
  exact h_6_L34 hG (l0) (l1) (l0) (49) M13 n11 c12
noncomputable def fi_6 (l0 l1 M n c : Nat) (K : Nat → Nat → Nat → Nat → Bool) : Bool := fi_6_L0 K l0 l1 M n c
theorem hm_6 {G : gxG} (hG : gxG0 G) (l0 l1 : Nat) : gxM G gY_6 yX3_init [gR 3 (l0), gI (l1)] (fi_6 l0 l1) := gxM_of (L := [gR 3 (l0), gI (l1)]) hG 0 (by decide +kernel) rfl rfl rfl rfl (List.forall_mem_cons.mpr ⟨rfl, List.forall_mem_cons.mpr ⟨rfl, fun _ h => nomatch h⟩⟩) (fun M n c K => h_6_L0 hG  l0 l1 M n c)
/-! Farfiles <init> ()V -/
def gY_7 : gxY := (false, prog_1_method_1_code, 2, (Option.none : Option FieldType), "Farfiles", 4, 106, 5, [], "<init>")
theorem ok_7 {Y : gxY} (h1 : gy_f gY_7 + 1 ≤ gy_f Y) (h2 : 8 + (gy_l gY_7 + 11) + gy_k gY_7 ≤ gy_k Y) : gh_ok Y gY_7 yX7_init 0 := ⟨wd_92, wd_51, ⟨by decide, by decide⟩, by decide +kernel, h1, h2⟩
noncomputable def fi_7_B187 (K : Nat → Nat → Nat → Nat → Bool) (ih_187 : Nat → Nat → Nat → Nat → Nat → Bool) (l0 l1 M n c : Nat) : Bool := gx_lt (l1) (3) (gx_get (l0) 4 M (fun v102 => gx_new 1 n c (fun v103 n104 c105 => gx_nn (v103) (fi_1 (v103) M n104 c105 (fun v106 M107 n108 c109 => gx_ast (v102) (l1) (v103) M107 gx_f0 (fun M110 => gx_add (l1) 1 (fun z111 => ih_187 (l0) (z111) M110 n108 c109))))))) (gx_get (l0) 6 M (fun v98 => gx_ast (v98) (0) (1) M gx_f2 (fun M99 => gx_get (l0) 7 M99 (fun v100 => gx_ast (v100) (0) (1) M99 gx_f2 (fun M101 => K 0 M101 n c)))))
theorem hb_7_B187 {G : gxG} (hG : gxG0 G) {K : Nat → Nat → Nat → Nat → Bool} {ih_187 : Nat → Nat → Nat → Nat → Nat → Bool} (hi_187 : ∀ l0 l1 M n c : Nat, gxJ G gY_7 K 187 [] [gR 7 (l0), gI (l1)] M n c (ih_187 l0 l1 M n c)) (l0 l1 M n c : Nat) : gxJ G gY_7 K 187 [] [gR 7 (l0), gI (l1)] M n c (fi_7_B187 K ih_187 l0 l1 M n c) := by
  unfold fi_7_B187
  refine gr_iload_n (pc := 187) (i := 1) (l1) (show decode (gy_b gY_7) 187 = .ok (.iload_n 1, 1) by decide +kernel) rfl rfl ?_
  refine gr_iconst (pc := 188) (z := 3) 3 (show decode (gy_b gY_7) 188 = .ok (.iconst (3), 1) by decide +kernel) kc_3 ?_
  refine gr_icmp_ge (pc := 189) (tgt := 211) (off := 22) hG.2.1 (show decode (gy_b gY_7) 189 = .ok (.if_icmp .ge (22), 3) by decide +kernel) (by decide) ?_ ?_
  · refine gr_aload_n (pc := 211) (i := 0) 7 (l0) (show decode (gy_b gY_7) 211 = .ok (.aload_n 0, 1) by decide +kernel) rfl rfl ?_
    refine gr_getf (pc := 212) (index := 46) (t := 7) (j := 6) (σ := 74) (sv := (gR 66)) (show decode (gy_b gY_7) 212 = .ok (.getfield 46, 3) by decide +kernel) rfl rfl (fun _ => rfl) wd_300 (by decide) ?_
    intro v98
    refine gr_iconst (pc := 215) (z := 0) 0 (show decode (gy_b gY_7) 215 = .ok (.iconst (0), 1) by decide +kernel) kc_0 ?_
    refine gr_iconst (pc := 216) (z := 1) 1 (show decode (gy_b gY_7) 216 = .ok (.iconst (1), 1) by decide +kernel) kc_1 ?_
    refine gr_zast (pc := 217) hG.2.1 (show decode (gy_b gY_7) 217 = .ok (.bastore, 1) by decide +kernel) ?_
    intro M99
    refine gr_aload_n (pc := 218) (i := 0) 7 (l0) (show decode (gy_b gY_7) 218 = .ok (.aload_n 0, 1) by decide +kernel) rfl rfl ?_
    refine gr_getf (pc := 219) (index := 49) (t := 7) (j := 7) (σ := 74) (sv := (gR 66)) (show decode (gy_b gY_7) 219 = .ok (.getfield 49, 3) by decide +kernel) rfl rfl (fun _ => rfl) wd_301 (by decide) ?_
    intro v100
    refine gr_iconst (pc := 222) (z := 0) 0 (show decode (gy_b gY_7) 222 = .ok (.iconst (0), 1) by decide +kernel) kc_0 ?_
    refine gr_iconst (pc := 223) (z := 1) 1 (show decode (gy_b gY_7) 223 = .ok (.iconst (1), 1) by decide +kernel) kc_1 ?_
    refine gr_zast (pc := 224) hG.2.1 (show decode (gy_b gY_7) 224 = .ok (.bastore, 1) by decide +kernel) ?_
    intro M101
    exact gr_return (pc := 225) (show decode (gy_b gY_7) 225 = .ok (.return_, 1) by decide +kernel) rfl rfl
  · refine gr_aload_n (pc := 192) (i := 0) 7 (l0) (show decode (gy_b gY_7) 192 = .ok (.aload_n 0, 1) by decide +kernel) rfl rfl ?_
    refine gr_getf (pc := 193) (index := 38) (t := 7) (j := 4) (σ := 78) (sv := (gR 70)) (show decode (gy_b gY_7) 193 = .ok (.getfield 38, 3) by decide +kernel) rfl rfl (fun _ => rfl) wd_298 (by decide) ?_
    intro v102
    refine gr_iload_n (pc := 196) (i := 1) (l1) (show decode (gy_b gY_7) 196 = .ok (.iload_n 1, 1) by decide +kernel) rfl rfl ?_
    refine gr_newo (pc := 197) (index := 36) (t := 1) (show decode (gy_b gY_7) 197 = .ok (.new 36, 3) by decide +kernel) rfl wd_218 wd_125 wd_55 ?_
    intro v103 n104 c105
    refine gr_dup (b := gB) (pc := 200) (show decode (gy_b gY_7) 200 = .ok (.dup, 1) by decide +kernel) rfl ?_
    refine gj_nn (fun hx201 => ?_)
    refine gj_c0 (pc := 201) (Y' := gY_1) (y := yX1_init) (vs := [gR 1 (v103)]) (rest := [gR 1 (v103), gI (l1), gR 70 (v102)]) (rs := fun v106 => [gR 1 (v103), gI (l1), gR 70 (v102)]) [gR 1 (v103)] rfl (hm_1 hG (v103)) rfl (gh_IN (t := 1) (vs := []) (rest := [gR 1 (v103), gI (l1), gR 70 (v102)]) (show decode (gy_b gY_7) 201 = .ok (.invokespecial 62, 3) by decide +kernel) rfl hx201 rfl (ok_1 (by decide) (by decide)) rfl rfl rfl rfl wd_244 wd_127 (Nat.le_of_ble_eq_true rfl)) (fun _ => rfl) ?_
    intro v106 M107 n108 c109
    refine gr_aast (pc := 204) (κ := 6) (t := 1) (show decode (gy_b gY_7) 204 = .ok (.aastore, 1) by decide +kernel) ⟨by decide, by decide, rfl⟩ rfl rfl ?_
    intro M110
    refine gr_iinc (pc := 205) (i := 1) (d := 1) (z := 1) (L' := fun z111 => [gR 7 (l0), gI (z111)]) (show decode (gy_b gY_7) 205 = .ok (.iinc 1 (1), 3) by decide +kernel) (by decide +kernel) (by decide) rfl rfl (fun _ => rfl) ?_
    intro z111
    refine gr_goto (pc := 208) (tgt := 187) (off := -21) (show decode (gy_b gY_7) 208 = .ok (.goto (-21), 3) by decide +kernel) (by decide) ?_
    exact hi_187 (l0) (z111) M110 n108 c109
noncomputable def fi_7_W187 (K : Nat → Nat → Nat → Nat → Bool) (u : Nat) : Nat → Nat → Nat → Nat → Nat → Bool := Nat.rec (motive := fun _ => Nat → Nat → Nat → Nat → Nat → Bool) (fun _ _ _ _ _ => false) (fun _ ih => fi_7_B187 K ih) u
theorem hw_7_187 {G : gxG} (hG : gxG0 G) {K : Nat → Nat → Nat → Nat → Bool} (u : Nat) : ∀ l0 l1 M n c : Nat, gxJ G gY_7 K 187 [] [gR 7 (l0), gI (l1)] M n c (fi_7_W187 K u l0 l1 M n c) := by
  induction u with
  | zero => intro l0 l1 M n c; exact gj_false
  | succ u ih => intro l0 l1 M n c; exact hb_7_B187 hG ih l0 l1 M n c
noncomputable def fi_7_B160 (K : Nat → Nat → Nat → Nat → Bool) (ih_160 : Nat → Nat → Nat → Nat → Nat → Bool) (l0 l1 M n c : Nat) : Bool := gx_lt (l1) (4) (gx_get (l0) 3 M (fun v112 => gx_new 12 n c (fun v113 n114 c115 => gx_nn (v113) (fi_6 (v113) (l1) M n114 c115 (fun v116 M117 n118 c119 => gx_ast (v112) (l1) (v113) M117 gx_f0 (fun M120 => gx_add (l1) 1 (fun z121 => ih_160 (l0) (z121) M120 n118 c119))))))) (fi_7_W187 K 65536 (l0) (0) M n c)
theorem hb_7_B160 {G : gxG} (hG : gxG0 G) {K : Nat → Nat → Nat → Nat → Bool} {ih_160 : Nat → Nat → Nat → Nat → Nat → Bool} (hi_160 : ∀ l0 l1 M n c : Nat, gxJ G gY_7 K 160 [] [gR 7 (l0), gI (l1)] M n c (ih_160 l0 l1 M n c)) (l0 l1 M n c : Nat) : gxJ G gY_7 K 160 [] [gR 7 (l0), gI (l1)] M n c (fi_7_B160 K ih_160 l0 l1 M n c) := by
  unfold fi_7_B160
  refine gr_iload_n (pc := 160) (i := 1) (l1) (show decode (gy_b gY_7) 160 = .ok (.iload_n 1, 1) by decide +kernel) rfl rfl ?_
  refine gr_iconst (pc := 161) (z := 4) 4 (show decode (gy_b gY_7) 161 = .ok (.iconst (4), 1) by decide +kernel) kc_4 ?_
  refine gr_icmp_ge (pc := 162) (tgt := 185) (off := 23) hG.2.1 (show decode (gy_b gY_7) 162 = .ok (.if_icmp .ge (23), 3) by decide +kernel) (by decide) ?_ ?_
  · refine gr_iconst (pc := 185) (z := 0) 0 (show decode (gy_b gY_7) 185 = .ok (.iconst (0), 1) by decide +kernel) kc_0 ?_
    refine gr_istore_n (pc := 186) (i := 1) (L' := [gR 7 (l0), gI (0)]) (show decode (gy_b gY_7) 186 = .ok (.istore_n 1, 1) by decide +kernel) rfl (by decide) rfl rfl ?_
    exact hw_7_187 hG 65536 (l0) (0) M n c
  · refine gr_aload_n (pc := 165) (i := 0) 7 (l0) (show decode (gy_b gY_7) 165 = .ok (.aload_n 0, 1) by decide +kernel) rfl rfl ?_
    refine gr_getf (pc := 166) (index := 32) (t := 7) (j := 3) (σ := 79) (sv := (gR 71)) (show decode (gy_b gY_7) 166 = .ok (.getfield 32, 3) by decide +kernel) rfl rfl (fun _ => rfl) wd_297 (by decide) ?_
    intro v112
    refine gr_iload_n (pc := 169) (i := 1) (l1) (show decode (gy_b gY_7) 169 = .ok (.iload_n 1, 1) by decide +kernel) rfl rfl ?_
    refine gr_newo (pc := 170) (index := 30) (t := 3) (show decode (gy_b gY_7) 170 = .ok (.new 30, 3) by decide +kernel) rfl wd_216 wd_245 wd_58 ?_
    intro v113 n114 c115
    refine gr_dup (b := gB) (pc := 173) (show decode (gy_b gY_7) 173 = .ok (.dup, 1) by decide +kernel) rfl ?_
    refine gr_iload_n (pc := 174) (i := 1) (l1) (show decode (gy_b gY_7) 174 = .ok (.iload_n 1, 1) by decide +kernel) rfl rfl ?_
    refine gj_nn (fun hx175 => ?_)
    refine gj_c0 (pc := 175) (Y' := gY_6) (y := yX3_init) (vs := [gR 3 (v113), gI (l1)]) (rest := [gR 3 (v113), gI (l1), gR 71 (v112)]) (rs := fun v116 => [gR 3 (v113), gI (l1), gR 71 (v112)]) [gI (l1), gR 3 (v113)] rfl (hm_6 hG (v113) (l1)) rfl (gh_I (t := 3) (vs := [gI (l1)]) (rest := [gR 3 (v113), gI (l1), gR 71 (v112)]) (show decode (gy_b gY_7) 175 = .ok (.invokespecial 83, 3) by decide +kernel) rfl hx175 rfl (ok_6 (by decide) (by decide)) rfl rfl rfl rfl wd_246 wd_247 (Nat.le_of_ble_eq_true rfl)) (fun _ => rfl) ?_
    intro v116 M117 n118 c119
    refine gr_aast (pc := 178) (κ := 7) (t := 3) (show decode (gy_b gY_7) 178 = .ok (.aastore, 1) by decide +kernel) ⟨by decide, by decide, rfl⟩ rfl rfl ?_
    intro M120
    refine gr_iinc (pc := 179) (i := 1) (d := 1) (z := 1) (L' := fun z121 => [gR 7 (l0), gI (z121)]) (show decode (gy_b gY_7) 179 = .ok (.iinc 1 (1), 3) by decide +kernel) (by decide +kernel) (by decide) rfl rfl (fun _ => rfl) ?_
    intro z121
    refine gr_goto (pc := 182) (tgt := 160) (off := -22) (show decode (gy_b gY_7) 182 = .ok (.goto (-22), 3) by decide +kernel) (by decide) ?_
    exact hi_160 (l0) (z121) M120 n118 c119
noncomputable def fi_7_W160 (K : Nat → Nat → Nat → Nat → Bool) (u : Nat) : Nat → Nat → Nat → Nat → Nat → Bool := Nat.rec (motive := fun _ => Nat → Nat → Nat → Nat → Nat → Bool) (fun _ _ _ _ _ => false) (fun _ ih => fi_7_B160 K ih) u
theorem hw_7_160 {G : gxG} (hG : gxG0 G) {K : Nat → Nat → Nat → Nat → Bool} (u : Nat) : ∀ l0 l1 M n c : Nat, gxJ G gY_7 K 160 [] [gR 7 (l0), gI (l1)] M n c (fi_7_W160 K u l0 l1 M n c) := by
  induction u with
  | zero => intro l0 l1 M n c; exact gj_false
  | succ u ih => intro l0 l1 M n c; exact hb_7_B160 hG ih l0 l1 M n c
noncomputable def fi_7_L137 (K : Nat → Nat → Nat → Nat → Bool) (l0 M n c : Nat) : Bool := gx_nea (49) M n c (fun v87 M88 n89 c90 => gx_put (l0) 13 (v87) M88 gx_f0 (fun M91 => gx_nea (49) M91 n89 c90 (fun v92 M93 n94 c95 => gx_put (l0) 14 (v92) M93 gx_f0 (fun M96 => gx_put (l0) 15 (0) M96 gx_f1 (fun M97 => fi_7_W160 K 65536 (l0) (0) M97 n94 c95)))))
theorem h_7_L137 {G : gxG} (hG : gxG0 G) {K : Nat → Nat → Nat → Nat → Bool} (l0 M n c : Nat) : gxJ G gY_7 K 137 [] [gR 7 (l0), gB] M n c (fi_7_L137 K l0 M n c) := by
  unfold fi_7_L137
  refine gr_aload_n (pc := 137) (i := 0) 7 (l0) (show decode (gy_b gY_7) 137 = .ok (.aload_n 0, 1) by decide +kernel) rfl rfl ?_
  refine gr_bipush (pc := 138) (z := 49) 49 (show decode (gy_b gY_7) 138 = .ok (.bipush (49), 2) by decide +kernel) (by decide +kernel) ?_
  refine gr_newZ (pc := 140) (show decode (gy_b gY_7) 140 = .ok (.newarray .boolean, 2) by decide +kernel) wd_243 ?_
  intro v87 M88 n89 c90
  refine gr_putF (pc := 142) (index := 73) (t := 7) (j := 13) (σ := 74) (sv := (gR 66)) (f := gx_f0) (ty := .array (.boolean)) (show decode (gy_b gY_7) 142 = .ok (.putfield 73, 3) by decide +kernel) rfl rfl (fun _ => rfl) wd_307 rfl gv_a rfl (fun _ _ _ _ _ _ _ X => gx_nm X) rfl ?_
  intro M91
  refine gr_aload_n (pc := 145) (i := 0) 7 (l0) (show decode (gy_b gY_7) 145 = .ok (.aload_n 0, 1) by decide +kernel) rfl rfl ?_
  refine gr_bipush (pc := 146) (z := 49) 49 (show decode (gy_b gY_7) 146 = .ok (.bipush (49), 2) by decide +kernel) (by decide +kernel) ?_
  refine gr_newZ (pc := 148) (show decode (gy_b gY_7) 148 = .ok (.newarray .boolean, 2) by decide +kernel) wd_243 ?_
  intro v92 M93 n94 c95
  refine gr_putF (pc := 150) (index := 76) (t := 7) (j := 14) (σ := 74) (sv := (gR 66)) (f := gx_f0) (ty := .array (.boolean)) (show decode (gy_b gY_7) 150 = .ok (.putfield 76, 3) by decide +kernel) rfl rfl (fun _ => rfl) wd_308 rfl gv_a rfl (fun _ _ _ _ _ _ _ X => gx_nm X) rfl ?_
  intro M96
  refine gr_aload_n (pc := 153) (i := 0) 7 (l0) (show decode (gy_b gY_7) 153 = .ok (.aload_n 0, 1) by decide +kernel) rfl rfl ?_
  refine gr_iconst (pc := 154) (z := 0) 0 (show decode (gy_b gY_7) 154 = .ok (.iconst (0), 1) by decide +kernel) kc_0 ?_
  refine gr_putf (pc := 155) (index := 79) (t := 7) (j := 15) (σ := 1) (sv := gI) (f := gx_f1) (ty := .char) (show decode (gy_b gY_7) 155 = .ok (.putfield 79, 3) by decide +kernel) rfl rfl (fun _ => rfl) wd_309 rfl (gv_1 hG.2.1) rfl ?_
  intro M97
  refine gr_iconst (pc := 158) (z := 0) 0 (show decode (gy_b gY_7) 158 = .ok (.iconst (0), 1) by decide +kernel) kc_0 ?_
  refine gr_istore_n (pc := 159) (i := 1) (L' := [gR 7 (l0), gI (0)]) (show decode (gy_b gY_7) 159 = .ok (.istore_n 1, 1) by decide +kernel) rfl (by decide) rfl rfl ?_
  exact hw_7_160 hG 65536 (l0) (0) M97 n94 c95
noncomputable def fi_7_L85 (K : Nat → Nat → Nat → Nat → Bool) (l0 s0 s1 M n c : Nat) : Bool := gx_put (s0) 7 (s1) M gx_f0 (fun M52 => gx_new 5 n c (fun v53 n54 c55 => gx_nn (v53) (fi_5 (v53) M52 n54 c55 (fun v56 M57 n58 c59 => gx_put (l0) 8 (v53) M57 gx_f0 (fun M60 => gx_new 5 n58 c59 (fun v61 n62 c63 => gx_nn (v61) (fi_5 (v61) M60 n62 c63 (fun v64 M65 n66 c67 => gx_put (l0) 9 (v61) M65 gx_f0 (fun M68 => gx_new 1 n66 c67 (fun v69 n70 c71 => gx_nn (v69) (fi_1 (v69) M68 n70 c71 (fun v72 M73 n74 c75 => gx_put (l0) 10 (v69) M73 gx_f0 (fun M76 => gx_nea (49) M76 n74 c75 (fun v77 M78 n79 c80 => gx_put (l0) 11 (v77) M78 gx_f0 (fun M81 => gx_nea (49) M81 n79 c80 (fun v82 M83 n84 c85 => gx_put (l0) 12 (v82) M83 gx_f0 (fun M86 => fi_7_L137 K (l0) M86 n84 c85)))))))))))))))))
theorem h_7_L85 {G : gxG} (hG : gxG0 G) {K : Nat → Nat → Nat → Nat → Bool} (l0 s0 s1 M n c : Nat) : gxJ G gY_7 K 85 [gR 66 (s1), gR 7 (s0)] [gR 7 (l0), gB] M n c (fi_7_L85 K l0 s0 s1 M n c) := by
  unfold fi_7_L85
  refine gr_putF (pc := 85) (index := 49) (t := 7) (j := 7) (σ := 74) (sv := (gR 66)) (f := gx_f0) (ty := .array (.boolean)) (show decode (gy_b gY_7) 85 = .ok (.putfield 49, 3) by decide +kernel) rfl rfl (fun _ => rfl) wd_301 rfl gv_a rfl (fun _ _ _ _ _ _ _ X => gx_nm X) rfl ?_
  intro M52
  refine gr_aload_n (pc := 88) (i := 0) 7 (l0) (show decode (gy_b gY_7) 88 = .ok (.aload_n 0, 1) by decide +kernel) rfl rfl ?_
  refine gr_newo (pc := 89) (index := 52) (t := 6) (show decode (gy_b gY_7) 89 = .ok (.new 52, 3) by decide +kernel) rfl wd_220 wd_221 wd_57 ?_
  intro v53 n54 c55
  refine gr_dup (b := gB) (pc := 92) (show decode (gy_b gY_7) 92 = .ok (.dup, 1) by decide +kernel) rfl ?_
  refine gj_nn (fun hx93 => ?_)
  refine gj_c0 (pc := 93) (Y' := gY_5) (y := yX6_init) (vs := [gR 6 (v53)]) (rest := [gR 6 (v53), gR 7 (l0)]) (rs := fun v56 => [gR 6 (v53), gR 7 (l0)]) [gR 6 (v53)] rfl (hm_5 hG (v53)) rfl (gh_IN (t := 6) (vs := []) (rest := [gR 6 (v53), gR 7 (l0)]) (show decode (gy_b gY_7) 93 = .ok (.invokespecial 54, 3) by decide +kernel) rfl hx93 rfl (ok_5 (by decide) (by decide)) rfl rfl rfl rfl wd_222 wd_223 (Nat.le_of_ble_eq_true rfl)) (fun _ => rfl) ?_
  intro v56 M57 n58 c59
  refine gr_putF (pc := 96) (index := 55) (t := 7) (j := 8) (σ := 14) (sv := (gR 6)) (f := gx_f0) (ty := .object "Farfiles$Path") (show decode (gy_b gY_7) 96 = .ok (.putfield 55, 3) by decide +kernel) rfl rfl (fun _ => rfl) wd_302 rfl gv_o rfl (fun _ _ _ _ _ _ _ X => gx_nm X) rfl ?_
  intro M60
  refine gr_aload_n (pc := 99) (i := 0) 7 (l0) (show decode (gy_b gY_7) 99 = .ok (.aload_n 0, 1) by decide +kernel) rfl rfl ?_
  refine gr_newo (pc := 100) (index := 52) (t := 6) (show decode (gy_b gY_7) 100 = .ok (.new 52, 3) by decide +kernel) rfl wd_220 wd_221 wd_57 ?_
  intro v61 n62 c63
  refine gr_dup (b := gB) (pc := 103) (show decode (gy_b gY_7) 103 = .ok (.dup, 1) by decide +kernel) rfl ?_
  refine gj_nn (fun hx104 => ?_)
  refine gj_c0 (pc := 104) (Y' := gY_5) (y := yX6_init) (vs := [gR 6 (v61)]) (rest := [gR 6 (v61), gR 7 (l0)]) (rs := fun v64 => [gR 6 (v61), gR 7 (l0)]) [gR 6 (v61)] rfl (hm_5 hG (v61)) rfl (gh_IN (t := 6) (vs := []) (rest := [gR 6 (v61), gR 7 (l0)]) (show decode (gy_b gY_7) 104 = .ok (.invokespecial 54, 3) by decide +kernel) rfl hx104 rfl (ok_5 (by decide) (by decide)) rfl rfl rfl rfl wd_222 wd_223 (Nat.le_of_ble_eq_true rfl)) (fun _ => rfl) ?_
  intro v64 M65 n66 c67
  refine gr_putF (pc := 107) (index := 59) (t := 7) (j := 9) (σ := 14) (sv := (gR 6)) (f := gx_f0) (ty := .object "Farfiles$Path") (show decode (gy_b gY_7) 107 = .ok (.putfield 59, 3) by decide +kernel) rfl rfl (fun _ => rfl) wd_303 rfl gv_o rfl (fun _ _ _ _ _ _ _ X => gx_nm X) rfl ?_
  intro M68
  refine gr_aload_n (pc := 110) (i := 0) 7 (l0) (show decode (gy_b gY_7) 110 = .ok (.aload_n 0, 1) by decide +kernel) rfl rfl ?_
  refine gr_newo (pc := 111) (index := 36) (t := 1) (show decode (gy_b gY_7) 111 = .ok (.new 36, 3) by decide +kernel) rfl wd_218 wd_125 wd_55 ?_
  intro v69 n70 c71
  refine gr_dup (b := gB) (pc := 114) (show decode (gy_b gY_7) 114 = .ok (.dup, 1) by decide +kernel) rfl ?_
  refine gj_nn (fun hx115 => ?_)
  refine gj_c0 (pc := 115) (Y' := gY_1) (y := yX1_init) (vs := [gR 1 (v69)]) (rest := [gR 1 (v69), gR 7 (l0)]) (rs := fun v72 => [gR 1 (v69), gR 7 (l0)]) [gR 1 (v69)] rfl (hm_1 hG (v69)) rfl (gh_IN (t := 1) (vs := []) (rest := [gR 1 (v69), gR 7 (l0)]) (show decode (gy_b gY_7) 115 = .ok (.invokespecial 62, 3) by decide +kernel) rfl hx115 rfl (ok_1 (by decide) (by decide)) rfl rfl rfl rfl wd_244 wd_127 (Nat.le_of_ble_eq_true rfl)) (fun _ => rfl) ?_
  intro v72 M73 n74 c75
  refine gr_putF (pc := 118) (index := 63) (t := 7) (j := 10) (σ := 9) (sv := (gR 1)) (f := gx_f0) (ty := .object "Farfiles$ActSet") (show decode (gy_b gY_7) 118 = .ok (.putfield 63, 3) by decide +kernel) rfl rfl (fun _ => rfl) wd_304 rfl gv_o rfl (fun _ _ _ _ _ _ _ X => gx_nm X) rfl ?_
  intro M76
  refine gr_aload_n (pc := 121) (i := 0) 7 (l0) (show decode (gy_b gY_7) 121 = .ok (.aload_n 0, 1) by decide +kernel) rfl rfl ?_
  refine gr_bipush (pc := 122) (z := 49) 49 (show decode (gy_b gY_7) 122 = .ok (.bipush (49), 2) by decide +kernel) (by decide +kernel) ?_
  refine gr_newZ (pc := 124) (show decode (gy_b gY_7) 124 = .ok (.newarray .boolean, 2) by decide +kernel) wd_243 ?_
  intro v77 M78 n79 c80
  refine gr_putF (pc := 126) (index := 67) (t := 7) (j := 11) (σ := 74) (sv := (gR 66)) (f := gx_f0) (ty := .array (.boolean)) (show decode (gy_b gY_7) 126 = .ok (.putfield 67, 3) by decide +kernel) rfl rfl (fun _ => rfl) wd_305 rfl gv_a rfl (fun _ _ _ _ _ _ _ X => gx_nm X) rfl ?_
  intro M81
  refine gr_aload_n (pc := 129) (i := 0) 7 (l0) (show decode (gy_b gY_7) 129 = .ok (.aload_n 0, 1) by decide +kernel) rfl rfl ?_
  refine gr_bipush (pc := 130) (z := 49) 49 (show decode (gy_b gY_7) 130 = .ok (.bipush (49), 2) by decide +kernel) (by decide +kernel) ?_
  refine gr_newZ (pc := 132) (show decode (gy_b gY_7) 132 = .ok (.newarray .boolean, 2) by decide +kernel) wd_243 ?_
  intro v82 M83 n84 c85
  refine gr_putF (pc := 134) (index := 70) (t := 7) (j := 12) (σ := 74) (sv := (gR 66)) (f := gx_f0) (ty := .array (.boolean)) (show decode (gy_b gY_7) 134 = .ok (.putfield 70, 3) by decide +kernel) rfl rfl (fun _ => rfl) wd_306 rfl gv_a rfl (fun _ _ _ _ _ _ _ X => gx_nm X) rfl ?_
  intro M86
  exact h_7_L137 hG (l0) M86 n84 c85
noncomputable def fi_7_L50 (K : Nat → Nat → Nat → Nat → Bool) (l0 s0 s1 M n c : Nat) : Bool := gx_put (s0) 4 (s1) M gx_f0 (fun M34 => gx_nea (3) M34 n c (fun v35 M36 n37 c38 => gx_ast (v35) (0) (1) M36 gx_f2 (fun M39 => gx_ast (v35) (1) (1) M39 gx_f2 (fun M40 => gx_ast (v35) (2) (1) M40 gx_f2 (fun M41 => gx_put (l0) 5 (v35) M41 gx_f0 (fun M42 => gx_nea (49) M42 n37 c38 (fun v43 M44 n45 c46 => gx_put (l0) 6 (v43) M44 gx_f0 (fun M47 => gx_nea (49) M47 n45 c46 (fun v48 M49 n50 c51 => fi_7_L85 K (l0) (l0) (v48) M49 n50 c51)))))))))
theorem h_7_L50 {G : gxG} (hG : gxG0 G) {K : Nat → Nat → Nat → Nat → Bool} (l0 s0 s1 M n c : Nat) : gxJ G gY_7 K 50 [gR 70 (s1), gR 7 (s0)] [gR 7 (l0), gB] M n c (fi_7_L50 K l0 s0 s1 M n c) := by
  unfold fi_7_L50
  refine gr_putF (pc := 50) (index := 38) (t := 7) (j := 4) (σ := 78) (sv := (gR 70)) (f := gx_f0) (ty := .array (.object "Farfiles$ActSet")) (show decode (gy_b gY_7) 50 = .ok (.putfield 38, 3) by decide +kernel) rfl rfl (fun _ => rfl) wd_298 rfl gv_a rfl (fun _ _ _ _ _ _ _ X => gx_nm X) rfl ?_
  intro M34
  refine gr_aload_n (pc := 53) (i := 0) 7 (l0) (show decode (gy_b gY_7) 53 = .ok (.aload_n 0, 1) by decide +kernel) rfl rfl ?_
  refine gr_iconst (pc := 54) (z := 3) 3 (show decode (gy_b gY_7) 54 = .ok (.iconst (3), 1) by decide +kernel) kc_3 ?_
  refine gr_newZ (pc := 55) (show decode (gy_b gY_7) 55 = .ok (.newarray .boolean, 2) by decide +kernel) wd_243 ?_
  intro v35 M36 n37 c38
  refine gr_dup (b := gB) (pc := 57) (show decode (gy_b gY_7) 57 = .ok (.dup, 1) by decide +kernel) rfl ?_
  refine gr_iconst (pc := 58) (z := 0) 0 (show decode (gy_b gY_7) 58 = .ok (.iconst (0), 1) by decide +kernel) kc_0 ?_
  refine gr_iconst (pc := 59) (z := 1) 1 (show decode (gy_b gY_7) 59 = .ok (.iconst (1), 1) by decide +kernel) kc_1 ?_
  refine gr_zast (pc := 60) hG.2.1 (show decode (gy_b gY_7) 60 = .ok (.bastore, 1) by decide +kernel) ?_
  intro M39
  refine gr_dup (b := gB) (pc := 61) (show decode (gy_b gY_7) 61 = .ok (.dup, 1) by decide +kernel) rfl ?_
  refine gr_iconst (pc := 62) (z := 1) 1 (show decode (gy_b gY_7) 62 = .ok (.iconst (1), 1) by decide +kernel) kc_1 ?_
  refine gr_iconst (pc := 63) (z := 1) 1 (show decode (gy_b gY_7) 63 = .ok (.iconst (1), 1) by decide +kernel) kc_1 ?_
  refine gr_zast (pc := 64) hG.2.1 (show decode (gy_b gY_7) 64 = .ok (.bastore, 1) by decide +kernel) ?_
  intro M40
  refine gr_dup (b := gB) (pc := 65) (show decode (gy_b gY_7) 65 = .ok (.dup, 1) by decide +kernel) rfl ?_
  refine gr_iconst (pc := 66) (z := 2) 2 (show decode (gy_b gY_7) 66 = .ok (.iconst (2), 1) by decide +kernel) kc_2 ?_
  refine gr_iconst (pc := 67) (z := 1) 1 (show decode (gy_b gY_7) 67 = .ok (.iconst (1), 1) by decide +kernel) kc_1 ?_
  refine gr_zast (pc := 68) hG.2.1 (show decode (gy_b gY_7) 68 = .ok (.bastore, 1) by decide +kernel) ?_
  intro M41
  refine gr_putF (pc := 69) (index := 42) (t := 7) (j := 5) (σ := 74) (sv := (gR 66)) (f := gx_f0) (ty := .array (.boolean)) (show decode (gy_b gY_7) 69 = .ok (.putfield 42, 3) by decide +kernel) rfl rfl (fun _ => rfl) wd_299 rfl gv_a rfl (fun _ _ _ _ _ _ _ X => gx_nm X) rfl ?_
  intro M42
  refine gr_aload_n (pc := 72) (i := 0) 7 (l0) (show decode (gy_b gY_7) 72 = .ok (.aload_n 0, 1) by decide +kernel) rfl rfl ?_
  refine gr_bipush (pc := 73) (z := 49) 49 (show decode (gy_b gY_7) 73 = .ok (.bipush (49), 2) by decide +kernel) (by decide +kernel) ?_
  refine gr_newZ (pc := 75) (show decode (gy_b gY_7) 75 = .ok (.newarray .boolean, 2) by decide +kernel) wd_243 ?_
  intro v43 M44 n45 c46
  refine gr_putF (pc := 77) (index := 46) (t := 7) (j := 6) (σ := 74) (sv := (gR 66)) (f := gx_f0) (ty := .array (.boolean)) (show decode (gy_b gY_7) 77 = .ok (.putfield 46, 3) by decide +kernel) rfl rfl (fun _ => rfl) wd_300 rfl gv_a rfl (fun _ _ _ _ _ _ _ X => gx_nm X) rfl ?_
  intro M47
  refine gr_aload_n (pc := 80) (i := 0) 7 (l0) (show decode (gy_b gY_7) 80 = .ok (.aload_n 0, 1) by decide +kernel) rfl rfl ?_
  refine gr_bipush (pc := 81) (z := 49) 49 (show decode (gy_b gY_7) 81 = .ok (.bipush (49), 2) by decide +kernel) (by decide +kernel) ?_
  refine gr_newZ (pc := 83) (show decode (gy_b gY_7) 83 = .ok (.newarray .boolean, 2) by decide +kernel) wd_243 ?_
  intro v48 M49 n50 c51
  exact h_7_L85 hG (l0) (l0) (v48) M49 n50 c51
noncomputable def fi_7_L0 (K : Nat → Nat → Nat → Nat → Bool) (l0 M n c : Nat) : Bool := gx_nn (l0) (gx_new 2 n c (fun v1 n2 c3 => gx_nn (v1) (fi_0 (v1) M n2 c3 (fun v4 M5 n6 c7 => gx_put (l0) 0 (v1) M5 gx_f0 (fun M8 => gx_new 5 n6 c7 (fun v9 n10 c11 => gx_nn (v9) (fi_3 (v9) M8 n10 c11 (fun v12 M13 n14 c15 => gx_put (l0) 1 (v9) M13 gx_f0 (fun M16 => gx_new 4 n14 c15 (fun v17 n18 c19 => gx_nn (v17) (fi_4 (v17) M16 n18 c19 (fun v20 M21 n22 c23 => gx_put (l0) 2 (v17) M21 gx_f0 (fun M24 => gx_nea (4) M24 n22 c23 (fun v25 M26 n27 c28 => gx_put (l0) 3 (v25) M26 gx_f0 (fun M29 => gx_nea (3) M29 n27 c28 (fun v30 M31 n32 c33 => fi_7_L50 K (l0) (l0) (v30) M31 n32 c33))))))))))))))))
theorem h_7_L0 {G : gxG} (hG : gxG0 G) {K : Nat → Nat → Nat → Nat → Bool} (l0 M n c : Nat) : gxJ G gY_7 K 0 [] [gR 7 (l0), gB] M n c (fi_7_L0 K l0 M n c) := by
  unfold fi_7_L0
  refine gr_aload_n (pc := 0) (i := 0) 7 (l0) (show decode (gy_b gY_7) 0 = .ok (.aload_n 0, 1) by decide +kernel) rfl rfl ?_
  refine gr_objInit (pc := 1) (index := 1) (t := 7) (show decode (gy_b gY_7) 1 = .ok (.invokespecial 1, 3) by decide +kernel) wd_93 wd_86 wd_87 (by decide) (by decide) (Nat.le_of_ble_eq_true rfl) ?_
  refine gr_aload_n (pc := 4) (i := 0) 7 (l0) (show decode (gy_b gY_7) 4 = .ok (.aload_n 0, 1) by decide +kernel) rfl rfl ?_
  refine gr_newo (pc := 5) (index := 7) (t := 4) (show decode (gy_b gY_7) 5 = .ok (.new 7, 3) by decide +kernel) rfl wd_94 wd_95 wd_52 ?_
  intro v1 n2 c3
  refine gr_dup (b := gB) (pc := 8) (show decode (gy_b gY_7) 8 = .ok (.dup, 1) by decide +kernel) rfl ?_
  refine gj_nn (fun hx9 => ?_)
  refine gj_c0 (pc := 9) (Y' := gY_0) (y := yX4_init) (vs := [gR 4 (v1)]) (rest := [gR 4 (v1), gR 7 (l0)]) (rs := fun v4 => [gR 4 (v1), gR 7 (l0)]) [gR 4 (v1)] rfl (hm_0 hG (v1)) rfl (gh_IN (t := 4) (vs := []) (rest := [gR 4 (v1), gR 7 (l0)]) (show decode (gy_b gY_7) 9 = .ok (.invokespecial 9, 3) by decide +kernel) rfl hx9 rfl (ok_0 (by decide) (by decide)) rfl rfl rfl rfl wd_96 wd_97 (Nat.le_of_ble_eq_true rfl)) (fun _ => rfl) ?_
  intro v4 M5 n6 c7
  refine gr_putF (pc := 12) (index := 10) (t := 7) (j := 0) (σ := 12) (sv := (gR 4)) (f := gx_f0) (ty := .object "Farfiles$Line") (show decode (gy_b gY_7) 12 = .ok (.putfield 10, 3) by decide +kernel) rfl rfl (fun _ => rfl) wd_294 rfl gv_o rfl (fun _ _ _ _ _ _ _ X => gx_nm X) rfl ?_
  intro M8
  refine gr_aload_n (pc := 15) (i := 0) 7 (l0) (show decode (gy_b gY_7) 15 = .ok (.aload_n 0, 1) by decide +kernel) rfl rfl ?_
  refine gr_newo (pc := 16) (index := 16) (t := 5) (show decode (gy_b gY_7) 16 = .ok (.new 16, 3) by decide +kernel) rfl wd_109 wd_110 wd_53 ?_
  intro v9 n10 c11
  refine gr_dup (b := gB) (pc := 19) (show decode (gy_b gY_7) 19 = .ok (.dup, 1) by decide +kernel) rfl ?_
  refine gj_nn (fun hx20 => ?_)
  refine gj_c0 (pc := 20) (Y' := gY_3) (y := yX5_init) (vs := [gR 5 (v9)]) (rest := [gR 5 (v9), gR 7 (l0)]) (rs := fun v12 => [gR 5 (v9), gR 7 (l0)]) [gR 5 (v9)] rfl (hm_3 hG (v9)) rfl (gh_IN (t := 5) (vs := []) (rest := [gR 5 (v9), gR 7 (l0)]) (show decode (gy_b gY_7) 20 = .ok (.invokespecial 18, 3) by decide +kernel) rfl hx20 rfl (ok_3 (by decide) (by decide)) rfl rfl rfl rfl wd_111 wd_112 (Nat.le_of_ble_eq_true rfl)) (fun _ => rfl) ?_
  intro v12 M13 n14 c15
  refine gr_putF (pc := 23) (index := 19) (t := 7) (j := 1) (σ := 13) (sv := (gR 5)) (f := gx_f0) (ty := .object "Farfiles$Log") (show decode (gy_b gY_7) 23 = .ok (.putfield 19, 3) by decide +kernel) rfl rfl (fun _ => rfl) wd_295 rfl gv_o rfl (fun _ _ _ _ _ _ _ X => gx_nm X) rfl ?_
  intro M16
  refine gr_aload_n (pc := 26) (i := 0) 7 (l0) (show decode (gy_b gY_7) 26 = .ok (.aload_n 0, 1) by decide +kernel) rfl rfl ?_
  refine gr_newo (pc := 27) (index := 23) (t := 2) (show decode (gy_b gY_7) 27 = .ok (.new 23, 3) by decide +kernel) rfl wd_193 wd_194 wd_56 ?_
  intro v17 n18 c19
  refine gr_dup (b := gB) (pc := 30) (show decode (gy_b gY_7) 30 = .ok (.dup, 1) by decide +kernel) rfl ?_
  refine gj_nn (fun hx31 => ?_)
  refine gj_c0 (pc := 31) (Y' := gY_4) (y := yX2_init) (vs := [gR 2 (v17)]) (rest := [gR 2 (v17), gR 7 (l0)]) (rs := fun v20 => [gR 2 (v17), gR 7 (l0)]) [gR 2 (v17)] rfl (hm_4 hG (v17)) rfl (gh_IN (t := 2) (vs := []) (rest := [gR 2 (v17), gR 7 (l0)]) (show decode (gy_b gY_7) 31 = .ok (.invokespecial 25, 3) by decide +kernel) rfl hx31 rfl (ok_4 (by decide) (by decide)) rfl rfl rfl rfl wd_195 wd_196 (Nat.le_of_ble_eq_true rfl)) (fun _ => rfl) ?_
  intro v20 M21 n22 c23
  refine gr_putF (pc := 34) (index := 26) (t := 7) (j := 2) (σ := 10) (sv := (gR 2)) (f := gx_f0) (ty := .object "Farfiles$Answers") (show decode (gy_b gY_7) 34 = .ok (.putfield 26, 3) by decide +kernel) rfl rfl (fun _ => rfl) wd_296 rfl gv_o rfl (fun _ _ _ _ _ _ _ X => gx_nm X) rfl ?_
  intro M24
  refine gr_aload_n (pc := 37) (i := 0) 7 (l0) (show decode (gy_b gY_7) 37 = .ok (.aload_n 0, 1) by decide +kernel) rfl rfl ?_
  refine gr_iconst (pc := 38) (z := 4) 4 (show decode (gy_b gY_7) 38 = .ok (.iconst (4), 1) by decide +kernel) kc_4 ?_
  refine gr_newq (pc := 39) (index := 30) (κ := 7) (C := "Farfiles$Client") (show decode (gy_b gY_7) 39 = .ok (.anewarray 30, 3) by decide +kernel) wd_216 wd_217 (by decide) rfl ?_
  intro v25 M26 n27 c28
  refine gr_putF (pc := 42) (index := 32) (t := 7) (j := 3) (σ := 79) (sv := (gR 71)) (f := gx_f0) (ty := .array (.object "Farfiles$Client")) (show decode (gy_b gY_7) 42 = .ok (.putfield 32, 3) by decide +kernel) rfl rfl (fun _ => rfl) wd_297 rfl gv_a rfl (fun _ _ _ _ _ _ _ X => gx_nm X) rfl ?_
  intro M29
  refine gr_aload_n (pc := 45) (i := 0) 7 (l0) (show decode (gy_b gY_7) 45 = .ok (.aload_n 0, 1) by decide +kernel) rfl rfl ?_
  refine gr_iconst (pc := 46) (z := 3) 3 (show decode (gy_b gY_7) 46 = .ok (.iconst (3), 1) by decide +kernel) kc_3 ?_
  refine gr_newq (pc := 47) (index := 36) (κ := 6) (C := "Farfiles$ActSet") (show decode (gy_b gY_7) 47 = .ok (.anewarray 36, 3) by decide +kernel) wd_218 wd_219 (by decide) rfl ?_
  intro v30 M31 n32 c33
  exact h_7_L50 hG (l0) (l0) (v30) M31 n32 c33
noncomputable def fi_7 (l0 M n c : Nat) (K : Nat → Nat → Nat → Nat → Bool) : Bool := fi_7_L0 K l0 M n c
theorem hm_7 {G : gxG} (hG : gxG0 G) (l0 : Nat) : gxM G gY_7 yX7_init [gR 7 (l0)] (fi_7 l0) := gxM_of (L := [gR 7 (l0), gB]) hG 1 (by decide +kernel) rfl rfl rfl rfl (List.forall_mem_cons.mpr ⟨rfl, fun _ h => nomatch h⟩) (fun M n c K => h_7_L0 hG  l0 M n c)
/-! FarfilesLaw <init> ()V -/
def gY_8 : gxY := (false, method_1_code, 1, (Option.none : Option FieldType), "FarfilesLaw", 5, 127, 5, [], "<init>")
theorem ok_8 {Y : gxY} (h1 : gy_f gY_8 + 1 ≤ gy_f Y) (h2 : 8 + (gy_l gY_8 + 11) + gy_k gY_8 ≤ gy_k Y) : gh_ok Y gY_8 yL_init 0 := ⟨wd_84, wd_50, ⟨by decide, by decide⟩, by decide +kernel, h1, h2⟩
noncomputable def fi_8_L0 (K : Nat → Nat → Nat → Nat → Bool) (l0 M n c : Nat) : Bool := gx_nn (l0) (gx_new 16 n c (fun v1 n2 c3 => gx_nn (v1) (fi_7 (v1) M n2 c3 (fun v4 M5 n6 c7 => gx_put (l0) 3 (v1) M5 gx_f0 (fun M8 => K 0 M8 n6 c7)))))
theorem h_8_L0 {G : gxG} (hG : gxG0 G) {K : Nat → Nat → Nat → Nat → Bool} (l0 M n c : Nat) : gxJ G gY_8 K 0 [] [gR 10 (l0)] M n c (fi_8_L0 K l0 M n c) := by
  unfold fi_8_L0
  refine gr_aload_n (pc := 0) (i := 0) 10 (l0) (show decode (gy_b gY_8) 0 = .ok (.aload_n 0, 1) by decide +kernel) rfl rfl ?_
  refine gr_objInit (pc := 1) (index := 1) (t := 10) (show decode (gy_b gY_8) 1 = .ok (.invokespecial 1, 3) by decide +kernel) wd_85 wd_86 wd_87 (by decide) (by decide) (Nat.le_of_ble_eq_true rfl) ?_
  refine gr_aload_n (pc := 4) (i := 0) 10 (l0) (show decode (gy_b gY_8) 4 = .ok (.aload_n 0, 1) by decide +kernel) rfl rfl ?_
  refine gr_newo (pc := 5) (index := 7) (t := 7) (show decode (gy_b gY_8) 5 = .ok (.new 7, 3) by decide +kernel) rfl wd_88 wd_89 wd_51 ?_
  intro v1 n2 c3
  refine gr_dup (b := gB) (pc := 8) (show decode (gy_b gY_8) 8 = .ok (.dup, 1) by decide +kernel) rfl ?_
  refine gj_nn (fun hx9 => ?_)
  refine gj_c0 (pc := 9) (Y' := gY_7) (y := yX7_init) (vs := [gR 7 (v1)]) (rest := [gR 7 (v1), gR 10 (l0)]) (rs := fun v4 => [gR 7 (v1), gR 10 (l0)]) [gR 7 (v1)] rfl (hm_7 hG (v1)) rfl (gh_I (t := 7) (vs := []) (rest := [gR 7 (v1), gR 10 (l0)]) (show decode (gy_b gY_8) 9 = .ok (.invokespecial 9, 3) by decide +kernel) rfl hx9 rfl (ok_7 (by decide) (by decide)) rfl rfl rfl rfl wd_90 wd_91 (Nat.le_of_ble_eq_true rfl)) (fun _ => rfl) ?_
  intro v4 M5 n6 c7
  refine gr_putF (pc := 12) (index := 10) (t := 10) (j := 3) (σ := 15) (sv := (gR 7)) (f := gx_f0) (ty := .object "Farfiles") (show decode (gy_b gY_8) 12 = .ok (.putfield 10, 3) by decide +kernel) rfl rfl (fun _ => rfl) wd_346 rfl gv_o rfl (fun _ _ _ _ _ _ _ X => gx_nm X) rfl ?_
  intro M8
  exact gr_return (pc := 15) (show decode (gy_b gY_8) 15 = .ok (.return_, 1) by decide +kernel) rfl rfl
noncomputable def fi_8 (l0 M n c : Nat) (K : Nat → Nat → Nat → Nat → Bool) : Bool := fi_8_L0 K l0 M n c
theorem hm_8 {G : gxG} (hG : gxG0 G) (l0 : Nat) : gxM G gY_8 yL_init [gR 10 (l0)] (fi_8 l0) := gxM_of (L := [gR 10 (l0)]) hG 0 (by decide +kernel) rfl rfl rfl rfl (List.forall_mem_cons.mpr ⟨rfl, fun _ h => nomatch h⟩) (fun M n c K => h_8_L0 hG  l0 M n c)
/-! java/lang/AbstractStringBuilder <init> (I)V -/
def gY_9 : gxY := (false, prog_18_method_2_code, 2, (Option.none : Option FieldType), "java/lang/AbstractStringBuilder", 1, 40, 5, [], "<init>")
theorem ok_9 {Y : gxY} (h1 : gy_f gY_9 + 1 ≤ gy_f Y) (h2 : 8 + (gy_l gY_9 + 11) + gy_k gY_9 ≤ gy_k Y) : gh_ok Y gY_9 yJ5_init_d00df 1 := ⟨wd_397, wd_59, ⟨by decide, by decide⟩, by decide +kernel, h1, h2⟩
noncomputable def fi_9_L0 (K : Nat → Nat → Nat → Nat → Bool) (l0 l1 M n c : Nat) : Bool := gx_nn (l0) (gx_eq (1) 0 (false) (gx_nea (l1) M n c (fun v1 M2 n3 c4 => gx_put (l0) 0 (v1) M2 gx_f0 (fun M5 => gx_put (l0) 1 (0) M5 gx_f3 (fun M6 => K 0 M6 n3 c4)))))
theorem h_9_L0 {G : gxG} (hG : gxG0 G) {K : Nat → Nat → Nat → Nat → Bool} (l0 l1 M n c : Nat) : gxJ G gY_9 K 0 [] [gR 9 (l0), gI (l1)] M n c (fi_9_L0 K l0 l1 M n c) := by
  unfold fi_9_L0
  refine gr_aload_n (pc := 0) (i := 0) 9 (l0) (show decode (gy_b gY_9) 0 = .ok (.aload_n 0, 1) by decide +kernel) rfl rfl ?_
  refine gr_objInit (pc := 1) (index := 3) (t := 9) (show decode (gy_b gY_9) 1 = .ok (.invokespecial 3, 3) by decide +kernel) wd_398 wd_86 wd_87 (by decide) (by decide) (Nat.le_of_ble_eq_true rfl) ?_
  refine gr_compact (pc := 4) (index := 18) (show decode (gy_b gY_9) 4 = .ok (.getstatic 18, 3) by decide +kernel) wd_399 ?_
  refine gr_ifeq (pc := 7) (tgt := 25) (off := 18) hG.2.1 (show decode (gy_b gY_9) 7 = .ok (.ifCond .eq (18), 3) by decide +kernel) (by decide) ?_ ?_
  · exact gj_false
  · refine gr_aload_n (pc := 10) (i := 0) 9 (l0) (show decode (gy_b gY_9) 10 = .ok (.aload_n 0, 1) by decide +kernel) rfl rfl ?_
    refine gr_iload_n (pc := 11) (i := 1) (l1) (show decode (gy_b gY_9) 11 = .ok (.iload_n 1, 1) by decide +kernel) rfl rfl ?_
    refine gr_newB (pc := 12) (show decode (gy_b gY_9) 12 = .ok (.newarray .byte, 2) by decide +kernel) wd_421 ?_
    intro v1 M2 n3 c4
    refine gr_putf (pc := 14) (index := 15) (t := 9) (j := 0) (σ := 75) (sv := (gR 67)) (f := gx_f0) (ty := .array (.byte)) (show decode (gy_b gY_9) 14 = .ok (.putfield 15, 3) by decide +kernel) rfl rfl (fun _ => rfl) wd_408 rfl gv_a rfl ?_
    intro M5
    refine gr_aload_n (pc := 17) (i := 0) 9 (l0) (show decode (gy_b gY_9) 17 = .ok (.aload_n 0, 1) by decide +kernel) rfl rfl ?_
    refine gr_iconst (pc := 18) (z := 0) 0 (show decode (gy_b gY_9) 18 = .ok (.iconst (0), 1) by decide +kernel) kc_0 ?_
    refine gr_putf (pc := 19) (index := 22) (t := 9) (j := 1) (σ := 3) (sv := gI) (f := gx_f3) (ty := .byte) (show decode (gy_b gY_9) 19 = .ok (.putfield 22, 3) by decide +kernel) rfl rfl (fun _ => rfl) wd_409 rfl (gv_3 hG.2.1) rfl ?_
    intro M6
    refine gr_goto (pc := 22) (tgt := 38) (off := 16) (show decode (gy_b gY_9) 22 = .ok (.goto (16), 3) by decide +kernel) (by decide) ?_
    exact gr_return (pc := 38) (show decode (gy_b gY_9) 38 = .ok (.return_, 1) by decide +kernel) rfl rfl
noncomputable def fi_9 (l0 l1 M n c : Nat) (K : Nat → Nat → Nat → Nat → Bool) : Bool := fi_9_L0 K l0 l1 M n c
theorem hm_9 {G : gxG} (hG : gxG0 G) (l0 l1 : Nat) : gxM G gY_9 yJ5_init_d00df [gR 9 (l0), gI (l1)] (fi_9 l0 l1) := gxM_of (L := [gR 9 (l0), gI (l1)]) hG 0 (by decide +kernel) rfl rfl rfl rfl (List.forall_mem_cons.mpr ⟨rfl, List.forall_mem_cons.mpr ⟨rfl, fun _ h => nomatch h⟩⟩) (fun M n c K => h_9_L0 hG  l0 l1 M n c)
/-! java/lang/StringBuilder <init> ()V -/
def gY_10 : gxY := (false, prog_33_method_1_code, 1, (Option.none : Option FieldType), "java/lang/StringBuilder", 2, 61, 5, [], "<init>")
theorem ok_10 {Y : gxY} (h1 : gy_f gY_10 + 1 ≤ gy_f Y) (h2 : 8 + (gy_l gY_10 + 11) + gy_k gY_10 ≤ gy_k Y) : gh_ok Y gY_10 yJ4_init_da8c8 0 := ⟨wd_394, wd_60, ⟨by decide, by decide⟩, by decide +kernel, h1, h2⟩
noncomputable def fi_10_L0 (K : Nat → Nat → Nat → Nat → Bool) (l0 M n c : Nat) : Bool := gx_nn (l0) (fi_9 (l0) (16) M n c (fun v1 M2 n3 c4 => K 0 M2 n3 c4))
theorem h_10_L0 {G : gxG} (hG : gxG0 G) {K : Nat → Nat → Nat → Nat → Bool} (l0 M n c : Nat) : gxJ G gY_10 K 0 [] [gR 9 (l0)] M n c (fi_10_L0 K l0 M n c) := by
  unfold fi_10_L0
  refine gr_aload_n (pc := 0) (i := 0) 9 (l0) (show decode (gy_b gY_10) 0 = .ok (.aload_n 0, 1) by decide +kernel) rfl rfl ?_
  refine gr_bipush (pc := 1) (z := 16) 16 (show decode (gy_b gY_10) 1 = .ok (.bipush (16), 2) by decide +kernel) (by decide +kernel) ?_
  refine gj_nn (fun hx3 => ?_)
  refine gj_c0 (pc := 3) (Y' := gY_9) (y := yJ5_init_d00df) (vs := [gR 9 (l0), gI (16)]) (rest := []) (rs := fun v1 => []) [gI (16), gR 9 (l0)] rfl (hm_9 hG (l0) (16)) rfl (gh_I (t := 9) (vs := [gI (16)]) (rest := []) (show decode (gy_b gY_10) 3 = .ok (.invokespecial 1, 3) by decide +kernel) rfl hx3 rfl (ok_9 (by decide) (by decide)) rfl rfl rfl rfl wd_395 wd_396 (Nat.le_of_ble_eq_true rfl)) (fun _ => rfl) ?_
  intro v1 M2 n3 c4
  exact gr_return (pc := 6) (show decode (gy_b gY_10) 6 = .ok (.return_, 1) by decide +kernel) rfl rfl
noncomputable def fi_10 (l0 M n c : Nat) (K : Nat → Nat → Nat → Nat → Bool) : Bool := fi_10_L0 K l0 M n c
theorem hm_10 {G : gxG} (hG : gxG0 G) (l0 : Nat) : gxM G gY_10 yJ4_init_da8c8 [gR 9 (l0)] (fi_10 l0) := gxM_of (L := [gR 9 (l0)]) hG 0 (by decide +kernel) rfl rfl rfl rfl (List.forall_mem_cons.mpr ⟨rfl, fun _ h => nomatch h⟩) (fun M n c K => h_10_L0 hG  l0 M n c)
/-! java/lang/String coder ()B -/
def gY_11 : gxY := (false, prog_32_method_152_code, 1, (Option.some Jvm.ClassFile.FieldType.byte), "java/lang/String", 1, 40, 3, [], "coder")
theorem ok_11 {Y : gxY} (h1 : gy_f gY_11 + 1 ≤ gy_f Y) (h2 : 8 + (gy_l gY_11 + 11) + gy_k gY_11 ≤ gy_k Y) : gh_ok Y gY_11 yJ0_coder_7d493 0 := ⟨wd_507, wd_61, ⟨by decide, by decide⟩, by decide +kernel, h1, h2⟩
noncomputable def fi_11_L0 (K : Nat → Nat → Nat → Nat → Bool) (l0 M n c : Nat) : Bool := gx_eq (1) 0 (false) (gx_get (l0) 1 M (fun v1 => gx_rt gx_f3 (v1) (K (v1) M n c)))
theorem h_11_L0 {G : gxG} (hG : gxG0 G) {K : Nat → Nat → Nat → Nat → Bool} (l0 M n c : Nat) : gxJ G gY_11 K 0 [] [gR 8 (l0)] M n c (fi_11_L0 K l0 M n c) := by
  unfold fi_11_L0
  refine gr_compact (pc := 0) (index := 38) (show decode (gy_b gY_11) 0 = .ok (.getstatic 38, 3) by decide +kernel) wd_508 ?_
  refine gr_ifeq (pc := 3) (tgt := 13) (off := 10) hG.2.1 (show decode (gy_b gY_11) 3 = .ok (.ifCond .eq (10), 3) by decide +kernel) (by decide) ?_ ?_
  · exact gj_false
  · refine gr_aload_n (pc := 6) (i := 0) 8 (l0) (show decode (gy_b gY_11) 6 = .ok (.aload_n 0, 1) by decide +kernel) rfl rfl ?_
    refine gr_getf (pc := 7) (index := 15) (t := 8) (j := 1) (σ := 3) (sv := gI) (show decode (gy_b gY_11) 7 = .ok (.getfield 15, 3) by decide +kernel) rfl rfl (fun _ => rfl) wd_615 (by decide) ?_
    intro v1
    refine gr_goto (pc := 10) (tgt := 14) (off := 4) (show decode (gy_b gY_11) 10 = .ok (.goto (4), 3) by decide +kernel) (by decide) ?_
    exact gr_ireturn (pc := 14) (show decode (gy_b gY_11) 14 = .ok (.ireturn, 1) by decide +kernel) rfl rfl (by decide) (gv_3 hG.2.1)
noncomputable def fi_11 (l0 M n c : Nat) (K : Nat → Nat → Nat → Nat → Bool) : Bool := fi_11_L0 K l0 M n c
theorem hm_11 {G : gxG} (hG : gxG0 G) (l0 : Nat) : gxM G gY_11 yJ0_coder_7d493 [gR 8 (l0)] (fi_11 l0) := gxM_of (L := [gR 8 (l0)]) hG 0 (by decide +kernel) rfl rfl rfl rfl (List.forall_mem_cons.mpr ⟨rfl, fun _ h => nomatch h⟩) (fun M n c K => h_11_L0 hG  l0 M n c)
/-! java/lang/String length ()I -/
def gY_12 : gxY := (false, prog_32_method_54_code, 1, (Option.some Jvm.ClassFile.FieldType.int), "java/lang/String", 2, 60, 0, [], "length")
theorem ok_12 {Y : gxY} (h1 : gy_f gY_12 + 1 ≤ gy_f Y) (h2 : 8 + (gy_l gY_12 + 11) + gy_k gY_12 ≤ gy_k Y) : gh_ok Y gY_12 yJ0_length_8abf5 0 := ⟨wd_503, wd_61, ⟨by decide, by decide⟩, by decide +kernel, h1, h2⟩
noncomputable def fi_12_L0 (K : Nat → Nat → Nat → Nat → Bool) (l0 M n c : Nat) : Bool := gx_get (l0) 0 M (fun v1 => gx_len (v1) M (fun v2 => gx_nn (l0) (fi_11 (l0) M n c (fun v3 M4 n5 c6 => gx_shr (v2) (v3) (fun z7 => gx_rt gx_f0 (z7) (K (z7) M4 n5 c6))))))
theorem h_12_L0 {G : gxG} (hG : gxG0 G) {K : Nat → Nat → Nat → Nat → Bool} (l0 M n c : Nat) : gxJ G gY_12 K 0 [] [gR 8 (l0)] M n c (fi_12_L0 K l0 M n c) := by
  unfold fi_12_L0
  refine gr_aload_n (pc := 0) (i := 0) 8 (l0) (show decode (gy_b gY_12) 0 = .ok (.aload_n 0, 1) by decide +kernel) rfl rfl ?_
  refine gr_getf (pc := 1) (index := 9) (t := 8) (j := 0) (σ := 75) (sv := (gR 67)) (show decode (gy_b gY_12) 1 = .ok (.getfield 9, 3) by decide +kernel) rfl rfl (fun _ => rfl) wd_614 (by decide) ?_
  intro v1
  refine gr_alen (pc := 4) (κ := 3) (show decode (gy_b gY_12) 4 = .ok (.arraylength, 1) by decide +kernel) (by decide) ?_
  intro v2
  refine gr_aload_n (pc := 5) (i := 0) 8 (l0) (show decode (gy_b gY_12) 5 = .ok (.aload_n 0, 1) by decide +kernel) rfl rfl ?_
  refine gj_nn (fun hx6 => ?_)
  refine gj_c0 (pc := 6) (Y' := gY_11) (y := yJ0_coder_7d493) (vs := [gR 8 (l0)]) (rest := [gI (v2)]) (rs := fun v3 => [gI (v3), gI (v2)]) [gR 8 (l0)] rfl (hm_11 hG (l0)) rfl (gh_V (t := 8) (vs := []) (rest := [gI (v2)]) (show decode (gy_b gY_12) 6 = .ok (.invokevirtual 335, 3) by decide +kernel) rfl hx6 rfl rfl (ok_11 (by decide) (by decide)) wd_504 wd_505 wd_506 (Nat.le_of_ble_eq_true rfl)) (fun _ => rfl) ?_
  intro v3 M4 n5 c6
  refine gr_ishr (pc := 9) hG.2.1 (show decode (gy_b gY_12) 9 = .ok (.ishr, 1) by decide +kernel) ?_
  intro z7
  exact gr_ireturn (pc := 10) (show decode (gy_b gY_12) 10 = .ok (.ireturn, 1) by decide +kernel) rfl rfl (by decide) gv_0
noncomputable def fi_12 (l0 M n c : Nat) (K : Nat → Nat → Nat → Nat → Bool) : Bool := fi_12_L0 K l0 M n c
theorem hm_12 {G : gxG} (hG : gxG0 G) (l0 : Nat) : gxM G gY_12 yJ0_length_8abf5 [gR 8 (l0)] (fi_12 l0) := gxM_of (L := [gR 8 (l0)]) hG 0 (by decide +kernel) rfl rfl rfl rfl (List.forall_mem_cons.mpr ⟨rfl, fun _ h => nomatch h⟩) (fun M n c K => h_12_L0 hG  l0 M n c)
/-! java/lang/AbstractStringBuilder ensureCapacityInternal (I)V -/
def gY_13 : gxY := (false, prog_18_method_9_code, 3, (Option.none : Option FieldType), "java/lang/AbstractStringBuilder", 1, 40, 5, [], "ensureCapacityInternal")
theorem ok_13 {Y : gxY} (h1 : gy_f gY_13 + 1 ≤ gy_f Y) (h2 : 8 + (gy_l gY_13 + 11) + gy_k gY_13 ≤ gy_k Y) : gh_ok Y gY_13 yJ5_ensureCapacityInternal_d00df 1 := ⟨wd_437, wd_59, ⟨by decide, by decide⟩, by decide +kernel, h1, h2⟩
noncomputable def fi_13_L0 (K : Nat → Nat → Nat → Nat → Bool) (l0 l1 M n c : Nat) : Bool := gx_get (l0) 0 M (fun v1 => gx_len (v1) M (fun v2 => gx_get (l0) 1 M (fun v3 => gx_shr (v2) (v3) (fun z4 => gx_sub (l1) (z4) (fun z5 => gx_lt 0 (z5) (false) (K 0 M n c))))))
theorem h_13_L0 {G : gxG} (hG : gxG0 G) {K : Nat → Nat → Nat → Nat → Bool} (l0 l1 M n c : Nat) : gxJ G gY_13 K 0 [] [gR 9 (l0), gI (l1), gB] M n c (fi_13_L0 K l0 l1 M n c) := by
  unfold fi_13_L0
  refine gr_aload_n (pc := 0) (i := 0) 9 (l0) (show decode (gy_b gY_13) 0 = .ok (.aload_n 0, 1) by decide +kernel) rfl rfl ?_
  refine gr_getf (pc := 1) (index := 15) (t := 9) (j := 0) (σ := 75) (sv := (gR 67)) (show decode (gy_b gY_13) 1 = .ok (.getfield 15, 3) by decide +kernel) rfl rfl (fun _ => rfl) wd_408 (by decide) ?_
  intro v1
  refine gr_alen (pc := 4) (κ := 3) (show decode (gy_b gY_13) 4 = .ok (.arraylength, 1) by decide +kernel) (by decide) ?_
  intro v2
  refine gr_aload_n (pc := 5) (i := 0) 9 (l0) (show decode (gy_b gY_13) 5 = .ok (.aload_n 0, 1) by decide +kernel) rfl rfl ?_
  refine gr_getf (pc := 6) (index := 22) (t := 9) (j := 1) (σ := 3) (sv := gI) (show decode (gy_b gY_13) 6 = .ok (.getfield 22, 3) by decide +kernel) rfl rfl (fun _ => rfl) wd_409 (by decide) ?_
  intro v3
  refine gr_ishr (pc := 9) hG.2.1 (show decode (gy_b gY_13) 9 = .ok (.ishr, 1) by decide +kernel) ?_
  intro z4
  refine gr_istore_n (pc := 10) (i := 2) (L' := [gR 9 (l0), gI (l1), gI (z4)]) (show decode (gy_b gY_13) 10 = .ok (.istore_n 2, 1) by decide +kernel) rfl (by decide) rfl rfl ?_
  refine gr_iload_n (pc := 11) (i := 1) (l1) (show decode (gy_b gY_13) 11 = .ok (.iload_n 1, 1) by decide +kernel) rfl rfl ?_
  refine gr_iload_n (pc := 12) (i := 2) (z4) (show decode (gy_b gY_13) 12 = .ok (.iload_n 2, 1) by decide +kernel) rfl rfl ?_
  refine gr_isub (pc := 13) hG.2.1 (show decode (gy_b gY_13) 13 = .ok (.isub, 1) by decide +kernel) ?_
  intro z5
  refine gr_ifle (pc := 14) (tgt := 38) (off := 24) hG.2.1 (show decode (gy_b gY_13) 14 = .ok (.ifCond .le (24), 3) by decide +kernel) (by decide) ?_ ?_
  · exact gr_return (pc := 38) (show decode (gy_b gY_13) 38 = .ok (.return_, 1) by decide +kernel) rfl rfl
  · exact gj_false
noncomputable def fi_13 (l0 l1 M n c : Nat) (K : Nat → Nat → Nat → Nat → Bool) : Bool := fi_13_L0 K l0 l1 M n c
theorem hm_13 {G : gxG} (hG : gxG0 G) (l0 l1 : Nat) : gxM G gY_13 yJ5_ensureCapacityInternal_d00df [gR 9 (l0), gI (l1)] (fi_13 l0 l1) := gxM_of (L := [gR 9 (l0), gI (l1), gB]) hG 1 (by decide +kernel) rfl rfl rfl rfl (List.forall_mem_cons.mpr ⟨rfl, List.forall_mem_cons.mpr ⟨rfl, fun _ h => nomatch h⟩⟩) (fun M n c K => h_13_L0 hG  l0 l1 M n c)
/-! java/lang/AbstractStringBuilder inflateIfNeededFor (Ljava/lang/String;)V -/
def gY_14 : gxY := (false, prog_18_method_71_code, 2, (Option.none : Option FieldType), "java/lang/AbstractStringBuilder", 2, 60, 5, [], "inflateIfNeededFor")
theorem ok_14 {Y : gxY} (h1 : gy_f gY_14 + 1 ≤ gy_f Y) (h2 : 8 + (gy_l gY_14 + 11) + gy_k gY_14 ≤ gy_k Y) : gh_ok Y gY_14 yJ5_inflateIfNeededFor_a7421 1 := ⟨wd_516, wd_59, ⟨by decide, by decide⟩, by decide +kernel, h1, h2⟩
noncomputable def fi_14_L21 (K : Nat → Nat → Nat → Nat → Bool) (M n c : Nat) : Bool := K 0 M n c
theorem h_14_L21 {G : gxG} (hG : gxG0 G) {K : Nat → Nat → Nat → Nat → Bool} (M n c : Nat) : gxJ G gY_14 K 21 [] [gB, gB] M n c (fi_14_L21 K M n c) := by
  unfold fi_14_L21
  exact gr_return (pc := 21) (show decode (gy_b gY_14) 21 = .ok (.return_, 1) by decide +kernel) rfl rfl
noncomputable def fi_14_L0 (K : Nat → Nat → Nat → Nat → Bool) (l0 l1 M n c : Nat) : Bool := gx_eq (1) 0 (fi_14_L21 K  M n c) (gx_get (l0) 1 M (fun v1 => gx_nn (l1) (fi_11 (l1) M n c (fun v2 M3 n4 c5 => gx_eq (v1) (v2) (fi_14_L21 K  M3 n4 c5) (false)))))
theorem h_14_L0 {G : gxG} (hG : gxG0 G) {K : Nat → Nat → Nat → Nat → Bool} (l0 l1 M n c : Nat) : gxJ G gY_14 K 0 [] [gR 9 (l0), gR 8 (l1)] M n c (fi_14_L0 K l0 l1 M n c) := by
  unfold fi_14_L0
  refine gr_compact (pc := 0) (index := 18) (show decode (gy_b gY_14) 0 = .ok (.getstatic 18, 3) by decide +kernel) wd_399 ?_
  refine gr_ifeq (pc := 3) (tgt := 21) (off := 18) hG.2.1 (show decode (gy_b gY_14) 3 = .ok (.ifCond .eq (18), 3) by decide +kernel) (by decide) ?_ ?_
  · refine gr_wk [false, false] rfl ?_
    exact h_14_L21 hG  M n c
  · refine gr_aload_n (pc := 6) (i := 0) 9 (l0) (show decode (gy_b gY_14) 6 = .ok (.aload_n 0, 1) by decide +kernel) rfl rfl ?_
    refine gr_getf (pc := 7) (index := 22) (t := 9) (j := 1) (σ := 3) (sv := gI) (show decode (gy_b gY_14) 7 = .ok (.getfield 22, 3) by decide +kernel) rfl rfl (fun _ => rfl) wd_409 (by decide) ?_
    intro v1
    refine gr_aload_n (pc := 10) (i := 1) 8 (l1) (show decode (gy_b gY_14) 10 = .ok (.aload_n 1, 1) by decide +kernel) rfl rfl ?_
    refine gj_nn (fun hx11 => ?_)
    refine gj_c0 (pc := 11) (Y' := gY_11) (y := yJ0_coder_7d493) (vs := [gR 8 (l1)]) (rest := [gI (v1)]) (rs := fun v2 => [gI (v2), gI (v1)]) [gR 8 (l1)] rfl (hm_11 hG (l1)) rfl (gh_V (t := 8) (vs := []) (rest := [gI (v1)]) (show decode (gy_b gY_14) 11 = .ok (.invokevirtual 40, 3) by decide +kernel) rfl hx11 rfl rfl (ok_11 (by decide) (by decide)) wd_517 wd_505 wd_506 (Nat.le_of_ble_eq_true rfl)) (fun _ => rfl) ?_
    intro v2 M3 n4 c5
    refine gr_icmp_eq (pc := 14) (tgt := 21) (off := 7) hG.2.1 (show decode (gy_b gY_14) 14 = .ok (.if_icmp .eq (7), 3) by decide +kernel) (by decide) ?_ ?_
    · refine gr_wk [false, false] rfl ?_
      exact h_14_L21 hG  M3 n4 c5
    · exact gj_false
noncomputable def fi_14 (l0 l1 M n c : Nat) (K : Nat → Nat → Nat → Nat → Bool) : Bool := fi_14_L0 K l0 l1 M n c
theorem hm_14 {G : gxG} (hG : gxG0 G) (l0 l1 : Nat) : gxM G gY_14 yJ5_inflateIfNeededFor_a7421 [gR 9 (l0), gR 8 (l1)] (fi_14 l0 l1) := gxM_of (L := [gR 9 (l0), gR 8 (l1)]) hG 0 (by decide +kernel) rfl rfl rfl rfl (List.forall_mem_cons.mpr ⟨rfl, List.forall_mem_cons.mpr ⟨rfl, fun _ h => nomatch h⟩⟩) (fun M n c K => h_14_L0 hG  l0 l1 M n c)
/-! java/lang/String getBytes ([BIB)V -/
def gY_15 : gxY := (false, prog_32_method_147_code, 4, (Option.none : Option FieldType), "java/lang/String", 2, 60, 5, [], "getBytes")
theorem ok_15 {Y : gxY} (h1 : gy_f gY_15 + 1 ≤ gy_f Y) (h2 : 8 + (gy_l gY_15 + 11) + gy_k gY_15 ≤ gy_k Y) : gh_ok Y gY_15 yJ0_getBytes_840e7 3 := ⟨wd_540, wd_61, ⟨by decide, by decide⟩, by decide +kernel, h1, h2⟩
noncomputable def fi_15_L0 (K : Nat → Nat → Nat → Nat → Bool) (l0 l1 l2 l3 M n c : Nat) : Bool := gx_nn (l0) (fi_11 (l0) M n c (fun v1 M2 n3 c4 => gx_eq (v1) (l3) (gx_get (l0) 0 M2 (fun v5 => gx_shl (l2) (l3) (fun z6 => gx_get (l0) 0 M2 (fun v7 => gx_len (v7) M2 (fun v8 => gx_cpy (v5) (0) (l1) (z6) (v8) M2 (fun M9 => K 0 M9 n3 c4)))))) (false)))
theorem h_15_L0 {G : gxG} (hG : gxG0 G) {K : Nat → Nat → Nat → Nat → Bool} (l0 l1 l2 l3 M n c : Nat) : gxJ G gY_15 K 0 [] [gR 8 (l0), gR 67 (l1), gI (l2), gI (l3)] M n c (fi_15_L0 K l0 l1 l2 l3 M n c) := by
  unfold fi_15_L0
  refine gr_aload_n (pc := 0) (i := 0) 8 (l0) (show decode (gy_b gY_15) 0 = .ok (.aload_n 0, 1) by decide +kernel) rfl rfl ?_
  refine gj_nn (fun hx1 => ?_)
  refine gj_c0 (pc := 1) (Y' := gY_11) (y := yJ0_coder_7d493) (vs := [gR 8 (l0)]) (rest := []) (rs := fun v1 => [gI (v1)]) [gR 8 (l0)] rfl (hm_11 hG (l0)) rfl (gh_V (t := 8) (vs := []) (rest := []) (show decode (gy_b gY_15) 1 = .ok (.invokevirtual 335, 3) by decide +kernel) rfl hx1 rfl rfl (ok_11 (by decide) (by decide)) wd_504 wd_505 wd_506 (Nat.le_of_ble_eq_true rfl)) (fun _ => rfl) ?_
  intro v1 M2 n3 c4
  refine gr_iload_n (pc := 4) (i := 3) (l3) (show decode (gy_b gY_15) 4 = .ok (.iload_n 3, 1) by decide +kernel) rfl rfl ?_
  refine gr_icmp_ne (pc := 5) (tgt := 28) (off := 23) hG.2.1 (show decode (gy_b gY_15) 5 = .ok (.if_icmp .ne (23), 3) by decide +kernel) (by decide) ?_ ?_
  · exact gj_false
  · refine gr_aload_n (pc := 8) (i := 0) 8 (l0) (show decode (gy_b gY_15) 8 = .ok (.aload_n 0, 1) by decide +kernel) rfl rfl ?_
    refine gr_getf (pc := 9) (index := 9) (t := 8) (j := 0) (σ := 75) (sv := (gR 67)) (show decode (gy_b gY_15) 9 = .ok (.getfield 9, 3) by decide +kernel) rfl rfl (fun _ => rfl) wd_614 (by decide) ?_
    intro v5
    refine gr_iconst (pc := 12) (z := 0) 0 (show decode (gy_b gY_15) 12 = .ok (.iconst (0), 1) by decide +kernel) kc_0 ?_
    refine gr_aload_n (pc := 13) (i := 1) 67 (l1) (show decode (gy_b gY_15) 13 = .ok (.aload_n 1, 1) by decide +kernel) rfl rfl ?_
    refine gr_iload_n (pc := 14) (i := 2) (l2) (show decode (gy_b gY_15) 14 = .ok (.iload_n 2, 1) by decide +kernel) rfl rfl ?_
    refine gr_iload_n (pc := 15) (i := 3) (l3) (show decode (gy_b gY_15) 15 = .ok (.iload_n 3, 1) by decide +kernel) rfl rfl ?_
    refine gr_ishl (pc := 16) (show decode (gy_b gY_15) 16 = .ok (.ishl, 1) by decide +kernel) ?_
    intro z6
    refine gr_aload_n (pc := 17) (i := 0) 8 (l0) (show decode (gy_b gY_15) 17 = .ok (.aload_n 0, 1) by decide +kernel) rfl rfl ?_
    refine gr_getf (pc := 18) (index := 9) (t := 8) (j := 0) (σ := 75) (sv := (gR 67)) (show decode (gy_b gY_15) 18 = .ok (.getfield 9, 3) by decide +kernel) rfl rfl (fun _ => rfl) wd_614 (by decide) ?_
    intro v7
    refine gr_alen (pc := 21) (κ := 3) (show decode (gy_b gY_15) 21 = .ok (.arraylength, 1) by decide +kernel) (by decide) ?_
    intro v8
    refine gr_copy (pc := 22) (index := 212) hG (show decode (gy_b gY_15) 22 = .ok (.invokestatic 212, 3) by decide +kernel) wd_541 wd_468 wd_467 wd_66 (by decide) (by decide) (Nat.le_of_ble_eq_true rfl) ?_
    intro M9
    refine gr_goto (pc := 25) (tgt := 43) (off := 18) (show decode (gy_b gY_15) 25 = .ok (.goto (18), 3) by decide +kernel) (by decide) ?_
    exact gr_return (pc := 43) (show decode (gy_b gY_15) 43 = .ok (.return_, 1) by decide +kernel) rfl rfl
noncomputable def fi_15 (l0 l1 l2 l3 M n c : Nat) (K : Nat → Nat → Nat → Nat → Bool) : Bool := fi_15_L0 K l0 l1 l2 l3 M n c
theorem hm_15 {G : gxG} (hG : gxG0 G) (l0 l1 l2 l3 : Nat) : gxM G gY_15 yJ0_getBytes_840e7 [gR 8 (l0), gR 67 (l1), gI (l2), gI (l3)] (fi_15 l0 l1 l2 l3) := gxM_of (L := [gR 8 (l0), gR 67 (l1), gI (l2), gI (l3)]) hG 0 (by decide +kernel) rfl rfl rfl rfl (List.forall_mem_cons.mpr ⟨rfl, List.forall_mem_cons.mpr ⟨rfl, List.forall_mem_cons.mpr ⟨rfl, List.forall_mem_cons.mpr ⟨rfl, fun _ h => nomatch h⟩⟩⟩⟩) (fun M n c K => h_15_L0 hG  l0 l1 l2 l3 M n c)
/-! java/lang/AbstractStringBuilder putStringAt (ILjava/lang/String;)V -/
def gY_16 : gxY := (false, prog_18_method_73_code, 3, (Option.none : Option FieldType), "java/lang/AbstractStringBuilder", 3, 83, 5, [], "putStringAt")
theorem ok_16 {Y : gxY} (h1 : gy_f gY_16 + 1 ≤ gy_f Y) (h2 : 8 + (gy_l gY_16 + 11) + gy_k gY_16 ≤ gy_k Y) : gh_ok Y gY_16 yJ5_putStringAt_47b60 2 := ⟨wd_512, wd_59, ⟨by decide, by decide⟩, by decide +kernel, h1, h2⟩
noncomputable def fi_16_L0 (K : Nat → Nat → Nat → Nat → Bool) (l0 l1 l2 M n c : Nat) : Bool := gx_nn (l0) (fi_14 (l0) (l2) M n c (fun v1 M2 n3 c4 => gx_get (l0) 0 M2 (fun v5 => gx_get (l0) 1 M2 (fun v6 => gx_nn (l2) (fi_15 (l2) (v5) (l1) (v6) M2 n3 c4 (fun v7 M8 n9 c10 => K 0 M8 n9 c10))))))
theorem h_16_L0 {G : gxG} (hG : gxG0 G) {K : Nat → Nat → Nat → Nat → Bool} (l0 l1 l2 M n c : Nat) : gxJ G gY_16 K 0 [] [gR 9 (l0), gI (l1), gR 8 (l2)] M n c (fi_16_L0 K l0 l1 l2 M n c) := by
  unfold fi_16_L0
  refine gr_aload_n (pc := 0) (i := 0) 9 (l0) (show decode (gy_b gY_16) 0 = .ok (.aload_n 0, 1) by decide +kernel) rfl rfl ?_
  refine gr_aload_n (pc := 1) (i := 2) 8 (l2) (show decode (gy_b gY_16) 1 = .ok (.aload_n 2, 1) by decide +kernel) rfl rfl ?_
  refine gj_nn (fun hx2 => ?_)
  refine gj_c0 (pc := 2) (Y' := gY_14) (y := yJ5_inflateIfNeededFor_a7421) (vs := [gR 9 (l0), gR 8 (l2)]) (rest := []) (rs := fun v1 => []) [gR 8 (l2), gR 9 (l0)] rfl (hm_14 hG (l0) (l2)) rfl (gh_V (t := 9) (vs := [gR 8 (l2)]) (rest := []) (show decode (gy_b gY_16) 2 = .ok (.invokevirtual 397, 3) by decide +kernel) rfl hx2 rfl rfl (ok_14 (by decide) (by decide)) wd_513 wd_515 wd_2 (Nat.le_of_ble_eq_true rfl)) (fun _ => rfl) ?_
  intro v1 M2 n3 c4
  refine gr_aload_n (pc := 5) (i := 2) 8 (l2) (show decode (gy_b gY_16) 5 = .ok (.aload_n 2, 1) by decide +kernel) rfl rfl ?_
  refine gr_aload_n (pc := 6) (i := 0) 9 (l0) (show decode (gy_b gY_16) 6 = .ok (.aload_n 0, 1) by decide +kernel) rfl rfl ?_
  refine gr_getf (pc := 7) (index := 15) (t := 9) (j := 0) (σ := 75) (sv := (gR 67)) (show decode (gy_b gY_16) 7 = .ok (.getfield 15, 3) by decide +kernel) rfl rfl (fun _ => rfl) wd_408 (by decide) ?_
  intro v5
  refine gr_iload_n (pc := 10) (i := 1) (l1) (show decode (gy_b gY_16) 10 = .ok (.iload_n 1, 1) by decide +kernel) rfl rfl ?_
  refine gr_aload_n (pc := 11) (i := 0) 9 (l0) (show decode (gy_b gY_16) 11 = .ok (.aload_n 0, 1) by decide +kernel) rfl rfl ?_
  refine gr_getf (pc := 12) (index := 22) (t := 9) (j := 1) (σ := 3) (sv := gI) (show decode (gy_b gY_16) 12 = .ok (.getfield 22, 3) by decide +kernel) rfl rfl (fun _ => rfl) wd_409 (by decide) ?_
  intro v6
  refine gj_nn (fun hx15 => ?_)
  refine gj_c0 (pc := 15) (Y' := gY_15) (y := yJ0_getBytes_840e7) (vs := [gR 8 (l2), gR 67 (v5), gI (l1), gI (v6)]) (rest := []) (rs := fun v7 => []) [gI (v6), gI (l1), gR 67 (v5), gR 8 (l2)] rfl (hm_15 hG (l2) (v5) (l1) (v6)) rfl (gh_V (t := 8) (vs := [gR 67 (v5), gI (l1), gI (v6)]) (rest := []) (show decode (gy_b gY_16) 15 = .ok (.invokevirtual 399, 3) by decide +kernel) rfl hx15 rfl rfl (ok_15 (by decide) (by decide)) wd_537 wd_538 wd_539 (Nat.le_of_ble_eq_true rfl)) (fun _ => rfl) ?_
  intro v7 M8 n9 c10
  exact gr_return (pc := 18) (show decode (gy_b gY_16) 18 = .ok (.return_, 1) by decide +kernel) rfl rfl
noncomputable def fi_16 (l0 l1 l2 M n c : Nat) (K : Nat → Nat → Nat → Nat → Bool) : Bool := fi_16_L0 K l0 l1 l2 M n c
theorem hm_16 {G : gxG} (hG : gxG0 G) (l0 l1 l2 : Nat) : gxM G gY_16 yJ5_putStringAt_47b60 [gR 9 (l0), gI (l1), gR 8 (l2)] (fi_16 l0 l1 l2) := gxM_of (L := [gR 9 (l0), gI (l1), gR 8 (l2)]) hG 0 (by decide +kernel) rfl rfl rfl rfl (List.forall_mem_cons.mpr ⟨rfl, List.forall_mem_cons.mpr ⟨rfl, List.forall_mem_cons.mpr ⟨rfl, fun _ h => nomatch h⟩⟩⟩) (fun M n c K => h_16_L0 hG  l0 l1 l2 M n c)
