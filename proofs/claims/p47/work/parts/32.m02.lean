/-! METHODS 2 -/
set_option maxRecDepth 100000
/-! Farfiles link (IIZ)Z -/
def gY_39 : gxY := (false, prog_1_method_19_code, 6, (Option.some Jvm.ClassFile.FieldType.boolean), "Farfiles", 2, 61, 2, [], "link")
theorem ok_39 {Y : gxY} (h1 : gy_f gY_39 + 1 ≤ gy_f Y) (h2 : 8 + (gy_l gY_39 + 11) + gy_k gY_39 ≤ gy_k Y) : gh_ok Y gY_39 yX7_link 3 := ⟨wd_661, wd_51, ⟨by decide, by decide⟩, by decide +kernel, h1, h2⟩
noncomputable def fi_39_L0 (K : Nat → Nat → Nat → Nat → Bool) (l0 l1 l2 l3 M n c : Nat) : Bool := gx_nn (l0) (fi_38 (l0) (l1) M n c (fun v1 M2 n3 c4 => gx_lt (l2) 0 (false) (gx_lt (l2) (3) (gx_get (v1) 1 M2 (fun v5 => gx_ald (v5) (l2) M2 (fun v6 => gx_get (v1) 1 M2 (fun v7 => gx_ast (v7) (l2) (l3) M2 gx_f2 (fun M8 => gx_rt gx_f2 (v6) (K (v6) M8 n3 c4)))))) (false))))
theorem h_39_L0 {G : gxG} (hG : gxG0 G) {K : Nat → Nat → Nat → Nat → Bool} (l0 l1 l2 l3 M n c : Nat) : gxJ G gY_39 K 0 [] [gR 7 (l0), gI (l1), gI (l2), gI (l3), gB, gB] M n c (fi_39_L0 K l0 l1 l2 l3 M n c) := by
  unfold fi_39_L0
  refine gr_aload_n (pc := 0) (i := 0) 7 (l0) (show decode (gy_b gY_39) 0 = .ok (.aload_n 0, 1) by decide +kernel) rfl rfl ?_
  refine gr_iload_n (pc := 1) (i := 1) (l1) (show decode (gy_b gY_39) 1 = .ok (.iload_n 1, 1) by decide +kernel) rfl rfl ?_
  refine gj_nn (fun hx2 => ?_)
  refine gj_c0 (pc := 2) (Y' := gY_38) (y := yX7_clientOf) (vs := [gR 7 (l0), gI (l1)]) (rest := []) (rs := fun v1 => [gR 3 (v1)]) [gI (l1), gR 7 (l0)] rfl (hm_38 hG (l0) (l1)) rfl (gh_V (t := 7) (vs := [gI (l1)]) (rest := []) (show decode (gy_b gY_39) 2 = .ok (.invokevirtual 155, 3) by decide +kernel) rfl hx2 rfl rfl (ok_38 (by decide) (by decide)) wd_662 wd_664 wd_9 (Nat.le_of_ble_eq_true rfl)) (fun _ => rfl) ?_
  intro v1 M2 n3 c4
  refine gr_astore (pc := 5) (i := 4) (L' := [gR 7 (l0), gI (l1), gI (l2), gI (l3), gR 3 (v1), gB]) (show decode (gy_b gY_39) 5 = .ok (.astore 4, 2) by decide +kernel) (by decide) rfl rfl ?_
  refine gr_iload_n (pc := 7) (i := 2) (l2) (show decode (gy_b gY_39) 7 = .ok (.iload_n 2, 1) by decide +kernel) rfl rfl ?_
  refine gr_iflt (pc := 8) (tgt := 16) (off := 8) hG.2.1 (show decode (gy_b gY_39) 8 = .ok (.ifCond .lt (8), 3) by decide +kernel) (by decide) ?_ ?_
  · exact gj_false
  · refine gr_iload_n (pc := 11) (i := 2) (l2) (show decode (gy_b gY_39) 11 = .ok (.iload_n 2, 1) by decide +kernel) rfl rfl ?_
    refine gr_iconst (pc := 12) (z := 3) 3 (show decode (gy_b gY_39) 12 = .ok (.iconst (3), 1) by decide +kernel) kc_3 ?_
    refine gr_icmp_lt (pc := 13) (tgt := 26) (off := 13) hG.2.1 (show decode (gy_b gY_39) 13 = .ok (.if_icmp .lt (13), 3) by decide +kernel) (by decide) ?_ ?_
    · refine gr_aload (pc := 26) (i := 4) 3 (v1) (show decode (gy_b gY_39) 26 = .ok (.aload 4, 2) by decide +kernel) rfl ?_
      refine gr_getfN (pc := 28) (index := 159) (t := 3) (j := 1) (σ := 74) (sv := (gR 66)) (show decode (gy_b gY_39) 28 = .ok (.getfield 159, 3) by decide +kernel) rfl rfl (fun _ => rfl) wd_255 (by decide) ?_
      intro v5
      refine gr_iload_n (pc := 31) (i := 2) (l2) (show decode (gy_b gY_39) 31 = .ok (.iload_n 2, 1) by decide +kernel) rfl rfl ?_
      refine gr_zald (pc := 32) (show decode (gy_b gY_39) 32 = .ok (.baload, 1) by decide +kernel) ?_
      intro v6
      refine gr_istore (pc := 33) (i := 5) (L' := [gR 7 (l0), gI (l1), gI (l2), gI (l3), gR 3 (v1), gI (v6)]) (show decode (gy_b gY_39) 33 = .ok (.istore 5, 2) by decide +kernel) (by decide) rfl rfl ?_
      refine gr_aload (pc := 35) (i := 4) 3 (v1) (show decode (gy_b gY_39) 35 = .ok (.aload 4, 2) by decide +kernel) rfl ?_
      refine gr_getfN (pc := 37) (index := 159) (t := 3) (j := 1) (σ := 74) (sv := (gR 66)) (show decode (gy_b gY_39) 37 = .ok (.getfield 159, 3) by decide +kernel) rfl rfl (fun _ => rfl) wd_255 (by decide) ?_
      intro v7
      refine gr_iload_n (pc := 40) (i := 2) (l2) (show decode (gy_b gY_39) 40 = .ok (.iload_n 2, 1) by decide +kernel) rfl rfl ?_
      refine gr_iload_n (pc := 41) (i := 3) (l3) (show decode (gy_b gY_39) 41 = .ok (.iload_n 3, 1) by decide +kernel) rfl rfl ?_
      refine gr_zast (pc := 42) hG.2.1 (show decode (gy_b gY_39) 42 = .ok (.bastore, 1) by decide +kernel) ?_
      intro M8
      refine gr_iload (pc := 43) (i := 5) (v6) (show decode (gy_b gY_39) 43 = .ok (.iload 5, 2) by decide +kernel) rfl ?_
      exact gr_ireturn (pc := 45) (show decode (gy_b gY_39) 45 = .ok (.ireturn, 1) by decide +kernel) rfl rfl (by decide) gv_2f
    · exact gj_false
noncomputable def fi_39 (l0 l1 l2 l3 M n c : Nat) (K : Nat → Nat → Nat → Nat → Bool) : Bool := fi_39_L0 K l0 l1 l2 l3 M n c
theorem hm_39 {G : gxG} (hG : gxG0 G) (l0 l1 l2 l3 : Nat) : gxM G gY_39 yX7_link [gR 7 (l0), gI (l1), gI (l2), gI (l3)] (fi_39 l0 l1 l2 l3) := gxM_of (L := [gR 7 (l0), gI (l1), gI (l2), gI (l3), gB, gB]) hG 2 (by decide +kernel) rfl rfl rfl rfl (List.forall_mem_cons.mpr ⟨rfl, List.forall_mem_cons.mpr ⟨rfl, List.forall_mem_cons.mpr ⟨rfl, List.forall_mem_cons.mpr ⟨rfl, fun _ h => nomatch h⟩⟩⟩⟩) (fun M n c K => h_39_L0 hG  l0 l1 l2 l3 M n c)
/-! FarfilesLaw links (IZ)V -/
def gY_40 : gxY := (false, method_9_code, 4, (Option.none : Option FieldType), "FarfilesLaw", 3, 86, 5, [], "links")
theorem ok_40 {Y : gxY} (h1 : gy_f gY_40 + 1 ≤ gy_f Y) (h2 : 8 + (gy_l gY_40 + 11) + gy_k gY_40 ≤ gy_k Y) : gh_ok Y gY_40 yL_links 2 := ⟨wd_657, wd_50, ⟨by decide, by decide⟩, by decide +kernel, h1, h2⟩
noncomputable def fi_40_B2 (K : Nat → Nat → Nat → Nat → Bool) (ih_2 : Nat → Nat → Nat → Nat → Nat → Nat → Nat → Bool) (l0 l1 l2 l3 M n c : Nat) : Bool := gx_lt (l3) (3) (gx_get (l0) 3 M (fun v1 => gx_nn (v1) (fi_39 (v1) (l1) (l3) (l2) M n c (fun v2 M3 n4 c5 => gx_add (l3) 1 (fun z6 => ih_2 (l0) (l1) (l2) (z6) M3 n4 c5))))) (K 0 M n c)
theorem hb_40_B2 {G : gxG} (hG : gxG0 G) {K : Nat → Nat → Nat → Nat → Bool} {ih_2 : Nat → Nat → Nat → Nat → Nat → Nat → Nat → Bool} (hi_2 : ∀ l0 l1 l2 l3 M n c : Nat, gxJ G gY_40 K 2 [] [gR 10 (l0), gI (l1), gI (l2), gI (l3)] M n c (ih_2 l0 l1 l2 l3 M n c)) (l0 l1 l2 l3 M n c : Nat) : gxJ G gY_40 K 2 [] [gR 10 (l0), gI (l1), gI (l2), gI (l3)] M n c (fi_40_B2 K ih_2 l0 l1 l2 l3 M n c) := by
  unfold fi_40_B2
  refine gr_iload_n (pc := 2) (i := 3) (l3) (show decode (gy_b gY_40) 2 = .ok (.iload_n 3, 1) by decide +kernel) rfl rfl ?_
  refine gr_iconst (pc := 3) (z := 3) 3 (show decode (gy_b gY_40) 3 = .ok (.iconst (3), 1) by decide +kernel) kc_3 ?_
  refine gr_icmp_ge (pc := 4) (tgt := 24) (off := 20) hG.2.1 (show decode (gy_b gY_40) 4 = .ok (.if_icmp .ge (20), 3) by decide +kernel) (by decide) ?_ ?_
  · exact gr_return (pc := 24) (show decode (gy_b gY_40) 24 = .ok (.return_, 1) by decide +kernel) rfl rfl
  · refine gr_aload_n (pc := 7) (i := 0) 10 (l0) (show decode (gy_b gY_40) 7 = .ok (.aload_n 0, 1) by decide +kernel) rfl rfl ?_
    refine gr_getf (pc := 8) (index := 10) (t := 10) (j := 3) (σ := 15) (sv := (gR 7)) (show decode (gy_b gY_40) 8 = .ok (.getfield 10, 3) by decide +kernel) rfl rfl (fun _ => rfl) wd_346 (by decide) ?_
    intro v1
    refine gr_iload_n (pc := 11) (i := 1) (l1) (show decode (gy_b gY_40) 11 = .ok (.iload_n 1, 1) by decide +kernel) rfl rfl ?_
    refine gr_iload_n (pc := 12) (i := 3) (l3) (show decode (gy_b gY_40) 12 = .ok (.iload_n 3, 1) by decide +kernel) rfl rfl ?_
    refine gr_iload_n (pc := 13) (i := 2) (l2) (show decode (gy_b gY_40) 13 = .ok (.iload_n 2, 1) by decide +kernel) rfl rfl ?_
    refine gj_nn (fun hx14 => ?_)
    refine gj_c0 (pc := 14) (Y' := gY_39) (y := yX7_link) (vs := [gR 7 (v1), gI (l1), gI (l3), gI (l2)]) (rest := []) (rs := fun v2 => [gI (v2)]) [gI (l2), gI (l3), gI (l1), gR 7 (v1)] rfl (hm_39 hG (v1) (l1) (l3) (l2)) rfl (gh_V (t := 7) (vs := [gI (l1), gI (l3), gI (l2)]) (rest := []) (show decode (gy_b gY_40) 14 = .ok (.invokevirtual 85, 3) by decide +kernel) rfl hx14 rfl rfl (ok_39 (by decide) (by decide)) wd_658 wd_659 wd_660 (Nat.le_of_ble_eq_true rfl)) (fun _ => rfl) ?_
    intro v2 M3 n4 c5
    refine gr_pop (b := gB) (pc := 17) (show decode (gy_b gY_40) 17 = .ok (.pop, 1) by decide +kernel) rfl ?_
    refine gr_iinc (pc := 18) (i := 3) (d := 1) (z := 1) (L' := fun z6 => [gR 10 (l0), gI (l1), gI (l2), gI (z6)]) (show decode (gy_b gY_40) 18 = .ok (.iinc 3 (1), 3) by decide +kernel) (by decide +kernel) (by decide) rfl rfl (fun _ => rfl) ?_
    intro z6
    refine gr_goto (pc := 21) (tgt := 2) (off := -19) (show decode (gy_b gY_40) 21 = .ok (.goto (-19), 3) by decide +kernel) (by decide) ?_
    exact hi_2 (l0) (l1) (l2) (z6) M3 n4 c5
noncomputable def fi_40_W2 (K : Nat → Nat → Nat → Nat → Bool) (u : Nat) : Nat → Nat → Nat → Nat → Nat → Nat → Nat → Bool := Nat.rec (motive := fun _ => Nat → Nat → Nat → Nat → Nat → Nat → Nat → Bool) (fun _ _ _ _ _ _ _ => false) (fun _ ih => fi_40_B2 K ih) u
theorem hw_40_2 {G : gxG} (hG : gxG0 G) {K : Nat → Nat → Nat → Nat → Bool} (u : Nat) : ∀ l0 l1 l2 l3 M n c : Nat, gxJ G gY_40 K 2 [] [gR 10 (l0), gI (l1), gI (l2), gI (l3)] M n c (fi_40_W2 K u l0 l1 l2 l3 M n c) := by
  induction u with
  | zero => intro l0 l1 l2 l3 M n c; exact gj_false
  | succ u ih => intro l0 l1 l2 l3 M n c; exact hb_40_B2 hG ih l0 l1 l2 l3 M n c
noncomputable def fi_40_L0 (K : Nat → Nat → Nat → Nat → Bool) (l0 l1 l2 M n c : Nat) : Bool := fi_40_W2 K 65536 (l0) (l1) (l2) (0) M n c
theorem h_40_L0 {G : gxG} (hG : gxG0 G) {K : Nat → Nat → Nat → Nat → Bool} (l0 l1 l2 M n c : Nat) : gxJ G gY_40 K 0 [] [gR 10 (l0), gI (l1), gI (l2), gB] M n c (fi_40_L0 K l0 l1 l2 M n c) := by
  unfold fi_40_L0
  refine gr_iconst (pc := 0) (z := 0) 0 (show decode (gy_b gY_40) 0 = .ok (.iconst (0), 1) by decide +kernel) kc_0 ?_
  refine gr_istore_n (pc := 1) (i := 3) (L' := [gR 10 (l0), gI (l1), gI (l2), gI (0)]) (show decode (gy_b gY_40) 1 = .ok (.istore_n 3, 1) by decide +kernel) rfl (by decide) rfl rfl ?_
  exact hw_40_2 hG 65536 (l0) (l1) (l2) (0) M n c
noncomputable def fi_40 (l0 l1 l2 M n c : Nat) (K : Nat → Nat → Nat → Nat → Bool) : Bool := fi_40_L0 K l0 l1 l2 M n c
theorem hm_40 {G : gxG} (hG : gxG0 G) (l0 l1 l2 : Nat) : gxM G gY_40 yL_links [gR 10 (l0), gI (l1), gI (l2)] (fi_40 l0 l1 l2) := gxM_of (L := [gR 10 (l0), gI (l1), gI (l2), gB]) hG 1 (by decide +kernel) rfl rfl rfl rfl (List.forall_mem_cons.mpr ⟨rfl, List.forall_mem_cons.mpr ⟨rfl, List.forall_mem_cons.mpr ⟨rfl, fun _ h => nomatch h⟩⟩⟩) (fun M n c K => h_40_L0 hG  l0 l1 l2 M n c)
/-! Farfiles$Line empty ()V -/
def gY_41 : gxY := (false, prog_6_method_4_code, 1, (Option.none : Option FieldType), "Farfiles$Line", 1, 40, 5, [], "empty")
theorem ok_41 {Y : gxY} (h1 : gy_f gY_41 + 1 ≤ gy_f Y) (h2 : 8 + (gy_l gY_41 + 11) + gy_k gY_41 ≤ gy_k Y) : gh_ok Y gY_41 yX4_empty 0 := ⟨wd_747, wd_52, ⟨by decide, by decide⟩, by decide +kernel, h1, h2⟩
noncomputable def fi_41_L0 (K : Nat → Nat → Nat → Nat → Bool) (l0 M n c : Nat) : Bool := gx_put (l0) 1 (0) M gx_f0 (fun M1 => K 0 M1 n c)
theorem h_41_L0 {G : gxG} (hG : gxG0 G) {K : Nat → Nat → Nat → Nat → Bool} (l0 M n c : Nat) : gxJ G gY_41 K 0 [] [gR 4 (l0)] M n c (fi_41_L0 K l0 M n c) := by
  unfold fi_41_L0
  refine gr_aload_n (pc := 0) (i := 0) 4 (l0) (show decode (gy_b gY_41) 0 = .ok (.aload_n 0, 1) by decide +kernel) rfl rfl ?_
  refine gr_iconst (pc := 1) (z := 0) 0 (show decode (gy_b gY_41) 1 = .ok (.iconst (0), 1) by decide +kernel) kc_0 ?_
  refine gr_putf (pc := 2) (index := 15) (t := 4) (j := 1) (σ := 0) (sv := gI) (f := gx_f0) (ty := .int) (show decode (gy_b gY_41) 2 = .ok (.putfield 15, 3) by decide +kernel) rfl rfl (fun _ => rfl) wd_101 rfl gv_0 rfl ?_
  intro M1
  exact gr_return (pc := 5) (show decode (gy_b gY_41) 5 = .ok (.return_, 1) by decide +kernel) rfl rfl
noncomputable def fi_41 (l0 M n c : Nat) (K : Nat → Nat → Nat → Nat → Bool) : Bool := fi_41_L0 K l0 M n c
theorem hm_41 {G : gxG} (hG : gxG0 G) (l0 : Nat) : gxM G gY_41 yX4_empty [gR 4 (l0)] (fi_41 l0) := gxM_of (L := [gR 4 (l0)]) hG 0 (by decide +kernel) rfl rfl rfl rfl (List.forall_mem_cons.mpr ⟨rfl, fun _ h => nomatch h⟩) (fun M n c K => h_41_L0 hG  l0 M n c)
/-! Farfiles erase ()I -/
def gY_42 : gxY := (false, prog_1_method_16_code, 2, (Option.some Jvm.ClassFile.FieldType.int), "Farfiles", 2, 60, 0, [], "erase")
theorem ok_42 {Y : gxY} (h1 : gy_f gY_42 + 1 ≤ gy_f Y) (h2 : 8 + (gy_l gY_42 + 11) + gy_k gY_42 ≤ gy_k Y) : gh_ok Y gY_42 yX7_erase 0 := ⟨wd_743, wd_51, ⟨by decide, by decide⟩, by decide +kernel, h1, h2⟩
noncomputable def fi_42_L0 (K : Nat → Nat → Nat → Nat → Bool) (l0 M n c : Nat) : Bool := gx_get (l0) 0 M (fun v1 => gx_get (v1) 1 M (fun v2 => gx_get (l0) 0 M (fun v3 => gx_nn (v3) (fi_41 (v3) M n c (fun v4 M5 n6 c7 => gx_rt gx_f0 (v2) (K (v2) M5 n6 c7))))))
theorem h_42_L0 {G : gxG} (hG : gxG0 G) {K : Nat → Nat → Nat → Nat → Bool} (l0 M n c : Nat) : gxJ G gY_42 K 0 [] [gR 7 (l0), gB] M n c (fi_42_L0 K l0 M n c) := by
  unfold fi_42_L0
  refine gr_aload_n (pc := 0) (i := 0) 7 (l0) (show decode (gy_b gY_42) 0 = .ok (.aload_n 0, 1) by decide +kernel) rfl rfl ?_
  refine gr_getf (pc := 1) (index := 10) (t := 7) (j := 0) (σ := 12) (sv := (gR 4)) (show decode (gy_b gY_42) 1 = .ok (.getfield 10, 3) by decide +kernel) rfl rfl (fun _ => rfl) wd_294 (by decide) ?_
  intro v1
  refine gr_getfN (pc := 4) (index := 133) (t := 4) (j := 1) (σ := 0) (sv := gI) (show decode (gy_b gY_42) 4 = .ok (.getfield 133, 3) by decide +kernel) rfl rfl (fun _ => rfl) wd_102 (by decide) ?_
  intro v2
  refine gr_istore_n (pc := 7) (i := 1) (L' := [gR 7 (l0), gI (v2)]) (show decode (gy_b gY_42) 7 = .ok (.istore_n 1, 1) by decide +kernel) rfl (by decide) rfl rfl ?_
  refine gr_aload_n (pc := 8) (i := 0) 7 (l0) (show decode (gy_b gY_42) 8 = .ok (.aload_n 0, 1) by decide +kernel) rfl rfl ?_
  refine gr_getf (pc := 9) (index := 10) (t := 7) (j := 0) (σ := 12) (sv := (gR 4)) (show decode (gy_b gY_42) 9 = .ok (.getfield 10, 3) by decide +kernel) rfl rfl (fun _ => rfl) wd_294 (by decide) ?_
  intro v3
  refine gj_nn (fun hx12 => ?_)
  refine gj_c0 (pc := 12) (Y' := gY_41) (y := yX4_empty) (vs := [gR 4 (v3)]) (rest := []) (rs := fun v4 => []) [gR 4 (v3)] rfl (hm_41 hG (v3)) rfl (gh_V (t := 4) (vs := []) (rest := []) (show decode (gy_b gY_42) 12 = .ok (.invokevirtual 147, 3) by decide +kernel) rfl hx12 rfl rfl (ok_41 (by decide) (by decide)) wd_744 wd_745 wd_746 (Nat.le_of_ble_eq_true rfl)) (fun _ => rfl) ?_
  intro v4 M5 n6 c7
  refine gr_iload_n (pc := 15) (i := 1) (v2) (show decode (gy_b gY_42) 15 = .ok (.iload_n 1, 1) by decide +kernel) rfl rfl ?_
  exact gr_ireturn (pc := 16) (show decode (gy_b gY_42) 16 = .ok (.ireturn, 1) by decide +kernel) rfl rfl (by decide) gv_0
noncomputable def fi_42 (l0 M n c : Nat) (K : Nat → Nat → Nat → Nat → Bool) : Bool := fi_42_L0 K l0 M n c
theorem hm_42 {G : gxG} (hG : gxG0 G) (l0 : Nat) : gxM G gY_42 yX7_erase [gR 7 (l0)] (fi_42 l0) := gxM_of (L := [gR 7 (l0), gB]) hG 1 (by decide +kernel) rfl rfl rfl rfl (List.forall_mem_cons.mpr ⟨rfl, fun _ h => nomatch h⟩) (fun M n c K => h_42_L0 hG  l0 M n c)
/-! java/lang/String isLatin1 ()Z -/
def gY_43 : gxY := (false, prog_32_method_154_code, 1, (Option.some Jvm.ClassFile.FieldType.boolean), "java/lang/String", 1, 40, 2, [], "isLatin1")
theorem ok_43 {Y : gxY} (h1 : gy_f gY_43 + 1 ≤ gy_f Y) (h2 : 8 + (gy_l gY_43 + 11) + gy_k gY_43 ≤ gy_k Y) : gh_ok Y gY_43 yJ0_isLatin1_aae02 0 := ⟨wd_756, wd_61, ⟨by decide, by decide⟩, by decide +kernel, h1, h2⟩
noncomputable def fi_43_L0 (K : Nat → Nat → Nat → Nat → Bool) (l0 M n c : Nat) : Bool := gx_eq (1) 0 (false) (gx_get (l0) 1 M (fun v1 => gx_eq (v1) 0 (gx_rt gx_f2 (1) (K (1) M n c)) (false)))
theorem h_43_L0 {G : gxG} (hG : gxG0 G) {K : Nat → Nat → Nat → Nat → Bool} (l0 M n c : Nat) : gxJ G gY_43 K 0 [] [gR 8 (l0)] M n c (fi_43_L0 K l0 M n c) := by
  unfold fi_43_L0
  refine gr_compact (pc := 0) (index := 38) (show decode (gy_b gY_43) 0 = .ok (.getstatic 38, 3) by decide +kernel) wd_508 ?_
  refine gr_ifeq (pc := 3) (tgt := 17) (off := 14) hG.2.1 (show decode (gy_b gY_43) 3 = .ok (.ifCond .eq (14), 3) by decide +kernel) (by decide) ?_ ?_
  · exact gj_false
  · refine gr_aload_n (pc := 6) (i := 0) 8 (l0) (show decode (gy_b gY_43) 6 = .ok (.aload_n 0, 1) by decide +kernel) rfl rfl ?_
    refine gr_getf (pc := 7) (index := 15) (t := 8) (j := 1) (σ := 3) (sv := gI) (show decode (gy_b gY_43) 7 = .ok (.getfield 15, 3) by decide +kernel) rfl rfl (fun _ => rfl) wd_615 (by decide) ?_
    intro v1
    refine gr_ifne (pc := 10) (tgt := 17) (off := 7) hG.2.1 (show decode (gy_b gY_43) 10 = .ok (.ifCond .ne (7), 3) by decide +kernel) (by decide) ?_ ?_
    · exact gj_false
    · refine gr_iconst (pc := 13) (z := 1) 1 (show decode (gy_b gY_43) 13 = .ok (.iconst (1), 1) by decide +kernel) kc_1 ?_
      refine gr_goto (pc := 14) (tgt := 18) (off := 4) (show decode (gy_b gY_43) 14 = .ok (.goto (4), 3) by decide +kernel) (by decide) ?_
      exact gr_ireturn (pc := 18) (show decode (gy_b gY_43) 18 = .ok (.ireturn, 1) by decide +kernel) rfl rfl (by decide) gv_2f
noncomputable def fi_43 (l0 M n c : Nat) (K : Nat → Nat → Nat → Nat → Bool) : Bool := fi_43_L0 K l0 M n c
theorem hm_43 {G : gxG} (hG : gxG0 G) (l0 : Nat) : gxM G gY_43 yJ0_isLatin1_aae02 [gR 8 (l0)] (fi_43 l0) := gxM_of (L := [gR 8 (l0)]) hG 0 (by decide +kernel) rfl rfl rfl rfl (List.forall_mem_cons.mpr ⟨rfl, fun _ h => nomatch h⟩) (fun M n c K => h_43_L0 hG  l0 M n c)
/-! java/lang/StringLatin1 charAt ([BI)C -/
def gY_44 : gxY := (false, prog_34_method_2_code, 2, (Option.some Jvm.ClassFile.FieldType.char), "java/lang/StringLatin1", 3, 91, 1, [], "charAt")
theorem ok_44 {Y : gxY} (h1 : gy_f gY_44 + 1 ≤ gy_f Y) (h2 : 8 + (gy_l gY_44 + 11) + gy_k gY_44 ≤ gy_k Y) : gh_ok Y gY_44 yJ1_charAt_3b067 2 := ⟨wd_759, wd_68, ⟨by decide, by decide⟩, by decide +kernel, h1, h2⟩
noncomputable def fi_44_L0 (K : Nat → Nat → Nat → Nat → Bool) (l0 l1 M n c : Nat) : Bool := gx_len (l0) M (fun v1 => fd_sci (l1) (v1) M n c (fun v2 M3 n4 c5 => gx_ald (l0) (l1) M3 (fun v6 => gx_and (v6) (255) (fun z7 => gx_i2c (z7) (fun z8 => gx_rt gx_f1 (z8) (K (z8) M3 n4 c5))))))
theorem h_44_L0 {G : gxG} (hG : gxG0 G) {K : Nat → Nat → Nat → Nat → Bool} (l0 l1 M n c : Nat) : gxJ G gY_44 K 0 [] [gR 67 (l0), gI (l1)] M n c (fi_44_L0 K l0 l1 M n c) := by
  unfold fi_44_L0
  refine gr_iload_n (pc := 0) (i := 1) (l1) (show decode (gy_b gY_44) 0 = .ok (.iload_n 1, 1) by decide +kernel) rfl rfl ?_
  refine gr_aload_n (pc := 1) (i := 0) 67 (l0) (show decode (gy_b gY_44) 1 = .ok (.aload_n 0, 1) by decide +kernel) rfl rfl ?_
  refine gr_alen (pc := 2) (κ := 3) (show decode (gy_b gY_44) 2 = .ok (.arraylength, 1) by decide +kernel) (by decide) ?_
  intro v1
  refine gj_c0 (pc := 3) (Y' := gY_sci) (y := yJ0_checkIndex_df160) (vs := [gI (l1), gI (v1)]) (rest := []) (rs := fun v2 => []) [gI (v1), gI (l1)] rfl (hm_sci hG (l1) (v1)) rfl (gh_S (vs := [gI (l1), gI (v1)]) (rest := []) (show decode (gy_b gY_44) 3 = .ok (.invokestatic 9, 3) by decide +kernel) rfl (ok_sci (by decide) (by decide)) rfl rfl wd_760 wd_560 (Nat.le_of_ble_eq_true rfl)) (fun _ => rfl) ?_
  intro v2 M3 n4 c5
  refine gr_aload_n (pc := 6) (i := 0) 67 (l0) (show decode (gy_b gY_44) 6 = .ok (.aload_n 0, 1) by decide +kernel) rfl rfl ?_
  refine gr_iload_n (pc := 7) (i := 1) (l1) (show decode (gy_b gY_44) 7 = .ok (.iload_n 1, 1) by decide +kernel) rfl rfl ?_
  refine gr_bald (pc := 8) (show decode (gy_b gY_44) 8 = .ok (.baload, 1) by decide +kernel) ?_
  intro v6
  refine gr_sipush (pc := 9) (z := 255) 255 (show decode (gy_b gY_44) 9 = .ok (.sipush (255), 3) by decide +kernel) (by decide +kernel) ?_
  refine gr_iand (pc := 12) hG.2.1 (show decode (gy_b gY_44) 12 = .ok (.iand, 1) by decide +kernel) ?_
  intro z7
  refine gr_i2c (pc := 13) hG.2.1 (show decode (gy_b gY_44) 13 = .ok (.i2c, 1) by decide +kernel) ?_
  intro z8
  exact gr_ireturn (pc := 14) (show decode (gy_b gY_44) 14 = .ok (.ireturn, 1) by decide +kernel) rfl rfl (by decide) (gv_1 hG.2.1)
noncomputable def fi_44 (l0 l1 M n c : Nat) (K : Nat → Nat → Nat → Nat → Bool) : Bool := fi_44_L0 K l0 l1 M n c
theorem hm_44 {G : gxG} (hG : gxG0 G) (l0 l1 : Nat) : gxM G gY_44 yJ1_charAt_3b067 [gR 67 (l0), gI (l1)] (fi_44 l0 l1) := gxM_of (L := [gR 67 (l0), gI (l1)]) hG 0 (by decide +kernel) rfl rfl rfl rfl (List.forall_mem_cons.mpr ⟨rfl, List.forall_mem_cons.mpr ⟨rfl, fun _ h => nomatch h⟩⟩) (fun M n c K => h_44_L0 hG  l0 l1 M n c)
/-! java/lang/String charAt (I)C -/
def gY_45 : gxY := (false, prog_32_method_56_code, 2, (Option.some Jvm.ClassFile.FieldType.char), "java/lang/String", 4, 112, 1, [], "charAt")
theorem ok_45 {Y : gxY} (h1 : gy_f gY_45 + 1 ≤ gy_f Y) (h2 : 8 + (gy_l gY_45 + 11) + gy_k gY_45 ≤ gy_k Y) : gh_ok Y gY_45 yJ0_charAt_5068e 1 := ⟨wd_752, wd_61, ⟨by decide, by decide⟩, by decide +kernel, h1, h2⟩
noncomputable def fi_45_L0 (K : Nat → Nat → Nat → Nat → Bool) (l0 l1 M n c : Nat) : Bool := gx_nn (l0) (fi_43 (l0) M n c (fun v1 M2 n3 c4 => gx_eq (v1) 0 (false) (gx_get (l0) 0 M2 (fun v5 => fi_44 (v5) (l1) M2 n3 c4 (fun v6 M7 n8 c9 => gx_rt gx_f1 (v6) (K (v6) M7 n8 c9))))))
theorem h_45_L0 {G : gxG} (hG : gxG0 G) {K : Nat → Nat → Nat → Nat → Bool} (l0 l1 M n c : Nat) : gxJ G gY_45 K 0 [] [gR 8 (l0), gI (l1)] M n c (fi_45_L0 K l0 l1 M n c) := by
  unfold fi_45_L0
  refine gr_aload_n (pc := 0) (i := 0) 8 (l0) (show decode (gy_b gY_45) 0 = .ok (.aload_n 0, 1) by decide +kernel) rfl rfl ?_
  refine gj_nn (fun hx1 => ?_)
  refine gj_c0 (pc := 1) (Y' := gY_43) (y := yJ0_isLatin1_aae02) (vs := [gR 8 (l0)]) (rest := []) (rs := fun v1 => [gI (v1)]) [gR 8 (l0)] rfl (hm_43 hG (l0)) rfl (gh_V (t := 8) (vs := []) (rest := []) (show decode (gy_b gY_45) 1 = .ok (.invokevirtual 492, 3) by decide +kernel) rfl hx1 rfl rfl (ok_43 (by decide) (by decide)) wd_753 wd_754 wd_755 (Nat.le_of_ble_eq_true rfl)) (fun _ => rfl) ?_
  intro v1 M2 n3 c4
  refine gr_ifeq (pc := 4) (tgt := 16) (off := 12) hG.2.1 (show decode (gy_b gY_45) 4 = .ok (.ifCond .eq (12), 3) by decide +kernel) (by decide) ?_ ?_
  · exact gj_false
  · refine gr_aload_n (pc := 7) (i := 0) 8 (l0) (show decode (gy_b gY_45) 7 = .ok (.aload_n 0, 1) by decide +kernel) rfl rfl ?_
    refine gr_getf (pc := 8) (index := 9) (t := 8) (j := 0) (σ := 75) (sv := (gR 67)) (show decode (gy_b gY_45) 8 = .ok (.getfield 9, 3) by decide +kernel) rfl rfl (fun _ => rfl) wd_614 (by decide) ?_
    intro v5
    refine gr_iload_n (pc := 11) (i := 1) (l1) (show decode (gy_b gY_45) 11 = .ok (.iload_n 1, 1) by decide +kernel) rfl rfl ?_
    refine gj_c0 (pc := 12) (Y' := gY_44) (y := yJ1_charAt_3b067) (vs := [gR 67 (v5), gI (l1)]) (rest := []) (rs := fun v6 => [gI (v6)]) [gI (l1), gR 67 (v5)] rfl (hm_44 hG (v5) (l1)) rfl (gh_S (vs := [gR 67 (v5), gI (l1)]) (rest := []) (show decode (gy_b gY_45) 12 = .ok (.invokestatic 495, 3) by decide +kernel) rfl (ok_44 (by decide) (by decide)) rfl rfl wd_757 wd_758 (Nat.le_of_ble_eq_true rfl)) (fun _ => rfl) ?_
    intro v6 M7 n8 c9
    exact gr_ireturn (pc := 15) (show decode (gy_b gY_45) 15 = .ok (.ireturn, 1) by decide +kernel) rfl rfl (by decide) (gv_1 hG.2.1)
noncomputable def fi_45 (l0 l1 M n c : Nat) (K : Nat → Nat → Nat → Nat → Bool) : Bool := fi_45_L0 K l0 l1 M n c
theorem hm_45 {G : gxG} (hG : gxG0 G) (l0 l1 : Nat) : gxM G gY_45 yJ0_charAt_5068e [gR 8 (l0), gI (l1)] (fi_45 l0 l1) := gxM_of (L := [gR 8 (l0), gI (l1)]) hG 0 (by decide +kernel) rfl rfl rfl rfl (List.forall_mem_cons.mpr ⟨rfl, List.forall_mem_cons.mpr ⟨rfl, fun _ h => nomatch h⟩⟩) (fun M n c K => h_45_L0 hG  l0 l1 M n c)
/-! Farfiles isSign (C)Z -/
def gY_46 : gxY := (false, prog_1_method_7_code, 1, (Option.some Jvm.ClassFile.FieldType.boolean), "Farfiles", 1, 40, 2, [], "isSign")
theorem ok_46 {Y : gxY} (h1 : gy_f gY_46 + 1 ≤ gy_f Y) (h2 : 8 + (gy_l gY_46 + 11) + gy_k gY_46 ≤ gy_k Y) : gh_ok Y gY_46 yX7_isSign 1 := ⟨wd_770, wd_51, ⟨by decide, by decide⟩, by decide +kernel, h1, h2⟩
noncomputable def fi_46_L0 (K : Nat → Nat → Nat → Nat → Bool) (l0 M n c : Nat) : Bool := gx_lt (l0) (32) (false) (gx_lt (126) (l0) (false) (gx_rt gx_f2 (1) (K (1) M n c)))
theorem h_46_L0 {G : gxG} (hG : gxG0 G) {K : Nat → Nat → Nat → Nat → Bool} (l0 M n c : Nat) : gxJ G gY_46 K 0 [] [gI (l0)] M n c (fi_46_L0 K l0 M n c) := by
  unfold fi_46_L0
  refine gr_iload_n (pc := 0) (i := 0) (l0) (show decode (gy_b gY_46) 0 = .ok (.iload_n 0, 1) by decide +kernel) rfl rfl ?_
  refine gr_bipush (pc := 1) (z := 32) 32 (show decode (gy_b gY_46) 1 = .ok (.bipush (32), 2) by decide +kernel) (by decide +kernel) ?_
  refine gr_icmp_lt (pc := 3) (tgt := 16) (off := 13) hG.2.1 (show decode (gy_b gY_46) 3 = .ok (.if_icmp .lt (13), 3) by decide +kernel) (by decide) ?_ ?_
  · exact gj_false
  · refine gr_iload_n (pc := 6) (i := 0) (l0) (show decode (gy_b gY_46) 6 = .ok (.iload_n 0, 1) by decide +kernel) rfl rfl ?_
    refine gr_bipush (pc := 7) (z := 126) 126 (show decode (gy_b gY_46) 7 = .ok (.bipush (126), 2) by decide +kernel) (by decide +kernel) ?_
    refine gr_icmp_gt (pc := 9) (tgt := 16) (off := 7) hG.2.1 (show decode (gy_b gY_46) 9 = .ok (.if_icmp .gt (7), 3) by decide +kernel) (by decide) ?_ ?_
    · exact gj_false
    · refine gr_iconst (pc := 12) (z := 1) 1 (show decode (gy_b gY_46) 12 = .ok (.iconst (1), 1) by decide +kernel) kc_1 ?_
      refine gr_goto (pc := 13) (tgt := 17) (off := 4) (show decode (gy_b gY_46) 13 = .ok (.goto (4), 3) by decide +kernel) (by decide) ?_
      exact gr_ireturn (pc := 17) (show decode (gy_b gY_46) 17 = .ok (.ireturn, 1) by decide +kernel) rfl rfl (by decide) gv_2f
noncomputable def fi_46 (l0 M n c : Nat) (K : Nat → Nat → Nat → Nat → Bool) : Bool := fi_46_L0 K l0 M n c
theorem hm_46 {G : gxG} (hG : gxG0 G) (l0 : Nat) : gxM G gY_46 yX7_isSign [gI (l0)] (fi_46 l0) := gxM_of (L := [gI (l0)]) hG 0 (by decide +kernel) rfl rfl rfl rfl (List.forall_mem_cons.mpr ⟨rfl, fun _ h => nomatch h⟩) (fun M n c K => h_46_L0 hG  l0 M n c)
/-! Farfiles$Line put (C)V -/
def gY_47 : gxY := (false, prog_6_method_3_code, 2, (Option.none : Option FieldType), "Farfiles$Line", 1, 40, 5, [], "put")
theorem ok_47 {Y : gxY} (h1 : gy_f gY_47 + 1 ≤ gy_f Y) (h2 : 8 + (gy_l gY_47 + 11) + gy_k gY_47 ≤ gy_k Y) : gh_ok Y gY_47 yX4_put 1 := ⟨wd_806, wd_52, ⟨by decide, by decide⟩, by decide +kernel, h1, h2⟩
noncomputable def fi_47_L36 (K : Nat → Nat → Nat → Nat → Bool) (M n c : Nat) : Bool := K 0 M n c
theorem h_47_L36 {G : gxG} (hG : gxG0 G) {K : Nat → Nat → Nat → Nat → Bool} (M n c : Nat) : gxJ G gY_47 K 36 [] [gB, gB] M n c (fi_47_L36 K M n c) := by
  unfold fi_47_L36
  exact gr_return (pc := 36) (show decode (gy_b gY_47) 36 = .ok (.return_, 1) by decide +kernel) rfl rfl
noncomputable def fi_47_L0 (K : Nat → Nat → Nat → Nat → Bool) (l0 l1 M n c : Nat) : Bool := gx_get (l0) 1 M (fun v1 => gx_lt (v1) 0 (fi_47_L36 K  M n c) (gx_get (l0) 1 M (fun v2 => gx_lt (v2) (40) (gx_get (l0) 0 M (fun v3 => gx_get (l0) 1 M (fun v4 => gx_ast (v3) (v4) (l1) M gx_f1 (fun M5 => gx_get (l0) 1 M5 (fun v6 => gx_add (v6) (1) (fun z7 => gx_put (l0) 1 (z7) M5 gx_f0 (fun M8 => fi_47_L36 K  M8 n c))))))) (fi_47_L36 K  M n c))))
theorem h_47_L0 {G : gxG} (hG : gxG0 G) {K : Nat → Nat → Nat → Nat → Bool} (l0 l1 M n c : Nat) : gxJ G gY_47 K 0 [] [gR 4 (l0), gI (l1)] M n c (fi_47_L0 K l0 l1 M n c) := by
  unfold fi_47_L0
  refine gr_aload_n (pc := 0) (i := 0) 4 (l0) (show decode (gy_b gY_47) 0 = .ok (.aload_n 0, 1) by decide +kernel) rfl rfl ?_
  refine gr_getf (pc := 1) (index := 15) (t := 4) (j := 1) (σ := 0) (sv := gI) (show decode (gy_b gY_47) 1 = .ok (.getfield 15, 3) by decide +kernel) rfl rfl (fun _ => rfl) wd_101 (by decide) ?_
  intro v1
  refine gr_iflt (pc := 4) (tgt := 36) (off := 32) hG.2.1 (show decode (gy_b gY_47) 4 = .ok (.ifCond .lt (32), 3) by decide +kernel) (by decide) ?_ ?_
  · refine gr_wk [false, false] rfl ?_
    exact h_47_L36 hG  M n c
  · refine gr_aload_n (pc := 7) (i := 0) 4 (l0) (show decode (gy_b gY_47) 7 = .ok (.aload_n 0, 1) by decide +kernel) rfl rfl ?_
    refine gr_getf (pc := 8) (index := 15) (t := 4) (j := 1) (σ := 0) (sv := gI) (show decode (gy_b gY_47) 8 = .ok (.getfield 15, 3) by decide +kernel) rfl rfl (fun _ => rfl) wd_101 (by decide) ?_
    intro v2
    refine gr_bipush (pc := 11) (z := 40) 40 (show decode (gy_b gY_47) 11 = .ok (.bipush (40), 2) by decide +kernel) (by decide +kernel) ?_
    refine gr_icmp_ge (pc := 13) (tgt := 36) (off := 23) hG.2.1 (show decode (gy_b gY_47) 13 = .ok (.if_icmp .ge (23), 3) by decide +kernel) (by decide) ?_ ?_
    · refine gr_wk [false, false] rfl ?_
      exact h_47_L36 hG  M n c
    · refine gr_aload_n (pc := 16) (i := 0) 4 (l0) (show decode (gy_b gY_47) 16 = .ok (.aload_n 0, 1) by decide +kernel) rfl rfl ?_
      refine gr_getf (pc := 17) (index := 9) (t := 4) (j := 0) (σ := 73) (sv := (gR 65)) (show decode (gy_b gY_47) 17 = .ok (.getfield 9, 3) by decide +kernel) rfl rfl (fun _ => rfl) wd_100 (by decide) ?_
      intro v3
      refine gr_aload_n (pc := 20) (i := 0) 4 (l0) (show decode (gy_b gY_47) 20 = .ok (.aload_n 0, 1) by decide +kernel) rfl rfl ?_
      refine gr_getf (pc := 21) (index := 15) (t := 4) (j := 1) (σ := 0) (sv := gI) (show decode (gy_b gY_47) 21 = .ok (.getfield 15, 3) by decide +kernel) rfl rfl (fun _ => rfl) wd_101 (by decide) ?_
      intro v4
      refine gr_iload_n (pc := 24) (i := 1) (l1) (show decode (gy_b gY_47) 24 = .ok (.iload_n 1, 1) by decide +kernel) rfl rfl ?_
      refine gr_cast (pc := 25) hG.2.1 (show decode (gy_b gY_47) 25 = .ok (.castore, 1) by decide +kernel) ?_
      intro M5
      refine gr_aload_n (pc := 26) (i := 0) 4 (l0) (show decode (gy_b gY_47) 26 = .ok (.aload_n 0, 1) by decide +kernel) rfl rfl ?_
      refine gr_dup (b := gB) (pc := 27) (show decode (gy_b gY_47) 27 = .ok (.dup, 1) by decide +kernel) rfl ?_
      refine gr_getf (pc := 28) (index := 15) (t := 4) (j := 1) (σ := 0) (sv := gI) (show decode (gy_b gY_47) 28 = .ok (.getfield 15, 3) by decide +kernel) rfl rfl (fun _ => rfl) wd_101 (by decide) ?_
      intro v6
      refine gr_iconst (pc := 31) (z := 1) 1 (show decode (gy_b gY_47) 31 = .ok (.iconst (1), 1) by decide +kernel) kc_1 ?_
      refine gr_iadd (pc := 32) (show decode (gy_b gY_47) 32 = .ok (.iadd, 1) by decide +kernel) ?_
      intro z7
      refine gr_putf (pc := 33) (index := 15) (t := 4) (j := 1) (σ := 0) (sv := gI) (f := gx_f0) (ty := .int) (show decode (gy_b gY_47) 33 = .ok (.putfield 15, 3) by decide +kernel) rfl rfl (fun _ => rfl) wd_101 rfl gv_0 rfl ?_
      intro M8
      refine gr_wk [false, false] rfl ?_
      exact h_47_L36 hG  M8 n c
noncomputable def fi_47 (l0 l1 M n c : Nat) (K : Nat → Nat → Nat → Nat → Bool) : Bool := fi_47_L0 K l0 l1 M n c
theorem hm_47 {G : gxG} (hG : gxG0 G) (l0 l1 : Nat) : gxM G gY_47 yX4_put [gR 4 (l0), gI (l1)] (fi_47 l0 l1) := gxM_of (L := [gR 4 (l0), gI (l1)]) hG 0 (by decide +kernel) rfl rfl rfl rfl (List.forall_mem_cons.mpr ⟨rfl, List.forall_mem_cons.mpr ⟨rfl, fun _ h => nomatch h⟩⟩) (fun M n c K => h_47_L0 hG  l0 l1 M n c)
/-! Farfiles type (C)I -/
def gY_48 : gxY := (false, prog_1_method_14_code, 2, (Option.some Jvm.ClassFile.FieldType.int), "Farfiles", 2, 61, 0, [], "type")
theorem ok_48 {Y : gxY} (h1 : gy_f gY_48 + 1 ≤ gy_f Y) (h2 : 8 + (gy_l gY_48 + 11) + gy_k gY_48 ≤ gy_k Y) : gh_ok Y gY_48 yX7_type 1 := ⟨wd_767, wd_51, ⟨by decide, by decide⟩, by decide +kernel, h1, h2⟩
noncomputable def fi_48_L0 (K : Nat → Nat → Nat → Nat → Bool) (l0 l1 M n c : Nat) : Bool := fi_46 (l1) M n c (fun v1 M2 n3 c4 => gx_eq (v1) 0 (false) (gx_get (l0) 0 M2 (fun v5 => gx_get (v5) 1 M2 (fun v6 => gx_lt (v6) (40) (gx_get (l0) 0 M2 (fun v7 => gx_nn (v7) (fi_47 (v7) (l1) M2 n3 c4 (fun v8 M9 n10 c11 => gx_get (l0) 0 M9 (fun v12 => gx_get (v12) 1 M9 (fun v13 => gx_rt gx_f0 (v13) (K (v13) M9 n10 c11))))))) (false)))))
theorem h_48_L0 {G : gxG} (hG : gxG0 G) {K : Nat → Nat → Nat → Nat → Bool} (l0 l1 M n c : Nat) : gxJ G gY_48 K 0 [] [gR 7 (l0), gI (l1)] M n c (fi_48_L0 K l0 l1 M n c) := by
  unfold fi_48_L0
  refine gr_iload_n (pc := 0) (i := 1) (l1) (show decode (gy_b gY_48) 0 = .ok (.iload_n 1, 1) by decide +kernel) rfl rfl ?_
  refine gj_c0 (pc := 1) (Y' := gY_46) (y := yX7_isSign) (vs := [gI (l1)]) (rest := []) (rs := fun v1 => [gI (v1)]) [gI (l1)] rfl (hm_46 hG (l1)) rfl (gh_S (vs := [gI (l1)]) (rest := []) (show decode (gy_b gY_48) 1 = .ok (.invokestatic 127, 3) by decide +kernel) rfl (ok_46 (by decide) (by decide)) rfl rfl wd_768 wd_769 (Nat.le_of_ble_eq_true rfl)) (fun _ => rfl) ?_
  intro v1 M2 n3 c4
  refine gr_ifne (pc := 4) (tgt := 17) (off := 13) hG.2.1 (show decode (gy_b gY_48) 4 = .ok (.ifCond .ne (13), 3) by decide +kernel) (by decide) ?_ ?_
  · refine gr_aload_n (pc := 17) (i := 0) 7 (l0) (show decode (gy_b gY_48) 17 = .ok (.aload_n 0, 1) by decide +kernel) rfl rfl ?_
    refine gr_getf (pc := 18) (index := 10) (t := 7) (j := 0) (σ := 12) (sv := (gR 4)) (show decode (gy_b gY_48) 18 = .ok (.getfield 10, 3) by decide +kernel) rfl rfl (fun _ => rfl) wd_294 (by decide) ?_
    intro v5
    refine gr_getfN (pc := 21) (index := 133) (t := 4) (j := 1) (σ := 0) (sv := gI) (show decode (gy_b gY_48) 21 = .ok (.getfield 133, 3) by decide +kernel) rfl rfl (fun _ => rfl) wd_102 (by decide) ?_
    intro v6
    refine gr_bipush (pc := 24) (z := 40) 40 (show decode (gy_b gY_48) 24 = .ok (.bipush (40), 2) by decide +kernel) (by decide +kernel) ?_
    refine gr_icmp_lt (pc := 26) (tgt := 39) (off := 13) hG.2.1 (show decode (gy_b gY_48) 26 = .ok (.if_icmp .lt (13), 3) by decide +kernel) (by decide) ?_ ?_
    · refine gr_aload_n (pc := 39) (i := 0) 7 (l0) (show decode (gy_b gY_48) 39 = .ok (.aload_n 0, 1) by decide +kernel) rfl rfl ?_
      refine gr_getf (pc := 40) (index := 10) (t := 7) (j := 0) (σ := 12) (sv := (gR 4)) (show decode (gy_b gY_48) 40 = .ok (.getfield 10, 3) by decide +kernel) rfl rfl (fun _ => rfl) wd_294 (by decide) ?_
      intro v7
      refine gr_iload_n (pc := 43) (i := 1) (l1) (show decode (gy_b gY_48) 43 = .ok (.iload_n 1, 1) by decide +kernel) rfl rfl ?_
      refine gj_nn (fun hx44 => ?_)
      refine gj_c0 (pc := 44) (Y' := gY_47) (y := yX4_put) (vs := [gR 4 (v7), gI (l1)]) (rest := []) (rs := fun v8 => []) [gI (l1), gR 4 (v7)] rfl (hm_47 hG (v7) (l1)) rfl (gh_V (t := 4) (vs := [gI (l1)]) (rest := []) (show decode (gy_b gY_48) 44 = .ok (.invokevirtual 139, 3) by decide +kernel) rfl hx44 rfl rfl (ok_47 (by decide) (by decide)) wd_803 wd_804 wd_805 (Nat.le_of_ble_eq_true rfl)) (fun _ => rfl) ?_
      intro v8 M9 n10 c11
      refine gr_aload_n (pc := 47) (i := 0) 7 (l0) (show decode (gy_b gY_48) 47 = .ok (.aload_n 0, 1) by decide +kernel) rfl rfl ?_
      refine gr_getf (pc := 48) (index := 10) (t := 7) (j := 0) (σ := 12) (sv := (gR 4)) (show decode (gy_b gY_48) 48 = .ok (.getfield 10, 3) by decide +kernel) rfl rfl (fun _ => rfl) wd_294 (by decide) ?_
      intro v12
      refine gr_getfN (pc := 51) (index := 133) (t := 4) (j := 1) (σ := 0) (sv := gI) (show decode (gy_b gY_48) 51 = .ok (.getfield 133, 3) by decide +kernel) rfl rfl (fun _ => rfl) wd_102 (by decide) ?_
      intro v13
      exact gr_ireturn (pc := 54) (show decode (gy_b gY_48) 54 = .ok (.ireturn, 1) by decide +kernel) rfl rfl (by decide) gv_0
    · exact gj_false
  · exact gj_false
noncomputable def fi_48 (l0 l1 M n c : Nat) (K : Nat → Nat → Nat → Nat → Bool) : Bool := fi_48_L0 K l0 l1 M n c
theorem hm_48 {G : gxG} (hG : gxG0 G) (l0 l1 : Nat) : gxM G gY_48 yX7_type [gR 7 (l0), gI (l1)] (fi_48 l0 l1) := gxM_of (L := [gR 7 (l0), gI (l1)]) hG 0 (by decide +kernel) rfl rfl rfl rfl (List.forall_mem_cons.mpr ⟨rfl, List.forall_mem_cons.mpr ⟨rfl, fun _ h => nomatch h⟩⟩) (fun M n c K => h_48_L0 hG  l0 l1 M n c)
/-! FarfilesLaw types (Ljava/lang/String;)V -/
def gY_49 : gxY := (false, method_6_code, 3, (Option.none : Option FieldType), "FarfilesLaw", 5, 133, 5, [], "types")
theorem ok_49 {Y : gxY} (h1 : gy_f gY_49 + 1 ≤ gy_f Y) (h2 : 8 + (gy_l gY_49 + 11) + gy_k gY_49 ≤ gy_k Y) : gh_ok Y gY_49 yL_types 1 := ⟨wd_739, wd_50, ⟨by decide, by decide⟩, by decide +kernel, h1, h2⟩
noncomputable def fi_49_B10 (K : Nat → Nat → Nat → Nat → Bool) (ih_10 : Nat → Nat → Nat → Nat → Nat → Nat → Bool) (l0 l1 l2 M n c : Nat) : Bool := gx_nn (l1) (fi_12 (l1) M n c (fun v6 M7 n8 c9 => gx_lt (l2) (v6) (gx_get (l0) 3 M7 (fun v10 => gx_nn (l1) (fi_45 (l1) (l2) M7 n8 c9 (fun v11 M12 n13 c14 => gx_nn (v10) (fi_48 (v10) (v11) M12 n13 c14 (fun v15 M16 n17 c18 => gx_add (l2) 1 (fun z19 => ih_10 (l0) (l1) (z19) M16 n17 c18))))))) (K 0 M7 n8 c9)))
theorem hb_49_B10 {G : gxG} (hG : gxG0 G) {K : Nat → Nat → Nat → Nat → Bool} {ih_10 : Nat → Nat → Nat → Nat → Nat → Nat → Bool} (hi_10 : ∀ l0 l1 l2 M n c : Nat, gxJ G gY_49 K 10 [] [gR 10 (l0), gR 8 (l1), gI (l2)] M n c (ih_10 l0 l1 l2 M n c)) (l0 l1 l2 M n c : Nat) : gxJ G gY_49 K 10 [] [gR 10 (l0), gR 8 (l1), gI (l2)] M n c (fi_49_B10 K ih_10 l0 l1 l2 M n c) := by
  unfold fi_49_B10
  refine gr_iload_n (pc := 10) (i := 2) (l2) (show decode (gy_b gY_49) 10 = .ok (.iload_n 2, 1) by decide +kernel) rfl rfl ?_
  refine gr_aload_n (pc := 11) (i := 1) 8 (l1) (show decode (gy_b gY_49) 11 = .ok (.aload_n 1, 1) by decide +kernel) rfl rfl ?_
  refine gj_nn (fun hx12 => ?_)
  refine gj_c0 (pc := 12) (Y' := gY_12) (y := yJ0_length_8abf5) (vs := [gR 8 (l1)]) (rest := [gI (l2)]) (rs := fun v6 => [gI (v6), gI (l2)]) [gR 8 (l1)] rfl (hm_12 hG (l1)) rfl (gh_V (t := 8) (vs := []) (rest := [gI (l2)]) (show decode (gy_b gY_49) 12 = .ok (.invokevirtual 49, 3) by decide +kernel) rfl hx12 rfl rfl (ok_12 (by decide) (by decide)) wd_748 wd_501 wd_502 (Nat.le_of_ble_eq_true rfl)) (fun _ => rfl) ?_
  intro v6 M7 n8 c9
  refine gr_icmp_ge (pc := 15) (tgt := 37) (off := 22) hG.2.1 (show decode (gy_b gY_49) 15 = .ok (.if_icmp .ge (22), 3) by decide +kernel) (by decide) ?_ ?_
  · exact gr_return (pc := 37) (show decode (gy_b gY_49) 37 = .ok (.return_, 1) by decide +kernel) rfl rfl
  · refine gr_aload_n (pc := 18) (i := 0) 10 (l0) (show decode (gy_b gY_49) 18 = .ok (.aload_n 0, 1) by decide +kernel) rfl rfl ?_
    refine gr_getf (pc := 19) (index := 10) (t := 10) (j := 3) (σ := 15) (sv := (gR 7)) (show decode (gy_b gY_49) 19 = .ok (.getfield 10, 3) by decide +kernel) rfl rfl (fun _ => rfl) wd_346 (by decide) ?_
    intro v10
    refine gr_aload_n (pc := 22) (i := 1) 8 (l1) (show decode (gy_b gY_49) 22 = .ok (.aload_n 1, 1) by decide +kernel) rfl rfl ?_
    refine gr_iload_n (pc := 23) (i := 2) (l2) (show decode (gy_b gY_49) 23 = .ok (.iload_n 2, 1) by decide +kernel) rfl rfl ?_
    refine gj_nn (fun hx24 => ?_)
    refine gj_c0 (pc := 24) (Y' := gY_45) (y := yJ0_charAt_5068e) (vs := [gR 8 (l1), gI (l2)]) (rest := [gR 7 (v10)]) (rs := fun v11 => [gI (v11), gR 7 (v10)]) [gI (l2), gR 8 (l1)] rfl (hm_45 hG (l1) (l2)) rfl (gh_V (t := 8) (vs := [gI (l2)]) (rest := [gR 7 (v10)]) (show decode (gy_b gY_49) 24 = .ok (.invokevirtual 54, 3) by decide +kernel) rfl hx24 rfl rfl (ok_45 (by decide) (by decide)) wd_749 wd_750 wd_751 (Nat.le_of_ble_eq_true rfl)) (fun _ => rfl) ?_
    intro v11 M12 n13 c14
    refine gj_nn (fun hx27 => ?_)
    refine gj_c0 (pc := 27) (Y' := gY_48) (y := yX7_type) (vs := [gR 7 (v10), gI (v11)]) (rest := []) (rs := fun v15 => [gI (v15)]) [gI (v11), gR 7 (v10)] rfl (hm_48 hG (v10) (v11)) rfl (gh_V (t := 7) (vs := [gI (v11)]) (rest := []) (show decode (gy_b gY_49) 27 = .ok (.invokevirtual 58, 3) by decide +kernel) rfl hx27 rfl rfl (ok_48 (by decide) (by decide)) wd_764 wd_765 wd_766 (Nat.le_of_ble_eq_true rfl)) (fun _ => rfl) ?_
    intro v15 M16 n17 c18
    refine gr_pop (b := gB) (pc := 30) (show decode (gy_b gY_49) 30 = .ok (.pop, 1) by decide +kernel) rfl ?_
    refine gr_iinc (pc := 31) (i := 2) (d := 1) (z := 1) (L' := fun z19 => [gR 10 (l0), gR 8 (l1), gI (z19)]) (show decode (gy_b gY_49) 31 = .ok (.iinc 2 (1), 3) by decide +kernel) (by decide +kernel) (by decide) rfl rfl (fun _ => rfl) ?_
    intro z19
    refine gr_goto (pc := 34) (tgt := 10) (off := -24) (show decode (gy_b gY_49) 34 = .ok (.goto (-24), 3) by decide +kernel) (by decide) ?_
    exact hi_10 (l0) (l1) (z19) M16 n17 c18
noncomputable def fi_49_W10 (K : Nat → Nat → Nat → Nat → Bool) (u : Nat) : Nat → Nat → Nat → Nat → Nat → Nat → Bool := Nat.rec (motive := fun _ => Nat → Nat → Nat → Nat → Nat → Nat → Bool) (fun _ _ _ _ _ _ => false) (fun _ ih => fi_49_B10 K ih) u
theorem hw_49_10 {G : gxG} (hG : gxG0 G) {K : Nat → Nat → Nat → Nat → Bool} (u : Nat) : ∀ l0 l1 l2 M n c : Nat, gxJ G gY_49 K 10 [] [gR 10 (l0), gR 8 (l1), gI (l2)] M n c (fi_49_W10 K u l0 l1 l2 M n c) := by
  induction u with
  | zero => intro l0 l1 l2 M n c; exact gj_false
  | succ u ih => intro l0 l1 l2 M n c; exact hb_49_B10 hG ih l0 l1 l2 M n c
noncomputable def fi_49_L0 (K : Nat → Nat → Nat → Nat → Bool) (l0 l1 M n c : Nat) : Bool := gx_get (l0) 3 M (fun v1 => gx_nn (v1) (fi_42 (v1) M n c (fun v2 M3 n4 c5 => fi_49_W10 K 65536 (l0) (l1) (0) M3 n4 c5)))
theorem h_49_L0 {G : gxG} (hG : gxG0 G) {K : Nat → Nat → Nat → Nat → Bool} (l0 l1 M n c : Nat) : gxJ G gY_49 K 0 [] [gR 10 (l0), gR 8 (l1), gB] M n c (fi_49_L0 K l0 l1 M n c) := by
  unfold fi_49_L0
  refine gr_aload_n (pc := 0) (i := 0) 10 (l0) (show decode (gy_b gY_49) 0 = .ok (.aload_n 0, 1) by decide +kernel) rfl rfl ?_
  refine gr_getf (pc := 1) (index := 10) (t := 10) (j := 3) (σ := 15) (sv := (gR 7)) (show decode (gy_b gY_49) 1 = .ok (.getfield 10, 3) by decide +kernel) rfl rfl (fun _ => rfl) wd_346 (by decide) ?_
  intro v1
  refine gj_nn (fun hx4 => ?_)
  refine gj_c0 (pc := 4) (Y' := gY_42) (y := yX7_erase) (vs := [gR 7 (v1)]) (rest := []) (rs := fun v2 => [gI (v2)]) [gR 7 (v1)] rfl (hm_42 hG (v1)) rfl (gh_V (t := 7) (vs := []) (rest := []) (show decode (gy_b gY_49) 4 = .ok (.invokevirtual 45, 3) by decide +kernel) rfl hx4 rfl rfl (ok_42 (by decide) (by decide)) wd_740 wd_741 wd_742 (Nat.le_of_ble_eq_true rfl)) (fun _ => rfl) ?_
  intro v2 M3 n4 c5
  refine gr_pop (b := gB) (pc := 7) (show decode (gy_b gY_49) 7 = .ok (.pop, 1) by decide +kernel) rfl ?_
  refine gr_iconst (pc := 8) (z := 0) 0 (show decode (gy_b gY_49) 8 = .ok (.iconst (0), 1) by decide +kernel) kc_0 ?_
  refine gr_istore_n (pc := 9) (i := 2) (L' := [gR 10 (l0), gR 8 (l1), gI (0)]) (show decode (gy_b gY_49) 9 = .ok (.istore_n 2, 1) by decide +kernel) rfl (by decide) rfl rfl ?_
  exact hw_49_10 hG 65536 (l0) (l1) (0) M3 n4 c5
noncomputable def fi_49 (l0 l1 M n c : Nat) (K : Nat → Nat → Nat → Nat → Bool) : Bool := fi_49_L0 K l0 l1 M n c
theorem hm_49 {G : gxG} (hG : gxG0 G) (l0 l1 : Nat) : gxM G gY_49 yL_types [gR 10 (l0), gR 8 (l1)] (fi_49 l0 l1) := gxM_of (L := [gR 10 (l0), gR 8 (l1), gB]) hG 1 (by decide +kernel) rfl rfl rfl rfl (List.forall_mem_cons.mpr ⟨rfl, List.forall_mem_cons.mpr ⟨rfl, fun _ h => nomatch h⟩⟩) (fun M n c K => h_49_L0 hG  l0 l1 M n c)
/-! Farfiles$Client startCall ()V -/
def gY_50 : gxY := (false, prog_5_method_5_code, 1, (Option.none : Option FieldType), "Farfiles$Client", 1, 40, 5, [], "startCall")
theorem ok_50 {Y : gxY} (h1 : gy_f gY_50 + 1 ≤ gy_f Y) (h2 : 8 + (gy_l gY_50 + 11) + gy_k gY_50 ≤ gy_k Y) : gh_ok Y gY_50 yX3_startCall 0 := ⟨wd_818, wd_58, ⟨by decide, by decide⟩, by decide +kernel, h1, h2⟩
noncomputable def fi_50_L0 (K : Nat → Nat → Nat → Nat → Bool) (l0 M n c : Nat) : Bool := gx_get (l0) 8 M (fun v1 => gx_put (l0) 9 (v1) M gx_f0 (fun M2 => K 0 M2 n c))
theorem h_50_L0 {G : gxG} (hG : gxG0 G) {K : Nat → Nat → Nat → Nat → Bool} (l0 M n c : Nat) : gxJ G gY_50 K 0 [] [gR 3 (l0)] M n c (fi_50_L0 K l0 M n c) := by
  unfold fi_50_L0
  refine gr_aload_n (pc := 0) (i := 0) 3 (l0) (show decode (gy_b gY_50) 0 = .ok (.aload_n 0, 1) by decide +kernel) rfl rfl ?_
  refine gr_aload_n (pc := 1) (i := 0) 3 (l0) (show decode (gy_b gY_50) 1 = .ok (.aload_n 0, 1) by decide +kernel) rfl rfl ?_
  refine gr_getf (pc := 2) (index := 43) (t := 3) (j := 8) (σ := 0) (sv := gI) (show decode (gy_b gY_50) 2 = .ok (.getfield 43, 3) by decide +kernel) rfl rfl (fun _ => rfl) wd_265 (by decide) ?_
  intro v1
  refine gr_putf (pc := 5) (index := 46) (t := 3) (j := 9) (σ := 0) (sv := gI) (f := gx_f0) (ty := .int) (show decode (gy_b gY_50) 5 = .ok (.putfield 46, 3) by decide +kernel) rfl rfl (fun _ => rfl) wd_266 rfl gv_0 rfl ?_
  intro M2
  exact gr_return (pc := 8) (show decode (gy_b gY_50) 8 = .ok (.return_, 1) by decide +kernel) rfl rfl
noncomputable def fi_50 (l0 M n c : Nat) (K : Nat → Nat → Nat → Nat → Bool) : Bool := fi_50_L0 K l0 M n c
theorem hm_50 {G : gxG} (hG : gxG0 G) (l0 : Nat) : gxM G gY_50 yX3_startCall [gR 3 (l0)] (fi_50 l0) := gxM_of (L := [gR 3 (l0)]) hG 0 (by decide +kernel) rfl rfl rfl rfl (List.forall_mem_cons.mpr ⟨rfl, fun _ h => nomatch h⟩) (fun M n c K => h_50_L0 hG  l0 M n c)
/-! Farfiles callerOf (I)LFarfiles$Client; -/
def gY_51 : gxY := (false, prog_1_method_23_code, 3, (Option.some (Jvm.ClassFile.FieldType.object "Farfiles$Client")), "Farfiles", 2, 61, 11, [], "callerOf")
theorem ok_51 {Y : gxY} (h1 : gy_f gY_51 + 1 ≤ gy_f Y) (h2 : 8 + (gy_l gY_51 + 11) + gy_k gY_51 ≤ gy_k Y) : gh_ok Y gY_51 yX7_callerOf 1 := ⟨wd_814, wd_51, ⟨by decide, by decide⟩, by decide +kernel, h1, h2⟩
noncomputable def fi_51_L0 (K : Nat → Nat → Nat → Nat → Bool) (l0 l1 M n c : Nat) : Bool := gx_nn (l0) (fi_38 (l0) (l1) M n c (fun v1 M2 n3 c4 => gx_nn (v1) (fi_50 (v1) M2 n3 c4 (fun v5 M6 n7 c8 => gx_rt gx_f0 (v1) (K (v1) M6 n7 c8)))))
theorem h_51_L0 {G : gxG} (hG : gxG0 G) {K : Nat → Nat → Nat → Nat → Bool} (l0 l1 M n c : Nat) : gxJ G gY_51 K 0 [] [gR 7 (l0), gI (l1), gB] M n c (fi_51_L0 K l0 l1 M n c) := by
  unfold fi_51_L0
  refine gr_aload_n (pc := 0) (i := 0) 7 (l0) (show decode (gy_b gY_51) 0 = .ok (.aload_n 0, 1) by decide +kernel) rfl rfl ?_
  refine gr_iload_n (pc := 1) (i := 1) (l1) (show decode (gy_b gY_51) 1 = .ok (.iload_n 1, 1) by decide +kernel) rfl rfl ?_
  refine gj_nn (fun hx2 => ?_)
  refine gj_c0 (pc := 2) (Y' := gY_38) (y := yX7_clientOf) (vs := [gR 7 (l0), gI (l1)]) (rest := []) (rs := fun v1 => [gR 3 (v1)]) [gI (l1), gR 7 (l0)] rfl (hm_38 hG (l0) (l1)) rfl (gh_V (t := 7) (vs := [gI (l1)]) (rest := []) (show decode (gy_b gY_51) 2 = .ok (.invokevirtual 155, 3) by decide +kernel) rfl hx2 rfl rfl (ok_38 (by decide) (by decide)) wd_662 wd_664 wd_9 (Nat.le_of_ble_eq_true rfl)) (fun _ => rfl) ?_
  intro v1 M2 n3 c4
  refine gr_astore_n (pc := 5) (i := 2) (L' := [gR 7 (l0), gI (l1), gR 3 (v1)]) (show decode (gy_b gY_51) 5 = .ok (.astore_n 2, 1) by decide +kernel) rfl (by decide) rfl rfl ?_
  refine gr_aload_n (pc := 6) (i := 2) 3 (v1) (show decode (gy_b gY_51) 6 = .ok (.aload_n 2, 1) by decide +kernel) rfl rfl ?_
  refine gj_nn (fun hx7 => ?_)
  refine gj_c0 (pc := 7) (Y' := gY_50) (y := yX3_startCall) (vs := [gR 3 (v1)]) (rest := []) (rs := fun v5 => []) [gR 3 (v1)] rfl (hm_50 hG (v1)) rfl (gh_V (t := 3) (vs := []) (rest := []) (show decode (gy_b gY_51) 7 = .ok (.invokevirtual 174, 3) by decide +kernel) rfl hx7 rfl rfl (ok_50 (by decide) (by decide)) wd_815 wd_816 wd_817 (Nat.le_of_ble_eq_true rfl)) (fun _ => rfl) ?_
  intro v5 M6 n7 c8
  refine gr_aload_n (pc := 10) (i := 2) 3 (v1) (show decode (gy_b gY_51) 10 = .ok (.aload_n 2, 1) by decide +kernel) rfl rfl ?_
  exact gr_areturn (pc := 11) (t := 3) (show decode (gy_b gY_51) 11 = .ok (.areturn, 1) by decide +kernel) rfl rfl (Or.inl ⟨_, rfl⟩)
noncomputable def fi_51 (l0 l1 M n c : Nat) (K : Nat → Nat → Nat → Nat → Bool) : Bool := fi_51_L0 K l0 l1 M n c
theorem hm_51 {G : gxG} (hG : gxG0 G) (l0 l1 : Nat) : gxM G gY_51 yX7_callerOf [gR 7 (l0), gI (l1)] (fi_51 l0 l1) := gxM_of (L := [gR 7 (l0), gI (l1), gB]) hG 1 (by decide +kernel) rfl rfl rfl rfl (List.forall_mem_cons.mpr ⟨rfl, List.forall_mem_cons.mpr ⟨rfl, fun _ h => nomatch h⟩⟩) (fun M n c K => h_51_L0 hG  l0 l1 M n c)
/-! Farfiles$Line at (I)C -/
def gY_52 : gxY := (false, prog_6_method_2_code, 2, (Option.some Jvm.ClassFile.FieldType.char), "Farfiles$Line", 1, 40, 1, [], "at")
theorem ok_52 {Y : gxY} (h1 : gy_f gY_52 + 1 ≤ gy_f Y) (h2 : 8 + (gy_l gY_52 + 11) + gy_k gY_52 ≤ gy_k Y) : gh_ok Y gY_52 yX4_at 1 := ⟨wd_837, wd_52, ⟨by decide, by decide⟩, by decide +kernel, h1, h2⟩
noncomputable def fi_52_L28 (K : Nat → Nat → Nat → Nat → Bool) (s0 M n c : Nat) : Bool := gx_rt gx_f1 (s0) (K (s0) M n c)
theorem h_52_L28 {G : gxG} (hG : gxG0 G) {K : Nat → Nat → Nat → Nat → Bool} (s0 M n c : Nat) : gxJ G gY_52 K 28 [gI (s0)] [gB, gB] M n c (fi_52_L28 K s0 M n c) := by
  unfold fi_52_L28
  exact gr_ireturn (pc := 28) (show decode (gy_b gY_52) 28 = .ok (.ireturn, 1) by decide +kernel) rfl rfl (by decide) (gv_1 hG.2.1)
noncomputable def fi_52_L27 (K : Nat → Nat → Nat → Nat → Bool) (M n c : Nat) : Bool := fi_52_L28 K (0) M n c
theorem h_52_L27 {G : gxG} (hG : gxG0 G) {K : Nat → Nat → Nat → Nat → Bool} (M n c : Nat) : gxJ G gY_52 K 27 [] [gB, gB] M n c (fi_52_L27 K M n c) := by
  unfold fi_52_L27
  refine gr_iconst (pc := 27) (z := 0) 0 (show decode (gy_b gY_52) 27 = .ok (.iconst (0), 1) by decide +kernel) kc_0 ?_
  exact h_52_L28 hG (0) M n c
noncomputable def fi_52_L0 (K : Nat → Nat → Nat → Nat → Bool) (l0 l1 M n c : Nat) : Bool := gx_lt (l1) 0 (fi_52_L27 K  M n c) (gx_get (l0) 1 M (fun v1 => gx_lt (l1) (v1) (gx_lt (l1) (40) (gx_get (l0) 0 M (fun v2 => gx_ald (v2) (l1) M (fun v3 => fi_52_L28 K (v3) M n c))) (fi_52_L27 K  M n c)) (fi_52_L27 K  M n c)))
theorem h_52_L0 {G : gxG} (hG : gxG0 G) {K : Nat → Nat → Nat → Nat → Bool} (l0 l1 M n c : Nat) : gxJ G gY_52 K 0 [] [gR 4 (l0), gI (l1)] M n c (fi_52_L0 K l0 l1 M n c) := by
  unfold fi_52_L0
  refine gr_iload_n (pc := 0) (i := 1) (l1) (show decode (gy_b gY_52) 0 = .ok (.iload_n 1, 1) by decide +kernel) rfl rfl ?_
  refine gr_iflt (pc := 1) (tgt := 27) (off := 26) hG.2.1 (show decode (gy_b gY_52) 1 = .ok (.ifCond .lt (26), 3) by decide +kernel) (by decide) ?_ ?_
  · refine gr_wk [false, false] rfl ?_
    exact h_52_L27 hG  M n c
  · refine gr_iload_n (pc := 4) (i := 1) (l1) (show decode (gy_b gY_52) 4 = .ok (.iload_n 1, 1) by decide +kernel) rfl rfl ?_
    refine gr_aload_n (pc := 5) (i := 0) 4 (l0) (show decode (gy_b gY_52) 5 = .ok (.aload_n 0, 1) by decide +kernel) rfl rfl ?_
    refine gr_getf (pc := 6) (index := 15) (t := 4) (j := 1) (σ := 0) (sv := gI) (show decode (gy_b gY_52) 6 = .ok (.getfield 15, 3) by decide +kernel) rfl rfl (fun _ => rfl) wd_101 (by decide) ?_
    intro v1
    refine gr_icmp_ge (pc := 9) (tgt := 27) (off := 18) hG.2.1 (show decode (gy_b gY_52) 9 = .ok (.if_icmp .ge (18), 3) by decide +kernel) (by decide) ?_ ?_
    · refine gr_wk [false, false] rfl ?_
      exact h_52_L27 hG  M n c
    · refine gr_iload_n (pc := 12) (i := 1) (l1) (show decode (gy_b gY_52) 12 = .ok (.iload_n 1, 1) by decide +kernel) rfl rfl ?_
      refine gr_bipush (pc := 13) (z := 40) 40 (show decode (gy_b gY_52) 13 = .ok (.bipush (40), 2) by decide +kernel) (by decide +kernel) ?_
      refine gr_icmp_ge (pc := 15) (tgt := 27) (off := 12) hG.2.1 (show decode (gy_b gY_52) 15 = .ok (.if_icmp .ge (12), 3) by decide +kernel) (by decide) ?_ ?_
      · refine gr_wk [false, false] rfl ?_
        exact h_52_L27 hG  M n c
      · refine gr_aload_n (pc := 18) (i := 0) 4 (l0) (show decode (gy_b gY_52) 18 = .ok (.aload_n 0, 1) by decide +kernel) rfl rfl ?_
        refine gr_getf (pc := 19) (index := 9) (t := 4) (j := 0) (σ := 73) (sv := (gR 65)) (show decode (gy_b gY_52) 19 = .ok (.getfield 9, 3) by decide +kernel) rfl rfl (fun _ => rfl) wd_100 (by decide) ?_
        intro v2
        refine gr_iload_n (pc := 22) (i := 1) (l1) (show decode (gy_b gY_52) 22 = .ok (.iload_n 1, 1) by decide +kernel) rfl rfl ?_
        refine gr_cald (pc := 23) (show decode (gy_b gY_52) 23 = .ok (.caload, 1) by decide +kernel) ?_
        intro v3
        refine gr_goto (pc := 24) (tgt := 28) (off := 4) (show decode (gy_b gY_52) 24 = .ok (.goto (4), 3) by decide +kernel) (by decide) ?_
        refine gr_wk [false, false] rfl ?_
        exact h_52_L28 hG (v3) M n c
noncomputable def fi_52 (l0 l1 M n c : Nat) (K : Nat → Nat → Nat → Nat → Bool) : Bool := fi_52_L0 K l0 l1 M n c
theorem hm_52 {G : gxG} (hG : gxG0 G) (l0 l1 : Nat) : gxM G gY_52 yX4_at [gR 4 (l0), gI (l1)] (fi_52 l0 l1) := gxM_of (L := [gR 4 (l0), gI (l1)]) hG 0 (by decide +kernel) rfl rfl rfl rfl (List.forall_mem_cons.mpr ⟨rfl, List.forall_mem_cons.mpr ⟨rfl, fun _ h => nomatch h⟩⟩) (fun M n c K => h_52_L0 hG  l0 l1 M n c)
/-! Farfiles$Path isEnd (LFarfiles$Line;IC)Z -/
def gY_53 : gxY := (false, prog_8_method_3_code, 3, (Option.some Jvm.ClassFile.FieldType.boolean), "Farfiles$Path", 2, 61, 2, [], "isEnd")
theorem ok_53 {Y : gxY} (h1 : gy_f gY_53 + 1 ≤ gy_f Y) (h2 : 8 + (gy_l gY_53 + 11) + gy_k gY_53 ≤ gy_k Y) : gh_ok Y gY_53 yX6_isEnd 3 := ⟨wd_833, wd_57, ⟨by decide, by decide⟩, by decide +kernel, h1, h2⟩
noncomputable def fi_53_L14 (K : Nat → Nat → Nat → Nat → Bool) (s0 M n c : Nat) : Bool := gx_rt gx_f2 (s0) (K (s0) M n c)
theorem h_53_L14 {G : gxG} (hG : gxG0 G) {K : Nat → Nat → Nat → Nat → Bool} (s0 M n c : Nat) : gxJ G gY_53 K 14 [gI (s0)] [gB, gB, gB] M n c (fi_53_L14 K s0 M n c) := by
  unfold fi_53_L14
  exact gr_ireturn (pc := 14) (show decode (gy_b gY_53) 14 = .ok (.ireturn, 1) by decide +kernel) rfl rfl (by decide) gv_2f
noncomputable def fi_53_L0 (K : Nat → Nat → Nat → Nat → Bool) (l0 l1 l2 M n c : Nat) : Bool := gx_nn (l0) (fi_52 (l0) (l1) M n c (fun v1 M2 n3 c4 => gx_eq (v1) (l2) (fi_53_L14 K (1) M2 n3 c4) (fi_53_L14 K (0) M2 n3 c4)))
theorem h_53_L0 {G : gxG} (hG : gxG0 G) {K : Nat → Nat → Nat → Nat → Bool} (l0 l1 l2 M n c : Nat) : gxJ G gY_53 K 0 [] [gR 4 (l0), gI (l1), gI (l2)] M n c (fi_53_L0 K l0 l1 l2 M n c) := by
  unfold fi_53_L0
  refine gr_aload_n (pc := 0) (i := 0) 4 (l0) (show decode (gy_b gY_53) 0 = .ok (.aload_n 0, 1) by decide +kernel) rfl rfl ?_
  refine gr_iload_n (pc := 1) (i := 1) (l1) (show decode (gy_b gY_53) 1 = .ok (.iload_n 1, 1) by decide +kernel) rfl rfl ?_
  refine gj_nn (fun hx2 => ?_)
  refine gj_c0 (pc := 2) (Y' := gY_52) (y := yX4_at) (vs := [gR 4 (l0), gI (l1)]) (rest := []) (rs := fun v1 => [gI (v1)]) [gI (l1), gR 4 (l0)] rfl (hm_52 hG (l0) (l1)) rfl (gh_V (t := 4) (vs := [gI (l1)]) (rest := []) (show decode (gy_b gY_53) 2 = .ok (.invokevirtual 40, 3) by decide +kernel) rfl hx2 rfl rfl (ok_52 (by decide) (by decide)) wd_834 wd_835 wd_836 (Nat.le_of_ble_eq_true rfl)) (fun _ => rfl) ?_
  intro v1 M2 n3 c4
  refine gr_iload_n (pc := 5) (i := 2) (l2) (show decode (gy_b gY_53) 5 = .ok (.iload_n 2, 1) by decide +kernel) rfl rfl ?_
  refine gr_icmp_ne (pc := 6) (tgt := 13) (off := 7) hG.2.1 (show decode (gy_b gY_53) 6 = .ok (.if_icmp .ne (7), 3) by decide +kernel) (by decide) ?_ ?_
  · refine gr_iconst (pc := 13) (z := 0) 0 (show decode (gy_b gY_53) 13 = .ok (.iconst (0), 1) by decide +kernel) kc_0 ?_
    refine gr_wk [false, false, false] rfl ?_
    exact h_53_L14 hG (0) M2 n3 c4
  · refine gr_iconst (pc := 9) (z := 1) 1 (show decode (gy_b gY_53) 9 = .ok (.iconst (1), 1) by decide +kernel) kc_1 ?_
    refine gr_goto (pc := 10) (tgt := 14) (off := 4) (show decode (gy_b gY_53) 10 = .ok (.goto (4), 3) by decide +kernel) (by decide) ?_
    refine gr_wk [false, false, false] rfl ?_
    exact h_53_L14 hG (1) M2 n3 c4
noncomputable def fi_53 (l0 l1 l2 M n c : Nat) (K : Nat → Nat → Nat → Nat → Bool) : Bool := fi_53_L0 K l0 l1 l2 M n c
theorem hm_53 {G : gxG} (hG : gxG0 G) (l0 l1 l2 : Nat) : gxM G gY_53 yX6_isEnd [gR 4 (l0), gI (l1), gI (l2)] (fi_53 l0 l1 l2) := gxM_of (L := [gR 4 (l0), gI (l1), gI (l2)]) hG 0 (by decide +kernel) rfl rfl rfl rfl (List.forall_mem_cons.mpr ⟨rfl, List.forall_mem_cons.mpr ⟨rfl, List.forall_mem_cons.mpr ⟨rfl, fun _ h => nomatch h⟩⟩⟩) (fun M n c K => h_53_L0 hG  l0 l1 l2 M n c)
/-! Farfiles$Line isLetter (I)Z -/
def gY_54 : gxY := (false, prog_6_method_6_code, 3, (Option.some Jvm.ClassFile.FieldType.boolean), "Farfiles$Line", 2, 61, 2, [], "isLetter")
theorem ok_54 {Y : gxY} (h1 : gy_f gY_54 + 1 ≤ gy_f Y) (h2 : 8 + (gy_l gY_54 + 11) + gy_k gY_54 ≤ gy_k Y) : gh_ok Y gY_54 yX4_isLetter 1 := ⟨wd_849, wd_52, ⟨by decide, by decide⟩, by decide +kernel, h1, h2⟩
noncomputable def fi_54_L23 (K : Nat → Nat → Nat → Nat → Bool) (s0 M n c : Nat) : Bool := gx_rt gx_f2 (s0) (K (s0) M n c)
theorem h_54_L23 {G : gxG} (hG : gxG0 G) {K : Nat → Nat → Nat → Nat → Bool} (s0 M n c : Nat) : gxJ G gY_54 K 23 [gI (s0)] [gB, gB, gB] M n c (fi_54_L23 K s0 M n c) := by
  unfold fi_54_L23
  exact gr_ireturn (pc := 23) (show decode (gy_b gY_54) 23 = .ok (.ireturn, 1) by decide +kernel) rfl rfl (by decide) gv_2f
noncomputable def fi_54_L22 (K : Nat → Nat → Nat → Nat → Bool) (M n c : Nat) : Bool := fi_54_L23 K (0) M n c
theorem h_54_L22 {G : gxG} (hG : gxG0 G) {K : Nat → Nat → Nat → Nat → Bool} (M n c : Nat) : gxJ G gY_54 K 22 [] [gB, gB, gB] M n c (fi_54_L22 K M n c) := by
  unfold fi_54_L22
  refine gr_iconst (pc := 22) (z := 0) 0 (show decode (gy_b gY_54) 22 = .ok (.iconst (0), 1) by decide +kernel) kc_0 ?_
  exact h_54_L23 hG (0) M n c
noncomputable def fi_54_L0 (K : Nat → Nat → Nat → Nat → Bool) (l0 l1 M n c : Nat) : Bool := gx_nn (l0) (fi_52 (l0) (l1) M n c (fun v1 M2 n3 c4 => gx_lt (v1) (97) (fi_54_L22 K  M2 n3 c4) (gx_lt (122) (v1) (fi_54_L22 K  M2 n3 c4) (fi_54_L23 K (1) M2 n3 c4))))
theorem h_54_L0 {G : gxG} (hG : gxG0 G) {K : Nat → Nat → Nat → Nat → Bool} (l0 l1 M n c : Nat) : gxJ G gY_54 K 0 [] [gR 4 (l0), gI (l1), gB] M n c (fi_54_L0 K l0 l1 M n c) := by
  unfold fi_54_L0
  refine gr_aload_n (pc := 0) (i := 0) 4 (l0) (show decode (gy_b gY_54) 0 = .ok (.aload_n 0, 1) by decide +kernel) rfl rfl ?_
  refine gr_iload_n (pc := 1) (i := 1) (l1) (show decode (gy_b gY_54) 1 = .ok (.iload_n 1, 1) by decide +kernel) rfl rfl ?_
  refine gj_nn (fun hx2 => ?_)
  refine gj_c0 (pc := 2) (Y' := gY_52) (y := yX4_at) (vs := [gR 4 (l0), gI (l1)]) (rest := []) (rs := fun v1 => [gI (v1)]) [gI (l1), gR 4 (l0)] rfl (hm_52 hG (l0) (l1)) rfl (gh_V (t := 4) (vs := [gI (l1)]) (rest := []) (show decode (gy_b gY_54) 2 = .ok (.invokevirtual 22, 3) by decide +kernel) rfl hx2 rfl rfl (ok_52 (by decide) (by decide)) wd_845 wd_835 wd_836 (Nat.le_of_ble_eq_true rfl)) (fun _ => rfl) ?_
  intro v1 M2 n3 c4
  refine gr_istore_n (pc := 5) (i := 2) (L' := [gR 4 (l0), gI (l1), gI (v1)]) (show decode (gy_b gY_54) 5 = .ok (.istore_n 2, 1) by decide +kernel) rfl (by decide) rfl rfl ?_
  refine gr_iload_n (pc := 6) (i := 2) (v1) (show decode (gy_b gY_54) 6 = .ok (.iload_n 2, 1) by decide +kernel) rfl rfl ?_
  refine gr_bipush (pc := 7) (z := 97) 97 (show decode (gy_b gY_54) 7 = .ok (.bipush (97), 2) by decide +kernel) (by decide +kernel) ?_
  refine gr_icmp_lt (pc := 9) (tgt := 22) (off := 13) hG.2.1 (show decode (gy_b gY_54) 9 = .ok (.if_icmp .lt (13), 3) by decide +kernel) (by decide) ?_ ?_
  · refine gr_wk [false, false, false] rfl ?_
    exact h_54_L22 hG  M2 n3 c4
  · refine gr_iload_n (pc := 12) (i := 2) (v1) (show decode (gy_b gY_54) 12 = .ok (.iload_n 2, 1) by decide +kernel) rfl rfl ?_
    refine gr_bipush (pc := 13) (z := 122) 122 (show decode (gy_b gY_54) 13 = .ok (.bipush (122), 2) by decide +kernel) (by decide +kernel) ?_
    refine gr_icmp_gt (pc := 15) (tgt := 22) (off := 7) hG.2.1 (show decode (gy_b gY_54) 15 = .ok (.if_icmp .gt (7), 3) by decide +kernel) (by decide) ?_ ?_
    · refine gr_wk [false, false, false] rfl ?_
      exact h_54_L22 hG  M2 n3 c4
    · refine gr_iconst (pc := 18) (z := 1) 1 (show decode (gy_b gY_54) 18 = .ok (.iconst (1), 1) by decide +kernel) kc_1 ?_
      refine gr_goto (pc := 19) (tgt := 23) (off := 4) (show decode (gy_b gY_54) 19 = .ok (.goto (4), 3) by decide +kernel) (by decide) ?_
      refine gr_wk [false, false, false] rfl ?_
      exact h_54_L23 hG (1) M2 n3 c4
noncomputable def fi_54 (l0 l1 M n c : Nat) (K : Nat → Nat → Nat → Nat → Bool) : Bool := fi_54_L0 K l0 l1 M n c
theorem hm_54 {G : gxG} (hG : gxG0 G) (l0 l1 : Nat) : gxM G gY_54 yX4_isLetter [gR 4 (l0), gI (l1)] (fi_54 l0 l1) := gxM_of (L := [gR 4 (l0), gI (l1), gB]) hG 1 (by decide +kernel) rfl rfl rfl rfl (List.forall_mem_cons.mpr ⟨rfl, List.forall_mem_cons.mpr ⟨rfl, fun _ h => nomatch h⟩⟩) (fun M n c K => h_54_L0 hG  l0 l1 M n c)
/-! Farfiles$Path endOfName (LFarfiles$Line;I)I -/
def gY_55 : gxY := (false, prog_8_method_4_code, 4, (Option.some Jvm.ClassFile.FieldType.int), "Farfiles$Path", 3, 83, 0, [], "endOfName")
theorem ok_55 {Y : gxY} (h1 : gy_f gY_55 + 1 ≤ gy_f Y) (h2 : 8 + (gy_l gY_55 + 11) + gy_k gY_55 ≤ gy_k Y) : gh_ok Y gY_55 yX6_endOfName 2 := ⟨wd_840, wd_57, ⟨by decide, by decide⟩, by decide +kernel, h1, h2⟩
noncomputable def fi_55_L72 (K : Nat → Nat → Nat → Nat → Bool) (l1 l2 M n c : Nat) : Bool := gx_eq (l2) (l1) (false) (gx_rt gx_f0 (l2) (K (l2) M n c))
theorem h_55_L72 {G : gxG} (hG : gxG0 G) {K : Nat → Nat → Nat → Nat → Bool} (l1 l2 M n c : Nat) : gxJ G gY_55 K 72 [] [gB, gI (l1), gI (l2), gB] M n c (fi_55_L72 K l1 l2 M n c) := by
  unfold fi_55_L72
  refine gr_iload_n (pc := 72) (i := 2) (l2) (show decode (gy_b gY_55) 72 = .ok (.iload_n 2, 1) by decide +kernel) rfl rfl ?_
  refine gr_iload_n (pc := 73) (i := 1) (l1) (show decode (gy_b gY_55) 73 = .ok (.iload_n 1, 1) by decide +kernel) rfl rfl ?_
  refine gr_icmp_ne (pc := 74) (tgt := 83) (off := 9) hG.2.1 (show decode (gy_b gY_55) 74 = .ok (.if_icmp .ne (9), 3) by decide +kernel) (by decide) ?_ ?_
  · refine gr_iload_n (pc := 83) (i := 2) (l2) (show decode (gy_b gY_55) 83 = .ok (.iload_n 2, 1) by decide +kernel) rfl rfl ?_
    exact gr_ireturn (pc := 84) (show decode (gy_b gY_55) 84 = .ok (.ireturn, 1) by decide +kernel) rfl rfl (by decide) gv_0
  · exact gj_false
noncomputable def fi_55_B50 (K : Nat → Nat → Nat → Nat → Bool) (ih_50 : Nat → Nat → Nat → Nat → Nat → Nat → Nat → Bool) (l0 l1 l2 l3 M n c : Nat) : Bool := gx_lt (l3) (3) (gx_nn (l0) (fi_54 (l0) (l2) M n c (fun v5 M6 n7 c8 => gx_eq (v5) 0 (fi_55_L72 K (l1) (l2) M6 n7 c8) (gx_add (l2) 1 (fun z9 => gx_add (l3) 1 (fun z10 => ih_50 (l0) (l1) (z9) (z10) M6 n7 c8)))))) (fi_55_L72 K (l1) (l2) M n c)
theorem hb_55_B50 {G : gxG} (hG : gxG0 G) {K : Nat → Nat → Nat → Nat → Bool} {ih_50 : Nat → Nat → Nat → Nat → Nat → Nat → Nat → Bool} (hi_50 : ∀ l0 l1 l2 l3 M n c : Nat, gxJ G gY_55 K 50 [] [gR 4 (l0), gI (l1), gI (l2), gI (l3)] M n c (ih_50 l0 l1 l2 l3 M n c)) (l0 l1 l2 l3 M n c : Nat) : gxJ G gY_55 K 50 [] [gR 4 (l0), gI (l1), gI (l2), gI (l3)] M n c (fi_55_B50 K ih_50 l0 l1 l2 l3 M n c) := by
  unfold fi_55_B50
  refine gr_iload_n (pc := 50) (i := 3) (l3) (show decode (gy_b gY_55) 50 = .ok (.iload_n 3, 1) by decide +kernel) rfl rfl ?_
  refine gr_iconst (pc := 51) (z := 3) 3 (show decode (gy_b gY_55) 51 = .ok (.iconst (3), 1) by decide +kernel) kc_3 ?_
  refine gr_icmp_ge (pc := 52) (tgt := 72) (off := 20) hG.2.1 (show decode (gy_b gY_55) 52 = .ok (.if_icmp .ge (20), 3) by decide +kernel) (by decide) ?_ ?_
  · refine gr_wk [false, true, true, false] rfl ?_
    exact h_55_L72 hG (l1) (l2) M n c
  · refine gr_aload_n (pc := 55) (i := 0) 4 (l0) (show decode (gy_b gY_55) 55 = .ok (.aload_n 0, 1) by decide +kernel) rfl rfl ?_
    refine gr_iload_n (pc := 56) (i := 2) (l2) (show decode (gy_b gY_55) 56 = .ok (.iload_n 2, 1) by decide +kernel) rfl rfl ?_
    refine gj_nn (fun hx57 => ?_)
    refine gj_c0 (pc := 57) (Y' := gY_54) (y := yX4_isLetter) (vs := [gR 4 (l0), gI (l2)]) (rest := []) (rs := fun v5 => [gI (v5)]) [gI (l2), gR 4 (l0)] rfl (hm_54 hG (l0) (l2)) rfl (gh_V (t := 4) (vs := [gI (l2)]) (rest := []) (show decode (gy_b gY_55) 57 = .ok (.invokevirtual 50, 3) by decide +kernel) rfl hx57 rfl rfl (ok_54 (by decide) (by decide)) wd_846 wd_847 wd_848 (Nat.le_of_ble_eq_true rfl)) (fun _ => rfl) ?_
    intro v5 M6 n7 c8
    refine gr_ifeq (pc := 60) (tgt := 72) (off := 12) hG.2.1 (show decode (gy_b gY_55) 60 = .ok (.ifCond .eq (12), 3) by decide +kernel) (by decide) ?_ ?_
    · refine gr_wk [false, true, true, false] rfl ?_
      exact h_55_L72 hG (l1) (l2) M6 n7 c8
    · refine gr_iinc (pc := 63) (i := 2) (d := 1) (z := 1) (L' := fun z9 => [gR 4 (l0), gI (l1), gI (z9), gI (l3)]) (show decode (gy_b gY_55) 63 = .ok (.iinc 2 (1), 3) by decide +kernel) (by decide +kernel) (by decide) rfl rfl (fun _ => rfl) ?_
      intro z9
      refine gr_iinc (pc := 66) (i := 3) (d := 1) (z := 1) (L' := fun z10 => [gR 4 (l0), gI (l1), gI (z9), gI (z10)]) (show decode (gy_b gY_55) 66 = .ok (.iinc 3 (1), 3) by decide +kernel) (by decide +kernel) (by decide) rfl rfl (fun _ => rfl) ?_
      intro z10
      refine gr_goto (pc := 69) (tgt := 50) (off := -19) (show decode (gy_b gY_55) 69 = .ok (.goto (-19), 3) by decide +kernel) (by decide) ?_
      exact hi_50 (l0) (l1) (z9) (z10) M6 n7 c8
noncomputable def fi_55_W50 (K : Nat → Nat → Nat → Nat → Bool) (u : Nat) : Nat → Nat → Nat → Nat → Nat → Nat → Nat → Bool := Nat.rec (motive := fun _ => Nat → Nat → Nat → Nat → Nat → Nat → Nat → Bool) (fun _ _ _ _ _ _ _ => false) (fun _ ih => fi_55_B50 K ih) u
theorem hw_55_50 {G : gxG} (hG : gxG0 G) {K : Nat → Nat → Nat → Nat → Bool} (u : Nat) : ∀ l0 l1 l2 l3 M n c : Nat, gxJ G gY_55 K 50 [] [gR 4 (l0), gI (l1), gI (l2), gI (l3)] M n c (fi_55_W50 K u l0 l1 l2 l3 M n c) := by
  induction u with
  | zero => intro l0 l1 l2 l3 M n c; exact gj_false
  | succ u ih => intro l0 l1 l2 l3 M n c; exact hb_55_B50 hG ih l0 l1 l2 l3 M n c
noncomputable def fi_55_L0 (K : Nat → Nat → Nat → Nat → Bool) (l0 l1 M n c : Nat) : Bool := gx_nn (l0) (fi_52 (l0) (l1) M n c (fun v1 M2 n3 c4 => gx_eq (v1) (35) (false) (fi_55_W50 K 65536 (l0) (l1) (l1) (0) M2 n3 c4)))
theorem h_55_L0 {G : gxG} (hG : gxG0 G) {K : Nat → Nat → Nat → Nat → Bool} (l0 l1 M n c : Nat) : gxJ G gY_55 K 0 [] [gR 4 (l0), gI (l1), gB, gB] M n c (fi_55_L0 K l0 l1 M n c) := by
  unfold fi_55_L0
  refine gr_aload_n (pc := 0) (i := 0) 4 (l0) (show decode (gy_b gY_55) 0 = .ok (.aload_n 0, 1) by decide +kernel) rfl rfl ?_
  refine gr_iload_n (pc := 1) (i := 1) (l1) (show decode (gy_b gY_55) 1 = .ok (.iload_n 1, 1) by decide +kernel) rfl rfl ?_
  refine gj_nn (fun hx2 => ?_)
  refine gj_c0 (pc := 2) (Y' := gY_52) (y := yX4_at) (vs := [gR 4 (l0), gI (l1)]) (rest := []) (rs := fun v1 => [gI (v1)]) [gI (l1), gR 4 (l0)] rfl (hm_52 hG (l0) (l1)) rfl (gh_V (t := 4) (vs := [gI (l1)]) (rest := []) (show decode (gy_b gY_55) 2 = .ok (.invokevirtual 40, 3) by decide +kernel) rfl hx2 rfl rfl (ok_52 (by decide) (by decide)) wd_834 wd_835 wd_836 (Nat.le_of_ble_eq_true rfl)) (fun _ => rfl) ?_
  intro v1 M2 n3 c4
  refine gr_bipush (pc := 5) (z := 35) 35 (show decode (gy_b gY_55) 5 = .ok (.bipush (35), 2) by decide +kernel) (by decide +kernel) ?_
  refine gr_icmp_ne (pc := 7) (tgt := 46) (off := 39) hG.2.1 (show decode (gy_b gY_55) 7 = .ok (.if_icmp .ne (39), 3) by decide +kernel) (by decide) ?_ ?_
  · refine gr_iload_n (pc := 46) (i := 1) (l1) (show decode (gy_b gY_55) 46 = .ok (.iload_n 1, 1) by decide +kernel) rfl rfl ?_
    refine gr_istore_n (pc := 47) (i := 2) (L' := [gR 4 (l0), gI (l1), gI (l1), gB]) (show decode (gy_b gY_55) 47 = .ok (.istore_n 2, 1) by decide +kernel) rfl (by decide) rfl rfl ?_
    refine gr_iconst (pc := 48) (z := 0) 0 (show decode (gy_b gY_55) 48 = .ok (.iconst (0), 1) by decide +kernel) kc_0 ?_
    refine gr_istore_n (pc := 49) (i := 3) (L' := [gR 4 (l0), gI (l1), gI (l1), gI (0)]) (show decode (gy_b gY_55) 49 = .ok (.istore_n 3, 1) by decide +kernel) rfl (by decide) rfl rfl ?_
    exact hw_55_50 hG 65536 (l0) (l1) (l1) (0) M2 n3 c4
  · exact gj_false
noncomputable def fi_55 (l0 l1 M n c : Nat) (K : Nat → Nat → Nat → Nat → Bool) : Bool := fi_55_L0 K l0 l1 M n c
theorem hm_55 {G : gxG} (hG : gxG0 G) (l0 l1 : Nat) : gxM G gY_55 yX6_endOfName [gR 4 (l0), gI (l1)] (fi_55 l0 l1) := gxM_of (L := [gR 4 (l0), gI (l1), gB, gB]) hG 2 (by decide +kernel) rfl rfl rfl rfl (List.forall_mem_cons.mpr ⟨rfl, List.forall_mem_cons.mpr ⟨rfl, fun _ h => nomatch h⟩⟩) (fun M n c K => h_55_L0 hG  l0 l1 M n c)
/-! Farfiles packed (CCC)I -/
def gY_56 : gxY := (false, prog_1_method_2_code, 3, (Option.some Jvm.ClassFile.FieldType.int), "Farfiles", 1, 40, 0, [], "packed")
theorem ok_56 {Y : gxY} (h1 : gy_f gY_56 + 1 ≤ gy_f Y) (h2 : 8 + (gy_l gY_56 + 11) + gy_k gY_56 ≤ gy_k Y) : gh_ok Y gY_56 yX7_packed 3 := ⟨wd_855, wd_51, ⟨by decide, by decide⟩, by decide +kernel, h1, h2⟩
noncomputable def fi_56_L0 (K : Nat → Nat → Nat → Nat → Bool) (l0 l1 l2 M n c : Nat) : Bool := gx_shl (l0) (16) (fun z1 => gx_shl (l1) (8) (fun z2 => gx_or (z1) (z2) (fun z3 => gx_or (z3) (l2) (fun z4 => gx_rt gx_f0 (z4) (K (z4) M n c)))))
theorem h_56_L0 {G : gxG} (hG : gxG0 G) {K : Nat → Nat → Nat → Nat → Bool} (l0 l1 l2 M n c : Nat) : gxJ G gY_56 K 0 [] [gI (l0), gI (l1), gI (l2)] M n c (fi_56_L0 K l0 l1 l2 M n c) := by
  unfold fi_56_L0
  refine gr_iload_n (pc := 0) (i := 0) (l0) (show decode (gy_b gY_56) 0 = .ok (.iload_n 0, 1) by decide +kernel) rfl rfl ?_
  refine gr_bipush (pc := 1) (z := 16) 16 (show decode (gy_b gY_56) 1 = .ok (.bipush (16), 2) by decide +kernel) (by decide +kernel) ?_
  refine gr_ishl (pc := 3) (show decode (gy_b gY_56) 3 = .ok (.ishl, 1) by decide +kernel) ?_
  intro z1
  refine gr_iload_n (pc := 4) (i := 1) (l1) (show decode (gy_b gY_56) 4 = .ok (.iload_n 1, 1) by decide +kernel) rfl rfl ?_
  refine gr_bipush (pc := 5) (z := 8) 8 (show decode (gy_b gY_56) 5 = .ok (.bipush (8), 2) by decide +kernel) (by decide +kernel) ?_
  refine gr_ishl (pc := 7) (show decode (gy_b gY_56) 7 = .ok (.ishl, 1) by decide +kernel) ?_
  intro z2
  refine gr_ior (pc := 8) hG.2.1 (show decode (gy_b gY_56) 8 = .ok (.ior, 1) by decide +kernel) ?_
  intro z3
  refine gr_iload_n (pc := 9) (i := 2) (l2) (show decode (gy_b gY_56) 9 = .ok (.iload_n 2, 1) by decide +kernel) rfl rfl ?_
  refine gr_ior (pc := 10) hG.2.1 (show decode (gy_b gY_56) 10 = .ok (.ior, 1) by decide +kernel) ?_
  intro z4
  exact gr_ireturn (pc := 11) (show decode (gy_b gY_56) 11 = .ok (.ireturn, 1) by decide +kernel) rfl rfl (by decide) gv_0
noncomputable def fi_56 (l0 l1 l2 M n c : Nat) (K : Nat → Nat → Nat → Nat → Bool) : Bool := fi_56_L0 K l0 l1 l2 M n c
theorem hm_56 {G : gxG} (hG : gxG0 G) (l0 l1 l2 : Nat) : gxM G gY_56 yX7_packed [gI (l0), gI (l1), gI (l2)] (fi_56 l0 l1 l2) := gxM_of (L := [gI (l0), gI (l1), gI (l2)]) hG 0 (by decide +kernel) rfl rfl rfl rfl (List.forall_mem_cons.mpr ⟨rfl, List.forall_mem_cons.mpr ⟨rfl, List.forall_mem_cons.mpr ⟨rfl, fun _ h => nomatch h⟩⟩⟩) (fun M n c K => h_56_L0 hG  l0 l1 l2 M n c)
/-! Farfiles$Path nameBetween (LFarfiles$Line;II)I -/
def gY_57 : gxY := (false, prog_8_method_5_code, 5, (Option.some Jvm.ClassFile.FieldType.int), "Farfiles$Path", 2, 62, 0, [], "nameBetween")
theorem ok_57 {Y : gxY} (h1 : gy_f gY_57 + 1 ≤ gy_f Y) (h2 : 8 + (gy_l gY_57 + 11) + gy_k gY_57 ≤ gy_k Y) : gh_ok Y gY_57 yX6_nameBetween 3 := ⟨wd_852, wd_57, ⟨by decide, by decide⟩, by decide +kernel, h1, h2⟩
noncomputable def fi_57_L33 (K : Nat → Nat → Nat → Nat → Bool) (l1 l2 s0 s1 M n c : Nat) : Bool := gx_add (l1) (2) (fun z10 => gx_lt (z10) (l2) (false) (fi_56 (s0) (s1) (0) M n c (fun v11 M12 n13 c14 => gx_rt gx_f0 (v11) (K (v11) M12 n13 c14))))
theorem h_57_L33 {G : gxG} (hG : gxG0 G) {K : Nat → Nat → Nat → Nat → Bool} (l1 l2 s0 s1 M n c : Nat) : gxJ G gY_57 K 33 [gI (s1), gI (s0)] [gB, gI (l1), gI (l2), gB, gB] M n c (fi_57_L33 K l1 l2 s0 s1 M n c) := by
  unfold fi_57_L33
  refine gr_iload_n (pc := 33) (i := 2) (l2) (show decode (gy_b gY_57) 33 = .ok (.iload_n 2, 1) by decide +kernel) rfl rfl ?_
  refine gr_iload_n (pc := 34) (i := 1) (l1) (show decode (gy_b gY_57) 34 = .ok (.iload_n 1, 1) by decide +kernel) rfl rfl ?_
  refine gr_iconst (pc := 35) (z := 2) 2 (show decode (gy_b gY_57) 35 = .ok (.iconst (2), 1) by decide +kernel) kc_2 ?_
  refine gr_iadd (pc := 36) (show decode (gy_b gY_57) 36 = .ok (.iadd, 1) by decide +kernel) ?_
  intro z10
  refine gr_icmp_le (pc := 37) (tgt := 50) (off := 13) hG.2.1 (show decode (gy_b gY_57) 37 = .ok (.if_icmp .le (13), 3) by decide +kernel) (by decide) ?_ ?_
  · refine gr_iconst (pc := 50) (z := 0) 0 (show decode (gy_b gY_57) 50 = .ok (.iconst (0), 1) by decide +kernel) kc_0 ?_
    refine gj_c0 (pc := 51) (Y' := gY_56) (y := yX7_packed) (vs := [gI (s0), gI (s1), gI (0)]) (rest := []) (rs := fun v11 => [gI (v11)]) [gI (0), gI (s1), gI (s0)] rfl (hm_56 hG (s0) (s1) (0)) rfl (gh_SN (vs := [gI (s0), gI (s1), gI (0)]) (rest := []) (show decode (gy_b gY_57) 51 = .ok (.invokestatic 53, 3) by decide +kernel) rfl (ok_56 (by decide) (by decide)) rfl rfl wd_853 wd_854 (Nat.le_of_ble_eq_true rfl)) (fun _ => rfl) ?_
    intro v11 M12 n13 c14
    exact gr_ireturn (pc := 54) (show decode (gy_b gY_57) 54 = .ok (.ireturn, 1) by decide +kernel) rfl rfl (by decide) gv_0
  · exact gj_false
noncomputable def fi_57_L0 (K : Nat → Nat → Nat → Nat → Bool) (l0 l1 l2 M n c : Nat) : Bool := gx_nn (l0) (fi_52 (l0) (l1) M n c (fun v1 M2 n3 c4 => gx_eq (v1) (35) (false) (gx_nn (l0) (fi_52 (l0) (l1) M2 n3 c4 (fun v5 M6 n7 c8 => gx_add (l1) (1) (fun z9 => gx_lt (z9) (l2) (gx_add (l1) (1) (fun z15 => gx_nn (l0) (fi_52 (l0) (z15) M6 n7 c8 (fun v16 M17 n18 c19 => fi_57_L33 K (l1) (l2) (v5) (v16) M17 n18 c19)))) (fi_57_L33 K (l1) (l2) (v5) (0) M6 n7 c8)))))))
theorem h_57_L0 {G : gxG} (hG : gxG0 G) {K : Nat → Nat → Nat → Nat → Bool} (l0 l1 l2 M n c : Nat) : gxJ G gY_57 K 0 [] [gR 4 (l0), gI (l1), gI (l2), gB, gB] M n c (fi_57_L0 K l0 l1 l2 M n c) := by
  unfold fi_57_L0
  refine gr_aload_n (pc := 0) (i := 0) 4 (l0) (show decode (gy_b gY_57) 0 = .ok (.aload_n 0, 1) by decide +kernel) rfl rfl ?_
  refine gr_iload_n (pc := 1) (i := 1) (l1) (show decode (gy_b gY_57) 1 = .ok (.iload_n 1, 1) by decide +kernel) rfl rfl ?_
  refine gj_nn (fun hx2 => ?_)
  refine gj_c0 (pc := 2) (Y' := gY_52) (y := yX4_at) (vs := [gR 4 (l0), gI (l1)]) (rest := []) (rs := fun v1 => [gI (v1)]) [gI (l1), gR 4 (l0)] rfl (hm_52 hG (l0) (l1)) rfl (gh_V (t := 4) (vs := [gI (l1)]) (rest := []) (show decode (gy_b gY_57) 2 = .ok (.invokevirtual 40, 3) by decide +kernel) rfl hx2 rfl rfl (ok_52 (by decide) (by decide)) wd_834 wd_835 wd_836 (Nat.le_of_ble_eq_true rfl)) (fun _ => rfl) ?_
  intro v1 M2 n3 c4
  refine gr_bipush (pc := 5) (z := 35) 35 (show decode (gy_b gY_57) 5 = .ok (.bipush (35), 2) by decide +kernel) (by decide +kernel) ?_
  refine gr_icmp_eq (pc := 7) (tgt := 55) (off := 48) hG.2.1 (show decode (gy_b gY_57) 7 = .ok (.if_icmp .eq (48), 3) by decide +kernel) (by decide) ?_ ?_
  · exact gj_false
  · refine gr_aload_n (pc := 10) (i := 0) 4 (l0) (show decode (gy_b gY_57) 10 = .ok (.aload_n 0, 1) by decide +kernel) rfl rfl ?_
    refine gr_iload_n (pc := 11) (i := 1) (l1) (show decode (gy_b gY_57) 11 = .ok (.iload_n 1, 1) by decide +kernel) rfl rfl ?_
    refine gj_nn (fun hx12 => ?_)
    refine gj_c0 (pc := 12) (Y' := gY_52) (y := yX4_at) (vs := [gR 4 (l0), gI (l1)]) (rest := []) (rs := fun v5 => [gI (v5)]) [gI (l1), gR 4 (l0)] rfl (hm_52 hG (l0) (l1)) rfl (gh_V (t := 4) (vs := [gI (l1)]) (rest := []) (show decode (gy_b gY_57) 12 = .ok (.invokevirtual 40, 3) by decide +kernel) rfl hx12 rfl rfl (ok_52 (by decide) (by decide)) wd_834 wd_835 wd_836 (Nat.le_of_ble_eq_true rfl)) (fun _ => rfl) ?_
    intro v5 M6 n7 c8
    refine gr_iload_n (pc := 15) (i := 2) (l2) (show decode (gy_b gY_57) 15 = .ok (.iload_n 2, 1) by decide +kernel) rfl rfl ?_
    refine gr_iload_n (pc := 16) (i := 1) (l1) (show decode (gy_b gY_57) 16 = .ok (.iload_n 1, 1) by decide +kernel) rfl rfl ?_
    refine gr_iconst (pc := 17) (z := 1) 1 (show decode (gy_b gY_57) 17 = .ok (.iconst (1), 1) by decide +kernel) kc_1 ?_
    refine gr_iadd (pc := 18) (show decode (gy_b gY_57) 18 = .ok (.iadd, 1) by decide +kernel) ?_
    intro z9
    refine gr_icmp_le (pc := 19) (tgt := 32) (off := 13) hG.2.1 (show decode (gy_b gY_57) 19 = .ok (.if_icmp .le (13), 3) by decide +kernel) (by decide) ?_ ?_
    · refine gr_iconst (pc := 32) (z := 0) 0 (show decode (gy_b gY_57) 32 = .ok (.iconst (0), 1) by decide +kernel) kc_0 ?_
      refine gr_wk [false, true, true, true, true] rfl ?_
      exact h_57_L33 hG (l1) (l2) (v5) (0) M6 n7 c8
    · refine gr_aload_n (pc := 22) (i := 0) 4 (l0) (show decode (gy_b gY_57) 22 = .ok (.aload_n 0, 1) by decide +kernel) rfl rfl ?_
      refine gr_iload_n (pc := 23) (i := 1) (l1) (show decode (gy_b gY_57) 23 = .ok (.iload_n 1, 1) by decide +kernel) rfl rfl ?_
      refine gr_iconst (pc := 24) (z := 1) 1 (show decode (gy_b gY_57) 24 = .ok (.iconst (1), 1) by decide +kernel) kc_1 ?_
      refine gr_iadd (pc := 25) (show decode (gy_b gY_57) 25 = .ok (.iadd, 1) by decide +kernel) ?_
      intro z15
      refine gj_nn (fun hx26 => ?_)
      refine gj_c0 (pc := 26) (Y' := gY_52) (y := yX4_at) (vs := [gR 4 (l0), gI (z15)]) (rest := [gI (v5)]) (rs := fun v16 => [gI (v16), gI (v5)]) [gI (z15), gR 4 (l0)] rfl (hm_52 hG (l0) (z15)) rfl (gh_V (t := 4) (vs := [gI (z15)]) (rest := [gI (v5)]) (show decode (gy_b gY_57) 26 = .ok (.invokevirtual 40, 3) by decide +kernel) rfl hx26 rfl rfl (ok_52 (by decide) (by decide)) wd_834 wd_835 wd_836 (Nat.le_of_ble_eq_true rfl)) (fun _ => rfl) ?_
      intro v16 M17 n18 c19
      refine gr_goto (pc := 29) (tgt := 33) (off := 4) (show decode (gy_b gY_57) 29 = .ok (.goto (4), 3) by decide +kernel) (by decide) ?_
      refine gr_wk [false, true, true, true, true] rfl ?_
      exact h_57_L33 hG (l1) (l2) (v5) (v16) M17 n18 c19
noncomputable def fi_57 (l0 l1 l2 M n c : Nat) (K : Nat → Nat → Nat → Nat → Bool) : Bool := fi_57_L0 K l0 l1 l2 M n c
theorem hm_57 {G : gxG} (hG : gxG0 G) (l0 l1 l2 : Nat) : gxM G gY_57 yX6_nameBetween [gR 4 (l0), gI (l1), gI (l2)] (fi_57 l0 l1 l2) := gxM_of (L := [gR 4 (l0), gI (l1), gI (l2), gB, gB]) hG 2 (by decide +kernel) rfl rfl rfl rfl (List.forall_mem_cons.mpr ⟨rfl, List.forall_mem_cons.mpr ⟨rfl, List.forall_mem_cons.mpr ⟨rfl, fun _ h => nomatch h⟩⟩⟩) (fun M n c K => h_57_L0 hG  l0 l1 l2 M n c)
/-! Farfiles$Path readFrom (LFarfiles$Line;IC)I -/
def gY_58 : gxY := (false, prog_8_method_2_code, 7, (Option.some Jvm.ClassFile.FieldType.int), "Farfiles$Path", 4, 106, 0, [], "readFrom")
theorem ok_58 {Y : gxY} (h1 : gy_f gY_58 + 1 ≤ gy_f Y) (h2 : 8 + (gy_l gY_58 + 11) + gy_k gY_58 ≤ gy_k Y) : gh_ok Y gY_58 yX6_readFrom 3 := ⟨wd_830, wd_57, ⟨by decide, by decide⟩, by decide +kernel, h1, h2⟩
noncomputable def fi_58_L77 (K : Nat → Nat → Nat → Nat → Bool) (ih_27 : Nat → Nat → Nat → Nat → Nat → Nat → Nat → Nat → Bool) (l0 l1 l3 l5 l6 s0 s1 M n c : Nat) : Bool := gx_add (s1) (1) (fun z19 => gx_put (s0) 3 (z19) M gx_f0 (fun M20 => fi_53 (l1) (l6) (l3) M20 n c (fun v21 M22 n23 c24 => gx_eq (v21) 0 (gx_nn (l1) (fi_52 (l1) (l6) M22 n23 c24 (fun v25 M26 n27 c28 => gx_eq (v25) (47) (gx_add (l6) (1) (fun z29 => gx_add (l5) 1 (fun z30 => ih_27 (l0) (l1) (l3) (z29) (z30) M26 n27 c28))) (false)))) (gx_rt gx_f0 (l6) (K (l6) M22 n23 c24)))))
theorem h_58_L77 {G : gxG} (hG : gxG0 G) {K : Nat → Nat → Nat → Nat → Bool} {ih_27 : Nat → Nat → Nat → Nat → Nat → Nat → Nat → Nat → Bool} (hi_27 : ∀ l0 l1 l3 l4 l5 M n c : Nat, gxJ G gY_58 K 27 [] [gR 6 (l0), gR 4 (l1), gB, gI (l3), gI (l4), gI (l5), gB] M n c (ih_27 l0 l1 l3 l4 l5 M n c)) (l0 l1 l3 l5 l6 s0 s1 M n c : Nat) : gxJ G gY_58 K 77 [gI (s1), gR 6 (s0)] [gR 6 (l0), gR 4 (l1), gB, gI (l3), gB, gI (l5), gI (l6)] M n c (fi_58_L77 K ih_27 l0 l1 l3 l5 l6 s0 s1 M n c) := by
  unfold fi_58_L77
  refine gr_iconst (pc := 77) (z := 1) 1 (show decode (gy_b gY_58) 77 = .ok (.iconst (1), 1) by decide +kernel) kc_1 ?_
  refine gr_iadd (pc := 78) (show decode (gy_b gY_58) 78 = .ok (.iadd, 1) by decide +kernel) ?_
  intro z19
  refine gr_putf (pc := 79) (index := 21) (t := 6) (j := 3) (σ := 0) (sv := gI) (f := gx_f0) (ty := .int) (show decode (gy_b gY_58) 79 = .ok (.putfield 21, 3) by decide +kernel) rfl rfl (fun _ => rfl) wd_229 rfl gv_0 rfl ?_
  intro M20
  refine gr_aload_n (pc := 82) (i := 1) 4 (l1) (show decode (gy_b gY_58) 82 = .ok (.aload_n 1, 1) by decide +kernel) rfl rfl ?_
  refine gr_iload (pc := 83) (i := 6) (l6) (show decode (gy_b gY_58) 83 = .ok (.iload 6, 2) by decide +kernel) rfl ?_
  refine gr_iload_n (pc := 85) (i := 3) (l3) (show decode (gy_b gY_58) 85 = .ok (.iload_n 3, 1) by decide +kernel) rfl rfl ?_
  refine gj_c0 (pc := 86) (Y' := gY_53) (y := yX6_isEnd) (vs := [gR 4 (l1), gI (l6), gI (l3)]) (rest := []) (rs := fun v21 => [gI (v21)]) [gI (l3), gI (l6), gR 4 (l1)] rfl (hm_53 hG (l1) (l6) (l3)) rfl (gh_S (vs := [gR 4 (l1), gI (l6), gI (l3)]) (rest := []) (show decode (gy_b gY_58) 86 = .ok (.invokestatic 28, 3) by decide +kernel) rfl (ok_53 (by decide) (by decide)) rfl rfl wd_831 wd_832 (Nat.le_of_ble_eq_true rfl)) (fun _ => rfl) ?_
  intro v21 M22 n23 c24
  refine gr_ifeq (pc := 89) (tgt := 95) (off := 6) hG.2.1 (show decode (gy_b gY_58) 89 = .ok (.ifCond .eq (6), 3) by decide +kernel) (by decide) ?_ ?_
  · refine gr_aload_n (pc := 95) (i := 1) 4 (l1) (show decode (gy_b gY_58) 95 = .ok (.aload_n 1, 1) by decide +kernel) rfl rfl ?_
    refine gr_iload (pc := 96) (i := 6) (l6) (show decode (gy_b gY_58) 96 = .ok (.iload 6, 2) by decide +kernel) rfl ?_
    refine gj_nn (fun hx98 => ?_)
    refine gj_c0 (pc := 98) (Y' := gY_52) (y := yX4_at) (vs := [gR 4 (l1), gI (l6)]) (rest := []) (rs := fun v25 => [gI (v25)]) [gI (l6), gR 4 (l1)] rfl (hm_52 hG (l1) (l6)) rfl (gh_V (t := 4) (vs := [gI (l6)]) (rest := []) (show decode (gy_b gY_58) 98 = .ok (.invokevirtual 40, 3) by decide +kernel) rfl hx98 rfl rfl (ok_52 (by decide) (by decide)) wd_834 wd_835 wd_836 (Nat.le_of_ble_eq_true rfl)) (fun _ => rfl) ?_
    intro v25 M26 n27 c28
    refine gr_bipush (pc := 101) (z := 47) 47 (show decode (gy_b gY_58) 101 = .ok (.bipush (47), 2) by decide +kernel) (by decide +kernel) ?_
    refine gr_icmp_eq (pc := 103) (tgt := 111) (off := 8) hG.2.1 (show decode (gy_b gY_58) 103 = .ok (.if_icmp .eq (8), 3) by decide +kernel) (by decide) ?_ ?_
    · refine gr_iload (pc := 111) (i := 6) (l6) (show decode (gy_b gY_58) 111 = .ok (.iload 6, 2) by decide +kernel) rfl ?_
      refine gr_iconst (pc := 113) (z := 1) 1 (show decode (gy_b gY_58) 113 = .ok (.iconst (1), 1) by decide +kernel) kc_1 ?_
      refine gr_iadd (pc := 114) (show decode (gy_b gY_58) 114 = .ok (.iadd, 1) by decide +kernel) ?_
      intro z29
      refine gr_istore (pc := 115) (i := 4) (L' := [gR 6 (l0), gR 4 (l1), gB, gI (l3), gI (z29), gI (l5), gI (l6)]) (show decode (gy_b gY_58) 115 = .ok (.istore 4, 2) by decide +kernel) (by decide) rfl rfl ?_
      refine gr_iinc (pc := 117) (i := 5) (d := 1) (z := 1) (L' := fun z30 => [gR 6 (l0), gR 4 (l1), gB, gI (l3), gI (z29), gI (z30), gI (l6)]) (show decode (gy_b gY_58) 117 = .ok (.iinc 5 (1), 3) by decide +kernel) (by decide +kernel) (by decide) rfl rfl (fun _ => rfl) ?_
      intro z30
      refine gr_goto (pc := 120) (tgt := 27) (off := -93) (show decode (gy_b gY_58) 120 = .ok (.goto (-93), 3) by decide +kernel) (by decide) ?_
      refine gr_wk [true, true, true, true, true, true, false] rfl ?_
      exact hi_27 (l0) (l1) (l3) (z29) (z30) M26 n27 c28
    · exact gj_false
  · refine gr_iload (pc := 92) (i := 6) (l6) (show decode (gy_b gY_58) 92 = .ok (.iload 6, 2) by decide +kernel) rfl ?_
    exact gr_ireturn (pc := 94) (show decode (gy_b gY_58) 94 = .ok (.ireturn, 1) by decide +kernel) rfl rfl (by decide) gv_0
noncomputable def fi_58_B27 (K : Nat → Nat → Nat → Nat → Bool) (ih_27 : Nat → Nat → Nat → Nat → Nat → Nat → Nat → Nat → Bool) (l0 l1 l3 l4 l5 M n c : Nat) : Bool := gx_lt (l5) (20) (fi_55 (l1) (l4) M n c (fun v7 M8 n9 c10 => gx_lt (v7) 0 (false) (gx_get (l0) 0 M8 (fun v11 => fi_57 (l1) (l4) (v7) M8 n9 c10 (fun v12 M13 n14 c15 => gx_ast (v11) (l5) (v12) M13 gx_f0 (fun M16 => gx_get (l0) 1 M16 (fun v17 => gx_ast (v17) (l5) (l4) M16 gx_f0 (fun M18 => fi_58_L77 K ih_27 (l0) (l1) (l3) (l5) (v7) (l0) (l5) M18 n14 c15)))))))) (false)
theorem hb_58_B27 {G : gxG} (hG : gxG0 G) {K : Nat → Nat → Nat → Nat → Bool} {ih_27 : Nat → Nat → Nat → Nat → Nat → Nat → Nat → Nat → Bool} (hi_27 : ∀ l0 l1 l3 l4 l5 M n c : Nat, gxJ G gY_58 K 27 [] [gR 6 (l0), gR 4 (l1), gB, gI (l3), gI (l4), gI (l5), gB] M n c (ih_27 l0 l1 l3 l4 l5 M n c)) (l0 l1 l3 l4 l5 M n c : Nat) : gxJ G gY_58 K 27 [] [gR 6 (l0), gR 4 (l1), gB, gI (l3), gI (l4), gI (l5), gB] M n c (fi_58_B27 K ih_27 l0 l1 l3 l4 l5 M n c) := by
  unfold fi_58_B27
  refine gr_iload (pc := 27) (i := 5) (l5) (show decode (gy_b gY_58) 27 = .ok (.iload 5, 2) by decide +kernel) rfl ?_
  refine gr_bipush (pc := 29) (z := 20) 20 (show decode (gy_b gY_58) 29 = .ok (.bipush (20), 2) by decide +kernel) (by decide +kernel) ?_
  refine gr_icmp_ge (pc := 31) (tgt := 123) (off := 92) hG.2.1 (show decode (gy_b gY_58) 31 = .ok (.if_icmp .ge (92), 3) by decide +kernel) (by decide) ?_ ?_
  · exact gj_false
  · refine gr_aload_n (pc := 34) (i := 1) 4 (l1) (show decode (gy_b gY_58) 34 = .ok (.aload_n 1, 1) by decide +kernel) rfl rfl ?_
    refine gr_iload (pc := 35) (i := 4) (l4) (show decode (gy_b gY_58) 35 = .ok (.iload 4, 2) by decide +kernel) rfl ?_
    refine gj_c0 (pc := 37) (Y' := gY_55) (y := yX6_endOfName) (vs := [gR 4 (l1), gI (l4)]) (rest := []) (rs := fun v7 => [gI (v7)]) [gI (l4), gR 4 (l1)] rfl (hm_55 hG (l1) (l4)) rfl (gh_S (vs := [gR 4 (l1), gI (l4)]) (rest := []) (show decode (gy_b gY_58) 37 = .ok (.invokestatic 32, 3) by decide +kernel) rfl (ok_55 (by decide) (by decide)) rfl rfl wd_838 wd_839 (Nat.le_of_ble_eq_true rfl)) (fun _ => rfl) ?_
    intro v7 M8 n9 c10
    refine gr_istore (pc := 40) (i := 6) (L' := [gR 6 (l0), gR 4 (l1), gB, gI (l3), gI (l4), gI (l5), gI (v7)]) (show decode (gy_b gY_58) 40 = .ok (.istore 6, 2) by decide +kernel) (by decide) rfl rfl ?_
    refine gr_iload (pc := 42) (i := 6) (v7) (show decode (gy_b gY_58) 42 = .ok (.iload 6, 2) by decide +kernel) rfl ?_
    refine gr_ifge (pc := 44) (tgt := 50) (off := 6) hG.2.1 (show decode (gy_b gY_58) 44 = .ok (.ifCond .ge (6), 3) by decide +kernel) (by decide) ?_ ?_
    · refine gr_aload_n (pc := 50) (i := 0) 6 (l0) (show decode (gy_b gY_58) 50 = .ok (.aload_n 0, 1) by decide +kernel) rfl rfl ?_
      refine gr_getf (pc := 51) (index := 9) (t := 6) (j := 0) (σ := 72) (sv := (gR 64)) (show decode (gy_b gY_58) 51 = .ok (.getfield 9, 3) by decide +kernel) rfl rfl (fun _ => rfl) wd_226 (by decide) ?_
      intro v11
      refine gr_iload (pc := 54) (i := 5) (l5) (show decode (gy_b gY_58) 54 = .ok (.iload 5, 2) by decide +kernel) rfl ?_
      refine gr_aload_n (pc := 56) (i := 1) 4 (l1) (show decode (gy_b gY_58) 56 = .ok (.aload_n 1, 1) by decide +kernel) rfl rfl ?_
      refine gr_iload (pc := 57) (i := 4) (l4) (show decode (gy_b gY_58) 57 = .ok (.iload 4, 2) by decide +kernel) rfl ?_
      refine gr_iload (pc := 59) (i := 6) (v7) (show decode (gy_b gY_58) 59 = .ok (.iload 6, 2) by decide +kernel) rfl ?_
      refine gj_c0 (pc := 61) (Y' := gY_57) (y := yX6_nameBetween) (vs := [gR 4 (l1), gI (l4), gI (v7)]) (rest := [gI (l5), gR 64 (v11)]) (rs := fun v12 => [gI (v12), gI (l5), gR 64 (v11)]) [gI (v7), gI (l4), gR 4 (l1)] rfl (hm_57 hG (l1) (l4) (v7)) rfl (gh_S (vs := [gR 4 (l1), gI (l4), gI (v7)]) (rest := [gI (l5), gR 64 (v11)]) (show decode (gy_b gY_58) 61 = .ok (.invokestatic 36, 3) by decide +kernel) rfl (ok_57 (by decide) (by decide)) rfl rfl wd_850 wd_851 (Nat.le_of_ble_eq_true rfl)) (fun _ => rfl) ?_
      intro v12 M13 n14 c15
      refine gr_iast (pc := 64) hG.2.1 (show decode (gy_b gY_58) 64 = .ok (.iastore, 1) by decide +kernel) ?_
      intro M16
      refine gr_aload_n (pc := 65) (i := 0) 6 (l0) (show decode (gy_b gY_58) 65 = .ok (.aload_n 0, 1) by decide +kernel) rfl rfl ?_
      refine gr_getf (pc := 66) (index := 15) (t := 6) (j := 1) (σ := 72) (sv := (gR 64)) (show decode (gy_b gY_58) 66 = .ok (.getfield 15, 3) by decide +kernel) rfl rfl (fun _ => rfl) wd_227 (by decide) ?_
      intro v17
      refine gr_iload (pc := 69) (i := 5) (l5) (show decode (gy_b gY_58) 69 = .ok (.iload 5, 2) by decide +kernel) rfl ?_
      refine gr_iload (pc := 71) (i := 4) (l4) (show decode (gy_b gY_58) 71 = .ok (.iload 4, 2) by decide +kernel) rfl ?_
      refine gr_iast (pc := 73) hG.2.1 (show decode (gy_b gY_58) 73 = .ok (.iastore, 1) by decide +kernel) ?_
      intro M18
      refine gr_aload_n (pc := 74) (i := 0) 6 (l0) (show decode (gy_b gY_58) 74 = .ok (.aload_n 0, 1) by decide +kernel) rfl rfl ?_
      refine gr_iload (pc := 75) (i := 5) (l5) (show decode (gy_b gY_58) 75 = .ok (.iload 5, 2) by decide +kernel) rfl ?_
      refine gr_wk [true, true, true, true, false, true, true] rfl ?_
      exact h_58_L77 hG hi_27 (l0) (l1) (l3) (l5) (v7) (l0) (l5) M18 n14 c15
    · exact gj_false
noncomputable def fi_58_W27 (K : Nat → Nat → Nat → Nat → Bool) (u : Nat) : Nat → Nat → Nat → Nat → Nat → Nat → Nat → Nat → Bool := Nat.rec (motive := fun _ => Nat → Nat → Nat → Nat → Nat → Nat → Nat → Nat → Bool) (fun _ _ _ _ _ _ _ _ => false) (fun _ ih => fi_58_B27 K ih) u
theorem hw_58_27 {G : gxG} (hG : gxG0 G) {K : Nat → Nat → Nat → Nat → Bool} (u : Nat) : ∀ l0 l1 l3 l4 l5 M n c : Nat, gxJ G gY_58 K 27 [] [gR 6 (l0), gR 4 (l1), gB, gI (l3), gI (l4), gI (l5), gB] M n c (fi_58_W27 K u l0 l1 l3 l4 l5 M n c) := by
  induction u with
  | zero => intro l0 l1 l3 l4 l5 M n c; exact gj_false
  | succ u ih => intro l0 l1 l3 l4 l5 M n c; exact hb_58_B27 hG ih l0 l1 l3 l4 l5 M n c
noncomputable def fi_58_L0 (K : Nat → Nat → Nat → Nat → Bool) (l0 l1 l2 l3 M n c : Nat) : Bool := gx_put (l0) 3 (0) M gx_f0 (fun M1 => gx_put (l0) 4 (0) M1 gx_f0 (fun M2 => fi_53 (l1) (l2) (l3) M2 n c (fun v3 M4 n5 c6 => gx_eq (v3) 0 (fi_58_W27 K 65536 (l0) (l1) (l3) (l2) (0) M4 n5 c6) (false))))
theorem h_58_L0 {G : gxG} (hG : gxG0 G) {K : Nat → Nat → Nat → Nat → Bool} (l0 l1 l2 l3 M n c : Nat) : gxJ G gY_58 K 0 [] [gR 6 (l0), gR 4 (l1), gI (l2), gI (l3), gB, gB, gB] M n c (fi_58_L0 K l0 l1 l2 l3 M n c) := by
  unfold fi_58_L0
  refine gr_aload_n (pc := 0) (i := 0) 6 (l0) (show decode (gy_b gY_58) 0 = .ok (.aload_n 0, 1) by decide +kernel) rfl rfl ?_
  refine gr_iconst (pc := 1) (z := 0) 0 (show decode (gy_b gY_58) 1 = .ok (.iconst (0), 1) by decide +kernel) kc_0 ?_
  refine gr_putf (pc := 2) (index := 21) (t := 6) (j := 3) (σ := 0) (sv := gI) (f := gx_f0) (ty := .int) (show decode (gy_b gY_58) 2 = .ok (.putfield 21, 3) by decide +kernel) rfl rfl (fun _ => rfl) wd_229 rfl gv_0 rfl ?_
  intro M1
  refine gr_aload_n (pc := 5) (i := 0) 6 (l0) (show decode (gy_b gY_58) 5 = .ok (.aload_n 0, 1) by decide +kernel) rfl rfl ?_
  refine gr_iconst (pc := 6) (z := 0) 0 (show decode (gy_b gY_58) 6 = .ok (.iconst (0), 1) by decide +kernel) kc_0 ?_
  refine gr_putf (pc := 7) (index := 25) (t := 6) (j := 4) (σ := 0) (sv := gI) (f := gx_f0) (ty := .int) (show decode (gy_b gY_58) 7 = .ok (.putfield 25, 3) by decide +kernel) rfl rfl (fun _ => rfl) wd_231 rfl gv_0 rfl ?_
  intro M2
  refine gr_aload_n (pc := 10) (i := 1) 4 (l1) (show decode (gy_b gY_58) 10 = .ok (.aload_n 1, 1) by decide +kernel) rfl rfl ?_
  refine gr_iload_n (pc := 11) (i := 2) (l2) (show decode (gy_b gY_58) 11 = .ok (.iload_n 2, 1) by decide +kernel) rfl rfl ?_
  refine gr_iload_n (pc := 12) (i := 3) (l3) (show decode (gy_b gY_58) 12 = .ok (.iload_n 3, 1) by decide +kernel) rfl rfl ?_
  refine gj_c0 (pc := 13) (Y' := gY_53) (y := yX6_isEnd) (vs := [gR 4 (l1), gI (l2), gI (l3)]) (rest := []) (rs := fun v3 => [gI (v3)]) [gI (l3), gI (l2), gR 4 (l1)] rfl (hm_53 hG (l1) (l2) (l3)) rfl (gh_S (vs := [gR 4 (l1), gI (l2), gI (l3)]) (rest := []) (show decode (gy_b gY_58) 13 = .ok (.invokestatic 28, 3) by decide +kernel) rfl (ok_53 (by decide) (by decide)) rfl rfl wd_831 wd_832 (Nat.le_of_ble_eq_true rfl)) (fun _ => rfl) ?_
  intro v3 M4 n5 c6
  refine gr_ifeq (pc := 16) (tgt := 21) (off := 5) hG.2.1 (show decode (gy_b gY_58) 16 = .ok (.ifCond .eq (5), 3) by decide +kernel) (by decide) ?_ ?_
  · refine gr_iload_n (pc := 21) (i := 2) (l2) (show decode (gy_b gY_58) 21 = .ok (.iload_n 2, 1) by decide +kernel) rfl rfl ?_
    refine gr_istore (pc := 22) (i := 4) (L' := [gR 6 (l0), gR 4 (l1), gI (l2), gI (l3), gI (l2), gB, gB]) (show decode (gy_b gY_58) 22 = .ok (.istore 4, 2) by decide +kernel) (by decide) rfl rfl ?_
    refine gr_iconst (pc := 24) (z := 0) 0 (show decode (gy_b gY_58) 24 = .ok (.iconst (0), 1) by decide +kernel) kc_0 ?_
    refine gr_istore (pc := 25) (i := 5) (L' := [gR 6 (l0), gR 4 (l1), gI (l2), gI (l3), gI (l2), gI (0), gB]) (show decode (gy_b gY_58) 25 = .ok (.istore 5, 2) by decide +kernel) (by decide) rfl rfl ?_
    refine gr_wk [true, true, false, true, true, true, true] rfl ?_
    exact hw_58_27 hG 65536 (l0) (l1) (l3) (l2) (0) M4 n5 c6
  · exact gj_false
noncomputable def fi_58 (l0 l1 l2 l3 M n c : Nat) (K : Nat → Nat → Nat → Nat → Bool) : Bool := fi_58_L0 K l0 l1 l2 l3 M n c
theorem hm_58 {G : gxG} (hG : gxG0 G) (l0 l1 l2 l3 : Nat) : gxM G gY_58 yX6_readFrom [gR 6 (l0), gR 4 (l1), gI (l2), gI (l3)] (fi_58 l0 l1 l2 l3) := gxM_of (L := [gR 6 (l0), gR 4 (l1), gI (l2), gI (l3), gB, gB, gB]) hG 3 (by decide +kernel) rfl rfl rfl rfl (List.forall_mem_cons.mpr ⟨rfl, List.forall_mem_cons.mpr ⟨rfl, List.forall_mem_cons.mpr ⟨rfl, List.forall_mem_cons.mpr ⟨rfl, fun _ h => nomatch h⟩⟩⟩⟩) (fun M n c K => h_58_L0 hG  l0 l1 l2 l3 M n c)
