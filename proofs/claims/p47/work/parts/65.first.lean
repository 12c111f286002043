/-! THE FIRST TURN OF THE LAW'S LOOP, for any way on. -/
noncomputable def fj_54 (ih_9 : Nat → Nat → Nat → Nat → Nat → Nat → Bool) (l0 l3 s0 M n c : Nat) : Bool := gx_add (l3) 1 (fun z15 => ih_9 (l0) (s0) (z15) M n c)
noncomputable def fj_1 (T : Nat) (ih_9 : Nat → Nat → Nat → Nat → Nat → Nat → Bool) (l0 l2 l3 M n c : Nat) : Bool := gx_nn (l0) (fd_draw T (l0) (3) M n c (fun v7 M8 n9 c10 => gx_eq (v7) 0 (gx_nn (l0) (fi_141 T (l0) M8 n9 c10 (fun v20 M21 n22 c23 => fj_54 ih_9 (l0) (l3) (v20) M21 n22 c23))) (gx_eq (v7) (1) (gx_nn (l0) (fi_156 T (l0) M8 n9 c10 (fun v16 M17 n18 c19 => fj_54 ih_9 (l0) (l3) (v16) M17 n18 c19))) (gx_nn (l0) (fi_162 T (l0) M8 n9 c10 (fun v11 M12 n13 c14 => fj_54 ih_9 (l0) (l3) (v11) M12 n13 c14))))))
theorem hj_54 {G : gxG} (hG : gxG0 G) (T : Nat) (hdr : ∀ x nn : Nat, gxM G gY_draw yL_draw [gR 10 x, gI nn] (fd_draw T x nn)) {K : Nat → Nat → Nat → Nat → Bool} {ih_9 : Nat → Nat → Nat → Nat → Nat → Nat → Bool} (hi_9 : ∀ l0 l2 l3 M n c : Nat, gxJ G gY_166 K 9 [] [gR 10 (l0), gB, gI (l2), gI (l3), gB] M n c (ih_9 l0 l2 l3 M n c)) (l0 l3 s0 M n c : Nat) : gxJ G gY_166 K 54 [gI (s0)] [gR 10 (l0), gB, gB, gI (l3), gB] M n c (fj_54 ih_9 l0 l3 s0 M n c) := h_166_L54 hG T hdr hi_9 l0 l3 s0 M n c
theorem hj_18 {G : gxG} (hG : gxG0 G) (T : Nat) (hdr : ∀ x nn : Nat, gxM G gY_draw yL_draw [gR 10 x, gI nn] (fd_draw T x nn)) {K : Nat → Nat → Nat → Nat → Bool} {ih_9 : Nat → Nat → Nat → Nat → Nat → Nat → Bool} (hi_9 : ∀ l0 l2 l3 M n c : Nat, gxJ G gY_166 K 9 [] [gR 10 (l0), gB, gI (l2), gI (l3), gB] M n c (ih_9 l0 l2 l3 M n c)) (l0 l2 l3 M n c : Nat) : gxJ G gY_166 K 18 [] [gR 10 (l0), gB, gI (l2), gI (l3), gB] M n c (fj_1 T ih_9 l0 l2 l3 M n c) := by
  unfold fj_1
  refine gr_aload_n (pc := 18) (i := 0) 10 (l0) (show decode (gy_b gY_166) 18 = .ok (.aload_n 0, 1) by decide +kernel) rfl rfl ?_
  refine gr_iconst (pc := 19) (z := 3) 3 (show decode (gy_b gY_166) 19 = .ok (.iconst (3), 1) by decide +kernel) kc_3 ?_
  refine gj_nn (fun hx20 => ?_)
  refine gj_c0 (pc := 20) (Y' := gY_draw) (y := yL_draw) (vs := [gR 10 (l0), gI (3)]) (rest := []) (rs := fun v7 => [gI (v7)]) [gI (3), gR 10 (l0)] rfl (hdr (l0) (3)) rfl (gh_V (t := 10) (vs := [gI (3)]) (rest := []) (show decode (gy_b gY_166) 20 = .ok (.invokevirtual 71, 3) by decide +kernel) rfl hx20 rfl rfl (ok_draw (by decide) (by decide)) wd_363 wd_365 wd_4 (Nat.le_of_ble_eq_true rfl)) (fun _ => rfl) ?_
  intro v7 M8 n9 c10
  refine gr_istore (pc := 23) (i := 4) (L' := [gR 10 (l0), gB, gI (l2), gI (l3), gI (v7)]) (show decode (gy_b gY_166) 23 = .ok (.istore 4, 2) by decide +kernel) (by decide) rfl rfl ?_
  refine gr_iload (pc := 25) (i := 4) (v7) (show decode (gy_b gY_166) 25 = .ok (.iload 4, 2) by decide +kernel) rfl ?_
  refine gr_ifne (pc := 27) (tgt := 37) (off := 10) hG.2.1 (show decode (gy_b gY_166) 27 = .ok (.ifCond .ne (10), 3) by decide +kernel) (by decide) ?_ ?_
  · refine gr_iload (pc := 37) (i := 4) (v7) (show decode (gy_b gY_166) 37 = .ok (.iload 4, 2) by decide +kernel) rfl ?_
    refine gr_iconst (pc := 39) (z := 1) 1 (show decode (gy_b gY_166) 39 = .ok (.iconst (1), 1) by decide +kernel) kc_1 ?_
    refine gr_icmp_ne (pc := 40) (tgt := 50) (off := 10) hG.2.1 (show decode (gy_b gY_166) 40 = .ok (.if_icmp .ne (10), 3) by decide +kernel) (by decide) ?_ ?_
    · refine gr_aload_n (pc := 50) (i := 0) 10 (l0) (show decode (gy_b gY_166) 50 = .ok (.aload_n 0, 1) by decide +kernel) rfl rfl ?_
      refine gj_nn (fun hx51 => ?_)
      refine gj_c0 (pc := 51) (Y' := gY_162) (y := yL_isRenamed) (vs := [gR 10 (l0)]) (rest := []) (rs := fun v11 => [gI (v11)]) [gR 10 (l0)] rfl (hm_162 hG T hdr (l0)) rfl (gh_W (t := 10) (vs := []) (rest := []) (show decode (gy_b gY_166) 51 = .ok (.invokevirtual 226, 3) by decide +kernel) rfl hx51 rfl rfl rfl (ok_162 (by decide) (by decide)) wd_1325 wd_1327 wd_46 (Nat.le_of_ble_eq_true rfl)) (fun _ => rfl) ?_
      intro v11 M12 n13 c14
      refine gr_wk [true, true, false, true, false] rfl ?_
      exact hj_54 hG T hdr hi_9 (l0) (l3) (v11) M12 n13 c14
    · refine gr_aload_n (pc := 43) (i := 0) 10 (l0) (show decode (gy_b gY_166) 43 = .ok (.aload_n 0, 1) by decide +kernel) rfl rfl ?_
      refine gj_nn (fun hx44 => ?_)
      refine gj_c0 (pc := 44) (Y' := gY_156) (y := yL_isLost) (vs := [gR 10 (l0)]) (rest := []) (rs := fun v16 => [gI (v16)]) [gR 10 (l0)] rfl (hm_156 hG T hdr (l0)) rfl (gh_V (t := 10) (vs := []) (rest := []) (show decode (gy_b gY_166) 44 = .ok (.invokevirtual 223, 3) by decide +kernel) rfl hx44 rfl rfl (ok_156 (by decide) (by decide)) wd_1264 wd_1266 wd_42 (Nat.le_of_ble_eq_true rfl)) (fun _ => rfl) ?_
      intro v16 M17 n18 c19
      refine gr_goto (pc := 47) (tgt := 54) (off := 7) (show decode (gy_b gY_166) 47 = .ok (.goto (7), 3) by decide +kernel) (by decide) ?_
      refine gr_wk [true, true, false, true, false] rfl ?_
      exact hj_54 hG T hdr hi_9 (l0) (l3) (v16) M17 n18 c19
  · refine gr_aload_n (pc := 30) (i := 0) 10 (l0) (show decode (gy_b gY_166) 30 = .ok (.aload_n 0, 1) by decide +kernel) rfl rfl ?_
    refine gj_nn (fun hx31 => ?_)
    refine gj_c0 (pc := 31) (Y' := gY_141) (y := yL_areStored) (vs := [gR 10 (l0)]) (rest := []) (rs := fun v20 => [gI (v20)]) [gR 10 (l0)] rfl (hm_141 hG T hdr (l0)) rfl (gh_V (t := 10) (vs := []) (rest := []) (show decode (gy_b gY_166) 31 = .ok (.invokevirtual 220, 3) by decide +kernel) rfl hx31 rfl rfl (ok_141 (by decide) (by decide)) wd_382 wd_384 wd_5 (Nat.le_of_ble_eq_true rfl)) (fun _ => rfl) ?_
    intro v20 M21 n22 c23
    refine gr_goto (pc := 34) (tgt := 54) (off := 20) (show decode (gy_b gY_166) 34 = .ok (.goto (20), 3) by decide +kernel) (by decide) ?_
    refine gr_wk [true, true, false, true, false] rfl ?_
    exact hj_54 hG T hdr hi_9 (l0) (l3) (v20) M21 n22 c23
theorem hj_1 {G : gxG} (hG : gxG0 G) (T : Nat) (hdr : ∀ x nn : Nat, gxM G gY_draw yL_draw [gR 10 x, gI nn] (fd_draw T x nn)) {K : Nat → Nat → Nat → Nat → Bool} {ih_9 : Nat → Nat → Nat → Nat → Nat → Nat → Bool} (hi_9 : ∀ l0 l2 l3 M n c : Nat, gxJ G gY_166 K 9 [] [gR 10 (l0), gB, gI (l2), gI (l3), gB] M n c (ih_9 l0 l2 l3 M n c)) (l0 M n c : Nat) : gxJ G gY_166 K 9 [] [gR 10 (l0), gB, gI 1, gI 0, gB] M n c (fj_1 T ih_9 l0 1 0 M n c) := by
  refine gj_e (show fj_1 T ih_9 l0 1 0 M n c = gx_lt 0 2 (gx_eq 1 0 false (fj_1 T ih_9 l0 1 0 M n c)) false from rfl) ?_
  refine gr_iload_n (pc := 9) (i := 3) 0 (show decode (gy_b gY_166) 9 = .ok (.iload_n 3, 1) by decide +kernel) rfl rfl ?_
  refine gr_iconst (pc := 10) (z := 2) 2 (show decode (gy_b gY_166) 10 = .ok (.iconst 2, 1) by decide +kernel) kc_2 ?_
  refine gr_icmp_ge (pc := 11) (tgt := 61) (off := 50) hG.2.1 (show decode (gy_b gY_166) 11 = .ok (.if_icmp .ge 50, 3) by decide +kernel) (by decide) gj_false ?_
  refine gr_iload_n (pc := 14) (i := 2) 1 (show decode (gy_b gY_166) 14 = .ok (.iload_n 2, 1) by decide +kernel) rfl rfl ?_
  refine gr_ifeq (pc := 15) (tgt := 61) (off := 46) hG.2.1 (show decode (gy_b gY_166) 15 = .ok (.ifCond .eq 46, 3) by decide +kernel) (by decide) gj_false ?_
  exact hj_18 hG T hdr hi_9 l0 1 0 M n c
noncomputable def fj_0 (T : Nat) (ih_9 : Nat → Nat → Nat → Nat → Nat → Nat → Bool) (l0 l1 M n c : Nat) : Bool := gx_put l0 0 l1 M gx_f0 (fun M1 => fj_1 T ih_9 l0 1 0 M1 n c)
theorem hj_0 {G : gxG} (hG : gxG0 G) (T : Nat) (hdr : ∀ x nn : Nat, gxM G gY_draw yL_draw [gR 10 x, gI nn] (fd_draw T x nn)) {K : Nat → Nat → Nat → Nat → Bool} {ih_9 : Nat → Nat → Nat → Nat → Nat → Nat → Bool} (hi_9 : ∀ l0 l2 l3 M n c : Nat, gxJ G gY_166 K 9 [] [gR 10 (l0), gB, gI (l2), gI (l3), gB] M n c (ih_9 l0 l2 l3 M n c)) (l0 l1 M n c : Nat) : gxJ G gY_166 K 0 [] [gR 10 l0, gR 99 l1, gB, gB, gB] M n c (fj_0 T ih_9 l0 l1 M n c) := by
  unfold fj_0
  refine gr_aload_n (pc := 0) (i := 0) 10 l0 (show decode (gy_b gY_166) 0 = .ok (.aload_n 0, 1) by decide +kernel) rfl rfl ?_
  refine gr_aload_n (pc := 1) (i := 1) 99 l1 (show decode (gy_b gY_166) 1 = .ok (.aload_n 1, 1) by decide +kernel) rfl rfl ?_
  refine gr_putf (pc := 2) (index := 21) (t := 10) (j := 0) (σ := 107) (sv := (gR 99)) (f := gx_f0) (ty := .array (.int)) (show decode (gy_b gY_166) 2 = .ok (.putfield 21, 3) by decide +kernel) rfl rfl (fun _ => rfl) wd_343 rfl gv_a rfl ?_
  intro M1
  refine gr_iconst (pc := 5) (z := 1) 1 (show decode (gy_b gY_166) 5 = .ok (.iconst 1, 1) by decide +kernel) kc_1 ?_
  refine gr_istore_n (pc := 6) (i := 2) (L' := [gR 10 l0, gR 99 l1, gI 1, gB, gB]) (show decode (gy_b gY_166) 6 = .ok (.istore_n 2, 1) by decide +kernel) rfl (by decide) rfl rfl ?_
  refine gr_iconst (pc := 7) (z := 0) 0 (show decode (gy_b gY_166) 7 = .ok (.iconst 0, 1) by decide +kernel) kc_0 ?_
  refine gr_istore_n (pc := 8) (i := 3) (L' := [gR 10 l0, gR 99 l1, gI 1, gI 0, gB]) (show decode (gy_b gY_166) 8 = .ok (.istore_n 3, 1) by decide +kernel) rfl (by decide) rfl rfl ?_
  refine gr_wk [true, false, true, true, true] rfl ?_
  exact hj_1 hG T hdr hi_9 l0 M1 n c
