/-! METHODS 12 -/
set_option maxRecDepth 100000
/-! Farfiles isLostAlike (LFarfiles$ActSet;LFarfiles$ActSet;)Z -/
def gY_164 : gxY := (false, prog_1_method_82_code, 4, (Option.some Jvm.ClassFile.FieldType.boolean), "Farfiles", 6, 158, 2, [], "isLostAlike")
theorem ok_164 {Y : gxY} (h1 : gy_f gY_164 + 1 ≤ gy_f Y) (h2 : 8 + (gy_l gY_164 + 11) + gy_k gY_164 ≤ gy_k Y) : gh_ok Y gY_164 yX7_isLostAlike 2 := ⟨wd_1365, wd_51, ⟨by decide, by decide⟩, by decide +kernel, h1, h2⟩
noncomputable def fi_164_B20 (K : Nat → Nat → Nat → Nat → Bool) (ih_20 : Nat → Nat → Nat → Nat → Nat → Bool) (l0 l3 M n c : Nat) : Bool := gx_lt (l3) (49) (gx_get (l0) 13 M (fun v11 => gx_ald (v11) (l3) M (fun v12 => gx_get (l0) 14 M (fun v13 => gx_ald (v13) (l3) M (fun v14 => gx_eq (v12) (v14) (gx_add (l3) 1 (fun z15 => ih_20 (l0) (z15) M n c)) (false)))))) (gx_rt gx_f2 (1) (K (1) M n c))
theorem hb_164_B20 {G : gxG} (hG : gxG0 G) {K : Nat → Nat → Nat → Nat → Bool} {ih_20 : Nat → Nat → Nat → Nat → Nat → Bool} (hi_20 : ∀ l0 l3 M n c : Nat, gxJ G gY_164 K 20 [] [gR 7 (l0), gB, gB, gI (l3)] M n c (ih_20 l0 l3 M n c)) (l0 l3 M n c : Nat) : gxJ G gY_164 K 20 [] [gR 7 (l0), gB, gB, gI (l3)] M n c (fi_164_B20 K ih_20 l0 l3 M n c) := by
  unfold fi_164_B20
  refine gr_iload_n (pc := 20) (i := 3) (l3) (show decode (gy_b gY_164) 20 = .ok (.iload_n 3, 1) by decide +kernel) rfl rfl ?_
  refine gr_bipush (pc := 21) (z := 49) 49 (show decode (gy_b gY_164) 21 = .ok (.bipush (49), 2) by decide +kernel) (by decide +kernel) ?_
  refine gr_icmp_ge (pc := 23) (tgt := 49) (off := 26) hG.2.1 (show decode (gy_b gY_164) 23 = .ok (.if_icmp .ge (26), 3) by decide +kernel) (by decide) ?_ ?_
  · refine gr_iconst (pc := 49) (z := 1) 1 (show decode (gy_b gY_164) 49 = .ok (.iconst (1), 1) by decide +kernel) kc_1 ?_
    exact gr_ireturn (pc := 50) (show decode (gy_b gY_164) 50 = .ok (.ireturn, 1) by decide +kernel) rfl rfl (by decide) gv_2f
  · refine gr_aload_n (pc := 26) (i := 0) 7 (l0) (show decode (gy_b gY_164) 26 = .ok (.aload_n 0, 1) by decide +kernel) rfl rfl ?_
    refine gr_getf (pc := 27) (index := 73) (t := 7) (j := 13) (σ := 74) (sv := (gR 66)) (show decode (gy_b gY_164) 27 = .ok (.getfield 73, 3) by decide +kernel) rfl rfl (fun _ => rfl) wd_307 (by decide) ?_
    intro v11
    refine gr_iload_n (pc := 30) (i := 3) (l3) (show decode (gy_b gY_164) 30 = .ok (.iload_n 3, 1) by decide +kernel) rfl rfl ?_
    refine gr_zald (pc := 31) (show decode (gy_b gY_164) 31 = .ok (.baload, 1) by decide +kernel) ?_
    intro v12
    refine gr_aload_n (pc := 32) (i := 0) 7 (l0) (show decode (gy_b gY_164) 32 = .ok (.aload_n 0, 1) by decide +kernel) rfl rfl ?_
    refine gr_getf (pc := 33) (index := 76) (t := 7) (j := 14) (σ := 74) (sv := (gR 66)) (show decode (gy_b gY_164) 33 = .ok (.getfield 76, 3) by decide +kernel) rfl rfl (fun _ => rfl) wd_308 (by decide) ?_
    intro v13
    refine gr_iload_n (pc := 36) (i := 3) (l3) (show decode (gy_b gY_164) 36 = .ok (.iload_n 3, 1) by decide +kernel) rfl rfl ?_
    refine gr_zald (pc := 37) (show decode (gy_b gY_164) 37 = .ok (.baload, 1) by decide +kernel) ?_
    intro v14
    refine gr_icmp_eq (pc := 38) (tgt := 43) (off := 5) hG.2.1 (show decode (gy_b gY_164) 38 = .ok (.if_icmp .eq (5), 3) by decide +kernel) (by decide) ?_ ?_
    · refine gr_iinc (pc := 43) (i := 3) (d := 1) (z := 1) (L' := fun z15 => [gR 7 (l0), gB, gB, gI (z15)]) (show decode (gy_b gY_164) 43 = .ok (.iinc 3 (1), 3) by decide +kernel) (by decide +kernel) (by decide) rfl rfl (fun _ => rfl) ?_
      intro z15
      refine gr_goto (pc := 46) (tgt := 20) (off := -26) (show decode (gy_b gY_164) 46 = .ok (.goto (-26), 3) by decide +kernel) (by decide) ?_
      exact hi_20 (l0) (z15) M n c
    · exact gj_false
noncomputable def fi_164_W20 (K : Nat → Nat → Nat → Nat → Bool) (u : Nat) : Nat → Nat → Nat → Nat → Nat → Bool := Nat.rec (motive := fun _ => Nat → Nat → Nat → Nat → Nat → Bool) (fun _ _ _ _ _ => false) (fun _ ih => fi_164_B20 K ih) u
theorem hw_164_20 {G : gxG} (hG : gxG0 G) {K : Nat → Nat → Nat → Nat → Bool} (u : Nat) : ∀ l0 l3 M n c : Nat, gxJ G gY_164 K 20 [] [gR 7 (l0), gB, gB, gI (l3)] M n c (fi_164_W20 K u l0 l3 M n c) := by
  induction u with
  | zero => intro l0 l3 M n c; exact gj_false
  | succ u ih => intro l0 l3 M n c; exact hb_164_B20 hG ih l0 l3 M n c
noncomputable def fi_164_L0 (K : Nat → Nat → Nat → Nat → Bool) (l0 l1 l2 M n c : Nat) : Bool := gx_get (l0) 13 M (fun v1 => gx_nn (l0) (fi_150 (l0) (l1) (v1) M n c (fun v2 M3 n4 c5 => gx_get (l0) 14 M3 (fun v6 => gx_nn (l0) (fi_150 (l0) (l2) (v6) M3 n4 c5 (fun v7 M8 n9 c10 => fi_164_W20 K 65536 (l0) (0) M8 n9 c10))))))
theorem h_164_L0 {G : gxG} (hG : gxG0 G) {K : Nat → Nat → Nat → Nat → Bool} (l0 l1 l2 M n c : Nat) : gxJ G gY_164 K 0 [] [gR 7 (l0), gR 1 (l1), gR 1 (l2), gB] M n c (fi_164_L0 K l0 l1 l2 M n c) := by
  unfold fi_164_L0
  refine gr_aload_n (pc := 0) (i := 0) 7 (l0) (show decode (gy_b gY_164) 0 = .ok (.aload_n 0, 1) by decide +kernel) rfl rfl ?_
  refine gr_aload_n (pc := 1) (i := 1) 1 (l1) (show decode (gy_b gY_164) 1 = .ok (.aload_n 1, 1) by decide +kernel) rfl rfl ?_
  refine gr_aload_n (pc := 2) (i := 0) 7 (l0) (show decode (gy_b gY_164) 2 = .ok (.aload_n 0, 1) by decide +kernel) rfl rfl ?_
  refine gr_getf (pc := 3) (index := 73) (t := 7) (j := 13) (σ := 74) (sv := (gR 66)) (show decode (gy_b gY_164) 3 = .ok (.getfield 73, 3) by decide +kernel) rfl rfl (fun _ => rfl) wd_307 (by decide) ?_
  intro v1
  refine gj_nn (fun hx6 => ?_)
  refine gj_c0 (pc := 6) (Y' := gY_150) (y := yX7_markLost) (vs := [gR 7 (l0), gR 1 (l1), gR 66 (v1)]) (rest := []) (rs := fun v2 => []) [gR 66 (v1), gR 1 (l1), gR 7 (l0)] rfl (hm_150 hG (l0) (l1) (v1)) rfl (gh_V (t := 7) (vs := [gR 1 (l1), gR 66 (v1)]) (rest := []) (show decode (gy_b gY_164) 6 = .ok (.invokevirtual 440, 3) by decide +kernel) rfl hx6 rfl rfl (ok_150 (by decide) (by decide)) wd_1295 wd_1297 wd_44 (Nat.le_of_ble_eq_true rfl)) (fun _ => rfl) ?_
  intro v2 M3 n4 c5
  refine gr_aload_n (pc := 9) (i := 0) 7 (l0) (show decode (gy_b gY_164) 9 = .ok (.aload_n 0, 1) by decide +kernel) rfl rfl ?_
  refine gr_aload_n (pc := 10) (i := 2) 1 (l2) (show decode (gy_b gY_164) 10 = .ok (.aload_n 2, 1) by decide +kernel) rfl rfl ?_
  refine gr_aload_n (pc := 11) (i := 0) 7 (l0) (show decode (gy_b gY_164) 11 = .ok (.aload_n 0, 1) by decide +kernel) rfl rfl ?_
  refine gr_getf (pc := 12) (index := 76) (t := 7) (j := 14) (σ := 74) (sv := (gR 66)) (show decode (gy_b gY_164) 12 = .ok (.getfield 76, 3) by decide +kernel) rfl rfl (fun _ => rfl) wd_308 (by decide) ?_
  intro v6
  refine gj_nn (fun hx15 => ?_)
  refine gj_c0 (pc := 15) (Y' := gY_150) (y := yX7_markLost) (vs := [gR 7 (l0), gR 1 (l2), gR 66 (v6)]) (rest := []) (rs := fun v7 => []) [gR 66 (v6), gR 1 (l2), gR 7 (l0)] rfl (hm_150 hG (l0) (l2) (v6)) rfl (gh_V (t := 7) (vs := [gR 1 (l2), gR 66 (v6)]) (rest := []) (show decode (gy_b gY_164) 15 = .ok (.invokevirtual 440, 3) by decide +kernel) rfl hx15 rfl rfl (ok_150 (by decide) (by decide)) wd_1295 wd_1297 wd_44 (Nat.le_of_ble_eq_true rfl)) (fun _ => rfl) ?_
  intro v7 M8 n9 c10
  refine gr_iconst (pc := 18) (z := 0) 0 (show decode (gy_b gY_164) 18 = .ok (.iconst (0), 1) by decide +kernel) kc_0 ?_
  refine gr_istore_n (pc := 19) (i := 3) (L' := [gR 7 (l0), gR 1 (l1), gR 1 (l2), gI (0)]) (show decode (gy_b gY_164) 19 = .ok (.istore_n 3, 1) by decide +kernel) rfl (by decide) rfl rfl ?_
  refine gr_wk [true, false, false, true] rfl ?_
  exact hw_164_20 hG 65536 (l0) (0) M8 n9 c10
noncomputable def fi_164 (l0 l1 l2 M n c : Nat) (K : Nat → Nat → Nat → Nat → Bool) : Bool := fi_164_L0 K l0 l1 l2 M n c
theorem hm_164 {G : gxG} (hG : gxG0 G) (l0 l1 l2 : Nat) : gxM G gY_164 yX7_isLostAlike [gR 7 (l0), gR 1 (l1), gR 1 (l2)] (fi_164 l0 l1 l2) := gxM_of (L := [gR 7 (l0), gR 1 (l1), gR 1 (l2), gB]) hG 1 (by decide +kernel) rfl rfl rfl rfl (List.forall_mem_cons.mpr ⟨rfl, List.forall_mem_cons.mpr ⟨rfl, List.forall_mem_cons.mpr ⟨rfl, fun _ h => nomatch h⟩⟩⟩) (fun M n c K => h_164_L0 hG  l0 l1 l2 M n c)
/-! Farfiles isSound ()Z -/
def gY_165 : gxY := (false, prog_1_method_83_code, 4, (Option.some Jvm.ClassFile.FieldType.boolean), "Farfiles", 7, 181, 2, [], "isSound")
theorem ok_165 {Y : gxY} (h1 : gy_f gY_165 + 1 ≤ gy_f Y) (h2 : 8 + (gy_l gY_165 + 11) + gy_k gY_165 ≤ gy_k Y) : gh_ok Y gY_165 yX7_isSound 0 := ⟨wd_1357, wd_51, ⟨by decide, by decide⟩, by decide +kernel, h1, h2⟩
noncomputable def fi_165_L93 (K : Nat → Nat → Nat → Nat → Bool) (ih_30 : Nat → Nat → Nat → Nat → Nat → Bool) (ih_39 : Nat → Nat → Nat → Nat → Nat → Nat → Bool) (l0 l1 l2 M n c : Nat) : Bool := gx_add (l2) 1 (fun z11 => ih_39 (l0) (l1) (z11) M n c)
theorem h_165_L93 {G : gxG} (hG : gxG0 G) {K : Nat → Nat → Nat → Nat → Bool} {ih_30 : Nat → Nat → Nat → Nat → Nat → Bool} (hi_30 : ∀ l0 l1 M n c : Nat, gxJ G gY_165 K 30 [] [gR 7 (l0), gI (l1), gB, gB] M n c (ih_30 l0 l1 M n c)) {ih_39 : Nat → Nat → Nat → Nat → Nat → Nat → Bool} (hi_39 : ∀ l0 l1 l2 M n c : Nat, gxJ G gY_165 K 39 [] [gR 7 (l0), gI (l1), gI (l2), gB] M n c (ih_39 l0 l1 l2 M n c)) (l0 l1 l2 M n c : Nat) : gxJ G gY_165 K 93 [] [gR 7 (l0), gI (l1), gI (l2), gB] M n c (fi_165_L93 K ih_30 ih_39 l0 l1 l2 M n c) := by
  unfold fi_165_L93
  refine gr_iinc (pc := 93) (i := 2) (d := 1) (z := 1) (L' := fun z11 => [gR 7 (l0), gI (l1), gI (z11), gB]) (show decode (gy_b gY_165) 93 = .ok (.iinc 2 (1), 3) by decide +kernel) (by decide +kernel) (by decide) rfl rfl (fun _ => rfl) ?_
  intro z11
  refine gr_goto (pc := 96) (tgt := 39) (off := -57) (show decode (gy_b gY_165) 96 = .ok (.goto (-57), 3) by decide +kernel) (by decide) ?_
  exact hi_39 (l0) (l1) (z11) M n c
noncomputable def fi_165_L80 (K : Nat → Nat → Nat → Nat → Bool) (ih_30 : Nat → Nat → Nat → Nat → Nat → Bool) (ih_39 : Nat → Nat → Nat → Nat → Nat → Nat → Bool) (l0 l1 l2 s0 s1 s2 M n c : Nat) : Bool := gx_get (s2) 4 M (fun v14 => gx_ald (v14) (l2) M (fun v15 => gx_nn (s0) (fi_164 (s0) (s1) (v15) M n c (fun v16 M17 n18 c19 => gx_eq (v16) 0 (false) (fi_165_L93 K ih_30 ih_39 (l0) (l1) (l2) M17 n18 c19)))))
theorem h_165_L80 {G : gxG} (hG : gxG0 G) {K : Nat → Nat → Nat → Nat → Bool} {ih_30 : Nat → Nat → Nat → Nat → Nat → Bool} (hi_30 : ∀ l0 l1 M n c : Nat, gxJ G gY_165 K 30 [] [gR 7 (l0), gI (l1), gB, gB] M n c (ih_30 l0 l1 M n c)) {ih_39 : Nat → Nat → Nat → Nat → Nat → Nat → Bool} (hi_39 : ∀ l0 l1 l2 M n c : Nat, gxJ G gY_165 K 39 [] [gR 7 (l0), gI (l1), gI (l2), gB] M n c (ih_39 l0 l1 l2 M n c)) (l0 l1 l2 s0 s1 s2 M n c : Nat) : gxJ G gY_165 K 80 [gR 7 (s2), gR 1 (s1), gR 7 (s0)] [gR 7 (l0), gI (l1), gI (l2), gB] M n c (fi_165_L80 K ih_30 ih_39 l0 l1 l2 s0 s1 s2 M n c) := by
  unfold fi_165_L80
  refine gr_getf (pc := 80) (index := 38) (t := 7) (j := 4) (σ := 78) (sv := (gR 70)) (show decode (gy_b gY_165) 80 = .ok (.getfield 38, 3) by decide +kernel) rfl rfl (fun _ => rfl) wd_298 (by decide) ?_
  intro v14
  refine gr_iload_n (pc := 83) (i := 2) (l2) (show decode (gy_b gY_165) 83 = .ok (.iload_n 2, 1) by decide +kernel) rfl rfl ?_
  refine gr_aald (pc := 84) (κ := 6) (t := 1) (C := "Farfiles$ActSet") (show decode (gy_b gY_165) 84 = .ok (.aaload, 1) by decide +kernel) ⟨by decide, by decide, rfl⟩ rfl ?_
  intro v15
  refine gj_nn (fun hx85 => ?_)
  refine gj_c0 (pc := 85) (Y' := gY_164) (y := yX7_isLostAlike) (vs := [gR 7 (s0), gR 1 (s1), gR 1 (v15)]) (rest := []) (rs := fun v16 => [gI (v16)]) [gR 1 (v15), gR 1 (s1), gR 7 (s0)] rfl (hm_164 hG (s0) (s1) (v15)) rfl (gh_V (t := 7) (vs := [gR 1 (s1), gR 1 (v15)]) (rest := []) (show decode (gy_b gY_165) 85 = .ok (.invokevirtual 481, 3) by decide +kernel) rfl hx85 rfl rfl (ok_164 (by decide) (by decide)) wd_1362 wd_1364 wd_49 (Nat.le_of_ble_eq_true rfl)) (fun _ => rfl) ?_
  intro v16 M17 n18 c19
  refine gr_ifne (pc := 88) (tgt := 93) (off := 5) hG.2.1 (show decode (gy_b gY_165) 88 = .ok (.ifCond .ne (5), 3) by decide +kernel) (by decide) ?_ ?_
  · exact h_165_L93 hG hi_30 hi_39 (l0) (l1) (l2) M17 n18 c19
  · exact gj_false
noncomputable def fi_165_B39 (K : Nat → Nat → Nat → Nat → Bool) (ih_30 : Nat → Nat → Nat → Nat → Nat → Bool) (ih_39 : Nat → Nat → Nat → Nat → Nat → Nat → Bool) (l0 l1 l2 M n c : Nat) : Bool := gx_lt (l2) (3) (gx_get (l0) 4 M (fun v3 => gx_ald (v3) (l1) M (fun v4 => gx_get (l0) 4 M (fun v5 => gx_ald (v5) (l2) M (fun v6 => gx_nn (v4) (fi_116 (v4) (v6) M n c (fun v7 M8 n9 c10 => gx_eq (v7) 0 (gx_eq (1) 0 (fi_165_L93 K ih_30 ih_39 (l0) (l1) (l2) M8 n9 c10) (gx_get (l0) 4 M8 (fun v12 => gx_ald (v12) (l1) M8 (fun v13 => fi_165_L80 K ih_30 ih_39 (l0) (l1) (l2) (l0) (v13) (l0) M8 n9 c10)))) (false)))))))) (gx_add (l1) 1 (fun z2 => ih_30 (l0) (z2) M n c))
theorem hb_165_B39 {G : gxG} (hG : gxG0 G) {K : Nat → Nat → Nat → Nat → Bool} {ih_30 : Nat → Nat → Nat → Nat → Nat → Bool} (hi_30 : ∀ l0 l1 M n c : Nat, gxJ G gY_165 K 30 [] [gR 7 (l0), gI (l1), gB, gB] M n c (ih_30 l0 l1 M n c)) {ih_39 : Nat → Nat → Nat → Nat → Nat → Nat → Bool} (hi_39 : ∀ l0 l1 l2 M n c : Nat, gxJ G gY_165 K 39 [] [gR 7 (l0), gI (l1), gI (l2), gB] M n c (ih_39 l0 l1 l2 M n c)) (l0 l1 l2 M n c : Nat) : gxJ G gY_165 K 39 [] [gR 7 (l0), gI (l1), gI (l2), gB] M n c (fi_165_B39 K ih_30 ih_39 l0 l1 l2 M n c) := by
  unfold fi_165_B39
  refine gr_iload_n (pc := 39) (i := 2) (l2) (show decode (gy_b gY_165) 39 = .ok (.iload_n 2, 1) by decide +kernel) rfl rfl ?_
  refine gr_iconst (pc := 40) (z := 3) 3 (show decode (gy_b gY_165) 40 = .ok (.iconst (3), 1) by decide +kernel) kc_3 ?_
  refine gr_icmp_ge (pc := 41) (tgt := 99) (off := 58) hG.2.1 (show decode (gy_b gY_165) 41 = .ok (.if_icmp .ge (58), 3) by decide +kernel) (by decide) ?_ ?_
  · refine gr_iinc (pc := 99) (i := 1) (d := 1) (z := 1) (L' := fun z2 => [gR 7 (l0), gI (z2), gI (l2), gB]) (show decode (gy_b gY_165) 99 = .ok (.iinc 1 (1), 3) by decide +kernel) (by decide +kernel) (by decide) rfl rfl (fun _ => rfl) ?_
    intro z2
    refine gr_goto (pc := 102) (tgt := 30) (off := -72) (show decode (gy_b gY_165) 102 = .ok (.goto (-72), 3) by decide +kernel) (by decide) ?_
    refine gr_wk [true, true, false, true] rfl ?_
    exact hi_30 (l0) (z2) M n c
  · refine gr_aload_n (pc := 44) (i := 0) 7 (l0) (show decode (gy_b gY_165) 44 = .ok (.aload_n 0, 1) by decide +kernel) rfl rfl ?_
    refine gr_getf (pc := 45) (index := 38) (t := 7) (j := 4) (σ := 78) (sv := (gR 70)) (show decode (gy_b gY_165) 45 = .ok (.getfield 38, 3) by decide +kernel) rfl rfl (fun _ => rfl) wd_298 (by decide) ?_
    intro v3
    refine gr_iload_n (pc := 48) (i := 1) (l1) (show decode (gy_b gY_165) 48 = .ok (.iload_n 1, 1) by decide +kernel) rfl rfl ?_
    refine gr_aald (pc := 49) (κ := 6) (t := 1) (C := "Farfiles$ActSet") (show decode (gy_b gY_165) 49 = .ok (.aaload, 1) by decide +kernel) ⟨by decide, by decide, rfl⟩ rfl ?_
    intro v4
    refine gr_aload_n (pc := 50) (i := 0) 7 (l0) (show decode (gy_b gY_165) 50 = .ok (.aload_n 0, 1) by decide +kernel) rfl rfl ?_
    refine gr_getf (pc := 51) (index := 38) (t := 7) (j := 4) (σ := 78) (sv := (gR 70)) (show decode (gy_b gY_165) 51 = .ok (.getfield 38, 3) by decide +kernel) rfl rfl (fun _ => rfl) wd_298 (by decide) ?_
    intro v5
    refine gr_iload_n (pc := 54) (i := 2) (l2) (show decode (gy_b gY_165) 54 = .ok (.iload_n 2, 1) by decide +kernel) rfl rfl ?_
    refine gr_aald (pc := 55) (κ := 6) (t := 1) (C := "Farfiles$ActSet") (show decode (gy_b gY_165) 55 = .ok (.aaload, 1) by decide +kernel) ⟨by decide, by decide, rfl⟩ rfl ?_
    intro v6
    refine gj_nn (fun hx56 => ?_)
    refine gj_c0 (pc := 56) (Y' := gY_116) (y := yX1_countUnlike) (vs := [gR 1 (v4), gR 1 (v6)]) (rest := []) (rs := fun v7 => [gI (v7)]) [gR 1 (v6), gR 1 (v4)] rfl (hm_116 hG (v4) (v6)) rfl (gh_V (t := 1) (vs := [gR 1 (v6)]) (rest := []) (show decode (gy_b gY_165) 56 = .ok (.invokevirtual 413, 3) by decide +kernel) rfl hx56 rfl rfl (ok_116 (by decide) (by decide)) wd_1157 wd_1158 wd_1159 (Nat.le_of_ble_eq_true rfl)) (fun _ => rfl) ?_
    intro v7 M8 n9 c10
    refine gr_ifne (pc := 59) (tgt := 66) (off := 7) hG.2.1 (show decode (gy_b gY_165) 59 = .ok (.ifCond .ne (7), 3) by decide +kernel) (by decide) ?_ ?_
    · exact gj_false
    · refine gr_iconst (pc := 62) (z := 1) 1 (show decode (gy_b gY_165) 62 = .ok (.iconst (1), 1) by decide +kernel) kc_1 ?_
      refine gr_goto (pc := 63) (tgt := 67) (off := 4) (show decode (gy_b gY_165) 63 = .ok (.goto (4), 3) by decide +kernel) (by decide) ?_
      refine gr_istore_n (pc := 67) (i := 3) (L' := [gR 7 (l0), gI (l1), gI (l2), gI (1)]) (show decode (gy_b gY_165) 67 = .ok (.istore_n 3, 1) by decide +kernel) rfl (by decide) rfl rfl ?_
      refine gr_iload_n (pc := 68) (i := 3) (1) (show decode (gy_b gY_165) 68 = .ok (.iload_n 3, 1) by decide +kernel) rfl rfl ?_
      refine gr_ifeq (pc := 69) (tgt := 93) (off := 24) hG.2.1 (show decode (gy_b gY_165) 69 = .ok (.ifCond .eq (24), 3) by decide +kernel) (by decide) ?_ ?_
      · refine gr_wk [true, true, true, false] rfl ?_
        exact h_165_L93 hG hi_30 hi_39 (l0) (l1) (l2) M8 n9 c10
      · refine gr_aload_n (pc := 72) (i := 0) 7 (l0) (show decode (gy_b gY_165) 72 = .ok (.aload_n 0, 1) by decide +kernel) rfl rfl ?_
        refine gr_aload_n (pc := 73) (i := 0) 7 (l0) (show decode (gy_b gY_165) 73 = .ok (.aload_n 0, 1) by decide +kernel) rfl rfl ?_
        refine gr_getf (pc := 74) (index := 38) (t := 7) (j := 4) (σ := 78) (sv := (gR 70)) (show decode (gy_b gY_165) 74 = .ok (.getfield 38, 3) by decide +kernel) rfl rfl (fun _ => rfl) wd_298 (by decide) ?_
        intro v12
        refine gr_iload_n (pc := 77) (i := 1) (l1) (show decode (gy_b gY_165) 77 = .ok (.iload_n 1, 1) by decide +kernel) rfl rfl ?_
        refine gr_aald (pc := 78) (κ := 6) (t := 1) (C := "Farfiles$ActSet") (show decode (gy_b gY_165) 78 = .ok (.aaload, 1) by decide +kernel) ⟨by decide, by decide, rfl⟩ rfl ?_
        intro v13
        refine gr_aload_n (pc := 79) (i := 0) 7 (l0) (show decode (gy_b gY_165) 79 = .ok (.aload_n 0, 1) by decide +kernel) rfl rfl ?_
        refine gr_wk [true, true, true, false] rfl ?_
        exact h_165_L80 hG hi_30 hi_39 (l0) (l1) (l2) (l0) (v13) (l0) M8 n9 c10
noncomputable def fi_165_W39 (K : Nat → Nat → Nat → Nat → Bool) (ih_30 : Nat → Nat → Nat → Nat → Nat → Bool) (u : Nat) : Nat → Nat → Nat → Nat → Nat → Nat → Bool := Nat.rec (motive := fun _ => Nat → Nat → Nat → Nat → Nat → Nat → Bool) (fun _ _ _ _ _ _ => false) (fun _ ih => fi_165_B39 K ih_30 ih) u
theorem hw_165_39 {G : gxG} (hG : gxG0 G) {K : Nat → Nat → Nat → Nat → Bool} {ih_30 : Nat → Nat → Nat → Nat → Nat → Bool} (hi_30 : ∀ l0 l1 M n c : Nat, gxJ G gY_165 K 30 [] [gR 7 (l0), gI (l1), gB, gB] M n c (ih_30 l0 l1 M n c)) (u : Nat) : ∀ l0 l1 l2 M n c : Nat, gxJ G gY_165 K 39 [] [gR 7 (l0), gI (l1), gI (l2), gB] M n c (fi_165_W39 K ih_30 u l0 l1 l2 M n c) := by
  induction u with
  | zero => intro l0 l1 l2 M n c; exact gj_false
  | succ u ih => intro l0 l1 l2 M n c; exact hb_165_B39 hG hi_30 ih l0 l1 l2 M n c
noncomputable def fi_165_B30 (K : Nat → Nat → Nat → Nat → Bool) (ih_30 : Nat → Nat → Nat → Nat → Nat → Bool) (l0 l1 M n c : Nat) : Bool := gx_lt (l1) (3) (gx_add (l1) (1) (fun z1 => fi_165_W39 K ih_30 65536 (l0) (l1) (z1) M n c)) (gx_rt gx_f2 (1) (K (1) M n c))
theorem hb_165_B30 {G : gxG} (hG : gxG0 G) {K : Nat → Nat → Nat → Nat → Bool} {ih_30 : Nat → Nat → Nat → Nat → Nat → Bool} (hi_30 : ∀ l0 l1 M n c : Nat, gxJ G gY_165 K 30 [] [gR 7 (l0), gI (l1), gB, gB] M n c (ih_30 l0 l1 M n c)) (l0 l1 M n c : Nat) : gxJ G gY_165 K 30 [] [gR 7 (l0), gI (l1), gB, gB] M n c (fi_165_B30 K ih_30 l0 l1 M n c) := by
  unfold fi_165_B30
  refine gr_iload_n (pc := 30) (i := 1) (l1) (show decode (gy_b gY_165) 30 = .ok (.iload_n 1, 1) by decide +kernel) rfl rfl ?_
  refine gr_iconst (pc := 31) (z := 3) 3 (show decode (gy_b gY_165) 31 = .ok (.iconst (3), 1) by decide +kernel) kc_3 ?_
  refine gr_icmp_ge (pc := 32) (tgt := 105) (off := 73) hG.2.1 (show decode (gy_b gY_165) 32 = .ok (.if_icmp .ge (73), 3) by decide +kernel) (by decide) ?_ ?_
  · refine gr_iconst (pc := 105) (z := 1) 1 (show decode (gy_b gY_165) 105 = .ok (.iconst (1), 1) by decide +kernel) kc_1 ?_
    exact gr_ireturn (pc := 106) (show decode (gy_b gY_165) 106 = .ok (.ireturn, 1) by decide +kernel) rfl rfl (by decide) gv_2f
  · refine gr_iload_n (pc := 35) (i := 1) (l1) (show decode (gy_b gY_165) 35 = .ok (.iload_n 1, 1) by decide +kernel) rfl rfl ?_
    refine gr_iconst (pc := 36) (z := 1) 1 (show decode (gy_b gY_165) 36 = .ok (.iconst (1), 1) by decide +kernel) kc_1 ?_
    refine gr_iadd (pc := 37) (show decode (gy_b gY_165) 37 = .ok (.iadd, 1) by decide +kernel) ?_
    intro z1
    refine gr_istore_n (pc := 38) (i := 2) (L' := [gR 7 (l0), gI (l1), gI (z1), gB]) (show decode (gy_b gY_165) 38 = .ok (.istore_n 2, 1) by decide +kernel) rfl (by decide) rfl rfl ?_
    exact hw_165_39 hG hi_30 65536 (l0) (l1) (z1) M n c
noncomputable def fi_165_W30 (K : Nat → Nat → Nat → Nat → Bool) (u : Nat) : Nat → Nat → Nat → Nat → Nat → Bool := Nat.rec (motive := fun _ => Nat → Nat → Nat → Nat → Nat → Bool) (fun _ _ _ _ _ => false) (fun _ ih => fi_165_B30 K ih) u
theorem hw_165_30 {G : gxG} (hG : gxG0 G) {K : Nat → Nat → Nat → Nat → Bool} (u : Nat) : ∀ l0 l1 M n c : Nat, gxJ G gY_165 K 30 [] [gR 7 (l0), gI (l1), gB, gB] M n c (fi_165_W30 K u l0 l1 M n c) := by
  induction u with
  | zero => intro l0 l1 M n c; exact gj_false
  | succ u ih => intro l0 l1 M n c; exact hb_165_B30 hG ih l0 l1 M n c
noncomputable def fi_165_B2 (K : Nat → Nat → Nat → Nat → Bool) (ih_2 : Nat → Nat → Nat → Nat → Nat → Bool) (l0 l1 M n c : Nat) : Bool := gx_lt (l1) (4) (gx_get (l0) 3 M (fun v20 => gx_ald (v20) (l1) M (fun v21 => gx_nn (l0) (fi_163 (l0) (v21) M n c (fun v22 M23 n24 c25 => gx_eq (v22) 0 (false) (gx_add (l1) 1 (fun z26 => ih_2 (l0) (z26) M23 n24 c25))))))) (fi_165_W30 K 65536 (l0) (0) M n c)
theorem hb_165_B2 {G : gxG} (hG : gxG0 G) {K : Nat → Nat → Nat → Nat → Bool} {ih_2 : Nat → Nat → Nat → Nat → Nat → Bool} (hi_2 : ∀ l0 l1 M n c : Nat, gxJ G gY_165 K 2 [] [gR 7 (l0), gI (l1), gB, gB] M n c (ih_2 l0 l1 M n c)) (l0 l1 M n c : Nat) : gxJ G gY_165 K 2 [] [gR 7 (l0), gI (l1), gB, gB] M n c (fi_165_B2 K ih_2 l0 l1 M n c) := by
  unfold fi_165_B2
  refine gr_iload_n (pc := 2) (i := 1) (l1) (show decode (gy_b gY_165) 2 = .ok (.iload_n 1, 1) by decide +kernel) rfl rfl ?_
  refine gr_iconst (pc := 3) (z := 4) 4 (show decode (gy_b gY_165) 3 = .ok (.iconst (4), 1) by decide +kernel) kc_4 ?_
  refine gr_icmp_ge (pc := 4) (tgt := 28) (off := 24) hG.2.1 (show decode (gy_b gY_165) 4 = .ok (.if_icmp .ge (24), 3) by decide +kernel) (by decide) ?_ ?_
  · refine gr_iconst (pc := 28) (z := 0) 0 (show decode (gy_b gY_165) 28 = .ok (.iconst (0), 1) by decide +kernel) kc_0 ?_
    refine gr_istore_n (pc := 29) (i := 1) (L' := [gR 7 (l0), gI (0), gB, gB]) (show decode (gy_b gY_165) 29 = .ok (.istore_n 1, 1) by decide +kernel) rfl (by decide) rfl rfl ?_
    exact hw_165_30 hG 65536 (l0) (0) M n c
  · refine gr_aload_n (pc := 7) (i := 0) 7 (l0) (show decode (gy_b gY_165) 7 = .ok (.aload_n 0, 1) by decide +kernel) rfl rfl ?_
    refine gr_aload_n (pc := 8) (i := 0) 7 (l0) (show decode (gy_b gY_165) 8 = .ok (.aload_n 0, 1) by decide +kernel) rfl rfl ?_
    refine gr_getf (pc := 9) (index := 32) (t := 7) (j := 3) (σ := 79) (sv := (gR 71)) (show decode (gy_b gY_165) 9 = .ok (.getfield 32, 3) by decide +kernel) rfl rfl (fun _ => rfl) wd_297 (by decide) ?_
    intro v20
    refine gr_iload_n (pc := 12) (i := 1) (l1) (show decode (gy_b gY_165) 12 = .ok (.iload_n 1, 1) by decide +kernel) rfl rfl ?_
    refine gr_aald (pc := 13) (κ := 7) (t := 3) (C := "Farfiles$Client") (show decode (gy_b gY_165) 13 = .ok (.aaload, 1) by decide +kernel) ⟨by decide, by decide, rfl⟩ rfl ?_
    intro v21
    refine gj_nn (fun hx14 => ?_)
    refine gj_c0 (pc := 14) (Y' := gY_163) (y := yX7_isHoldSound) (vs := [gR 7 (l0), gR 3 (v21)]) (rest := []) (rs := fun v22 => [gI (v22)]) [gR 3 (v21), gR 7 (l0)] rfl (hm_163 hG (l0) (v21)) rfl (gh_V (t := 7) (vs := [gR 3 (v21)]) (rest := []) (show decode (gy_b gY_165) 14 = .ok (.invokevirtual 477, 3) by decide +kernel) rfl hx14 rfl rfl (ok_163 (by decide) (by decide)) wd_1358 wd_1360 wd_48 (Nat.le_of_ble_eq_true rfl)) (fun _ => rfl) ?_
    intro v22 M23 n24 c25
    refine gr_ifne (pc := 17) (tgt := 22) (off := 5) hG.2.1 (show decode (gy_b gY_165) 17 = .ok (.ifCond .ne (5), 3) by decide +kernel) (by decide) ?_ ?_
    · refine gr_iinc (pc := 22) (i := 1) (d := 1) (z := 1) (L' := fun z26 => [gR 7 (l0), gI (z26), gB, gB]) (show decode (gy_b gY_165) 22 = .ok (.iinc 1 (1), 3) by decide +kernel) (by decide +kernel) (by decide) rfl rfl (fun _ => rfl) ?_
      intro z26
      refine gr_goto (pc := 25) (tgt := 2) (off := -23) (show decode (gy_b gY_165) 25 = .ok (.goto (-23), 3) by decide +kernel) (by decide) ?_
      exact hi_2 (l0) (z26) M23 n24 c25
    · exact gj_false
noncomputable def fi_165_W2 (K : Nat → Nat → Nat → Nat → Bool) (u : Nat) : Nat → Nat → Nat → Nat → Nat → Bool := Nat.rec (motive := fun _ => Nat → Nat → Nat → Nat → Nat → Bool) (fun _ _ _ _ _ => false) (fun _ ih => fi_165_B2 K ih) u
theorem hw_165_2 {G : gxG} (hG : gxG0 G) {K : Nat → Nat → Nat → Nat → Bool} (u : Nat) : ∀ l0 l1 M n c : Nat, gxJ G gY_165 K 2 [] [gR 7 (l0), gI (l1), gB, gB] M n c (fi_165_W2 K u l0 l1 M n c) := by
  induction u with
  | zero => intro l0 l1 M n c; exact gj_false
  | succ u ih => intro l0 l1 M n c; exact hb_165_B2 hG ih l0 l1 M n c
noncomputable def fi_165_L0 (K : Nat → Nat → Nat → Nat → Bool) (l0 M n c : Nat) : Bool := fi_165_W2 K 65536 (l0) (0) M n c
theorem h_165_L0 {G : gxG} (hG : gxG0 G) {K : Nat → Nat → Nat → Nat → Bool} (l0 M n c : Nat) : gxJ G gY_165 K 0 [] [gR 7 (l0), gB, gB, gB] M n c (fi_165_L0 K l0 M n c) := by
  unfold fi_165_L0
  refine gr_iconst (pc := 0) (z := 0) 0 (show decode (gy_b gY_165) 0 = .ok (.iconst (0), 1) by decide +kernel) kc_0 ?_
  refine gr_istore_n (pc := 1) (i := 1) (L' := [gR 7 (l0), gI (0), gB, gB]) (show decode (gy_b gY_165) 1 = .ok (.istore_n 1, 1) by decide +kernel) rfl (by decide) rfl rfl ?_
  exact hw_165_2 hG 65536 (l0) (0) M n c
noncomputable def fi_165 (l0 M n c : Nat) (K : Nat → Nat → Nat → Nat → Bool) : Bool := fi_165_L0 K l0 M n c
theorem hm_165 {G : gxG} (hG : gxG0 G) (l0 : Nat) : gxM G gY_165 yX7_isSound [gR 7 (l0)] (fi_165 l0) := gxM_of (L := [gR 7 (l0), gB, gB, gB]) hG 3 (by decide +kernel) rfl rfl rfl rfl (List.forall_mem_cons.mpr ⟨rfl, fun _ h => nomatch h⟩) (fun M n c K => h_165_L0 hG  l0 M n c)
/-! FarfilesLaw holdsAll ([I)Z -/
def gY_166 : gxY := (false, method_16_code, 5, (Option.some Jvm.ClassFile.FieldType.boolean), "FarfilesLaw", 14, 281, 2, [], "holdsAll")
theorem ok_166 {Y : gxY} (h1 : gy_f gY_166 + 1 ≤ gy_f Y) (h2 : 8 + (gy_l gY_166 + 11) + gy_k gY_166 ≤ gy_k Y) : gh_ok Y gY_166 yL_holdsAll 1 := ⟨wd_362, wd_50, ⟨by decide, by decide⟩, by decide +kernel, h1, h2⟩
noncomputable def fi_166_L61 (T : Nat) (K : Nat → Nat → Nat → Nat → Bool) (l0 l2 M n c : Nat) : Bool := gx_eq (l2) 0 (false) (gx_get (l0) 3 M (fun v2 => gx_nn (v2) (fi_165 (v2) M n c (fun v3 M4 n5 c6 => gx_eq (v3) 0 (false) (gx_rt gx_f2 (1) (K (1) M4 n5 c6))))))
theorem h_166_L61 {G : gxG} (hG : gxG0 G) (T : Nat) (hdr : ∀ x nn : Nat, gxM G gY_draw yL_draw [gR 10 x, gI nn] (fd_draw T x nn)) {K : Nat → Nat → Nat → Nat → Bool} (l0 l2 M n c : Nat) : gxJ G gY_166 K 61 [] [gR 10 (l0), gB, gI (l2), gB, gB] M n c (fi_166_L61 T K l0 l2 M n c) := by
  unfold fi_166_L61
  refine gr_iload_n (pc := 61) (i := 2) (l2) (show decode (gy_b gY_166) 61 = .ok (.iload_n 2, 1) by decide +kernel) rfl rfl ?_
  refine gr_ifeq (pc := 62) (tgt := 79) (off := 17) hG.2.1 (show decode (gy_b gY_166) 62 = .ok (.ifCond .eq (17), 3) by decide +kernel) (by decide) ?_ ?_
  · exact gj_false
  · refine gr_aload_n (pc := 65) (i := 0) 10 (l0) (show decode (gy_b gY_166) 65 = .ok (.aload_n 0, 1) by decide +kernel) rfl rfl ?_
    refine gr_getf (pc := 66) (index := 10) (t := 10) (j := 3) (σ := 15) (sv := (gR 7)) (show decode (gy_b gY_166) 66 = .ok (.getfield 10, 3) by decide +kernel) rfl rfl (fun _ => rfl) wd_346 (by decide) ?_
    intro v2
    refine gj_nn (fun hx69 => ?_)
    refine gj_c0 (pc := 69) (Y' := gY_165) (y := yX7_isSound) (vs := [gR 7 (v2)]) (rest := []) (rs := fun v3 => [gI (v3)]) [gR 7 (v2)] rfl (hm_165 hG (v2)) rfl (gh_V (t := 7) (vs := []) (rest := []) (show decode (gy_b gY_166) 69 = .ok (.invokevirtual 229, 3) by decide +kernel) rfl hx69 rfl rfl (ok_165 (by decide) (by decide)) wd_1354 wd_1355 wd_1356 (Nat.le_of_ble_eq_true rfl)) (fun _ => rfl) ?_
    intro v3 M4 n5 c6
    refine gr_ifeq (pc := 72) (tgt := 79) (off := 7) hG.2.1 (show decode (gy_b gY_166) 72 = .ok (.ifCond .eq (7), 3) by decide +kernel) (by decide) ?_ ?_
    · exact gj_false
    · refine gr_iconst (pc := 75) (z := 1) 1 (show decode (gy_b gY_166) 75 = .ok (.iconst (1), 1) by decide +kernel) kc_1 ?_
      refine gr_goto (pc := 76) (tgt := 80) (off := 4) (show decode (gy_b gY_166) 76 = .ok (.goto (4), 3) by decide +kernel) (by decide) ?_
      exact gr_ireturn (pc := 80) (show decode (gy_b gY_166) 80 = .ok (.ireturn, 1) by decide +kernel) rfl rfl (by decide) gv_2f
noncomputable def fi_166_L54 (T : Nat) (K : Nat → Nat → Nat → Nat → Bool) (ih_9 : Nat → Nat → Nat → Nat → Nat → Nat → Bool) (l0 l3 s0 M n c : Nat) : Bool := gx_add (l3) 1 (fun z15 => ih_9 (l0) (s0) (z15) M n c)
theorem h_166_L54 {G : gxG} (hG : gxG0 G) (T : Nat) (hdr : ∀ x nn : Nat, gxM G gY_draw yL_draw [gR 10 x, gI nn] (fd_draw T x nn)) {K : Nat → Nat → Nat → Nat → Bool} {ih_9 : Nat → Nat → Nat → Nat → Nat → Nat → Bool} (hi_9 : ∀ l0 l2 l3 M n c : Nat, gxJ G gY_166 K 9 [] [gR 10 (l0), gB, gI (l2), gI (l3), gB] M n c (ih_9 l0 l2 l3 M n c)) (l0 l3 s0 M n c : Nat) : gxJ G gY_166 K 54 [gI (s0)] [gR 10 (l0), gB, gB, gI (l3), gB] M n c (fi_166_L54 T K ih_9 l0 l3 s0 M n c) := by
  unfold fi_166_L54
  refine gr_istore_n (pc := 54) (i := 2) (L' := [gR 10 (l0), gB, gI (s0), gI (l3), gB]) (show decode (gy_b gY_166) 54 = .ok (.istore_n 2, 1) by decide +kernel) rfl (by decide) rfl rfl ?_
  refine gr_iinc (pc := 55) (i := 3) (d := 1) (z := 1) (L' := fun z15 => [gR 10 (l0), gB, gI (s0), gI (z15), gB]) (show decode (gy_b gY_166) 55 = .ok (.iinc 3 (1), 3) by decide +kernel) (by decide +kernel) (by decide) rfl rfl (fun _ => rfl) ?_
  intro z15
  refine gr_goto (pc := 58) (tgt := 9) (off := -49) (show decode (gy_b gY_166) 58 = .ok (.goto (-49), 3) by decide +kernel) (by decide) ?_
  exact hi_9 (l0) (s0) (z15) M n c
noncomputable def fi_166_B9 (T : Nat) (K : Nat → Nat → Nat → Nat → Bool) (ih_9 : Nat → Nat → Nat → Nat → Nat → Nat → Bool) (l0 l2 l3 M n c : Nat) : Bool := gx_lt (l3) (2) (gx_eq (l2) 0 (fi_166_L61 T K (l0) (l2) M n c) (gx_nn (l0) (fd_draw T (l0) (3) M n c (fun v7 M8 n9 c10 => gx_eq (v7) 0 (gx_nn (l0) (fi_141 T (l0) M8 n9 c10 (fun v20 M21 n22 c23 => fi_166_L54 T K ih_9 (l0) (l3) (v20) M21 n22 c23))) (gx_eq (v7) (1) (gx_nn (l0) (fi_156 T (l0) M8 n9 c10 (fun v16 M17 n18 c19 => fi_166_L54 T K ih_9 (l0) (l3) (v16) M17 n18 c19))) (gx_nn (l0) (fi_162 T (l0) M8 n9 c10 (fun v11 M12 n13 c14 => fi_166_L54 T K ih_9 (l0) (l3) (v11) M12 n13 c14)))))))) (fi_166_L61 T K (l0) (l2) M n c)
theorem hb_166_B9 {G : gxG} (hG : gxG0 G) (T : Nat) (hdr : ∀ x nn : Nat, gxM G gY_draw yL_draw [gR 10 x, gI nn] (fd_draw T x nn)) {K : Nat → Nat → Nat → Nat → Bool} {ih_9 : Nat → Nat → Nat → Nat → Nat → Nat → Bool} (hi_9 : ∀ l0 l2 l3 M n c : Nat, gxJ G gY_166 K 9 [] [gR 10 (l0), gB, gI (l2), gI (l3), gB] M n c (ih_9 l0 l2 l3 M n c)) (l0 l2 l3 M n c : Nat) : gxJ G gY_166 K 9 [] [gR 10 (l0), gB, gI (l2), gI (l3), gB] M n c (fi_166_B9 T K ih_9 l0 l2 l3 M n c) := by
  unfold fi_166_B9
  refine gr_iload_n (pc := 9) (i := 3) (l3) (show decode (gy_b gY_166) 9 = .ok (.iload_n 3, 1) by decide +kernel) rfl rfl ?_
  refine gr_iconst (pc := 10) (z := 2) 2 (show decode (gy_b gY_166) 10 = .ok (.iconst (2), 1) by decide +kernel) kc_2 ?_
  refine gr_icmp_ge (pc := 11) (tgt := 61) (off := 50) hG.2.1 (show decode (gy_b gY_166) 11 = .ok (.if_icmp .ge (50), 3) by decide +kernel) (by decide) ?_ ?_
  · refine gr_wk [true, true, true, false, true] rfl ?_
    exact h_166_L61 hG T hdr (l0) (l2) M n c
  · refine gr_iload_n (pc := 14) (i := 2) (l2) (show decode (gy_b gY_166) 14 = .ok (.iload_n 2, 1) by decide +kernel) rfl rfl ?_
    refine gr_ifeq (pc := 15) (tgt := 61) (off := 46) hG.2.1 (show decode (gy_b gY_166) 15 = .ok (.ifCond .eq (46), 3) by decide +kernel) (by decide) ?_ ?_
    · refine gr_wk [true, true, true, false, true] rfl ?_
      exact h_166_L61 hG T hdr (l0) (l2) M n c
    · refine gr_aload_n (pc := 18) (i := 0) 10 (l0) (show decode (gy_b gY_166) 18 = .ok (.aload_n 0, 1) by decide +kernel) rfl rfl ?_
      refine gr_iconst (pc := 19) (z := 3) 3 (show decode (gy_b gY_166) 19 = .ok (.iconst (3), 1) by decide +kernel) kc_3 ?_
      refine gj_nn (fun hx20 => ?_)
      refine gj_c0 (pc := 20) (Y' := gY_draw) (y := yL_draw) (vs := [gR 10 (l0), gI (3)]) (rest := []) (rs := fun v7 => [gI (v7)]) [gI (3), gR 10 (l0)] rfl (hdr (l0) (3)) rfl (gh_V (t := 10) (vs := [gI (3)]) (rest := []) (show decode (gy_b gY_166) 20 = .ok (.invokevirtual 71, 3) by decide +kernel) rfl hx20 rfl rfl (ok_draw (by decide) (by decide)) wd_363 wd_365 wd_4 (Nat.le_of_ble_eq_true rfl)) (fun _ => rfl) ?_
      intro v7 M8 n9 c10
      refine gr_istore (pc := 23) (i := 4) (L' := [gR 10 (l0), gB, gI (l2), gI (l3), gI (v7)]) (show decode (gy_b gY_166) 23 = .ok (.istore 4, 2) by decide +kernel) (by decide) rfl rfl ?_
      refine gr_iload (pc := 25) (i := 4) (v7) (show decode (gy_b gY_166) 25 = .ok (.iload 4, 2) by decide +kernel) rfl ?_
      refine gr_ifne (pc := 27) (tgt := 37) (off := 10) hG.2.1 (show decode (gy_b gY_166) 27 = .ok (.ifCond .ne (10), 3) by decide +kernel) (by decide) ?_ ?_
      · refine gr_iload (pc := 37) (i := 4) (v7) (show decode (gy_b gY_166) 37 = .ok (.iload 4, 2) by decide +kernel) rfl ?_
        refine gr_iconst (pc := 39) (z := 1) 1 (show decode (gy_b gY_166) 39 = .ok (.iconst (1), 1) by decide +kernel) kc_1 ?_
        refine gr_icmp_ne (pc := 40) (tgt := 50) (off := 10) hG.2.1 (show decode (gy_b gY_166) 40 = .ok (.if_icmp .ne (10), 3) by decide +kernel) (by decide) ?_ ?_
        · refine gr_aload_n (pc := 50) (i := 0) 10 (l0) (show decode (gy_b gY_166) 50 = .ok (.aload_n 0, 1) by decide +kernel) rfl rfl ?_
          refine gj_nn (fun hx51 => ?_)
          refine gj_c0 (pc := 51) (Y' := gY_162) (y := yL_isRenamed) (vs := [gR 10 (l0)]) (rest := []) (rs := fun v11 => [gI (v11)]) [gR 10 (l0)] rfl (hm_162 hG T hdr (l0)) rfl (gh_W (t := 10) (vs := []) (rest := []) (show decode (gy_b gY_166) 51 = .ok (.invokevirtual 226, 3) by decide +kernel) rfl hx51 rfl rfl rfl (ok_162 (by decide) (by decide)) wd_1325 wd_1327 wd_46 (Nat.le_of_ble_eq_true rfl)) (fun _ => rfl) ?_
          intro v11 M12 n13 c14
          refine gr_wk [true, true, false, true, false] rfl ?_
          exact h_166_L54 hG T hdr hi_9 (l0) (l3) (v11) M12 n13 c14
        · refine gr_aload_n (pc := 43) (i := 0) 10 (l0) (show decode (gy_b gY_166) 43 = .ok (.aload_n 0, 1) by decide +kernel) rfl rfl ?_
          refine gj_nn (fun hx44 => ?_)
          refine gj_c0 (pc := 44) (Y' := gY_156) (y := yL_isLost) (vs := [gR 10 (l0)]) (rest := []) (rs := fun v16 => [gI (v16)]) [gR 10 (l0)] rfl (hm_156 hG T hdr (l0)) rfl (gh_V (t := 10) (vs := []) (rest := []) (show decode (gy_b gY_166) 44 = .ok (.invokevirtual 223, 3) by decide +kernel) rfl hx44 rfl rfl (ok_156 (by decide) (by decide)) wd_1264 wd_1266 wd_42 (Nat.le_of_ble_eq_true rfl)) (fun _ => rfl) ?_
          intro v16 M17 n18 c19
          refine gr_goto (pc := 47) (tgt := 54) (off := 7) (show decode (gy_b gY_166) 47 = .ok (.goto (7), 3) by decide +kernel) (by decide) ?_
          refine gr_wk [true, true, false, true, false] rfl ?_
          exact h_166_L54 hG T hdr hi_9 (l0) (l3) (v16) M17 n18 c19
      · refine gr_aload_n (pc := 30) (i := 0) 10 (l0) (show decode (gy_b gY_166) 30 = .ok (.aload_n 0, 1) by decide +kernel) rfl rfl ?_
        refine gj_nn (fun hx31 => ?_)
        refine gj_c0 (pc := 31) (Y' := gY_141) (y := yL_areStored) (vs := [gR 10 (l0)]) (rest := []) (rs := fun v20 => [gI (v20)]) [gR 10 (l0)] rfl (hm_141 hG T hdr (l0)) rfl (gh_V (t := 10) (vs := []) (rest := []) (show decode (gy_b gY_166) 31 = .ok (.invokevirtual 220, 3) by decide +kernel) rfl hx31 rfl rfl (ok_141 (by decide) (by decide)) wd_382 wd_384 wd_5 (Nat.le_of_ble_eq_true rfl)) (fun _ => rfl) ?_
        intro v20 M21 n22 c23
        refine gr_goto (pc := 34) (tgt := 54) (off := 20) (show decode (gy_b gY_166) 34 = .ok (.goto (20), 3) by decide +kernel) (by decide) ?_
        refine gr_wk [true, true, false, true, false] rfl ?_
        exact h_166_L54 hG T hdr hi_9 (l0) (l3) (v20) M21 n22 c23
noncomputable def fi_166_W9 (T : Nat) (K : Nat → Nat → Nat → Nat → Bool) (u : Nat) : Nat → Nat → Nat → Nat → Nat → Nat → Bool := Nat.rec (motive := fun _ => Nat → Nat → Nat → Nat → Nat → Nat → Bool) (fun _ _ _ _ _ _ => false) (fun _ ih => fi_166_B9 T K ih) u
theorem hw_166_9 {G : gxG} (hG : gxG0 G) (T : Nat) (hdr : ∀ x nn : Nat, gxM G gY_draw yL_draw [gR 10 x, gI nn] (fd_draw T x nn)) {K : Nat → Nat → Nat → Nat → Bool} (u : Nat) : ∀ l0 l2 l3 M n c : Nat, gxJ G gY_166 K 9 [] [gR 10 (l0), gB, gI (l2), gI (l3), gB] M n c (fi_166_W9 T K u l0 l2 l3 M n c) := by
  induction u with
  | zero => intro l0 l2 l3 M n c; exact gj_false
  | succ u ih => intro l0 l2 l3 M n c; exact hb_166_B9 hG T hdr ih l0 l2 l3 M n c
noncomputable def fi_166_L0 (T : Nat) (K : Nat → Nat → Nat → Nat → Bool) (l0 l1 M n c : Nat) : Bool := gx_put (l0) 0 (l1) M gx_f0 (fun M1 => fi_166_W9 T K 65536 (l0) (1) (0) M1 n c)
theorem h_166_L0 {G : gxG} (hG : gxG0 G) (T : Nat) (hdr : ∀ x nn : Nat, gxM G gY_draw yL_draw [gR 10 x, gI nn] (fd_draw T x nn)) {K : Nat → Nat → Nat → Nat → Bool} (l0 l1 M n c : Nat) : gxJ G gY_166 K 0 [] [gR 10 (l0), gR 99 (l1), gB, gB, gB] M n c (fi_166_L0 T K l0 l1 M n c) := by
  unfold fi_166_L0
  refine gr_aload_n (pc := 0) (i := 0) 10 (l0) (show decode (gy_b gY_166) 0 = .ok (.aload_n 0, 1) by decide +kernel) rfl rfl ?_
  refine gr_aload_n (pc := 1) (i := 1) 99 (l1) (show decode (gy_b gY_166) 1 = .ok (.aload_n 1, 1) by decide +kernel) rfl rfl ?_
  refine gr_putf (pc := 2) (index := 21) (t := 10) (j := 0) (σ := 107) (sv := (gR 99)) (f := gx_f0) (ty := .array (.int)) (show decode (gy_b gY_166) 2 = .ok (.putfield 21, 3) by decide +kernel) rfl rfl (fun _ => rfl) wd_343 rfl gv_a rfl ?_
  intro M1
  refine gr_iconst (pc := 5) (z := 1) 1 (show decode (gy_b gY_166) 5 = .ok (.iconst (1), 1) by decide +kernel) kc_1 ?_
  refine gr_istore_n (pc := 6) (i := 2) (L' := [gR 10 (l0), gR 99 (l1), gI (1), gB, gB]) (show decode (gy_b gY_166) 6 = .ok (.istore_n 2, 1) by decide +kernel) rfl (by decide) rfl rfl ?_
  refine gr_iconst (pc := 7) (z := 0) 0 (show decode (gy_b gY_166) 7 = .ok (.iconst (0), 1) by decide +kernel) kc_0 ?_
  refine gr_istore_n (pc := 8) (i := 3) (L' := [gR 10 (l0), gR 99 (l1), gI (1), gI (0), gB]) (show decode (gy_b gY_166) 8 = .ok (.istore_n 3, 1) by decide +kernel) rfl (by decide) rfl rfl ?_
  refine gr_wk [true, false, true, true, true] rfl ?_
  exact hw_166_9 hG T hdr 65536 (l0) (1) (0) M1 n c
noncomputable def fi_166 (T : Nat) (l0 l1 M n c : Nat) (K : Nat → Nat → Nat → Nat → Bool) : Bool := fi_166_L0 T K l0 l1 M n c
theorem hm_166 {G : gxG} (hG : gxG0 G) (T : Nat) (hdr : ∀ x nn : Nat, gxM G gY_draw yL_draw [gR 10 x, gI nn] (fd_draw T x nn)) (l0 l1 : Nat) : gxM G gY_166 yL_holdsAll [gR 10 (l0), gR 99 (l1)] (fi_166 T l0 l1) := gxM_of (L := [gR 10 (l0), gR 99 (l1), gB, gB, gB]) hG 3 (by decide +kernel) rfl rfl rfl rfl (List.forall_mem_cons.mpr ⟨rfl, List.forall_mem_cons.mpr ⟨rfl, fun _ h => nomatch h⟩⟩) (fun M n c K => h_166_L0 hG T hdr  l0 l1 M n c)
