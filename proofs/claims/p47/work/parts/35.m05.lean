/-! METHODS 5 -/
set_option maxRecDepth 100000
/-! Farfiles$Log takeAddsLike (LFarfiles$Act;LFarfiles$Act;)V -/
def gY_91 : gxY := (false, prog_7_method_12_code, 4, (Option.none : Option FieldType), "Farfiles$Log", 2, 62, 5, [], "takeAddsLike")
theorem ok_91 {Y : gxY} (h1 : gy_f gY_91 + 1 ≤ gy_f Y) (h2 : 8 + (gy_l gY_91 + 11) + gy_k gY_91 ≤ gy_k Y) : gh_ok Y gY_91 yX5_takeAddsLike 2 := ⟨wd_1047, wd_53, ⟨by decide, by decide⟩, by decide +kernel, h1, h2⟩
noncomputable def fi_91_L41 (K : Nat → Nat → Nat → Nat → Bool) (ih_2 : Nat → Nat → Nat → Nat → Nat → Nat → Nat → Bool) (l0 l1 l2 l3 M n c : Nat) : Bool := gx_add (l3) 1 (fun z7 => ih_2 (l0) (l1) (l2) (z7) M n c)
theorem h_91_L41 {G : gxG} (hG : gxG0 G) {K : Nat → Nat → Nat → Nat → Bool} {ih_2 : Nat → Nat → Nat → Nat → Nat → Nat → Nat → Bool} (hi_2 : ∀ l0 l1 l2 l3 M n c : Nat, gxJ G gY_91 K 2 [] [gR 5 (l0), gR 0 (l1), gR 0 (l2), gI (l3)] M n c (ih_2 l0 l1 l2 l3 M n c)) (l0 l1 l2 l3 M n c : Nat) : gxJ G gY_91 K 41 [] [gR 5 (l0), gR 0 (l1), gR 0 (l2), gI (l3)] M n c (fi_91_L41 K ih_2 l0 l1 l2 l3 M n c) := by
  unfold fi_91_L41
  refine gr_iinc (pc := 41) (i := 3) (d := 1) (z := 1) (L' := fun z7 => [gR 5 (l0), gR 0 (l1), gR 0 (l2), gI (z7)]) (show decode (gy_b gY_91) 41 = .ok (.iinc 3 (1), 3) by decide +kernel) (by decide +kernel) (by decide) rfl rfl (fun _ => rfl) ?_
  intro z7
  refine gr_goto (pc := 44) (tgt := 2) (off := -42) (show decode (gy_b gY_91) 44 = .ok (.goto (-42), 3) by decide +kernel) (by decide) ?_
  exact hi_2 (l0) (l1) (l2) (z7) M n c
noncomputable def fi_91_B2 (K : Nat → Nat → Nat → Nat → Bool) (ih_2 : Nat → Nat → Nat → Nat → Nat → Nat → Nat → Bool) (l0 l1 l2 l3 M n c : Nat) : Bool := gx_get (l0) 4 M (fun v1 => gx_lt (l3) (v1) (gx_get (l2) 6 M (fun v2 => gx_nn (v2) (fi_69 (v2) (l3) M n c (fun v3 M4 n5 c6 => gx_eq (v3) 0 (fi_91_L41 K ih_2 (l0) (l1) (l2) (l3) M4 n5 c6) (gx_nn (l0) (fi_70 (l0) (l3) M4 n5 c6 (fun v8 M9 n10 c11 => gx_nn (v8) (fi_90 (v8) (l1) M9 n10 c11 (fun v12 M13 n14 c15 => gx_eq (v12) 0 (fi_91_L41 K ih_2 (l0) (l1) (l2) (l3) M13 n14 c15) (gx_get (l2) 7 M13 (fun v16 => gx_nn (v16) (fi_71 (v16) (l3) M13 n14 c15 (fun v17 M18 n19 c20 => fi_91_L41 K ih_2 (l0) (l1) (l2) (l3) M18 n19 c20))))))))))))) (K 0 M n c))
theorem hb_91_B2 {G : gxG} (hG : gxG0 G) {K : Nat → Nat → Nat → Nat → Bool} {ih_2 : Nat → Nat → Nat → Nat → Nat → Nat → Nat → Bool} (hi_2 : ∀ l0 l1 l2 l3 M n c : Nat, gxJ G gY_91 K 2 [] [gR 5 (l0), gR 0 (l1), gR 0 (l2), gI (l3)] M n c (ih_2 l0 l1 l2 l3 M n c)) (l0 l1 l2 l3 M n c : Nat) : gxJ G gY_91 K 2 [] [gR 5 (l0), gR 0 (l1), gR 0 (l2), gI (l3)] M n c (fi_91_B2 K ih_2 l0 l1 l2 l3 M n c) := by
  unfold fi_91_B2
  refine gr_iload_n (pc := 2) (i := 3) (l3) (show decode (gy_b gY_91) 2 = .ok (.iload_n 3, 1) by decide +kernel) rfl rfl ?_
  refine gr_aload_n (pc := 3) (i := 0) 5 (l0) (show decode (gy_b gY_91) 3 = .ok (.aload_n 0, 1) by decide +kernel) rfl rfl ?_
  refine gr_getf (pc := 4) (index := 38) (t := 5) (j := 4) (σ := 0) (sv := gI) (show decode (gy_b gY_91) 4 = .ok (.getfield 38, 3) by decide +kernel) rfl rfl (fun _ => rfl) wd_179 (by decide) ?_
  intro v1
  refine gr_icmp_ge (pc := 7) (tgt := 47) (off := 40) hG.2.1 (show decode (gy_b gY_91) 7 = .ok (.if_icmp .ge (40), 3) by decide +kernel) (by decide) ?_ ?_
  · exact gr_return (pc := 47) (show decode (gy_b gY_91) 47 = .ok (.return_, 1) by decide +kernel) rfl rfl
  · refine gr_aload_n (pc := 10) (i := 2) 0 (l2) (show decode (gy_b gY_91) 10 = .ok (.aload_n 2, 1) by decide +kernel) rfl rfl ?_
    refine gr_getfN (pc := 11) (index := 71) (t := 0) (j := 6) (σ := 9) (sv := (gR 1)) (show decode (gy_b gY_91) 11 = .ok (.getfield 71, 3) by decide +kernel) rfl rfl (fun _ => rfl) wd_152 (by decide) ?_
    intro v2
    refine gr_iload_n (pc := 14) (i := 3) (l3) (show decode (gy_b gY_91) 14 = .ok (.iload_n 3, 1) by decide +kernel) rfl rfl ?_
    refine gj_nn (fun hx15 => ?_)
    refine gj_c0 (pc := 15) (Y' := gY_69) (y := yX1_has) (vs := [gR 1 (v2), gI (l3)]) (rest := []) (rs := fun v3 => [gI (v3)]) [gI (l3), gR 1 (v2)] rfl (hm_69 hG (v2) (l3)) rfl (gh_V (t := 1) (vs := [gI (l3)]) (rest := []) (show decode (gy_b gY_91) 15 = .ok (.invokevirtual 52, 3) by decide +kernel) rfl hx15 rfl rfl (ok_69 (by decide) (by decide)) wd_990 wd_923 wd_924 (Nat.le_of_ble_eq_true rfl)) (fun _ => rfl) ?_
    intro v3 M4 n5 c6
    refine gr_ifeq (pc := 18) (tgt := 41) (off := 23) hG.2.1 (show decode (gy_b gY_91) 18 = .ok (.ifCond .eq (23), 3) by decide +kernel) (by decide) ?_ ?_
    · exact h_91_L41 hG hi_2 (l0) (l1) (l2) (l3) M4 n5 c6
    · refine gr_aload_n (pc := 21) (i := 0) 5 (l0) (show decode (gy_b gY_91) 21 = .ok (.aload_n 0, 1) by decide +kernel) rfl rfl ?_
      refine gr_iload_n (pc := 22) (i := 3) (l3) (show decode (gy_b gY_91) 22 = .ok (.iload_n 3, 1) by decide +kernel) rfl rfl ?_
      refine gj_nn (fun hx23 => ?_)
      refine gj_c0 (pc := 23) (Y' := gY_70) (y := yX5_at) (vs := [gR 5 (l0), gI (l3)]) (rest := []) (rs := fun v8 => [gR 0 (v8)]) [gI (l3), gR 5 (l0)] rfl (hm_70 hG (l0) (l3)) rfl (gh_V (t := 5) (vs := [gI (l3)]) (rest := []) (show decode (gy_b gY_91) 23 = .ok (.invokevirtual 45, 3) by decide +kernel) rfl hx23 rfl rfl (ok_70 (by decide) (by decide)) wd_989 wd_927 wd_928 (Nat.le_of_ble_eq_true rfl)) (fun _ => rfl) ?_
      intro v8 M9 n10 c11
      refine gr_aload_n (pc := 26) (i := 1) 0 (l1) (show decode (gy_b gY_91) 26 = .ok (.aload_n 1, 1) by decide +kernel) rfl rfl ?_
      refine gj_nn (fun hx27 => ?_)
      refine gj_c0 (pc := 27) (Y' := gY_90) (y := yX0_isAddLike) (vs := [gR 0 (v8), gR 0 (l1)]) (rest := []) (rs := fun v12 => [gI (v12)]) [gR 0 (l1), gR 0 (v8)] rfl (hm_90 hG (v8) (l1)) rfl (gh_V (t := 0) (vs := [gR 0 (l1)]) (rest := []) (show decode (gy_b gY_91) 27 = .ok (.invokevirtual 115, 3) by decide +kernel) rfl hx27 rfl rfl (ok_90 (by decide) (by decide)) wd_1048 wd_1049 wd_1050 (Nat.le_of_ble_eq_true rfl)) (fun _ => rfl) ?_
      intro v12 M13 n14 c15
      refine gr_ifeq (pc := 30) (tgt := 41) (off := 11) hG.2.1 (show decode (gy_b gY_91) 30 = .ok (.ifCond .eq (11), 3) by decide +kernel) (by decide) ?_ ?_
      · exact h_91_L41 hG hi_2 (l0) (l1) (l2) (l3) M13 n14 c15
      · refine gr_aload_n (pc := 33) (i := 2) 0 (l2) (show decode (gy_b gY_91) 33 = .ok (.aload_n 2, 1) by decide +kernel) rfl rfl ?_
        refine gr_getfN (pc := 34) (index := 60) (t := 0) (j := 7) (σ := 9) (sv := (gR 1)) (show decode (gy_b gY_91) 34 = .ok (.getfield 60, 3) by decide +kernel) rfl rfl (fun _ => rfl) wd_155 (by decide) ?_
        intro v16
        refine gr_iload_n (pc := 37) (i := 3) (l3) (show decode (gy_b gY_91) 37 = .ok (.iload_n 3, 1) by decide +kernel) rfl rfl ?_
        refine gj_nn (fun hx38 => ?_)
        refine gj_c0 (pc := 38) (Y' := gY_71) (y := yX1_put) (vs := [gR 1 (v16), gI (l3)]) (rest := []) (rs := fun v17 => []) [gI (l3), gR 1 (v16)] rfl (hm_71 hG (v16) (l3)) rfl (gh_V (t := 1) (vs := [gI (l3)]) (rest := []) (show decode (gy_b gY_91) 38 = .ok (.invokevirtual 67, 3) by decide +kernel) rfl hx38 rfl rfl (ok_71 (by decide) (by decide)) wd_995 wd_957 wd_958 (Nat.le_of_ble_eq_true rfl)) (fun _ => rfl) ?_
        intro v17 M18 n19 c20
        exact h_91_L41 hG hi_2 (l0) (l1) (l2) (l3) M18 n19 c20
noncomputable def fi_91_W2 (K : Nat → Nat → Nat → Nat → Bool) (u : Nat) : Nat → Nat → Nat → Nat → Nat → Nat → Nat → Bool := Nat.rec (motive := fun _ => Nat → Nat → Nat → Nat → Nat → Nat → Nat → Bool) (fun _ _ _ _ _ _ _ => false) (fun _ ih => fi_91_B2 K ih) u
theorem hw_91_2 {G : gxG} (hG : gxG0 G) {K : Nat → Nat → Nat → Nat → Bool} (u : Nat) : ∀ l0 l1 l2 l3 M n c : Nat, gxJ G gY_91 K 2 [] [gR 5 (l0), gR 0 (l1), gR 0 (l2), gI (l3)] M n c (fi_91_W2 K u l0 l1 l2 l3 M n c) := by
  induction u with
  | zero => intro l0 l1 l2 l3 M n c; exact gj_false
  | succ u ih => intro l0 l1 l2 l3 M n c; exact hb_91_B2 hG ih l0 l1 l2 l3 M n c
noncomputable def fi_91_L0 (K : Nat → Nat → Nat → Nat → Bool) (l0 l1 l2 M n c : Nat) : Bool := fi_91_W2 K 65536 (l0) (l1) (l2) (0) M n c
theorem h_91_L0 {G : gxG} (hG : gxG0 G) {K : Nat → Nat → Nat → Nat → Bool} (l0 l1 l2 M n c : Nat) : gxJ G gY_91 K 0 [] [gR 5 (l0), gR 0 (l1), gR 0 (l2), gB] M n c (fi_91_L0 K l0 l1 l2 M n c) := by
  unfold fi_91_L0
  refine gr_iconst (pc := 0) (z := 0) 0 (show decode (gy_b gY_91) 0 = .ok (.iconst (0), 1) by decide +kernel) kc_0 ?_
  refine gr_istore_n (pc := 1) (i := 3) (L' := [gR 5 (l0), gR 0 (l1), gR 0 (l2), gI (0)]) (show decode (gy_b gY_91) 1 = .ok (.istore_n 3, 1) by decide +kernel) rfl (by decide) rfl rfl ?_
  exact hw_91_2 hG 65536 (l0) (l1) (l2) (0) M n c
noncomputable def fi_91 (l0 l1 l2 M n c : Nat) (K : Nat → Nat → Nat → Nat → Bool) : Bool := fi_91_L0 K l0 l1 l2 M n c
theorem hm_91 {G : gxG} (hG : gxG0 G) (l0 l1 l2 : Nat) : gxM G gY_91 yX5_takeAddsLike [gR 5 (l0), gR 0 (l1), gR 0 (l2)] (fi_91 l0 l1 l2) := gxM_of (L := [gR 5 (l0), gR 0 (l1), gR 0 (l2), gB]) hG 1 (by decide +kernel) rfl rfl rfl rfl (List.forall_mem_cons.mpr ⟨rfl, List.forall_mem_cons.mpr ⟨rfl, List.forall_mem_cons.mpr ⟨rfl, fun _ h => nomatch h⟩⟩⟩) (fun M n c K => h_91_L0 hG  l0 l1 l2 M n c)
/-! Farfiles$Log takeAway (LFarfiles$ActSet;LFarfiles$Act;)V -/
def gY_92 : gxY := (false, prog_7_method_11_code, 5, (Option.none : Option FieldType), "Farfiles$Log", 3, 86, 5, [], "takeAway")
theorem ok_92 {Y : gxY} (h1 : gy_f gY_92 + 1 ≤ gy_f Y) (h2 : 8 + (gy_l gY_92 + 11) + gy_k gY_92 ≤ gy_k Y) : gh_ok Y gY_92 yX5_takeAway 2 := ⟨wd_1043, wd_53, ⟨by decide, by decide⟩, by decide +kernel, h1, h2⟩
noncomputable def fi_92_L69 (K : Nat → Nat → Nat → Nat → Bool) (ih_11 : Nat → Nat → Nat → Nat → Nat → Nat → Bool) (l0 l2 l3 M n c : Nat) : Bool := gx_add (l3) 1 (fun z12 => ih_11 (l0) (l2) (z12) M n c)
theorem h_92_L69 {G : gxG} (hG : gxG0 G) {K : Nat → Nat → Nat → Nat → Bool} {ih_11 : Nat → Nat → Nat → Nat → Nat → Nat → Bool} (hi_11 : ∀ l0 l2 l3 M n c : Nat, gxJ G gY_92 K 11 [] [gR 5 (l0), gB, gR 0 (l2), gI (l3), gB] M n c (ih_11 l0 l2 l3 M n c)) (l0 l2 l3 M n c : Nat) : gxJ G gY_92 K 69 [] [gR 5 (l0), gB, gR 0 (l2), gI (l3), gB] M n c (fi_92_L69 K ih_11 l0 l2 l3 M n c) := by
  unfold fi_92_L69
  refine gr_iinc (pc := 69) (i := 3) (d := 1) (z := 1) (L' := fun z12 => [gR 5 (l0), gB, gR 0 (l2), gI (z12), gB]) (show decode (gy_b gY_92) 69 = .ok (.iinc 3 (1), 3) by decide +kernel) (by decide +kernel) (by decide) rfl rfl (fun _ => rfl) ?_
  intro z12
  refine gr_goto (pc := 72) (tgt := 11) (off := -61) (show decode (gy_b gY_92) 72 = .ok (.goto (-61), 3) by decide +kernel) (by decide) ?_
  exact hi_11 (l0) (l2) (z12) M n c
noncomputable def fi_92_L62 (K : Nat → Nat → Nat → Nat → Bool) (ih_11 : Nat → Nat → Nat → Nat → Nat → Nat → Bool) (l0 l2 l3 l4 M n c : Nat) : Bool := gx_nn (l0) (fi_91 (l0) (l4) (l2) M n c (fun v24 M25 n26 c27 => fi_92_L69 K ih_11 (l0) (l2) (l3) M25 n26 c27))
theorem h_92_L62 {G : gxG} (hG : gxG0 G) {K : Nat → Nat → Nat → Nat → Bool} {ih_11 : Nat → Nat → Nat → Nat → Nat → Nat → Bool} (hi_11 : ∀ l0 l2 l3 M n c : Nat, gxJ G gY_92 K 11 [] [gR 5 (l0), gB, gR 0 (l2), gI (l3), gB] M n c (ih_11 l0 l2 l3 M n c)) (l0 l2 l3 l4 M n c : Nat) : gxJ G gY_92 K 62 [] [gR 5 (l0), gB, gR 0 (l2), gI (l3), gR 0 (l4)] M n c (fi_92_L62 K ih_11 l0 l2 l3 l4 M n c) := by
  unfold fi_92_L62
  refine gr_aload_n (pc := 62) (i := 0) 5 (l0) (show decode (gy_b gY_92) 62 = .ok (.aload_n 0, 1) by decide +kernel) rfl rfl ?_
  refine gr_aload (pc := 63) (i := 4) 0 (l4) (show decode (gy_b gY_92) 63 = .ok (.aload 4, 2) by decide +kernel) rfl ?_
  refine gr_aload_n (pc := 65) (i := 2) 0 (l2) (show decode (gy_b gY_92) 65 = .ok (.aload_n 2, 1) by decide +kernel) rfl rfl ?_
  refine gj_nn (fun hx66 => ?_)
  refine gj_c0 (pc := 66) (Y' := gY_91) (y := yX5_takeAddsLike) (vs := [gR 5 (l0), gR 0 (l4), gR 0 (l2)]) (rest := []) (rs := fun v24 => []) [gR 0 (l2), gR 0 (l4), gR 5 (l0)] rfl (hm_91 hG (l0) (l4) (l2)) rfl (gh_V (t := 5) (vs := [gR 0 (l4), gR 0 (l2)]) (rest := []) (show decode (gy_b gY_92) 66 = .ok (.invokevirtual 111, 3) by decide +kernel) rfl hx66 rfl rfl (ok_91 (by decide) (by decide)) wd_1044 wd_1046 wd_29 (Nat.le_of_ble_eq_true rfl)) (fun _ => rfl) ?_
  intro v24 M25 n26 c27
  refine gr_wk [true, true, true, true, false] rfl ?_
  exact h_92_L69 hG hi_11 (l0) (l2) (l3) M25 n26 c27
noncomputable def fi_92_B11 (K : Nat → Nat → Nat → Nat → Bool) (ih_11 : Nat → Nat → Nat → Nat → Nat → Nat → Bool) (l0 l2 l3 M n c : Nat) : Bool := gx_get (l0) 4 M (fun v6 => gx_lt (l3) (v6) (gx_get (l0) 2 M (fun v7 => gx_nn (v7) (fi_69 (v7) (l3) M n c (fun v8 M9 n10 c11 => gx_eq (v8) 0 (fi_92_L69 K ih_11 (l0) (l2) (l3) M9 n10 c11) (gx_nn (l0) (fi_70 (l0) (l3) M9 n10 c11 (fun v13 M14 n15 c16 => gx_get (v13) 4 M14 (fun v17 => gx_get (l2) 4 M14 (fun v18 => gx_eq (v17) (v18) (gx_nn (l0) (fi_81 (l0) (v13) M14 n15 c16 (fun v19 M20 n21 c22 => gx_get (l2) 3 M20 (fun v23 => gx_eq (v19) (v23) (fi_92_L62 K ih_11 (l0) (l2) (l3) (v13) M20 n21 c22) (fi_92_L69 K ih_11 (l0) (l2) (l3) M20 n21 c22))))) (fi_92_L69 K ih_11 (l0) (l2) (l3) M14 n15 c16)))))))))) (K 0 M n c))
theorem hb_92_B11 {G : gxG} (hG : gxG0 G) {K : Nat → Nat → Nat → Nat → Bool} {ih_11 : Nat → Nat → Nat → Nat → Nat → Nat → Bool} (hi_11 : ∀ l0 l2 l3 M n c : Nat, gxJ G gY_92 K 11 [] [gR 5 (l0), gB, gR 0 (l2), gI (l3), gB] M n c (ih_11 l0 l2 l3 M n c)) (l0 l2 l3 M n c : Nat) : gxJ G gY_92 K 11 [] [gR 5 (l0), gB, gR 0 (l2), gI (l3), gB] M n c (fi_92_B11 K ih_11 l0 l2 l3 M n c) := by
  unfold fi_92_B11
  refine gr_iload_n (pc := 11) (i := 3) (l3) (show decode (gy_b gY_92) 11 = .ok (.iload_n 3, 1) by decide +kernel) rfl rfl ?_
  refine gr_aload_n (pc := 12) (i := 0) 5 (l0) (show decode (gy_b gY_92) 12 = .ok (.aload_n 0, 1) by decide +kernel) rfl rfl ?_
  refine gr_getf (pc := 13) (index := 38) (t := 5) (j := 4) (σ := 0) (sv := gI) (show decode (gy_b gY_92) 13 = .ok (.getfield 38, 3) by decide +kernel) rfl rfl (fun _ => rfl) wd_179 (by decide) ?_
  intro v6
  refine gr_icmp_ge (pc := 16) (tgt := 75) (off := 59) hG.2.1 (show decode (gy_b gY_92) 16 = .ok (.if_icmp .ge (59), 3) by decide +kernel) (by decide) ?_ ?_
  · exact gr_return (pc := 75) (show decode (gy_b gY_92) 75 = .ok (.return_, 1) by decide +kernel) rfl rfl
  · refine gr_aload_n (pc := 19) (i := 0) 5 (l0) (show decode (gy_b gY_92) 19 = .ok (.aload_n 0, 1) by decide +kernel) rfl rfl ?_
    refine gr_getf (pc := 20) (index := 31) (t := 5) (j := 2) (σ := 9) (sv := (gR 1)) (show decode (gy_b gY_92) 20 = .ok (.getfield 31, 3) by decide +kernel) rfl rfl (fun _ => rfl) wd_177 (by decide) ?_
    intro v7
    refine gr_iload_n (pc := 23) (i := 3) (l3) (show decode (gy_b gY_92) 23 = .ok (.iload_n 3, 1) by decide +kernel) rfl rfl ?_
    refine gj_nn (fun hx24 => ?_)
    refine gj_c0 (pc := 24) (Y' := gY_69) (y := yX1_has) (vs := [gR 1 (v7), gI (l3)]) (rest := []) (rs := fun v8 => [gI (v8)]) [gI (l3), gR 1 (v7)] rfl (hm_69 hG (v7) (l3)) rfl (gh_V (t := 1) (vs := [gI (l3)]) (rest := []) (show decode (gy_b gY_92) 24 = .ok (.invokevirtual 52, 3) by decide +kernel) rfl hx24 rfl rfl (ok_69 (by decide) (by decide)) wd_990 wd_923 wd_924 (Nat.le_of_ble_eq_true rfl)) (fun _ => rfl) ?_
    intro v8 M9 n10 c11
    refine gr_ifeq (pc := 27) (tgt := 69) (off := 42) hG.2.1 (show decode (gy_b gY_92) 27 = .ok (.ifCond .eq (42), 3) by decide +kernel) (by decide) ?_ ?_
    · exact h_92_L69 hG hi_11 (l0) (l2) (l3) M9 n10 c11
    · refine gr_aload_n (pc := 30) (i := 0) 5 (l0) (show decode (gy_b gY_92) 30 = .ok (.aload_n 0, 1) by decide +kernel) rfl rfl ?_
      refine gr_iload_n (pc := 31) (i := 3) (l3) (show decode (gy_b gY_92) 31 = .ok (.iload_n 3, 1) by decide +kernel) rfl rfl ?_
      refine gj_nn (fun hx32 => ?_)
      refine gj_c0 (pc := 32) (Y' := gY_70) (y := yX5_at) (vs := [gR 5 (l0), gI (l3)]) (rest := []) (rs := fun v13 => [gR 0 (v13)]) [gI (l3), gR 5 (l0)] rfl (hm_70 hG (l0) (l3)) rfl (gh_V (t := 5) (vs := [gI (l3)]) (rest := []) (show decode (gy_b gY_92) 32 = .ok (.invokevirtual 45, 3) by decide +kernel) rfl hx32 rfl rfl (ok_70 (by decide) (by decide)) wd_989 wd_927 wd_928 (Nat.le_of_ble_eq_true rfl)) (fun _ => rfl) ?_
      intro v13 M14 n15 c16
      refine gr_astore (pc := 35) (i := 4) (L' := [gR 5 (l0), gB, gR 0 (l2), gI (l3), gR 0 (v13)]) (show decode (gy_b gY_92) 35 = .ok (.astore 4, 2) by decide +kernel) (by decide) rfl rfl ?_
      refine gr_aload (pc := 37) (i := 4) 0 (v13) (show decode (gy_b gY_92) 37 = .ok (.aload 4, 2) by decide +kernel) rfl ?_
      refine gr_getfN (pc := 39) (index := 80) (t := 0) (j := 4) (σ := 0) (sv := gI) (show decode (gy_b gY_92) 39 = .ok (.getfield 80, 3) by decide +kernel) rfl rfl (fun _ => rfl) wd_147 (by decide) ?_
      intro v17
      refine gr_aload_n (pc := 42) (i := 2) 0 (l2) (show decode (gy_b gY_92) 42 = .ok (.aload_n 2, 1) by decide +kernel) rfl rfl ?_
      refine gr_getfN (pc := 43) (index := 80) (t := 0) (j := 4) (σ := 0) (sv := gI) (show decode (gy_b gY_92) 43 = .ok (.getfield 80, 3) by decide +kernel) rfl rfl (fun _ => rfl) wd_147 (by decide) ?_
      intro v18
      refine gr_icmp_ne (pc := 46) (tgt := 69) (off := 23) hG.2.1 (show decode (gy_b gY_92) 46 = .ok (.if_icmp .ne (23), 3) by decide +kernel) (by decide) ?_ ?_
      · refine gr_wk [true, true, true, true, false] rfl ?_
        exact h_92_L69 hG hi_11 (l0) (l2) (l3) M14 n15 c16
      · refine gr_aload_n (pc := 49) (i := 0) 5 (l0) (show decode (gy_b gY_92) 49 = .ok (.aload_n 0, 1) by decide +kernel) rfl rfl ?_
        refine gr_aload (pc := 50) (i := 4) 0 (v13) (show decode (gy_b gY_92) 50 = .ok (.aload 4, 2) by decide +kernel) rfl ?_
        refine gj_nn (fun hx52 => ?_)
        refine gj_c0 (pc := 52) (Y' := gY_81) (y := yX5_toldName) (vs := [gR 5 (l0), gR 0 (v13)]) (rest := []) (rs := fun v19 => [gI (v19)]) [gR 0 (v13), gR 5 (l0)] rfl (hm_81 hG (l0) (v13)) rfl (gh_V (t := 5) (vs := [gR 0 (v13)]) (rest := []) (show decode (gy_b gY_92) 52 = .ok (.invokevirtual 91, 3) by decide +kernel) rfl hx52 rfl rfl (ok_81 (by decide) (by decide)) wd_1000 wd_1002 wd_23 (Nat.le_of_ble_eq_true rfl)) (fun _ => rfl) ?_
        intro v19 M20 n21 c22
        refine gr_aload_n (pc := 55) (i := 2) 0 (l2) (show decode (gy_b gY_92) 55 = .ok (.aload_n 2, 1) by decide +kernel) rfl rfl ?_
        refine gr_getfN (pc := 56) (index := 77) (t := 0) (j := 3) (σ := 0) (sv := gI) (show decode (gy_b gY_92) 56 = .ok (.getfield 77, 3) by decide +kernel) rfl rfl (fun _ => rfl) wd_145 (by decide) ?_
        intro v23
        refine gr_icmp_ne (pc := 59) (tgt := 69) (off := 10) hG.2.1 (show decode (gy_b gY_92) 59 = .ok (.if_icmp .ne (10), 3) by decide +kernel) (by decide) ?_ ?_
        · refine gr_wk [true, true, true, true, false] rfl ?_
          exact h_92_L69 hG hi_11 (l0) (l2) (l3) M20 n21 c22
        · exact h_92_L62 hG hi_11 (l0) (l2) (l3) (v13) M20 n21 c22
noncomputable def fi_92_W11 (K : Nat → Nat → Nat → Nat → Bool) (u : Nat) : Nat → Nat → Nat → Nat → Nat → Nat → Bool := Nat.rec (motive := fun _ => Nat → Nat → Nat → Nat → Nat → Nat → Bool) (fun _ _ _ _ _ _ => false) (fun _ ih => fi_92_B11 K ih) u
theorem hw_92_11 {G : gxG} (hG : gxG0 G) {K : Nat → Nat → Nat → Nat → Bool} (u : Nat) : ∀ l0 l2 l3 M n c : Nat, gxJ G gY_92 K 11 [] [gR 5 (l0), gB, gR 0 (l2), gI (l3), gB] M n c (fi_92_W11 K u l0 l2 l3 M n c) := by
  induction u with
  | zero => intro l0 l2 l3 M n c; exact gj_false
  | succ u ih => intro l0 l2 l3 M n c; exact hb_92_B11 hG ih l0 l2 l3 M n c
noncomputable def fi_92_L0 (K : Nat → Nat → Nat → Nat → Bool) (l0 l1 l2 M n c : Nat) : Bool := gx_get (l2) 1 M (fun v1 => gx_nn (l0) (fi_80 (l0) (l1) (v1) M n c (fun v2 M3 n4 c5 => fi_92_W11 K 65536 (l0) (l2) (0) M3 n4 c5)))
theorem h_92_L0 {G : gxG} (hG : gxG0 G) {K : Nat → Nat → Nat → Nat → Bool} (l0 l1 l2 M n c : Nat) : gxJ G gY_92 K 0 [] [gR 5 (l0), gR 1 (l1), gR 0 (l2), gB, gB] M n c (fi_92_L0 K l0 l1 l2 M n c) := by
  unfold fi_92_L0
  refine gr_aload_n (pc := 0) (i := 0) 5 (l0) (show decode (gy_b gY_92) 0 = .ok (.aload_n 0, 1) by decide +kernel) rfl rfl ?_
  refine gr_aload_n (pc := 1) (i := 1) 1 (l1) (show decode (gy_b gY_92) 1 = .ok (.aload_n 1, 1) by decide +kernel) rfl rfl ?_
  refine gr_aload_n (pc := 2) (i := 2) 0 (l2) (show decode (gy_b gY_92) 2 = .ok (.aload_n 2, 1) by decide +kernel) rfl rfl ?_
  refine gr_getfN (pc := 3) (index := 49) (t := 0) (j := 1) (σ := 0) (sv := gI) (show decode (gy_b gY_92) 3 = .ok (.getfield 49, 3) by decide +kernel) rfl rfl (fun _ => rfl) wd_138 (by decide) ?_
  intro v1
  refine gj_nn (fun hx6 => ?_)
  refine gj_c0 (pc := 6) (Y' := gY_80) (y := yX5_gather) (vs := [gR 5 (l0), gR 1 (l1), gI (v1)]) (rest := []) (rs := fun v2 => []) [gI (v1), gR 1 (l1), gR 5 (l0)] rfl (hm_80 hG (l0) (l1) (v1)) rfl (gh_V (t := 5) (vs := [gR 1 (l1), gI (v1)]) (rest := []) (show decode (gy_b gY_92) 6 = .ok (.invokevirtual 87, 3) by decide +kernel) rfl hx6 rfl rfl (ok_80 (by decide) (by decide)) wd_981 wd_983 wd_22 (Nat.le_of_ble_eq_true rfl)) (fun _ => rfl) ?_
  intro v2 M3 n4 c5
  refine gr_iconst (pc := 9) (z := 0) 0 (show decode (gy_b gY_92) 9 = .ok (.iconst (0), 1) by decide +kernel) kc_0 ?_
  refine gr_istore_n (pc := 10) (i := 3) (L' := [gR 5 (l0), gR 1 (l1), gR 0 (l2), gI (0), gB]) (show decode (gy_b gY_92) 10 = .ok (.istore_n 3, 1) by decide +kernel) rfl (by decide) rfl rfl ?_
  refine gr_wk [true, false, true, true, true] rfl ?_
  exact hw_92_11 hG 65536 (l0) (l2) (0) M3 n4 c5
noncomputable def fi_92 (l0 l1 l2 M n c : Nat) (K : Nat → Nat → Nat → Nat → Bool) : Bool := fi_92_L0 K l0 l1 l2 M n c
theorem hm_92 {G : gxG} (hG : gxG0 G) (l0 l1 l2 : Nat) : gxM G gY_92 yX5_takeAway [gR 5 (l0), gR 1 (l1), gR 0 (l2)] (fi_92 l0 l1 l2) := gxM_of (L := [gR 5 (l0), gR 1 (l1), gR 0 (l2), gB, gB]) hG 2 (by decide +kernel) rfl rfl rfl rfl (List.forall_mem_cons.mpr ⟨rfl, List.forall_mem_cons.mpr ⟨rfl, List.forall_mem_cons.mpr ⟨rfl, fun _ h => nomatch h⟩⟩⟩) (fun M n c K => h_92_L0 hG  l0 l1 l2 M n c)
/-! Farfiles$Log put (LFarfiles$Act;)I -/
def gY_93 : gxY := (false, prog_7_method_4_code, 3, (Option.some Jvm.ClassFile.FieldType.int), "Farfiles$Log", 1, 40, 0, [], "put")
theorem ok_93 {Y : gxY} (h1 : gy_f gY_93 + 1 ≤ gy_f Y) (h2 : 8 + (gy_l gY_93 + 11) + gy_k gY_93 ≤ gy_k Y) : gh_ok Y gY_93 yX5_put 1 := ⟨wd_1055, wd_53, ⟨by decide, by decide⟩, by decide +kernel, h1, h2⟩
noncomputable def fi_93_L33 (K : Nat → Nat → Nat → Nat → Bool) (l2 M n c : Nat) : Bool := gx_rt gx_f0 (l2) (K (l2) M n c)
theorem h_93_L33 {G : gxG} (hG : gxG0 G) {K : Nat → Nat → Nat → Nat → Bool} (l2 M n c : Nat) : gxJ G gY_93 K 33 [] [gB, gB, gI (l2)] M n c (fi_93_L33 K l2 M n c) := by
  unfold fi_93_L33
  refine gr_iload_n (pc := 33) (i := 2) (l2) (show decode (gy_b gY_93) 33 = .ok (.iload_n 2, 1) by decide +kernel) rfl rfl ?_
  exact gr_ireturn (pc := 34) (show decode (gy_b gY_93) 34 = .ok (.ireturn, 1) by decide +kernel) rfl rfl (by decide) gv_0
noncomputable def fi_93_L0 (K : Nat → Nat → Nat → Nat → Bool) (l0 l1 M n c : Nat) : Bool := gx_get (l0) 4 M (fun v1 => gx_lt (v1) 0 (fi_93_L33 K (v1) M n c) (gx_lt (v1) (250) (gx_get (l0) 0 M (fun v2 => gx_ast (v2) (v1) (l1) M gx_f0 (fun M3 => gx_get (l0) 4 M3 (fun v4 => gx_add (v4) (1) (fun z5 => gx_put (l0) 4 (z5) M3 gx_f0 (fun M6 => fi_93_L33 K (v1) M6 n c)))))) (fi_93_L33 K (v1) M n c)))
theorem h_93_L0 {G : gxG} (hG : gxG0 G) {K : Nat → Nat → Nat → Nat → Bool} (l0 l1 M n c : Nat) : gxJ G gY_93 K 0 [] [gR 5 (l0), gR 0 (l1), gB] M n c (fi_93_L0 K l0 l1 M n c) := by
  unfold fi_93_L0
  refine gr_aload_n (pc := 0) (i := 0) 5 (l0) (show decode (gy_b gY_93) 0 = .ok (.aload_n 0, 1) by decide +kernel) rfl rfl ?_
  refine gr_getf (pc := 1) (index := 38) (t := 5) (j := 4) (σ := 0) (sv := gI) (show decode (gy_b gY_93) 1 = .ok (.getfield 38, 3) by decide +kernel) rfl rfl (fun _ => rfl) wd_179 (by decide) ?_
  intro v1
  refine gr_istore_n (pc := 4) (i := 2) (L' := [gR 5 (l0), gR 0 (l1), gI (v1)]) (show decode (gy_b gY_93) 4 = .ok (.istore_n 2, 1) by decide +kernel) rfl (by decide) rfl rfl ?_
  refine gr_iload_n (pc := 5) (i := 2) (v1) (show decode (gy_b gY_93) 5 = .ok (.iload_n 2, 1) by decide +kernel) rfl rfl ?_
  refine gr_iflt (pc := 6) (tgt := 33) (off := 27) hG.2.1 (show decode (gy_b gY_93) 6 = .ok (.ifCond .lt (27), 3) by decide +kernel) (by decide) ?_ ?_
  · refine gr_wk [false, false, true] rfl ?_
    exact h_93_L33 hG (v1) M n c
  · refine gr_iload_n (pc := 9) (i := 2) (v1) (show decode (gy_b gY_93) 9 = .ok (.iload_n 2, 1) by decide +kernel) rfl rfl ?_
    refine gr_sipush (pc := 10) (z := 250) 250 (show decode (gy_b gY_93) 10 = .ok (.sipush (250), 3) by decide +kernel) (by decide +kernel) ?_
    refine gr_icmp_ge (pc := 13) (tgt := 33) (off := 20) hG.2.1 (show decode (gy_b gY_93) 13 = .ok (.if_icmp .ge (20), 3) by decide +kernel) (by decide) ?_ ?_
    · refine gr_wk [false, false, true] rfl ?_
      exact h_93_L33 hG (v1) M n c
    · refine gr_aload_n (pc := 16) (i := 0) 5 (l0) (show decode (gy_b gY_93) 16 = .ok (.aload_n 0, 1) by decide +kernel) rfl rfl ?_
      refine gr_getf (pc := 17) (index := 11) (t := 5) (j := 0) (σ := 77) (sv := (gR 69)) (show decode (gy_b gY_93) 17 = .ok (.getfield 11, 3) by decide +kernel) rfl rfl (fun _ => rfl) wd_175 (by decide) ?_
      intro v2
      refine gr_iload_n (pc := 20) (i := 2) (v1) (show decode (gy_b gY_93) 20 = .ok (.iload_n 2, 1) by decide +kernel) rfl rfl ?_
      refine gr_aload_n (pc := 21) (i := 1) 0 (l1) (show decode (gy_b gY_93) 21 = .ok (.aload_n 1, 1) by decide +kernel) rfl rfl ?_
      refine gr_aast (pc := 22) (κ := 5) (t := 0) (show decode (gy_b gY_93) 22 = .ok (.aastore, 1) by decide +kernel) ⟨by decide, by decide, rfl⟩ rfl rfl ?_
      intro M3
      refine gr_aload_n (pc := 23) (i := 0) 5 (l0) (show decode (gy_b gY_93) 23 = .ok (.aload_n 0, 1) by decide +kernel) rfl rfl ?_
      refine gr_dup (b := gB) (pc := 24) (show decode (gy_b gY_93) 24 = .ok (.dup, 1) by decide +kernel) rfl ?_
      refine gr_getf (pc := 25) (index := 38) (t := 5) (j := 4) (σ := 0) (sv := gI) (show decode (gy_b gY_93) 25 = .ok (.getfield 38, 3) by decide +kernel) rfl rfl (fun _ => rfl) wd_179 (by decide) ?_
      intro v4
      refine gr_iconst (pc := 28) (z := 1) 1 (show decode (gy_b gY_93) 28 = .ok (.iconst (1), 1) by decide +kernel) kc_1 ?_
      refine gr_iadd (pc := 29) (show decode (gy_b gY_93) 29 = .ok (.iadd, 1) by decide +kernel) ?_
      intro z5
      refine gr_putf (pc := 30) (index := 38) (t := 5) (j := 4) (σ := 0) (sv := gI) (f := gx_f0) (ty := .int) (show decode (gy_b gY_93) 30 = .ok (.putfield 38, 3) by decide +kernel) rfl rfl (fun _ => rfl) wd_179 rfl gv_0 rfl ?_
      intro M6
      refine gr_wk [false, false, true] rfl ?_
      exact h_93_L33 hG (v1) M6 n c
noncomputable def fi_93 (l0 l1 M n c : Nat) (K : Nat → Nat → Nat → Nat → Bool) : Bool := fi_93_L0 K l0 l1 M n c
theorem hm_93 {G : gxG} (hG : gxG0 G) (l0 l1 : Nat) : gxM G gY_93 yX5_put [gR 5 (l0), gR 0 (l1)] (fi_93 l0 l1) := gxM_of (L := [gR 5 (l0), gR 0 (l1), gB]) hG 1 (by decide +kernel) rfl rfl rfl rfl (List.forall_mem_cons.mpr ⟨rfl, List.forall_mem_cons.mpr ⟨rfl, fun _ h => nomatch h⟩⟩) (fun M n c K => h_93_L0 hG  l0 l1 M n c)
/-! Farfiles enter (LFarfiles$Client;LFarfiles$Act;)I -/
def gY_94 : gxY := (false, prog_1_method_34_code, 6, (Option.some Jvm.ClassFile.FieldType.int), "Farfiles", 4, 110, 0, [], "enter")
theorem ok_94 {Y : gxY} (h1 : gy_f gY_94 + 1 ≤ gy_f Y) (h2 : 8 + (gy_l gY_94 + 11) + gy_k gY_94 ≤ gy_k Y) : gh_ok Y gY_94 yX7_enter 2 := ⟨wd_1036, wd_51, ⟨by decide, by decide⟩, by decide +kernel, h1, h2⟩
noncomputable def fi_94_L111 (K : Nat → Nat → Nat → Nat → Bool) (l0 l1 l2 M n c : Nat) : Bool := gx_get (l0) 1 M (fun v4 => gx_nn (v4) (fi_93 (v4) (l2) M n c (fun v5 M6 n7 c8 => gx_get (l1) 5 M6 (fun v9 => gx_nn (v9) (fi_71 (v9) (v5) M6 n7 c8 (fun v10 M11 n12 c13 => gx_get (l1) 6 M11 (fun v14 => gx_nn (v14) (fi_71 (v14) (v5) M11 n12 c13 (fun v15 M16 n17 c18 => gx_get (l1) 11 M16 (fun v19 => gx_eq (v19) 0 (gx_rt gx_f0 (v5) (K (v5) M16 n17 c18)) (false)))))))))))
theorem h_94_L111 {G : gxG} (hG : gxG0 G) {K : Nat → Nat → Nat → Nat → Bool} (l0 l1 l2 M n c : Nat) : gxJ G gY_94 K 111 [] [gR 7 (l0), gR 3 (l1), gR 0 (l2), gB, gB, gB] M n c (fi_94_L111 K l0 l1 l2 M n c) := by
  unfold fi_94_L111
  refine gr_aload_n (pc := 111) (i := 0) 7 (l0) (show decode (gy_b gY_94) 111 = .ok (.aload_n 0, 1) by decide +kernel) rfl rfl ?_
  refine gr_getf (pc := 112) (index := 19) (t := 7) (j := 1) (σ := 13) (sv := (gR 5)) (show decode (gy_b gY_94) 112 = .ok (.getfield 19, 3) by decide +kernel) rfl rfl (fun _ => rfl) wd_295 (by decide) ?_
  intro v4
  refine gr_aload_n (pc := 115) (i := 2) 0 (l2) (show decode (gy_b gY_94) 115 = .ok (.aload_n 2, 1) by decide +kernel) rfl rfl ?_
  refine gj_nn (fun hx116 => ?_)
  refine gj_c0 (pc := 116) (Y' := gY_93) (y := yX5_put) (vs := [gR 5 (v4), gR 0 (l2)]) (rest := []) (rs := fun v5 => [gI (v5)]) [gR 0 (l2), gR 5 (v4)] rfl (hm_93 hG (v4) (l2)) rfl (gh_V (t := 5) (vs := [gR 0 (l2)]) (rest := []) (show decode (gy_b gY_94) 116 = .ok (.invokevirtual 267, 3) by decide +kernel) rfl hx116 rfl rfl (ok_93 (by decide) (by decide)) wd_1052 wd_1053 wd_1054 (Nat.le_of_ble_eq_true rfl)) (fun _ => rfl) ?_
  intro v5 M6 n7 c8
  refine gr_istore_n (pc := 119) (i := 3) (L' := [gR 7 (l0), gR 3 (l1), gR 0 (l2), gI (v5), gB, gB]) (show decode (gy_b gY_94) 119 = .ok (.istore_n 3, 1) by decide +kernel) rfl (by decide) rfl rfl ?_
  refine gr_aload_n (pc := 120) (i := 1) 3 (l1) (show decode (gy_b gY_94) 120 = .ok (.aload_n 1, 1) by decide +kernel) rfl rfl ?_
  refine gr_getfN (pc := 121) (index := 201) (t := 3) (j := 5) (σ := 9) (sv := (gR 1)) (show decode (gy_b gY_94) 121 = .ok (.getfield 201, 3) by decide +kernel) rfl rfl (fun _ => rfl) wd_260 (by decide) ?_
  intro v9
  refine gr_iload_n (pc := 124) (i := 3) (v5) (show decode (gy_b gY_94) 124 = .ok (.iload_n 3, 1) by decide +kernel) rfl rfl ?_
  refine gj_nn (fun hx125 => ?_)
  refine gj_c0 (pc := 125) (Y' := gY_71) (y := yX1_put) (vs := [gR 1 (v9), gI (v5)]) (rest := []) (rs := fun v10 => []) [gI (v5), gR 1 (v9)] rfl (hm_71 hG (v9) (v5)) rfl (gh_V (t := 1) (vs := [gI (v5)]) (rest := []) (show decode (gy_b gY_94) 125 = .ok (.invokevirtual 261, 3) by decide +kernel) rfl hx125 rfl rfl (ok_71 (by decide) (by decide)) wd_1039 wd_957 wd_958 (Nat.le_of_ble_eq_true rfl)) (fun _ => rfl) ?_
  intro v10 M11 n12 c13
  refine gr_aload_n (pc := 128) (i := 1) 3 (l1) (show decode (gy_b gY_94) 128 = .ok (.aload_n 1, 1) by decide +kernel) rfl rfl ?_
  refine gr_getfN (pc := 129) (index := 270) (t := 3) (j := 6) (σ := 9) (sv := (gR 1)) (show decode (gy_b gY_94) 129 = .ok (.getfield 270, 3) by decide +kernel) rfl rfl (fun _ => rfl) wd_262 (by decide) ?_
  intro v14
  refine gr_iload_n (pc := 132) (i := 3) (v5) (show decode (gy_b gY_94) 132 = .ok (.iload_n 3, 1) by decide +kernel) rfl rfl ?_
  refine gj_nn (fun hx133 => ?_)
  refine gj_c0 (pc := 133) (Y' := gY_71) (y := yX1_put) (vs := [gR 1 (v14), gI (v5)]) (rest := []) (rs := fun v15 => []) [gI (v5), gR 1 (v14)] rfl (hm_71 hG (v14) (v5)) rfl (gh_V (t := 1) (vs := [gI (v5)]) (rest := []) (show decode (gy_b gY_94) 133 = .ok (.invokevirtual 261, 3) by decide +kernel) rfl hx133 rfl rfl (ok_71 (by decide) (by decide)) wd_1039 wd_957 wd_958 (Nat.le_of_ble_eq_true rfl)) (fun _ => rfl) ?_
  intro v15 M16 n17 c18
  refine gr_aload_n (pc := 136) (i := 1) 3 (l1) (show decode (gy_b gY_94) 136 = .ok (.aload_n 1, 1) by decide +kernel) rfl rfl ?_
  refine gr_getfN (pc := 137) (index := 273) (t := 3) (j := 11) (σ := 2) (sv := gI) (show decode (gy_b gY_94) 137 = .ok (.getfield 273, 3) by decide +kernel) rfl rfl (fun _ => rfl) wd_268 (by decide) ?_
  intro v19
  refine gr_ifeq (pc := 140) (tgt := 159) (off := 19) hG.2.1 (show decode (gy_b gY_94) 140 = .ok (.ifCond .eq (19), 3) by decide +kernel) (by decide) ?_ ?_
  · refine gr_iload_n (pc := 159) (i := 3) (v5) (show decode (gy_b gY_94) 159 = .ok (.iload_n 3, 1) by decide +kernel) rfl rfl ?_
    exact gr_ireturn (pc := 160) (show decode (gy_b gY_94) 160 = .ok (.ireturn, 1) by decide +kernel) rfl rfl (by decide) gv_0
  · exact gj_false
noncomputable def fi_94_L84 (K : Nat → Nat → Nat → Nat → Bool) (ih_2 : Nat → Nat → Nat → Nat → Nat → Nat → Nat → Bool) (l0 l1 l2 l3 M n c : Nat) : Bool := gx_add (l3) 1 (fun z33 => ih_2 (l0) (l1) (l2) (z33) M n c)
theorem h_94_L84 {G : gxG} (hG : gxG0 G) {K : Nat → Nat → Nat → Nat → Bool} {ih_2 : Nat → Nat → Nat → Nat → Nat → Nat → Nat → Bool} (hi_2 : ∀ l0 l1 l2 l3 M n c : Nat, gxJ G gY_94 K 2 [] [gR 7 (l0), gR 3 (l1), gR 0 (l2), gI (l3), gB, gB] M n c (ih_2 l0 l1 l2 l3 M n c)) (l0 l1 l2 l3 M n c : Nat) : gxJ G gY_94 K 84 [] [gR 7 (l0), gR 3 (l1), gR 0 (l2), gI (l3), gB, gB] M n c (fi_94_L84 K ih_2 l0 l1 l2 l3 M n c) := by
  unfold fi_94_L84
  refine gr_iinc (pc := 84) (i := 3) (d := 1) (z := 1) (L' := fun z33 => [gR 7 (l0), gR 3 (l1), gR 0 (l2), gI (z33), gB, gB]) (show decode (gy_b gY_94) 84 = .ok (.iinc 3 (1), 3) by decide +kernel) (by decide +kernel) (by decide) rfl rfl (fun _ => rfl) ?_
  intro z33
  refine gr_goto (pc := 87) (tgt := 2) (off := -85) (show decode (gy_b gY_94) 87 = .ok (.goto (-85), 3) by decide +kernel) (by decide) ?_
  exact hi_2 (l0) (l1) (l2) (z33) M n c
noncomputable def fi_94_L58 (K : Nat → Nat → Nat → Nat → Bool) (ih_2 : Nat → Nat → Nat → Nat → Nat → Nat → Nat → Bool) (l0 l1 l2 l3 s0 M n c : Nat) : Bool := gx_eq (s0) 0 (fi_94_L84 K ih_2 (l0) (l1) (l2) (l3) M n c) (gx_get (l1) 5 M (fun v34 => gx_nn (v34) (fi_69 (v34) (l3) M n c (fun v35 M36 n37 c38 => gx_eq (v35) 0 (fi_94_L84 K ih_2 (l0) (l1) (l2) (l3) M36 n37 c38) (gx_get (l2) 6 M36 (fun v39 => gx_nn (v39) (fi_71 (v39) (l3) M36 n37 c38 (fun v40 M41 n42 c43 => fi_94_L84 K ih_2 (l0) (l1) (l2) (l3) M41 n42 c43))))))))
theorem h_94_L58 {G : gxG} (hG : gxG0 G) {K : Nat → Nat → Nat → Nat → Bool} {ih_2 : Nat → Nat → Nat → Nat → Nat → Nat → Nat → Bool} (hi_2 : ∀ l0 l1 l2 l3 M n c : Nat, gxJ G gY_94 K 2 [] [gR 7 (l0), gR 3 (l1), gR 0 (l2), gI (l3), gB, gB] M n c (ih_2 l0 l1 l2 l3 M n c)) (l0 l1 l2 l3 s0 M n c : Nat) : gxJ G gY_94 K 58 [gI (s0)] [gR 7 (l0), gR 3 (l1), gR 0 (l2), gI (l3), gB, gB] M n c (fi_94_L58 K ih_2 l0 l1 l2 l3 s0 M n c) := by
  unfold fi_94_L58
  refine gr_istore (pc := 58) (i := 5) (L' := [gR 7 (l0), gR 3 (l1), gR 0 (l2), gI (l3), gB, gI (s0)]) (show decode (gy_b gY_94) 58 = .ok (.istore 5, 2) by decide +kernel) (by decide) rfl rfl ?_
  refine gr_iload (pc := 60) (i := 5) (s0) (show decode (gy_b gY_94) 60 = .ok (.iload 5, 2) by decide +kernel) rfl ?_
  refine gr_ifeq (pc := 62) (tgt := 84) (off := 22) hG.2.1 (show decode (gy_b gY_94) 62 = .ok (.ifCond .eq (22), 3) by decide +kernel) (by decide) ?_ ?_
  · refine gr_wk [true, true, true, true, true, false] rfl ?_
    exact h_94_L84 hG hi_2 (l0) (l1) (l2) (l3) M n c
  · refine gr_aload_n (pc := 65) (i := 1) 3 (l1) (show decode (gy_b gY_94) 65 = .ok (.aload_n 1, 1) by decide +kernel) rfl rfl ?_
    refine gr_getfN (pc := 66) (index := 201) (t := 3) (j := 5) (σ := 9) (sv := (gR 1)) (show decode (gy_b gY_94) 66 = .ok (.getfield 201, 3) by decide +kernel) rfl rfl (fun _ => rfl) wd_260 (by decide) ?_
    intro v34
    refine gr_iload_n (pc := 69) (i := 3) (l3) (show decode (gy_b gY_94) 69 = .ok (.iload_n 3, 1) by decide +kernel) rfl rfl ?_
    refine gj_nn (fun hx70 => ?_)
    refine gj_c0 (pc := 70) (Y' := gY_69) (y := yX1_has) (vs := [gR 1 (v34), gI (l3)]) (rest := []) (rs := fun v35 => [gI (v35)]) [gI (l3), gR 1 (v34)] rfl (hm_69 hG (v34) (l3)) rfl (gh_V (t := 1) (vs := [gI (l3)]) (rest := []) (show decode (gy_b gY_94) 70 = .ok (.invokevirtual 255, 3) by decide +kernel) rfl hx70 rfl rfl (ok_69 (by decide) (by decide)) wd_1038 wd_923 wd_924 (Nat.le_of_ble_eq_true rfl)) (fun _ => rfl) ?_
    intro v35 M36 n37 c38
    refine gr_ifeq (pc := 73) (tgt := 84) (off := 11) hG.2.1 (show decode (gy_b gY_94) 73 = .ok (.ifCond .eq (11), 3) by decide +kernel) (by decide) ?_ ?_
    · refine gr_wk [true, true, true, true, true, false] rfl ?_
      exact h_94_L84 hG hi_2 (l0) (l1) (l2) (l3) M36 n37 c38
    · refine gr_aload_n (pc := 76) (i := 2) 0 (l2) (show decode (gy_b gY_94) 76 = .ok (.aload_n 2, 1) by decide +kernel) rfl rfl ?_
      refine gr_getfN (pc := 77) (index := 258) (t := 0) (j := 6) (σ := 9) (sv := (gR 1)) (show decode (gy_b gY_94) 77 = .ok (.getfield 258, 3) by decide +kernel) rfl rfl (fun _ => rfl) wd_153 (by decide) ?_
      intro v39
      refine gr_iload_n (pc := 80) (i := 3) (l3) (show decode (gy_b gY_94) 80 = .ok (.iload_n 3, 1) by decide +kernel) rfl rfl ?_
      refine gj_nn (fun hx81 => ?_)
      refine gj_c0 (pc := 81) (Y' := gY_71) (y := yX1_put) (vs := [gR 1 (v39), gI (l3)]) (rest := []) (rs := fun v40 => []) [gI (l3), gR 1 (v39)] rfl (hm_71 hG (v39) (l3)) rfl (gh_V (t := 1) (vs := [gI (l3)]) (rest := []) (show decode (gy_b gY_94) 81 = .ok (.invokevirtual 261, 3) by decide +kernel) rfl hx81 rfl rfl (ok_71 (by decide) (by decide)) wd_1039 wd_957 wd_958 (Nat.le_of_ble_eq_true rfl)) (fun _ => rfl) ?_
      intro v40 M41 n42 c43
      refine gr_wk [true, true, true, true, true, false] rfl ?_
      exact h_94_L84 hG hi_2 (l0) (l1) (l2) (l3) M41 n42 c43
noncomputable def fi_94_L53 (K : Nat → Nat → Nat → Nat → Bool) (ih_2 : Nat → Nat → Nat → Nat → Nat → Nat → Nat → Bool) (l0 l1 l2 l3 M n c : Nat) : Bool := fi_94_L58 K ih_2 (l0) (l1) (l2) (l3) (1) M n c
theorem h_94_L53 {G : gxG} (hG : gxG0 G) {K : Nat → Nat → Nat → Nat → Bool} {ih_2 : Nat → Nat → Nat → Nat → Nat → Nat → Nat → Bool} (hi_2 : ∀ l0 l1 l2 l3 M n c : Nat, gxJ G gY_94 K 2 [] [gR 7 (l0), gR 3 (l1), gR 0 (l2), gI (l3), gB, gB] M n c (ih_2 l0 l1 l2 l3 M n c)) (l0 l1 l2 l3 M n c : Nat) : gxJ G gY_94 K 53 [] [gR 7 (l0), gR 3 (l1), gR 0 (l2), gI (l3), gB, gB] M n c (fi_94_L53 K ih_2 l0 l1 l2 l3 M n c) := by
  unfold fi_94_L53
  refine gr_iconst (pc := 53) (z := 1) 1 (show decode (gy_b gY_94) 53 = .ok (.iconst (1), 1) by decide +kernel) kc_1 ?_
  refine gr_goto (pc := 54) (tgt := 58) (off := 4) (show decode (gy_b gY_94) 54 = .ok (.goto (4), 3) by decide +kernel) (by decide) ?_
  exact h_94_L58 hG hi_2 (l0) (l1) (l2) (l3) (1) M n c
noncomputable def fi_94_L57 (K : Nat → Nat → Nat → Nat → Bool) (ih_2 : Nat → Nat → Nat → Nat → Nat → Nat → Nat → Bool) (l0 l1 l2 l3 M n c : Nat) : Bool := fi_94_L58 K ih_2 (l0) (l1) (l2) (l3) (0) M n c
theorem h_94_L57 {G : gxG} (hG : gxG0 G) {K : Nat → Nat → Nat → Nat → Bool} {ih_2 : Nat → Nat → Nat → Nat → Nat → Nat → Nat → Bool} (hi_2 : ∀ l0 l1 l2 l3 M n c : Nat, gxJ G gY_94 K 2 [] [gR 7 (l0), gR 3 (l1), gR 0 (l2), gI (l3), gB, gB] M n c (ih_2 l0 l1 l2 l3 M n c)) (l0 l1 l2 l3 M n c : Nat) : gxJ G gY_94 K 57 [] [gR 7 (l0), gR 3 (l1), gR 0 (l2), gI (l3), gB, gB] M n c (fi_94_L57 K ih_2 l0 l1 l2 l3 M n c) := by
  unfold fi_94_L57
  refine gr_iconst (pc := 57) (z := 0) 0 (show decode (gy_b gY_94) 57 = .ok (.iconst (0), 1) by decide +kernel) kc_0 ?_
  exact h_94_L58 hG hi_2 (l0) (l1) (l2) (l3) (0) M n c
noncomputable def fi_94_B2 (K : Nat → Nat → Nat → Nat → Bool) (ih_2 : Nat → Nat → Nat → Nat → Nat → Nat → Nat → Bool) (l0 l1 l2 l3 M n c : Nat) : Bool := gx_get (l0) 1 M (fun v1 => gx_get (v1) 4 M (fun v2 => gx_lt (l3) (v2) (gx_get (l0) 1 M (fun v26 => gx_nn (v26) (fi_70 (v26) (l3) M n c (fun v27 M28 n29 c30 => gx_get (v27) 1 M28 (fun v31 => gx_get (l2) 1 M28 (fun v32 => gx_eq (v31) (v32) (fi_94_L53 K ih_2 (l0) (l1) (l2) (l3) M28 n29 c30) (gx_get (l2) 2 M28 (fun v44 => gx_eq (v44) (99) (gx_get (l2) 4 M28 (fun v45 => gx_eq (v31) (v45) (fi_94_L53 K ih_2 (l0) (l1) (l2) (l3) M28 n29 c30) (fi_94_L57 K ih_2 (l0) (l1) (l2) (l3) M28 n29 c30))) (fi_94_L57 K ih_2 (l0) (l1) (l2) (l3) M28 n29 c30))))))))) (gx_get (l2) 2 M (fun v3 => gx_eq (v3) (99) (gx_get (l0) 1 M (fun v20 => gx_get (l1) 5 M (fun v21 => gx_nn (v20) (fi_92 (v20) (v21) (l2) M n c (fun v22 M23 n24 c25 => fi_94_L111 K (l0) (l1) (l2) M23 n24 c25))))) (fi_94_L111 K (l0) (l1) (l2) M n c)))))
theorem hb_94_B2 {G : gxG} (hG : gxG0 G) {K : Nat → Nat → Nat → Nat → Bool} {ih_2 : Nat → Nat → Nat → Nat → Nat → Nat → Nat → Bool} (hi_2 : ∀ l0 l1 l2 l3 M n c : Nat, gxJ G gY_94 K 2 [] [gR 7 (l0), gR 3 (l1), gR 0 (l2), gI (l3), gB, gB] M n c (ih_2 l0 l1 l2 l3 M n c)) (l0 l1 l2 l3 M n c : Nat) : gxJ G gY_94 K 2 [] [gR 7 (l0), gR 3 (l1), gR 0 (l2), gI (l3), gB, gB] M n c (fi_94_B2 K ih_2 l0 l1 l2 l3 M n c) := by
  unfold fi_94_B2
  refine gr_iload_n (pc := 2) (i := 3) (l3) (show decode (gy_b gY_94) 2 = .ok (.iload_n 3, 1) by decide +kernel) rfl rfl ?_
  refine gr_aload_n (pc := 3) (i := 0) 7 (l0) (show decode (gy_b gY_94) 3 = .ok (.aload_n 0, 1) by decide +kernel) rfl rfl ?_
  refine gr_getf (pc := 4) (index := 19) (t := 7) (j := 1) (σ := 13) (sv := (gR 5)) (show decode (gy_b gY_94) 4 = .ok (.getfield 19, 3) by decide +kernel) rfl rfl (fun _ => rfl) wd_295 (by decide) ?_
  intro v1
  refine gr_getfN (pc := 7) (index := 110) (t := 5) (j := 4) (σ := 0) (sv := gI) (show decode (gy_b gY_94) 7 = .ok (.getfield 110, 3) by decide +kernel) rfl rfl (fun _ => rfl) wd_181 (by decide) ?_
  intro v2
  refine gr_icmp_ge (pc := 10) (tgt := 90) (off := 80) hG.2.1 (show decode (gy_b gY_94) 10 = .ok (.if_icmp .ge (80), 3) by decide +kernel) (by decide) ?_ ?_
  · refine gr_aload_n (pc := 90) (i := 2) 0 (l2) (show decode (gy_b gY_94) 90 = .ok (.aload_n 2, 1) by decide +kernel) rfl rfl ?_
    refine gr_getfN (pc := 91) (index := 249) (t := 0) (j := 2) (σ := 1) (sv := gI) (show decode (gy_b gY_94) 91 = .ok (.getfield 249, 3) by decide +kernel) rfl rfl (fun _ => rfl) wd_143 (by decide) ?_
    intro v3
    refine gr_bipush (pc := 94) (z := 99) 99 (show decode (gy_b gY_94) 94 = .ok (.bipush (99), 2) by decide +kernel) (by decide +kernel) ?_
    refine gr_icmp_ne (pc := 96) (tgt := 111) (off := 15) hG.2.1 (show decode (gy_b gY_94) 96 = .ok (.if_icmp .ne (15), 3) by decide +kernel) (by decide) ?_ ?_
    · refine gr_wk [true, true, true, false, true, true] rfl ?_
      exact h_94_L111 hG (l0) (l1) (l2) M n c
    · refine gr_aload_n (pc := 99) (i := 0) 7 (l0) (show decode (gy_b gY_94) 99 = .ok (.aload_n 0, 1) by decide +kernel) rfl rfl ?_
      refine gr_getf (pc := 100) (index := 19) (t := 7) (j := 1) (σ := 13) (sv := (gR 5)) (show decode (gy_b gY_94) 100 = .ok (.getfield 19, 3) by decide +kernel) rfl rfl (fun _ => rfl) wd_295 (by decide) ?_
      intro v20
      refine gr_aload_n (pc := 103) (i := 1) 3 (l1) (show decode (gy_b gY_94) 103 = .ok (.aload_n 1, 1) by decide +kernel) rfl rfl ?_
      refine gr_getfN (pc := 104) (index := 201) (t := 3) (j := 5) (σ := 9) (sv := (gR 1)) (show decode (gy_b gY_94) 104 = .ok (.getfield 201, 3) by decide +kernel) rfl rfl (fun _ => rfl) wd_260 (by decide) ?_
      intro v21
      refine gr_aload_n (pc := 107) (i := 2) 0 (l2) (show decode (gy_b gY_94) 107 = .ok (.aload_n 2, 1) by decide +kernel) rfl rfl ?_
      refine gj_nn (fun hx108 => ?_)
      refine gj_c0 (pc := 108) (Y' := gY_92) (y := yX5_takeAway) (vs := [gR 5 (v20), gR 1 (v21), gR 0 (l2)]) (rest := []) (rs := fun v22 => []) [gR 0 (l2), gR 1 (v21), gR 5 (v20)] rfl (hm_92 hG (v20) (v21) (l2)) rfl (gh_V (t := 5) (vs := [gR 1 (v21), gR 0 (l2)]) (rest := []) (show decode (gy_b gY_94) 108 = .ok (.invokevirtual 263, 3) by decide +kernel) rfl hx108 rfl rfl (ok_92 (by decide) (by decide)) wd_1040 wd_1041 wd_1042 (Nat.le_of_ble_eq_true rfl)) (fun _ => rfl) ?_
      intro v22 M23 n24 c25
      refine gr_wk [true, true, true, false, true, true] rfl ?_
      exact h_94_L111 hG (l0) (l1) (l2) M23 n24 c25
  · refine gr_aload_n (pc := 13) (i := 0) 7 (l0) (show decode (gy_b gY_94) 13 = .ok (.aload_n 0, 1) by decide +kernel) rfl rfl ?_
    refine gr_getf (pc := 14) (index := 19) (t := 7) (j := 1) (σ := 13) (sv := (gR 5)) (show decode (gy_b gY_94) 14 = .ok (.getfield 19, 3) by decide +kernel) rfl rfl (fun _ => rfl) wd_295 (by decide) ?_
    intro v26
    refine gr_iload_n (pc := 17) (i := 3) (l3) (show decode (gy_b gY_94) 17 = .ok (.iload_n 3, 1) by decide +kernel) rfl rfl ?_
    refine gj_nn (fun hx18 => ?_)
    refine gj_c0 (pc := 18) (Y' := gY_70) (y := yX5_at) (vs := [gR 5 (v26), gI (l3)]) (rest := []) (rs := fun v27 => [gR 0 (v27)]) [gI (l3), gR 5 (v26)] rfl (hm_70 hG (v26) (l3)) rfl (gh_V (t := 5) (vs := [gI (l3)]) (rest := []) (show decode (gy_b gY_94) 18 = .ok (.invokevirtual 119, 3) by decide +kernel) rfl hx18 rfl rfl (ok_70 (by decide) (by decide)) wd_1037 wd_927 wd_928 (Nat.le_of_ble_eq_true rfl)) (fun _ => rfl) ?_
    intro v27 M28 n29 c30
    refine gr_getfN (pc := 21) (index := 244) (t := 0) (j := 1) (σ := 0) (sv := gI) (show decode (gy_b gY_94) 21 = .ok (.getfield 244, 3) by decide +kernel) rfl rfl (fun _ => rfl) wd_140 (by decide) ?_
    intro v31
    refine gr_istore (pc := 24) (i := 4) (L' := [gR 7 (l0), gR 3 (l1), gR 0 (l2), gI (l3), gI (v31), gB]) (show decode (gy_b gY_94) 24 = .ok (.istore 4, 2) by decide +kernel) (by decide) rfl rfl ?_
    refine gr_iload (pc := 26) (i := 4) (v31) (show decode (gy_b gY_94) 26 = .ok (.iload 4, 2) by decide +kernel) rfl ?_
    refine gr_aload_n (pc := 28) (i := 2) 0 (l2) (show decode (gy_b gY_94) 28 = .ok (.aload_n 2, 1) by decide +kernel) rfl rfl ?_
    refine gr_getfN (pc := 29) (index := 244) (t := 0) (j := 1) (σ := 0) (sv := gI) (show decode (gy_b gY_94) 29 = .ok (.getfield 244, 3) by decide +kernel) rfl rfl (fun _ => rfl) wd_140 (by decide) ?_
    intro v32
    refine gr_icmp_eq (pc := 32) (tgt := 53) (off := 21) hG.2.1 (show decode (gy_b gY_94) 32 = .ok (.if_icmp .eq (21), 3) by decide +kernel) (by decide) ?_ ?_
    · refine gr_wk [true, true, true, true, false, true] rfl ?_
      exact h_94_L53 hG hi_2 (l0) (l1) (l2) (l3) M28 n29 c30
    · refine gr_aload_n (pc := 35) (i := 2) 0 (l2) (show decode (gy_b gY_94) 35 = .ok (.aload_n 2, 1) by decide +kernel) rfl rfl ?_
      refine gr_getfN (pc := 36) (index := 249) (t := 0) (j := 2) (σ := 1) (sv := gI) (show decode (gy_b gY_94) 36 = .ok (.getfield 249, 3) by decide +kernel) rfl rfl (fun _ => rfl) wd_143 (by decide) ?_
      intro v44
      refine gr_bipush (pc := 39) (z := 99) 99 (show decode (gy_b gY_94) 39 = .ok (.bipush (99), 2) by decide +kernel) (by decide +kernel) ?_
      refine gr_icmp_ne (pc := 41) (tgt := 57) (off := 16) hG.2.1 (show decode (gy_b gY_94) 41 = .ok (.if_icmp .ne (16), 3) by decide +kernel) (by decide) ?_ ?_
      · refine gr_wk [true, true, true, true, false, true] rfl ?_
        exact h_94_L57 hG hi_2 (l0) (l1) (l2) (l3) M28 n29 c30
      · refine gr_iload (pc := 44) (i := 4) (v31) (show decode (gy_b gY_94) 44 = .ok (.iload 4, 2) by decide +kernel) rfl ?_
        refine gr_aload_n (pc := 46) (i := 2) 0 (l2) (show decode (gy_b gY_94) 46 = .ok (.aload_n 2, 1) by decide +kernel) rfl rfl ?_
        refine gr_getfN (pc := 47) (index := 252) (t := 0) (j := 4) (σ := 0) (sv := gI) (show decode (gy_b gY_94) 47 = .ok (.getfield 252, 3) by decide +kernel) rfl rfl (fun _ => rfl) wd_148 (by decide) ?_
        intro v45
        refine gr_icmp_ne (pc := 50) (tgt := 57) (off := 7) hG.2.1 (show decode (gy_b gY_94) 50 = .ok (.if_icmp .ne (7), 3) by decide +kernel) (by decide) ?_ ?_
        · refine gr_wk [true, true, true, true, false, true] rfl ?_
          exact h_94_L57 hG hi_2 (l0) (l1) (l2) (l3) M28 n29 c30
        · refine gr_wk [true, true, true, true, false, true] rfl ?_
          exact h_94_L53 hG hi_2 (l0) (l1) (l2) (l3) M28 n29 c30
noncomputable def fi_94_W2 (K : Nat → Nat → Nat → Nat → Bool) (u : Nat) : Nat → Nat → Nat → Nat → Nat → Nat → Nat → Bool := Nat.rec (motive := fun _ => Nat → Nat → Nat → Nat → Nat → Nat → Nat → Bool) (fun _ _ _ _ _ _ _ => false) (fun _ ih => fi_94_B2 K ih) u
theorem hw_94_2 {G : gxG} (hG : gxG0 G) {K : Nat → Nat → Nat → Nat → Bool} (u : Nat) : ∀ l0 l1 l2 l3 M n c : Nat, gxJ G gY_94 K 2 [] [gR 7 (l0), gR 3 (l1), gR 0 (l2), gI (l3), gB, gB] M n c (fi_94_W2 K u l0 l1 l2 l3 M n c) := by
  induction u with
  | zero => intro l0 l1 l2 l3 M n c; exact gj_false
  | succ u ih => intro l0 l1 l2 l3 M n c; exact hb_94_B2 hG ih l0 l1 l2 l3 M n c
noncomputable def fi_94_L0 (K : Nat → Nat → Nat → Nat → Bool) (l0 l1 l2 M n c : Nat) : Bool := fi_94_W2 K 65536 (l0) (l1) (l2) (0) M n c
theorem h_94_L0 {G : gxG} (hG : gxG0 G) {K : Nat → Nat → Nat → Nat → Bool} (l0 l1 l2 M n c : Nat) : gxJ G gY_94 K 0 [] [gR 7 (l0), gR 3 (l1), gR 0 (l2), gB, gB, gB] M n c (fi_94_L0 K l0 l1 l2 M n c) := by
  unfold fi_94_L0
  refine gr_iconst (pc := 0) (z := 0) 0 (show decode (gy_b gY_94) 0 = .ok (.iconst (0), 1) by decide +kernel) kc_0 ?_
  refine gr_istore_n (pc := 1) (i := 3) (L' := [gR 7 (l0), gR 3 (l1), gR 0 (l2), gI (0), gB, gB]) (show decode (gy_b gY_94) 1 = .ok (.istore_n 3, 1) by decide +kernel) rfl (by decide) rfl rfl ?_
  exact hw_94_2 hG 65536 (l0) (l1) (l2) (0) M n c
noncomputable def fi_94 (l0 l1 l2 M n c : Nat) (K : Nat → Nat → Nat → Nat → Bool) : Bool := fi_94_L0 K l0 l1 l2 M n c
theorem hm_94 {G : gxG} (hG : gxG0 G) (l0 l1 l2 : Nat) : gxM G gY_94 yX7_enter [gR 7 (l0), gR 3 (l1), gR 0 (l2)] (fi_94 l0 l1 l2) := gxM_of (L := [gR 7 (l0), gR 3 (l1), gR 0 (l2), gB, gB, gB]) hG 3 (by decide +kernel) rfl rfl rfl rfl (List.forall_mem_cons.mpr ⟨rfl, List.forall_mem_cons.mpr ⟨rfl, List.forall_mem_cons.mpr ⟨rfl, fun _ h => nomatch h⟩⟩⟩) (fun M n c K => h_94_L0 hG  l0 l1 l2 M n c)
/-! Farfiles addEntry (LFarfiles$Client;III)V -/
def gY_95 : gxY := (false, prog_1_method_36_code, 5, (Option.none : Option FieldType), "Farfiles", 5, 135, 5, [], "addEntry")
theorem ok_95 {Y : gxY} (h1 : gy_f gY_95 + 1 ≤ gy_f Y) (h2 : 8 + (gy_l gY_95 + 11) + gy_k gY_95 ≤ gy_k Y) : gh_ok Y gY_95 yX7_addEntry 4 := ⟨wd_1029, wd_51, ⟨by decide, by decide⟩, by decide +kernel, h1, h2⟩
noncomputable def fi_95_L0 (K : Nat → Nat → Nat → Nat → Bool) (l0 l1 l2 l3 l4 M n c : Nat) : Bool := gx_new 8 n c (fun v1 n2 c3 => gx_get (l1) 0 M (fun v4 => gx_nn (v1) (fi_2 (v1) (v4) (l2) (97) (l3) (l4) (2) M n2 c3 (fun v5 M6 n7 c8 => gx_nn (l0) (fi_94 (l0) (l1) (v1) M6 n7 c8 (fun v9 M10 n11 c12 => K 0 M10 n11 c12))))))
theorem h_95_L0 {G : gxG} (hG : gxG0 G) {K : Nat → Nat → Nat → Nat → Bool} (l0 l1 l2 l3 l4 M n c : Nat) : gxJ G gY_95 K 0 [] [gR 7 (l0), gR 3 (l1), gI (l2), gI (l3), gI (l4)] M n c (fi_95_L0 K l0 l1 l2 l3 l4 M n c) := by
  unfold fi_95_L0
  refine gr_aload_n (pc := 0) (i := 0) 7 (l0) (show decode (gy_b gY_95) 0 = .ok (.aload_n 0, 1) by decide +kernel) rfl rfl ?_
  refine gr_aload_n (pc := 1) (i := 1) 3 (l1) (show decode (gy_b gY_95) 1 = .ok (.aload_n 1, 1) by decide +kernel) rfl rfl ?_
  refine gr_newo (pc := 2) (index := 245) (t := 0) (show decode (gy_b gY_95) 2 = .ok (.new 245, 3) by decide +kernel) rfl wd_1030 wd_117 wd_54 ?_
  intro v1 n2 c3
  refine gr_dup (b := gB) (pc := 5) (show decode (gy_b gY_95) 5 = .ok (.dup, 1) by decide +kernel) rfl ?_
  refine gr_aload_n (pc := 6) (i := 1) 3 (l1) (show decode (gy_b gY_95) 6 = .ok (.aload_n 1, 1) by decide +kernel) rfl rfl ?_
  refine gr_getfN (pc := 7) (index := 284) (t := 3) (j := 0) (σ := 0) (sv := gI) (show decode (gy_b gY_95) 7 = .ok (.getfield 284, 3) by decide +kernel) rfl rfl (fun _ => rfl) wd_253 (by decide) ?_
  intro v4
  refine gr_iload_n (pc := 10) (i := 2) (l2) (show decode (gy_b gY_95) 10 = .ok (.iload_n 2, 1) by decide +kernel) rfl rfl ?_
  refine gr_bipush (pc := 11) (z := 97) 97 (show decode (gy_b gY_95) 11 = .ok (.bipush (97), 2) by decide +kernel) (by decide +kernel) ?_
  refine gr_iload_n (pc := 13) (i := 3) (l3) (show decode (gy_b gY_95) 13 = .ok (.iload_n 3, 1) by decide +kernel) rfl rfl ?_
  refine gr_iload (pc := 14) (i := 4) (l4) (show decode (gy_b gY_95) 14 = .ok (.iload 4, 2) by decide +kernel) rfl ?_
  refine gr_nosigns (pc := 16) (index := 287) (show decode (gy_b gY_95) 16 = .ok (.getstatic 287, 3) by decide +kernel) wd_1031 ?_
  refine gj_nn (fun hx19 => ?_)
  refine gj_c0 (pc := 19) (Y' := gY_2) (y := yX0_init) (vs := [gR 0 (v1), gI (v4), gI (l2), gI (97), gI (l3), gI (l4), gR 65 (2)]) (rest := [gR 0 (v1), gR 3 (l1), gR 7 (l0)]) (rs := fun v5 => [gR 0 (v1), gR 3 (l1), gR 7 (l0)]) [gR 65 (2), gI (l4), gI (l3), gI (97), gI (l2), gI (v4), gR 0 (v1)] rfl (hm_2 hG (v1) (v4) (l2) (97) (l3) (l4) (2)) rfl (gh_I (t := 0) (vs := [gI (v4), gI (l2), gI (97), gI (l3), gI (l4), gR 65 (2)]) (rest := [gR 0 (v1), gR 3 (l1), gR 7 (l0)]) (show decode (gy_b gY_95) 19 = .ok (.invokespecial 291, 3) by decide +kernel) rfl hx19 rfl (ok_2 (by decide) (by decide)) rfl rfl rfl rfl wd_1032 wd_121 (Nat.le_of_ble_eq_true rfl)) (fun _ => rfl) ?_
  intro v5 M6 n7 c8
  refine gj_nn (fun hx22 => ?_)
  refine gj_c0 (pc := 22) (Y' := gY_94) (y := yX7_enter) (vs := [gR 7 (l0), gR 3 (l1), gR 0 (v1)]) (rest := []) (rs := fun v9 => [gI (v9)]) [gR 0 (v1), gR 3 (l1), gR 7 (l0)] rfl (hm_94 hG (l0) (l1) (v1)) rfl (gh_V (t := 7) (vs := [gR 3 (l1), gR 0 (v1)]) (rest := []) (show decode (gy_b gY_95) 22 = .ok (.invokevirtual 294, 3) by decide +kernel) rfl hx22 rfl rfl (ok_94 (by decide) (by decide)) wd_1033 wd_1035 wd_28 (Nat.le_of_ble_eq_true rfl)) (fun _ => rfl) ?_
  intro v9 M10 n11 c12
  refine gr_pop (b := gB) (pc := 25) (show decode (gy_b gY_95) 25 = .ok (.pop, 1) by decide +kernel) rfl ?_
  exact gr_return (pc := 26) (show decode (gy_b gY_95) 26 = .ok (.return_, 1) by decide +kernel) rfl rfl
noncomputable def fi_95 (l0 l1 l2 l3 l4 M n c : Nat) (K : Nat → Nat → Nat → Nat → Bool) : Bool := fi_95_L0 K l0 l1 l2 l3 l4 M n c
theorem hm_95 {G : gxG} (hG : gxG0 G) (l0 l1 l2 l3 l4 : Nat) : gxM G gY_95 yX7_addEntry [gR 7 (l0), gR 3 (l1), gI (l2), gI (l3), gI (l4)] (fi_95 l0 l1 l2 l3 l4) := gxM_of (L := [gR 7 (l0), gR 3 (l1), gI (l2), gI (l3), gI (l4)]) hG 0 (by decide +kernel) rfl rfl rfl rfl (List.forall_mem_cons.mpr ⟨rfl, List.forall_mem_cons.mpr ⟨rfl, List.forall_mem_cons.mpr ⟨rfl, List.forall_mem_cons.mpr ⟨rfl, List.forall_mem_cons.mpr ⟨rfl, fun _ h => nomatch h⟩⟩⟩⟩⟩) (fun M n c K => h_95_L0 hG  l0 l1 l2 l3 l4 M n c)
/-! Farfiles makeIn (LFarfiles$Client;IZ)I -/
def gY_96 : gxY := (false, prog_1_method_38_code, 5, (Option.some Jvm.ClassFile.FieldType.int), "Farfiles", 6, 159, 0, [], "makeIn")
theorem ok_96 {Y : gxY} (h1 : gy_f gY_96 + 1 ≤ gy_f Y) (h2 : 8 + (gy_l gY_96 + 11) + gy_k gY_96 ≤ gy_k Y) : gh_ok Y gY_96 yX7_makeIn 3 := ⟨wd_1008, wd_51, ⟨by decide, by decide⟩, by decide +kernel, h1, h2⟩
noncomputable def fi_96_L99 (K : Nat → Nat → Nat → Nat → Bool) (l0 l1 l2 l4 M n c : Nat) : Bool := gx_get (l0) 1 M (fun v36 => gx_nn (l1) (fi_67 (l1) (v36) (l4) M n c (fun v37 M38 n39 c40 => gx_get (l0) 8 M38 (fun v41 => gx_nn (v41) (fi_86 (v41) M38 n39 c40 (fun v42 M43 n44 c45 => gx_nn (l0) (fi_95 (l0) (l1) (l2) (v42) (l4) M43 n44 c45 (fun v46 M47 n48 c49 => gx_rt gx_f0 (l4) (K (l4) M47 n48 c49)))))))))
theorem h_96_L99 {G : gxG} (hG : gxG0 G) {K : Nat → Nat → Nat → Nat → Bool} (l0 l1 l2 l4 M n c : Nat) : gxJ G gY_96 K 99 [] [gR 7 (l0), gR 3 (l1), gI (l2), gB, gI (l4)] M n c (fi_96_L99 K l0 l1 l2 l4 M n c) := by
  unfold fi_96_L99
  refine gr_aload_n (pc := 99) (i := 1) 3 (l1) (show decode (gy_b gY_96) 99 = .ok (.aload_n 1, 1) by decide +kernel) rfl rfl ?_
  refine gr_aload_n (pc := 100) (i := 0) 7 (l0) (show decode (gy_b gY_96) 100 = .ok (.aload_n 0, 1) by decide +kernel) rfl rfl ?_
  refine gr_getf (pc := 101) (index := 19) (t := 7) (j := 1) (σ := 13) (sv := (gR 5)) (show decode (gy_b gY_96) 101 = .ok (.getfield 19, 3) by decide +kernel) rfl rfl (fun _ => rfl) wd_295 (by decide) ?_
  intro v36
  refine gr_iload (pc := 104) (i := 4) (l4) (show decode (gy_b gY_96) 104 = .ok (.iload 4, 2) by decide +kernel) rfl ?_
  refine gj_nn (fun hx106 => ?_)
  refine gj_c0 (pc := 106) (Y' := gY_67) (y := yX3_takeUp) (vs := [gR 3 (l1), gR 5 (v36), gI (l4)]) (rest := []) (rs := fun v37 => []) [gI (l4), gR 5 (v36), gR 3 (l1)] rfl (hm_67 hG (l1) (v36) (l4)) rfl (gh_V (t := 3) (vs := [gR 5 (v36), gI (l4)]) (rest := []) (show decode (gy_b gY_96) 106 = .ok (.invokevirtual 187, 3) by decide +kernel) rfl hx106 rfl rfl (ok_67 (by decide) (by decide)) wd_934 wd_935 wd_936 (Nat.le_of_ble_eq_true rfl)) (fun _ => rfl) ?_
  intro v37 M38 n39 c40
  refine gr_aload_n (pc := 109) (i := 0) 7 (l0) (show decode (gy_b gY_96) 109 = .ok (.aload_n 0, 1) by decide +kernel) rfl rfl ?_
  refine gr_aload_n (pc := 110) (i := 1) 3 (l1) (show decode (gy_b gY_96) 110 = .ok (.aload_n 1, 1) by decide +kernel) rfl rfl ?_
  refine gr_iload_n (pc := 111) (i := 2) (l2) (show decode (gy_b gY_96) 111 = .ok (.iload_n 2, 1) by decide +kernel) rfl rfl ?_
  refine gr_aload_n (pc := 112) (i := 0) 7 (l0) (show decode (gy_b gY_96) 112 = .ok (.aload_n 0, 1) by decide +kernel) rfl rfl ?_
  refine gr_getf (pc := 113) (index := 55) (t := 7) (j := 8) (σ := 14) (sv := (gR 6)) (show decode (gy_b gY_96) 113 = .ok (.getfield 55, 3) by decide +kernel) rfl rfl (fun _ => rfl) wd_302 (by decide) ?_
  intro v41
  refine gj_nn (fun hx116 => ?_)
  refine gj_c0 (pc := 116) (Y' := gY_86) (y := yX6_lastName) (vs := [gR 6 (v41)]) (rest := [gI (l2), gR 3 (l1), gR 7 (l0)]) (rs := fun v42 => [gI (v42), gI (l2), gR 3 (l1), gR 7 (l0)]) [gR 6 (v41)] rfl (hm_86 hG (v41)) rfl (gh_V (t := 6) (vs := []) (rest := [gI (l2), gR 3 (l1), gR 7 (l0)]) (show decode (gy_b gY_96) 116 = .ok (.invokevirtual 228, 3) by decide +kernel) rfl hx116 rfl rfl (ok_86 (by decide) (by decide)) wd_1009 wd_1010 wd_1011 (Nat.le_of_ble_eq_true rfl)) (fun _ => rfl) ?_
  intro v42 M43 n44 c45
  refine gr_iload (pc := 119) (i := 4) (l4) (show decode (gy_b gY_96) 119 = .ok (.iload 4, 2) by decide +kernel) rfl ?_
  refine gj_nn (fun hx121 => ?_)
  refine gj_c0 (pc := 121) (Y' := gY_95) (y := yX7_addEntry) (vs := [gR 7 (l0), gR 3 (l1), gI (l2), gI (v42), gI (l4)]) (rest := []) (rs := fun v46 => []) [gI (l4), gI (v42), gI (l2), gR 3 (l1), gR 7 (l0)] rfl (hm_95 hG (l0) (l1) (l2) (v42) (l4)) rfl (gh_V (t := 7) (vs := [gR 3 (l1), gI (l2), gI (v42), gI (l4)]) (rest := []) (show decode (gy_b gY_96) 121 = .ok (.invokevirtual 308, 3) by decide +kernel) rfl hx121 rfl rfl (ok_95 (by decide) (by decide)) wd_1026 wd_1028 wd_27 (Nat.le_of_ble_eq_true rfl)) (fun _ => rfl) ?_
  intro v46 M47 n48 c49
  refine gr_iload (pc := 124) (i := 4) (l4) (show decode (gy_b gY_96) 124 = .ok (.iload 4, 2) by decide +kernel) rfl ?_
  exact gr_ireturn (pc := 126) (show decode (gy_b gY_96) 126 = .ok (.ireturn, 1) by decide +kernel) rfl rfl (by decide) gv_0
noncomputable def fi_96_L51 (K : Nat → Nat → Nat → Nat → Bool) (l0 l1 l2 l3 l4 M n c : Nat) : Bool := gx_get (l0) 1 M (fun v20 => gx_nn (l1) (fi_66 (l1) (v20) M n c (fun v21 M22 n23 c24 => gx_eq (v21) 0 (false) (gx_nn (l0) (fi_89 (l0) (1) M22 n23 c24 (fun v25 M26 n27 c28 => gx_get (l1) 10 M26 (fun v29 => gx_add (v29) (1) (fun z30 => gx_put (l1) 10 (z30) M26 gx_f0 (fun M31 => gx_get (l0) 6 M31 (fun v32 => gx_ast (v32) (l4) (1) M31 gx_f2 (fun M33 => gx_get (l0) 7 M33 (fun v34 => gx_ast (v34) (l4) (l3) M33 gx_f2 (fun M35 => fi_96_L99 K (l0) (l1) (l2) (l4) M35 n27 c28)))))))))))))
theorem h_96_L51 {G : gxG} (hG : gxG0 G) {K : Nat → Nat → Nat → Nat → Bool} (l0 l1 l2 l3 l4 M n c : Nat) : gxJ G gY_96 K 51 [] [gR 7 (l0), gR 3 (l1), gI (l2), gI (l3), gI (l4)] M n c (fi_96_L51 K l0 l1 l2 l3 l4 M n c) := by
  unfold fi_96_L51
  refine gr_aload_n (pc := 51) (i := 1) 3 (l1) (show decode (gy_b gY_96) 51 = .ok (.aload_n 1, 1) by decide +kernel) rfl rfl ?_
  refine gr_aload_n (pc := 52) (i := 0) 7 (l0) (show decode (gy_b gY_96) 52 = .ok (.aload_n 0, 1) by decide +kernel) rfl rfl ?_
  refine gr_getf (pc := 53) (index := 19) (t := 7) (j := 1) (σ := 13) (sv := (gR 5)) (show decode (gy_b gY_96) 53 = .ok (.getfield 19, 3) by decide +kernel) rfl rfl (fun _ => rfl) wd_295 (by decide) ?_
  intro v20
  refine gj_nn (fun hx56 => ?_)
  refine gj_c0 (pc := 56) (Y' := gY_66) (y := yX3_hasRoom) (vs := [gR 3 (l1), gR 5 (v20)]) (rest := []) (rs := fun v21 => [gI (v21)]) [gR 5 (v20), gR 3 (l1)] rfl (hm_66 hG (l1) (v20)) rfl (gh_V (t := 3) (vs := [gR 5 (v20)]) (rest := []) (show decode (gy_b gY_96) 56 = .ok (.invokevirtual 183, 3) by decide +kernel) rfl hx56 rfl rfl (ok_66 (by decide) (by decide)) wd_910 wd_911 wd_912 (Nat.le_of_ble_eq_true rfl)) (fun _ => rfl) ?_
  intro v21 M22 n23 c24
  refine gr_ifne (pc := 59) (tgt := 68) (off := 9) hG.2.1 (show decode (gy_b gY_96) 59 = .ok (.ifCond .ne (9), 3) by decide +kernel) (by decide) ?_ ?_
  · refine gr_aload_n (pc := 68) (i := 0) 7 (l0) (show decode (gy_b gY_96) 68 = .ok (.aload_n 0, 1) by decide +kernel) rfl rfl ?_
    refine gr_iconst (pc := 69) (z := 1) 1 (show decode (gy_b gY_96) 69 = .ok (.iconst (1), 1) by decide +kernel) kc_1 ?_
    refine gj_nn (fun hx70 => ?_)
    refine gj_c0 (pc := 70) (Y' := gY_89) (y := yX7_refuseIfTooFew) (vs := [gR 7 (l0), gI (1)]) (rest := []) (rs := fun v25 => []) [gI (1), gR 7 (l0)] rfl (hm_89 hG (l0) (1)) rfl (gh_V (t := 7) (vs := [gI (1)]) (rest := []) (show decode (gy_b gY_96) 70 = .ok (.invokevirtual 305, 3) by decide +kernel) rfl hx70 rfl rfl (ok_89 (by decide) (by decide)) wd_1018 wd_1020 wd_26 (Nat.le_of_ble_eq_true rfl)) (fun _ => rfl) ?_
    intro v25 M26 n27 c28
    refine gr_aload_n (pc := 73) (i := 1) 3 (l1) (show decode (gy_b gY_96) 73 = .ok (.aload_n 1, 1) by decide +kernel) rfl rfl ?_
    refine gr_dup (b := gB) (pc := 74) (show decode (gy_b gY_96) 74 = .ok (.dup, 1) by decide +kernel) rfl ?_
    refine gr_getfN (pc := 75) (index := 302) (t := 3) (j := 10) (σ := 0) (sv := gI) (show decode (gy_b gY_96) 75 = .ok (.getfield 302, 3) by decide +kernel) rfl rfl (fun _ => rfl) wd_267 (by decide) ?_
    intro v29
    refine gr_iconst (pc := 78) (z := 1) 1 (show decode (gy_b gY_96) 78 = .ok (.iconst (1), 1) by decide +kernel) kc_1 ?_
    refine gr_iadd (pc := 79) (show decode (gy_b gY_96) 79 = .ok (.iadd, 1) by decide +kernel) ?_
    intro z30
    refine gr_putfN (pc := 80) (index := 302) (t := 3) (j := 10) (σ := 0) (sv := gI) (f := gx_f0) (ty := .int) (show decode (gy_b gY_96) 80 = .ok (.putfield 302, 3) by decide +kernel) rfl rfl (fun _ => rfl) wd_267 rfl gv_0 rfl ?_
    intro M31
    refine gr_aload_n (pc := 83) (i := 0) 7 (l0) (show decode (gy_b gY_96) 83 = .ok (.aload_n 0, 1) by decide +kernel) rfl rfl ?_
    refine gr_getf (pc := 84) (index := 46) (t := 7) (j := 6) (σ := 74) (sv := (gR 66)) (show decode (gy_b gY_96) 84 = .ok (.getfield 46, 3) by decide +kernel) rfl rfl (fun _ => rfl) wd_300 (by decide) ?_
    intro v32
    refine gr_iload (pc := 87) (i := 4) (l4) (show decode (gy_b gY_96) 87 = .ok (.iload 4, 2) by decide +kernel) rfl ?_
    refine gr_iconst (pc := 89) (z := 1) 1 (show decode (gy_b gY_96) 89 = .ok (.iconst (1), 1) by decide +kernel) kc_1 ?_
    refine gr_zast (pc := 90) hG.2.1 (show decode (gy_b gY_96) 90 = .ok (.bastore, 1) by decide +kernel) ?_
    intro M33
    refine gr_aload_n (pc := 91) (i := 0) 7 (l0) (show decode (gy_b gY_96) 91 = .ok (.aload_n 0, 1) by decide +kernel) rfl rfl ?_
    refine gr_getf (pc := 92) (index := 49) (t := 7) (j := 7) (σ := 74) (sv := (gR 66)) (show decode (gy_b gY_96) 92 = .ok (.getfield 49, 3) by decide +kernel) rfl rfl (fun _ => rfl) wd_301 (by decide) ?_
    intro v34
    refine gr_iload (pc := 95) (i := 4) (l4) (show decode (gy_b gY_96) 95 = .ok (.iload 4, 2) by decide +kernel) rfl ?_
    refine gr_iload_n (pc := 97) (i := 3) (l3) (show decode (gy_b gY_96) 97 = .ok (.iload_n 3, 1) by decide +kernel) rfl rfl ?_
    refine gr_zast (pc := 98) hG.2.1 (show decode (gy_b gY_96) 98 = .ok (.bastore, 1) by decide +kernel) ?_
    intro M35
    refine gr_wk [true, true, true, false, true] rfl ?_
    exact h_96_L99 hG (l0) (l1) (l2) (l4) M35 n27 c28
  · exact gj_false
noncomputable def fi_96_L0 (K : Nat → Nat → Nat → Nat → Bool) (l0 l1 l2 l3 M n c : Nat) : Bool := gx_get (l0) 8 M (fun v1 => gx_nn (v1) (fi_86 (v1) M n c (fun v2 M3 n4 c5 => gx_nn (l0) (fi_87 (l0) (l1) (l2) (v2) M3 n4 c5 (fun v6 M7 n8 c9 => gx_get (l1) 10 M7 (fun v10 => gx_mul (4) (v10) (fun z11 => gx_get (l1) 0 M7 (fun v12 => gx_add (z11) (v12) (fun z13 => gx_add (z13) (1) (fun z14 => gx_get (l1) 10 M7 (fun v15 => gx_lt (v15) (12) (fi_63 (z14) M7 n8 c9 (fun v16 M17 n18 c19 => gx_eq (v16) 0 (false) (fi_96_L51 K (l0) (l1) (l2) (l3) (z14) M17 n18 c19))) (false))))))))))))
theorem h_96_L0 {G : gxG} (hG : gxG0 G) {K : Nat → Nat → Nat → Nat → Bool} (l0 l1 l2 l3 M n c : Nat) : gxJ G gY_96 K 0 [] [gR 7 (l0), gR 3 (l1), gI (l2), gI (l3), gB] M n c (fi_96_L0 K l0 l1 l2 l3 M n c) := by
  unfold fi_96_L0
  refine gr_aload_n (pc := 0) (i := 0) 7 (l0) (show decode (gy_b gY_96) 0 = .ok (.aload_n 0, 1) by decide +kernel) rfl rfl ?_
  refine gr_aload_n (pc := 1) (i := 1) 3 (l1) (show decode (gy_b gY_96) 1 = .ok (.aload_n 1, 1) by decide +kernel) rfl rfl ?_
  refine gr_iload_n (pc := 2) (i := 2) (l2) (show decode (gy_b gY_96) 2 = .ok (.iload_n 2, 1) by decide +kernel) rfl rfl ?_
  refine gr_aload_n (pc := 3) (i := 0) 7 (l0) (show decode (gy_b gY_96) 3 = .ok (.aload_n 0, 1) by decide +kernel) rfl rfl ?_
  refine gr_getf (pc := 4) (index := 55) (t := 7) (j := 8) (σ := 14) (sv := (gR 6)) (show decode (gy_b gY_96) 4 = .ok (.getfield 55, 3) by decide +kernel) rfl rfl (fun _ => rfl) wd_302 (by decide) ?_
  intro v1
  refine gj_nn (fun hx7 => ?_)
  refine gj_c0 (pc := 7) (Y' := gY_86) (y := yX6_lastName) (vs := [gR 6 (v1)]) (rest := [gI (l2), gR 3 (l1), gR 7 (l0)]) (rs := fun v2 => [gI (v2), gI (l2), gR 3 (l1), gR 7 (l0)]) [gR 6 (v1)] rfl (hm_86 hG (v1)) rfl (gh_V (t := 6) (vs := []) (rest := [gI (l2), gR 3 (l1), gR 7 (l0)]) (show decode (gy_b gY_96) 7 = .ok (.invokevirtual 228, 3) by decide +kernel) rfl hx7 rfl rfl (ok_86 (by decide) (by decide)) wd_1009 wd_1010 wd_1011 (Nat.le_of_ble_eq_true rfl)) (fun _ => rfl) ?_
  intro v2 M3 n4 c5
  refine gj_nn (fun hx10 => ?_)
  refine gj_c0 (pc := 10) (Y' := gY_87) (y := yX7_refuseIfThere) (vs := [gR 7 (l0), gR 3 (l1), gI (l2), gI (v2)]) (rest := []) (rs := fun v6 => []) [gI (v2), gI (l2), gR 3 (l1), gR 7 (l0)] rfl (hm_87 hG (l0) (l1) (l2) (v2)) rfl (gh_V (t := 7) (vs := [gR 3 (l1), gI (l2), gI (v2)]) (rest := []) (show decode (gy_b gY_96) 10 = .ok (.invokevirtual 298, 3) by decide +kernel) rfl hx10 rfl rfl (ok_87 (by decide) (by decide)) wd_1014 wd_1016 wd_25 (Nat.le_of_ble_eq_true rfl)) (fun _ => rfl) ?_
  intro v6 M7 n8 c9
  refine gr_iconst (pc := 13) (z := 4) 4 (show decode (gy_b gY_96) 13 = .ok (.iconst (4), 1) by decide +kernel) kc_4 ?_
  refine gr_aload_n (pc := 14) (i := 1) 3 (l1) (show decode (gy_b gY_96) 14 = .ok (.aload_n 1, 1) by decide +kernel) rfl rfl ?_
  refine gr_getfN (pc := 15) (index := 302) (t := 3) (j := 10) (σ := 0) (sv := gI) (show decode (gy_b gY_96) 15 = .ok (.getfield 302, 3) by decide +kernel) rfl rfl (fun _ => rfl) wd_267 (by decide) ?_
  intro v10
  refine gr_imul (pc := 18) (show decode (gy_b gY_96) 18 = .ok (.imul, 1) by decide +kernel) ?_
  intro z11
  refine gr_aload_n (pc := 19) (i := 1) 3 (l1) (show decode (gy_b gY_96) 19 = .ok (.aload_n 1, 1) by decide +kernel) rfl rfl ?_
  refine gr_getfN (pc := 20) (index := 284) (t := 3) (j := 0) (σ := 0) (sv := gI) (show decode (gy_b gY_96) 20 = .ok (.getfield 284, 3) by decide +kernel) rfl rfl (fun _ => rfl) wd_253 (by decide) ?_
  intro v12
  refine gr_iadd (pc := 23) (show decode (gy_b gY_96) 23 = .ok (.iadd, 1) by decide +kernel) ?_
  intro z13
  refine gr_iconst (pc := 24) (z := 1) 1 (show decode (gy_b gY_96) 24 = .ok (.iconst (1), 1) by decide +kernel) kc_1 ?_
  refine gr_iadd (pc := 25) (show decode (gy_b gY_96) 25 = .ok (.iadd, 1) by decide +kernel) ?_
  intro z14
  refine gr_istore (pc := 26) (i := 4) (L' := [gR 7 (l0), gR 3 (l1), gI (l2), gI (l3), gI (z14)]) (show decode (gy_b gY_96) 26 = .ok (.istore 4, 2) by decide +kernel) (by decide) rfl rfl ?_
  refine gr_aload_n (pc := 28) (i := 1) 3 (l1) (show decode (gy_b gY_96) 28 = .ok (.aload_n 1, 1) by decide +kernel) rfl rfl ?_
  refine gr_getfN (pc := 29) (index := 302) (t := 3) (j := 10) (σ := 0) (sv := gI) (show decode (gy_b gY_96) 29 = .ok (.getfield 302, 3) by decide +kernel) rfl rfl (fun _ => rfl) wd_267 (by decide) ?_
  intro v15
  refine gr_bipush (pc := 32) (z := 12) 12 (show decode (gy_b gY_96) 32 = .ok (.bipush (12), 2) by decide +kernel) (by decide +kernel) ?_
  refine gr_icmp_ge (pc := 34) (tgt := 45) (off := 11) hG.2.1 (show decode (gy_b gY_96) 34 = .ok (.if_icmp .ge (11), 3) by decide +kernel) (by decide) ?_ ?_
  · exact gj_false
  · refine gr_iload (pc := 37) (i := 4) (z14) (show decode (gy_b gY_96) 37 = .ok (.iload 4, 2) by decide +kernel) rfl ?_
    refine gj_c0 (pc := 39) (Y' := gY_63) (y := yX7_isObject) (vs := [gI (z14)]) (rest := []) (rs := fun v16 => [gI (v16)]) [gI (z14)] rfl (hm_63 hG (z14)) rfl (gh_S (vs := [gI (z14)]) (rest := []) (show decode (gy_b gY_96) 39 = .ok (.invokestatic 123, 3) by decide +kernel) rfl (ok_63 (by decide) (by decide)) rfl rfl wd_976 wd_904 (Nat.le_of_ble_eq_true rfl)) (fun _ => rfl) ?_
    intro v16 M17 n18 c19
    refine gr_ifne (pc := 42) (tgt := 51) (off := 9) hG.2.1 (show decode (gy_b gY_96) 42 = .ok (.ifCond .ne (9), 3) by decide +kernel) (by decide) ?_ ?_
    · exact h_96_L51 hG (l0) (l1) (l2) (l3) (z14) M17 n18 c19
    · exact gj_false
noncomputable def fi_96 (l0 l1 l2 l3 M n c : Nat) (K : Nat → Nat → Nat → Nat → Bool) : Bool := fi_96_L0 K l0 l1 l2 l3 M n c
theorem hm_96 {G : gxG} (hG : gxG0 G) (l0 l1 l2 l3 : Nat) : gxM G gY_96 yX7_makeIn [gR 7 (l0), gR 3 (l1), gI (l2), gI (l3)] (fi_96 l0 l1 l2 l3) := gxM_of (L := [gR 7 (l0), gR 3 (l1), gI (l2), gI (l3), gB]) hG 1 (by decide +kernel) rfl rfl rfl rfl (List.forall_mem_cons.mpr ⟨rfl, List.forall_mem_cons.mpr ⟨rfl, List.forall_mem_cons.mpr ⟨rfl, List.forall_mem_cons.mpr ⟨rfl, fun _ h => nomatch h⟩⟩⟩⟩) (fun M n c K => h_96_L0 hG  l0 l1 l2 l3 M n c)
/-! Farfiles makeFile (I)I -/
def gY_97 : gxY := (false, prog_1_method_39_code, 4, (Option.some Jvm.ClassFile.FieldType.int), "Farfiles", 11, 203, 0, [], "makeFile")
theorem ok_97 {Y : gxY} (h1 : gy_f gY_97 + 1 ≤ gy_f Y) (h2 : 8 + (gy_l gY_97 + 11) + gy_k gY_97 ≤ gy_k Y) : gh_ok Y gY_97 yX7_makeFile 1 := ⟨wd_810, wd_51, ⟨by decide, by decide⟩, by decide +kernel, h1, h2⟩
noncomputable def fi_97_L0 (K : Nat → Nat → Nat → Nat → Bool) (l0 l1 M n c : Nat) : Bool := gx_nn (l0) (fi_51 (l0) (l1) M n c (fun v1 M2 n3 c4 => gx_nn (l0) (fi_62 (l0) M2 n3 c4 (fun v5 M6 n7 c8 => gx_lt (v5) 0 (false) (gx_get (l0) 8 M6 (fun v9 => gx_nn (l0) (fi_85 (l0) (v1) (v9) M6 n7 c8 (fun v10 M11 n12 c13 => gx_nth v10 (gx_nn (l0) (fi_96 (l0) (v1) (v10) (0) M11 n12 c13 (fun v14 M15 n16 c17 => gx_rt gx_f0 (v14) (K (v14) M15 n16 c17))))))))))))
theorem h_97_L0 {G : gxG} (hG : gxG0 G) {K : Nat → Nat → Nat → Nat → Bool} (l0 l1 M n c : Nat) : gxJ G gY_97 K 0 [] [gR 7 (l0), gI (l1), gB, gB] M n c (fi_97_L0 K l0 l1 M n c) := by
  unfold fi_97_L0
  refine gr_aload_n (pc := 0) (i := 0) 7 (l0) (show decode (gy_b gY_97) 0 = .ok (.aload_n 0, 1) by decide +kernel) rfl rfl ?_
  refine gr_iload_n (pc := 1) (i := 1) (l1) (show decode (gy_b gY_97) 1 = .ok (.iload_n 1, 1) by decide +kernel) rfl rfl ?_
  refine gj_nn (fun hx2 => ?_)
  refine gj_c0 (pc := 2) (Y' := gY_51) (y := yX7_callerOf) (vs := [gR 7 (l0), gI (l1)]) (rest := []) (rs := fun v1 => [gR 3 (v1)]) [gI (l1), gR 7 (l0)] rfl (hm_51 hG (l0) (l1)) rfl (gh_V (t := 7) (vs := [gI (l1)]) (rest := []) (show decode (gy_b gY_97) 2 = .ok (.invokevirtual 312, 3) by decide +kernel) rfl hx2 rfl rfl (ok_51 (by decide) (by decide)) wd_811 wd_813 wd_12 (Nat.le_of_ble_eq_true rfl)) (fun _ => rfl) ?_
  intro v1 M2 n3 c4
  refine gr_astore_n (pc := 5) (i := 2) (L' := [gR 7 (l0), gI (l1), gR 3 (v1), gB]) (show decode (gy_b gY_97) 5 = .ok (.astore_n 2, 1) by decide +kernel) rfl (by decide) rfl rfl ?_
  refine gr_aload_n (pc := 6) (i := 0) 7 (l0) (show decode (gy_b gY_97) 6 = .ok (.aload_n 0, 1) by decide +kernel) rfl rfl ?_
  refine gj_nn (fun hx7 => ?_)
  refine gj_c0 (pc := 7) (Y' := gY_62) (y := yX7_takePathOfLetters) (vs := [gR 7 (l0)]) (rest := []) (rs := fun v5 => [gI (v5)]) [gR 7 (l0)] rfl (hm_62 hG (l0)) rfl (gh_V (t := 7) (vs := []) (rest := []) (show decode (gy_b gY_97) 7 = .ok (.invokevirtual 315, 3) by decide +kernel) rfl hx7 rfl rfl (ok_62 (by decide) (by decide)) wd_819 wd_821 wd_13 (Nat.le_of_ble_eq_true rfl)) (fun _ => rfl) ?_
  intro v5 M6 n7 c8
  refine gr_istore_n (pc := 10) (i := 3) (L' := [gR 7 (l0), gI (l1), gR 3 (v1), gI (v5)]) (show decode (gy_b gY_97) 10 = .ok (.istore_n 3, 1) by decide +kernel) rfl (by decide) rfl rfl ?_
  refine gr_iload_n (pc := 11) (i := 3) (v5) (show decode (gy_b gY_97) 11 = .ok (.iload_n 3, 1) by decide +kernel) rfl rfl ?_
  refine gr_ifge (pc := 12) (tgt := 19) (off := 7) hG.2.1 (show decode (gy_b gY_97) 12 = .ok (.ifCond .ge (7), 3) by decide +kernel) (by decide) ?_ ?_
  · refine gr_aload_n (pc := 19) (i := 0) 7 (l0) (show decode (gy_b gY_97) 19 = .ok (.aload_n 0, 1) by decide +kernel) rfl rfl ?_
    refine gr_aload_n (pc := 20) (i := 2) 3 (v1) (show decode (gy_b gY_97) 20 = .ok (.aload_n 2, 1) by decide +kernel) rfl rfl ?_
    refine gr_aload_n (pc := 21) (i := 0) 7 (l0) (show decode (gy_b gY_97) 21 = .ok (.aload_n 0, 1) by decide +kernel) rfl rfl ?_
    refine gr_aload_n (pc := 22) (i := 2) 3 (v1) (show decode (gy_b gY_97) 22 = .ok (.aload_n 2, 1) by decide +kernel) rfl rfl ?_
    refine gr_aload_n (pc := 23) (i := 0) 7 (l0) (show decode (gy_b gY_97) 23 = .ok (.aload_n 0, 1) by decide +kernel) rfl rfl ?_
    refine gr_getf (pc := 24) (index := 55) (t := 7) (j := 8) (σ := 14) (sv := (gR 6)) (show decode (gy_b gY_97) 24 = .ok (.getfield 55, 3) by decide +kernel) rfl rfl (fun _ => rfl) wd_302 (by decide) ?_
    intro v9
    refine gj_nn (fun hx27 => ?_)
    refine gj_c2 (pc := 27) (Y' := gY_85) (y := yX7_goToDirectory) (vs := [gR 7 (l0), gR 3 (v1), gR 6 (v9)]) (rest := [gR 3 (v1), gR 7 (l0)]) (rs := fun v10 => [gI (v10), gR 3 (v1), gR 7 (l0)]) [gR 6 (v9), gR 3 (v1), gR 7 (l0)] rfl (hm_85 hG (l0) (v1) (v9)) (gh_V (t := 7) (vs := [gR 3 (v1), gR 6 (v9)]) (rest := [gR 3 (v1), gR 7 (l0)]) (show decode (gy_b gY_97) 27 = .ok (.invokevirtual 318, 3) by decide +kernel) rfl hx27 rfl rfl (ok_85 (by decide) (by decide)) wd_867 wd_869 wd_15 (Nat.le_of_ble_eq_true rfl)) (fun _ => rfl) ?_
    intro v10 M11 n12 c13
    refine gr_iconst (pc := 30) (z := 0) 0 (show decode (gy_b gY_97) 30 = .ok (.iconst (0), 1) by decide +kernel) kc_0 ?_
    refine gj_nn (fun hx31 => ?_)
    refine gj_c0 (pc := 31) (Y' := gY_96) (y := yX7_makeIn) (vs := [gR 7 (l0), gR 3 (v1), gI (v10), gI (0)]) (rest := []) (rs := fun v14 => [gI (v14)]) [gI (0), gI (v10), gR 3 (v1), gR 7 (l0)] rfl (hm_96 hG (l0) (v1) (v10) (0)) rfl (gh_V (t := 7) (vs := [gR 3 (v1), gI (v10), gI (0)]) (rest := []) (show decode (gy_b gY_97) 31 = .ok (.invokevirtual 322, 3) by decide +kernel) rfl hx31 rfl rfl (ok_96 (by decide) (by decide)) wd_1005 wd_1007 wd_24 (Nat.le_of_ble_eq_true rfl)) (fun _ => rfl) ?_
    intro v14 M15 n16 c17
    exact gr_ireturn (pc := 34) (show decode (gy_b gY_97) 34 = .ok (.ireturn, 1) by decide +kernel) rfl rfl (by decide) gv_0
  · exact gj_false
noncomputable def fi_97 (l0 l1 M n c : Nat) (K : Nat → Nat → Nat → Nat → Bool) : Bool := fi_97_L0 K l0 l1 M n c
theorem hm_97 {G : gxG} (hG : gxG0 G) (l0 l1 : Nat) : gxM G gY_97 yX7_makeFile [gR 7 (l0), gI (l1)] (fi_97 l0 l1) := gxM_of (L := [gR 7 (l0), gI (l1), gB, gB]) hG 2 (by decide +kernel) rfl rfl rfl rfl (List.forall_mem_cons.mpr ⟨rfl, List.forall_mem_cons.mpr ⟨rfl, fun _ h => nomatch h⟩⟩) (fun M n c K => h_97_L0 hG  l0 l1 M n c)
/-! Farfiles acts ()I -/
def gY_98 : gxY := (false, prog_1_method_70_code, 1, (Option.some Jvm.ClassFile.FieldType.int), "Farfiles", 1, 40, 0, [], "acts")
theorem ok_98 {Y : gxY} (h1 : gy_f gY_98 + 1 ≤ gy_f Y) (h2 : 8 + (gy_l gY_98 + 11) + gy_k gY_98 ≤ gy_k Y) : gh_ok Y gY_98 yX7_acts 0 := ⟨wd_1064, wd_51, ⟨by decide, by decide⟩, by decide +kernel, h1, h2⟩
noncomputable def fi_98_L0 (K : Nat → Nat → Nat → Nat → Bool) (l0 M n c : Nat) : Bool := gx_get (l0) 1 M (fun v1 => gx_get (v1) 4 M (fun v2 => gx_rt gx_f0 (v2) (K (v2) M n c)))
theorem h_98_L0 {G : gxG} (hG : gxG0 G) {K : Nat → Nat → Nat → Nat → Bool} (l0 M n c : Nat) : gxJ G gY_98 K 0 [] [gR 7 (l0)] M n c (fi_98_L0 K l0 M n c) := by
  unfold fi_98_L0
  refine gr_aload_n (pc := 0) (i := 0) 7 (l0) (show decode (gy_b gY_98) 0 = .ok (.aload_n 0, 1) by decide +kernel) rfl rfl ?_
  refine gr_getf (pc := 1) (index := 19) (t := 7) (j := 1) (σ := 13) (sv := (gR 5)) (show decode (gy_b gY_98) 1 = .ok (.getfield 19, 3) by decide +kernel) rfl rfl (fun _ => rfl) wd_295 (by decide) ?_
  intro v1
  refine gr_getfN (pc := 4) (index := 110) (t := 5) (j := 4) (σ := 0) (sv := gI) (show decode (gy_b gY_98) 4 = .ok (.getfield 110, 3) by decide +kernel) rfl rfl (fun _ => rfl) wd_181 (by decide) ?_
  intro v2
  exact gr_ireturn (pc := 7) (show decode (gy_b gY_98) 7 = .ok (.ireturn, 1) by decide +kernel) rfl rfl (by decide) gv_0
noncomputable def fi_98 (l0 M n c : Nat) (K : Nat → Nat → Nat → Nat → Bool) : Bool := fi_98_L0 K l0 M n c
theorem hm_98 {G : gxG} (hG : gxG0 G) (l0 : Nat) : gxM G gY_98 yX7_acts [gR 7 (l0)] (fi_98 l0) := gxM_of (L := [gR 7 (l0)]) hG 0 (by decide +kernel) rfl rfl rfl rfl (List.forall_mem_cons.mpr ⟨rfl, fun _ h => nomatch h⟩) (fun M n c K => h_98_L0 hG  l0 M n c)
/-! Farfiles actOf (I)LFarfiles$Act; -/
def gY_99 : gxY := (false, prog_1_method_11_code, 2, (Option.some (Jvm.ClassFile.FieldType.object "Farfiles$Act")), "Farfiles", 2, 62, 8, [], "actOf")
theorem ok_99 {Y : gxY} (h1 : gy_f gY_99 + 1 ≤ gy_f Y) (h2 : 8 + (gy_l gY_99 + 11) + gy_k gY_99 ≤ gy_k Y) : gh_ok Y gY_99 yX7_actOf 1 := ⟨wd_1072, wd_51, ⟨by decide, by decide⟩, by decide +kernel, h1, h2⟩
noncomputable def fi_99_L0 (K : Nat → Nat → Nat → Nat → Bool) (l0 l1 M n c : Nat) : Bool := gx_lt (l1) 0 (false) (gx_get (l0) 1 M (fun v1 => gx_get (v1) 4 M (fun v2 => gx_lt (l1) (v2) (gx_get (l0) 1 M (fun v3 => gx_nn (v3) (fi_70 (v3) (l1) M n c (fun v4 M5 n6 c7 => gx_rt gx_f0 (v4) (K (v4) M5 n6 c7))))) (false))))
theorem h_99_L0 {G : gxG} (hG : gxG0 G) {K : Nat → Nat → Nat → Nat → Bool} (l0 l1 M n c : Nat) : gxJ G gY_99 K 0 [] [gR 7 (l0), gI (l1)] M n c (fi_99_L0 K l0 l1 M n c) := by
  unfold fi_99_L0
  refine gr_iload_n (pc := 0) (i := 1) (l1) (show decode (gy_b gY_99) 0 = .ok (.iload_n 1, 1) by decide +kernel) rfl rfl ?_
  refine gr_iflt (pc := 1) (tgt := 15) (off := 14) hG.2.1 (show decode (gy_b gY_99) 1 = .ok (.ifCond .lt (14), 3) by decide +kernel) (by decide) ?_ ?_
  · exact gj_false
  · refine gr_iload_n (pc := 4) (i := 1) (l1) (show decode (gy_b gY_99) 4 = .ok (.iload_n 1, 1) by decide +kernel) rfl rfl ?_
    refine gr_aload_n (pc := 5) (i := 0) 7 (l0) (show decode (gy_b gY_99) 5 = .ok (.aload_n 0, 1) by decide +kernel) rfl rfl ?_
    refine gr_getf (pc := 6) (index := 19) (t := 7) (j := 1) (σ := 13) (sv := (gR 5)) (show decode (gy_b gY_99) 6 = .ok (.getfield 19, 3) by decide +kernel) rfl rfl (fun _ => rfl) wd_295 (by decide) ?_
    intro v1
    refine gr_getfN (pc := 9) (index := 110) (t := 5) (j := 4) (σ := 0) (sv := gI) (show decode (gy_b gY_99) 9 = .ok (.getfield 110, 3) by decide +kernel) rfl rfl (fun _ => rfl) wd_181 (by decide) ?_
    intro v2
    refine gr_icmp_lt (pc := 12) (tgt := 25) (off := 13) hG.2.1 (show decode (gy_b gY_99) 12 = .ok (.if_icmp .lt (13), 3) by decide +kernel) (by decide) ?_ ?_
    · refine gr_aload_n (pc := 25) (i := 0) 7 (l0) (show decode (gy_b gY_99) 25 = .ok (.aload_n 0, 1) by decide +kernel) rfl rfl ?_
      refine gr_getf (pc := 26) (index := 19) (t := 7) (j := 1) (σ := 13) (sv := (gR 5)) (show decode (gy_b gY_99) 26 = .ok (.getfield 19, 3) by decide +kernel) rfl rfl (fun _ => rfl) wd_295 (by decide) ?_
      intro v3
      refine gr_iload_n (pc := 29) (i := 1) (l1) (show decode (gy_b gY_99) 29 = .ok (.iload_n 1, 1) by decide +kernel) rfl rfl ?_
      refine gj_nn (fun hx30 => ?_)
      refine gj_c0 (pc := 30) (Y' := gY_70) (y := yX5_at) (vs := [gR 5 (v3), gI (l1)]) (rest := []) (rs := fun v4 => [gR 0 (v4)]) [gI (l1), gR 5 (v3)] rfl (hm_70 hG (v3) (l1)) rfl (gh_V (t := 5) (vs := [gI (l1)]) (rest := []) (show decode (gy_b gY_99) 30 = .ok (.invokevirtual 119, 3) by decide +kernel) rfl hx30 rfl rfl (ok_70 (by decide) (by decide)) wd_1037 wd_927 wd_928 (Nat.le_of_ble_eq_true rfl)) (fun _ => rfl) ?_
      intro v4 M5 n6 c7
      exact gr_areturn (pc := 33) (t := 0) (show decode (gy_b gY_99) 33 = .ok (.areturn, 1) by decide +kernel) rfl rfl (Or.inl ⟨_, rfl⟩)
    · exact gj_false
noncomputable def fi_99 (l0 l1 M n c : Nat) (K : Nat → Nat → Nat → Nat → Bool) : Bool := fi_99_L0 K l0 l1 M n c
theorem hm_99 {G : gxG} (hG : gxG0 G) (l0 l1 : Nat) : gxM G gY_99 yX7_actOf [gR 7 (l0), gI (l1)] (fi_99 l0 l1) := gxM_of (L := [gR 7 (l0), gI (l1)]) hG 0 (by decide +kernel) rfl rfl rfl rfl (List.forall_mem_cons.mpr ⟨rfl, List.forall_mem_cons.mpr ⟨rfl, fun _ h => nomatch h⟩⟩) (fun M n c K => h_99_L0 hG  l0 l1 M n c)
/-! Farfiles actKind (I)C -/
def gY_100 : gxY := (false, prog_1_method_73_code, 2, (Option.some Jvm.ClassFile.FieldType.char), "Farfiles", 3, 83, 1, [], "actKind")
theorem ok_100 {Y : gxY} (h1 : gy_f gY_100 + 1 ≤ gy_f Y) (h2 : 8 + (gy_l gY_100 + 11) + gy_k gY_100 ≤ gy_k Y) : gh_ok Y gY_100 yX7_actKind 1 := ⟨wd_1068, wd_51, ⟨by decide, by decide⟩, by decide +kernel, h1, h2⟩
noncomputable def fi_100_L0 (K : Nat → Nat → Nat → Nat → Bool) (l0 l1 M n c : Nat) : Bool := gx_nn (l0) (fi_99 (l0) (l1) M n c (fun v1 M2 n3 c4 => gx_get (v1) 2 M2 (fun v5 => gx_rt gx_f1 (v5) (K (v5) M2 n3 c4))))
theorem h_100_L0 {G : gxG} (hG : gxG0 G) {K : Nat → Nat → Nat → Nat → Bool} (l0 l1 M n c : Nat) : gxJ G gY_100 K 0 [] [gR 7 (l0), gI (l1)] M n c (fi_100_L0 K l0 l1 M n c) := by
  unfold fi_100_L0
  refine gr_aload_n (pc := 0) (i := 0) 7 (l0) (show decode (gy_b gY_100) 0 = .ok (.aload_n 0, 1) by decide +kernel) rfl rfl ?_
  refine gr_iload_n (pc := 1) (i := 1) (l1) (show decode (gy_b gY_100) 1 = .ok (.iload_n 1, 1) by decide +kernel) rfl rfl ?_
  refine gj_nn (fun hx2 => ?_)
  refine gj_c0 (pc := 2) (Y' := gY_99) (y := yX7_actOf) (vs := [gR 7 (l0), gI (l1)]) (rest := []) (rs := fun v1 => [gR 0 (v1)]) [gI (l1), gR 7 (l0)] rfl (hm_99 hG (l0) (l1)) rfl (gh_V (t := 7) (vs := [gI (l1)]) (rest := []) (show decode (gy_b gY_100) 2 = .ok (.invokevirtual 421, 3) by decide +kernel) rfl hx2 rfl rfl (ok_99 (by decide) (by decide)) wd_1069 wd_1071 wd_31 (Nat.le_of_ble_eq_true rfl)) (fun _ => rfl) ?_
  intro v1 M2 n3 c4
  refine gr_getfN (pc := 5) (index := 249) (t := 0) (j := 2) (σ := 1) (sv := gI) (show decode (gy_b gY_100) 5 = .ok (.getfield 249, 3) by decide +kernel) rfl rfl (fun _ => rfl) wd_143 (by decide) ?_
  intro v5
  exact gr_ireturn (pc := 8) (show decode (gy_b gY_100) 8 = .ok (.ireturn, 1) by decide +kernel) rfl rfl (by decide) (gv_1 hG.2.1)
noncomputable def fi_100 (l0 l1 M n c : Nat) (K : Nat → Nat → Nat → Nat → Bool) : Bool := fi_100_L0 K l0 l1 M n c
theorem hm_100 {G : gxG} (hG : gxG0 G) (l0 l1 : Nat) : gxM G gY_100 yX7_actKind [gR 7 (l0), gI (l1)] (fi_100 l0 l1) := gxM_of (L := [gR 7 (l0), gI (l1)]) hG 0 (by decide +kernel) rfl rfl rfl rfl (List.forall_mem_cons.mpr ⟨rfl, List.forall_mem_cons.mpr ⟨rfl, fun _ h => nomatch h⟩⟩) (fun M n c K => h_100_L0 hG  l0 l1 M n c)
/-! Farfiles actObject (I)I -/
def gY_101 : gxY := (false, prog_1_method_71_code, 2, (Option.some Jvm.ClassFile.FieldType.int), "Farfiles", 3, 83, 0, [], "actObject")
theorem ok_101 {Y : gxY} (h1 : gy_f gY_101 + 1 ≤ gy_f Y) (h2 : 8 + (gy_l gY_101 + 11) + gy_k gY_101 ≤ gy_k Y) : gh_ok Y gY_101 yX7_actObject 1 := ⟨wd_1092, wd_51, ⟨by decide, by decide⟩, by decide +kernel, h1, h2⟩
noncomputable def fi_101_L0 (K : Nat → Nat → Nat → Nat → Bool) (l0 l1 M n c : Nat) : Bool := gx_nn (l0) (fi_99 (l0) (l1) M n c (fun v1 M2 n3 c4 => gx_get (v1) 1 M2 (fun v5 => gx_rt gx_f0 (v5) (K (v5) M2 n3 c4))))
theorem h_101_L0 {G : gxG} (hG : gxG0 G) {K : Nat → Nat → Nat → Nat → Bool} (l0 l1 M n c : Nat) : gxJ G gY_101 K 0 [] [gR 7 (l0), gI (l1)] M n c (fi_101_L0 K l0 l1 M n c) := by
  unfold fi_101_L0
  refine gr_aload_n (pc := 0) (i := 0) 7 (l0) (show decode (gy_b gY_101) 0 = .ok (.aload_n 0, 1) by decide +kernel) rfl rfl ?_
  refine gr_iload_n (pc := 1) (i := 1) (l1) (show decode (gy_b gY_101) 1 = .ok (.iload_n 1, 1) by decide +kernel) rfl rfl ?_
  refine gj_nn (fun hx2 => ?_)
  refine gj_c0 (pc := 2) (Y' := gY_99) (y := yX7_actOf) (vs := [gR 7 (l0), gI (l1)]) (rest := []) (rs := fun v1 => [gR 0 (v1)]) [gI (l1), gR 7 (l0)] rfl (hm_99 hG (l0) (l1)) rfl (gh_V (t := 7) (vs := [gI (l1)]) (rest := []) (show decode (gy_b gY_101) 2 = .ok (.invokevirtual 421, 3) by decide +kernel) rfl hx2 rfl rfl (ok_99 (by decide) (by decide)) wd_1069 wd_1071 wd_31 (Nat.le_of_ble_eq_true rfl)) (fun _ => rfl) ?_
  intro v1 M2 n3 c4
  refine gr_getfN (pc := 5) (index := 244) (t := 0) (j := 1) (σ := 0) (sv := gI) (show decode (gy_b gY_101) 5 = .ok (.getfield 244, 3) by decide +kernel) rfl rfl (fun _ => rfl) wd_140 (by decide) ?_
  intro v5
  exact gr_ireturn (pc := 8) (show decode (gy_b gY_101) 8 = .ok (.ireturn, 1) by decide +kernel) rfl rfl (by decide) gv_0
noncomputable def fi_101 (l0 l1 M n c : Nat) (K : Nat → Nat → Nat → Nat → Bool) : Bool := fi_101_L0 K l0 l1 M n c
theorem hm_101 {G : gxG} (hG : gxG0 G) (l0 l1 : Nat) : gxM G gY_101 yX7_actObject [gR 7 (l0), gI (l1)] (fi_101 l0 l1) := gxM_of (L := [gR 7 (l0), gI (l1)]) hG 0 (by decide +kernel) rfl rfl rfl rfl (List.forall_mem_cons.mpr ⟨rfl, List.forall_mem_cons.mpr ⟨rfl, fun _ h => nomatch h⟩⟩) (fun M n c K => h_101_L0 hG  l0 l1 M n c)
/-! Farfiles$Line copyFrom (I)[C -/
def gY_102 : gxY := (false, prog_6_method_5_code, 5, (Option.some (Jvm.ClassFile.FieldType.array Jvm.ClassFile.FieldType.char)), "Farfiles$Line", 2, 61, 73, [], "copyFrom")
theorem ok_102 {Y : gxY} (h1 : gy_f gY_102 + 1 ≤ gy_f Y) (h2 : 8 + (gy_l gY_102 + 11) + gy_k gY_102 ≤ gy_k Y) : gh_ok Y gY_102 yX4_copyFrom 1 := ⟨wd_1101, wd_52, ⟨by decide, by decide⟩, by decide +kernel, h1, h2⟩
noncomputable def fi_102_B26 (K : Nat → Nat → Nat → Nat → Bool) (ih_26 : Nat → Nat → Nat → Nat → Nat → Nat → Nat → Nat → Bool) (l0 l1 l2 l3 l4 M n c : Nat) : Bool := gx_lt (l4) (l2) (gx_add (l1) (l4) (fun z7 => gx_nn (l0) (fi_52 (l0) (z7) M n c (fun v8 M9 n10 c11 => gx_ast (l3) (l4) (v8) M9 gx_f1 (fun M12 => gx_add (l4) 1 (fun z13 => ih_26 (l0) (l1) (l2) (l3) (z13) M12 n10 c11)))))) (gx_rt gx_f0 (l3) (K (l3) M n c))
theorem hb_102_B26 {G : gxG} (hG : gxG0 G) {K : Nat → Nat → Nat → Nat → Bool} {ih_26 : Nat → Nat → Nat → Nat → Nat → Nat → Nat → Nat → Bool} (hi_26 : ∀ l0 l1 l2 l3 l4 M n c : Nat, gxJ G gY_102 K 26 [] [gR 4 (l0), gI (l1), gI (l2), gR 65 (l3), gI (l4)] M n c (ih_26 l0 l1 l2 l3 l4 M n c)) (l0 l1 l2 l3 l4 M n c : Nat) : gxJ G gY_102 K 26 [] [gR 4 (l0), gI (l1), gI (l2), gR 65 (l3), gI (l4)] M n c (fi_102_B26 K ih_26 l0 l1 l2 l3 l4 M n c) := by
  unfold fi_102_B26
  refine gr_iload (pc := 26) (i := 4) (l4) (show decode (gy_b gY_102) 26 = .ok (.iload 4, 2) by decide +kernel) rfl ?_
  refine gr_iload_n (pc := 28) (i := 2) (l2) (show decode (gy_b gY_102) 28 = .ok (.iload_n 2, 1) by decide +kernel) rfl rfl ?_
  refine gr_icmp_ge (pc := 29) (tgt := 50) (off := 21) hG.2.1 (show decode (gy_b gY_102) 29 = .ok (.if_icmp .ge (21), 3) by decide +kernel) (by decide) ?_ ?_
  · refine gr_aload_n (pc := 50) (i := 3) 65 (l3) (show decode (gy_b gY_102) 50 = .ok (.aload_n 3, 1) by decide +kernel) rfl rfl ?_
    exact gr_areturn (pc := 51) (t := 65) (show decode (gy_b gY_102) 51 = .ok (.areturn, 1) by decide +kernel) rfl rfl (Or.inr ⟨_, rfl⟩)
  · refine gr_aload_n (pc := 32) (i := 3) 65 (l3) (show decode (gy_b gY_102) 32 = .ok (.aload_n 3, 1) by decide +kernel) rfl rfl ?_
    refine gr_iload (pc := 33) (i := 4) (l4) (show decode (gy_b gY_102) 33 = .ok (.iload 4, 2) by decide +kernel) rfl ?_
    refine gr_aload_n (pc := 35) (i := 0) 4 (l0) (show decode (gy_b gY_102) 35 = .ok (.aload_n 0, 1) by decide +kernel) rfl rfl ?_
    refine gr_iload_n (pc := 36) (i := 1) (l1) (show decode (gy_b gY_102) 36 = .ok (.iload_n 1, 1) by decide +kernel) rfl rfl ?_
    refine gr_iload (pc := 37) (i := 4) (l4) (show decode (gy_b gY_102) 37 = .ok (.iload 4, 2) by decide +kernel) rfl ?_
    refine gr_iadd (pc := 39) (show decode (gy_b gY_102) 39 = .ok (.iadd, 1) by decide +kernel) ?_
    intro z7
    refine gj_nn (fun hx40 => ?_)
    refine gj_c0 (pc := 40) (Y' := gY_52) (y := yX4_at) (vs := [gR 4 (l0), gI (z7)]) (rest := [gI (l4), gR 65 (l3)]) (rs := fun v8 => [gI (v8), gI (l4), gR 65 (l3)]) [gI (z7), gR 4 (l0)] rfl (hm_52 hG (l0) (z7)) rfl (gh_V (t := 4) (vs := [gI (z7)]) (rest := [gI (l4), gR 65 (l3)]) (show decode (gy_b gY_102) 40 = .ok (.invokevirtual 22, 3) by decide +kernel) rfl hx40 rfl rfl (ok_52 (by decide) (by decide)) wd_845 wd_835 wd_836 (Nat.le_of_ble_eq_true rfl)) (fun _ => rfl) ?_
    intro v8 M9 n10 c11
    refine gr_cast (pc := 43) hG.2.1 (show decode (gy_b gY_102) 43 = .ok (.castore, 1) by decide +kernel) ?_
    intro M12
    refine gr_iinc (pc := 44) (i := 4) (d := 1) (z := 1) (L' := fun z13 => [gR 4 (l0), gI (l1), gI (l2), gR 65 (l3), gI (z13)]) (show decode (gy_b gY_102) 44 = .ok (.iinc 4 (1), 3) by decide +kernel) (by decide +kernel) (by decide) rfl rfl (fun _ => rfl) ?_
    intro z13
    refine gr_goto (pc := 47) (tgt := 26) (off := -21) (show decode (gy_b gY_102) 47 = .ok (.goto (-21), 3) by decide +kernel) (by decide) ?_
    exact hi_26 (l0) (l1) (l2) (l3) (z13) M12 n10 c11
noncomputable def fi_102_W26 (K : Nat → Nat → Nat → Nat → Bool) (u : Nat) : Nat → Nat → Nat → Nat → Nat → Nat → Nat → Nat → Bool := Nat.rec (motive := fun _ => Nat → Nat → Nat → Nat → Nat → Nat → Nat → Nat → Bool) (fun _ _ _ _ _ _ _ _ => false) (fun _ ih => fi_102_B26 K ih) u
theorem hw_102_26 {G : gxG} (hG : gxG0 G) {K : Nat → Nat → Nat → Nat → Bool} (u : Nat) : ∀ l0 l1 l2 l3 l4 M n c : Nat, gxJ G gY_102 K 26 [] [gR 4 (l0), gI (l1), gI (l2), gR 65 (l3), gI (l4)] M n c (fi_102_W26 K u l0 l1 l2 l3 l4 M n c) := by
  induction u with
  | zero => intro l0 l1 l2 l3 l4 M n c; exact gj_false
  | succ u ih => intro l0 l1 l2 l3 l4 M n c; exact hb_102_B26 hG ih l0 l1 l2 l3 l4 M n c
noncomputable def fi_102_L0 (K : Nat → Nat → Nat → Nat → Bool) (l0 l1 M n c : Nat) : Bool := gx_get (l0) 1 M (fun v1 => gx_sub (v1) (l1) (fun z2 => gx_lt (l1) 0 (false) (gx_lt 0 (z2) (gx_nea (z2) M n c (fun v3 M4 n5 c6 => fi_102_W26 K 65536 (l0) (l1) (z2) (v3) (0) M4 n5 c6)) (false))))
theorem h_102_L0 {G : gxG} (hG : gxG0 G) {K : Nat → Nat → Nat → Nat → Bool} (l0 l1 M n c : Nat) : gxJ G gY_102 K 0 [] [gR 4 (l0), gI (l1), gB, gB, gB] M n c (fi_102_L0 K l0 l1 M n c) := by
  unfold fi_102_L0
  refine gr_aload_n (pc := 0) (i := 0) 4 (l0) (show decode (gy_b gY_102) 0 = .ok (.aload_n 0, 1) by decide +kernel) rfl rfl ?_
  refine gr_getf (pc := 1) (index := 15) (t := 4) (j := 1) (σ := 0) (sv := gI) (show decode (gy_b gY_102) 1 = .ok (.getfield 15, 3) by decide +kernel) rfl rfl (fun _ => rfl) wd_101 (by decide) ?_
  intro v1
  refine gr_iload_n (pc := 4) (i := 1) (l1) (show decode (gy_b gY_102) 4 = .ok (.iload_n 1, 1) by decide +kernel) rfl rfl ?_
  refine gr_isub (pc := 5) hG.2.1 (show decode (gy_b gY_102) 5 = .ok (.isub, 1) by decide +kernel) ?_
  intro z2
  refine gr_istore_n (pc := 6) (i := 2) (L' := [gR 4 (l0), gI (l1), gI (z2), gB, gB]) (show decode (gy_b gY_102) 6 = .ok (.istore_n 2, 1) by decide +kernel) rfl (by decide) rfl rfl ?_
  refine gr_iload_n (pc := 7) (i := 1) (l1) (show decode (gy_b gY_102) 7 = .ok (.iload_n 1, 1) by decide +kernel) rfl rfl ?_
  refine gr_iflt (pc := 8) (tgt := 15) (off := 7) hG.2.1 (show decode (gy_b gY_102) 8 = .ok (.ifCond .lt (7), 3) by decide +kernel) (by decide) ?_ ?_
  · exact gj_false
  · refine gr_iload_n (pc := 11) (i := 2) (z2) (show decode (gy_b gY_102) 11 = .ok (.iload_n 2, 1) by decide +kernel) rfl rfl ?_
    refine gr_ifgt (pc := 12) (tgt := 19) (off := 7) hG.2.1 (show decode (gy_b gY_102) 12 = .ok (.ifCond .gt (7), 3) by decide +kernel) (by decide) ?_ ?_
    · refine gr_iload_n (pc := 19) (i := 2) (z2) (show decode (gy_b gY_102) 19 = .ok (.iload_n 2, 1) by decide +kernel) rfl rfl ?_
      refine gr_newC (pc := 20) (show decode (gy_b gY_102) 20 = .ok (.newarray .char, 2) by decide +kernel) wd_108 ?_
      intro v3 M4 n5 c6
      refine gr_astore_n (pc := 22) (i := 3) (L' := [gR 4 (l0), gI (l1), gI (z2), gR 65 (v3), gB]) (show decode (gy_b gY_102) 22 = .ok (.astore_n 3, 1) by decide +kernel) rfl (by decide) rfl rfl ?_
      refine gr_iconst (pc := 23) (z := 0) 0 (show decode (gy_b gY_102) 23 = .ok (.iconst (0), 1) by decide +kernel) kc_0 ?_
      refine gr_istore (pc := 24) (i := 4) (L' := [gR 4 (l0), gI (l1), gI (z2), gR 65 (v3), gI (0)]) (show decode (gy_b gY_102) 24 = .ok (.istore 4, 2) by decide +kernel) (by decide) rfl rfl ?_
      exact hw_102_26 hG 65536 (l0) (l1) (z2) (v3) (0) M4 n5 c6
    · exact gj_false
noncomputable def fi_102 (l0 l1 M n c : Nat) (K : Nat → Nat → Nat → Nat → Bool) : Bool := fi_102_L0 K l0 l1 M n c
theorem hm_102 {G : gxG} (hG : gxG0 G) (l0 l1 : Nat) : gxM G gY_102 yX4_copyFrom [gR 4 (l0), gI (l1)] (fi_102 l0 l1) := gxM_of (L := [gR 4 (l0), gI (l1), gB, gB, gB]) hG 3 (by decide +kernel) rfl rfl rfl rfl (List.forall_mem_cons.mpr ⟨rfl, List.forall_mem_cons.mpr ⟨rfl, fun _ h => nomatch h⟩⟩) (fun M n c K => h_102_L0 hG  l0 l1 M n c)
