/-! METHODS 4 -/
set_option maxRecDepth 100000
/-! Farfiles$ActSet empty ()V -/
def gY_77 : gxY := (false, prog_3_method_5_code, 2, (Option.none : Option FieldType), "Farfiles$ActSet", 1, 40, 5, [], "empty")
theorem ok_77 {Y : gxY} (h1 : gy_f gY_77 + 1 ≤ gy_f Y) (h2 : 8 + (gy_l gY_77 + 11) + gy_k gY_77 ≤ gy_k Y) : gh_ok Y gY_77 yX1_empty 0 := ⟨wd_988, wd_55, ⟨by decide, by decide⟩, by decide +kernel, h1, h2⟩
noncomputable def fi_77_B2 (K : Nat → Nat → Nat → Nat → Bool) (ih_2 : Nat → Nat → Nat → Nat → Nat → Bool) (l0 l1 M n c : Nat) : Bool := gx_lt (l1) (4) (gx_get (l0) 0 M (fun v1 => gx_ast (v1) (l1) (0) M gx_f0 (fun M2 => gx_add (l1) 1 (fun z3 => ih_2 (l0) (z3) M2 n c)))) (K 0 M n c)
theorem hb_77_B2 {G : gxG} (hG : gxG0 G) {K : Nat → Nat → Nat → Nat → Bool} {ih_2 : Nat → Nat → Nat → Nat → Nat → Bool} (hi_2 : ∀ l0 l1 M n c : Nat, gxJ G gY_77 K 2 [] [gR 1 (l0), gI (l1)] M n c (ih_2 l0 l1 M n c)) (l0 l1 M n c : Nat) : gxJ G gY_77 K 2 [] [gR 1 (l0), gI (l1)] M n c (fi_77_B2 K ih_2 l0 l1 M n c) := by
  unfold fi_77_B2
  refine gr_iload_n (pc := 2) (i := 1) (l1) (show decode (gy_b gY_77) 2 = .ok (.iload_n 1, 1) by decide +kernel) rfl rfl ?_
  refine gr_iconst (pc := 3) (z := 4) 4 (show decode (gy_b gY_77) 3 = .ok (.iconst (4), 1) by decide +kernel) kc_4 ?_
  refine gr_icmp_ge (pc := 4) (tgt := 20) (off := 16) hG.2.1 (show decode (gy_b gY_77) 4 = .ok (.if_icmp .ge (16), 3) by decide +kernel) (by decide) ?_ ?_
  · exact gr_return (pc := 20) (show decode (gy_b gY_77) 20 = .ok (.return_, 1) by decide +kernel) rfl rfl
  · refine gr_aload_n (pc := 7) (i := 0) 1 (l0) (show decode (gy_b gY_77) 7 = .ok (.aload_n 0, 1) by decide +kernel) rfl rfl ?_
    refine gr_getf (pc := 8) (index := 9) (t := 1) (j := 0) (σ := 76) (sv := (gR 68)) (show decode (gy_b gY_77) 8 = .ok (.getfield 9, 3) by decide +kernel) rfl rfl (fun _ => rfl) wd_130 (by decide) ?_
    intro v1
    refine gr_iload_n (pc := 11) (i := 1) (l1) (show decode (gy_b gY_77) 11 = .ok (.iload_n 1, 1) by decide +kernel) rfl rfl ?_
    refine gr_lconst (pc := 12) (z := 0) 0 (show decode (gy_b gY_77) 12 = .ok (.lconst 0, 1) by decide +kernel) (by decide +kernel) ?_
    refine gr_last (pc := 13) hG.2.1 (show decode (gy_b gY_77) 13 = .ok (.lastore, 1) by decide +kernel) ?_
    intro M2
    refine gr_iinc (pc := 14) (i := 1) (d := 1) (z := 1) (L' := fun z3 => [gR 1 (l0), gI (z3)]) (show decode (gy_b gY_77) 14 = .ok (.iinc 1 (1), 3) by decide +kernel) (by decide +kernel) (by decide) rfl rfl (fun _ => rfl) ?_
    intro z3
    refine gr_goto (pc := 17) (tgt := 2) (off := -15) (show decode (gy_b gY_77) 17 = .ok (.goto (-15), 3) by decide +kernel) (by decide) ?_
    exact hi_2 (l0) (z3) M2 n c
noncomputable def fi_77_W2 (K : Nat → Nat → Nat → Nat → Bool) (u : Nat) : Nat → Nat → Nat → Nat → Nat → Bool := Nat.rec (motive := fun _ => Nat → Nat → Nat → Nat → Nat → Bool) (fun _ _ _ _ _ => false) (fun _ ih => fi_77_B2 K ih) u
theorem hw_77_2 {G : gxG} (hG : gxG0 G) {K : Nat → Nat → Nat → Nat → Bool} (u : Nat) : ∀ l0 l1 M n c : Nat, gxJ G gY_77 K 2 [] [gR 1 (l0), gI (l1)] M n c (fi_77_W2 K u l0 l1 M n c) := by
  induction u with
  | zero => intro l0 l1 M n c; exact gj_false
  | succ u ih => intro l0 l1 M n c; exact hb_77_B2 hG ih l0 l1 M n c
noncomputable def fi_77_L0 (K : Nat → Nat → Nat → Nat → Bool) (l0 M n c : Nat) : Bool := fi_77_W2 K 65536 (l0) (0) M n c
theorem h_77_L0 {G : gxG} (hG : gxG0 G) {K : Nat → Nat → Nat → Nat → Bool} (l0 M n c : Nat) : gxJ G gY_77 K 0 [] [gR 1 (l0), gB] M n c (fi_77_L0 K l0 M n c) := by
  unfold fi_77_L0
  refine gr_iconst (pc := 0) (z := 0) 0 (show decode (gy_b gY_77) 0 = .ok (.iconst (0), 1) by decide +kernel) kc_0 ?_
  refine gr_istore_n (pc := 1) (i := 1) (L' := [gR 1 (l0), gI (0)]) (show decode (gy_b gY_77) 1 = .ok (.istore_n 1, 1) by decide +kernel) rfl (by decide) rfl rfl ?_
  exact hw_77_2 hG 65536 (l0) (0) M n c
noncomputable def fi_77 (l0 M n c : Nat) (K : Nat → Nat → Nat → Nat → Bool) : Bool := fi_77_L0 K l0 M n c
theorem hm_77 {G : gxG} (hG : gxG0 G) (l0 : Nat) : gxM G gY_77 yX1_empty [gR 1 (l0)] (fi_77 l0) := gxM_of (L := [gR 1 (l0), gB]) hG 1 (by decide +kernel) rfl rfl rfl rfl (List.forall_mem_cons.mpr ⟨rfl, fun _ h => nomatch h⟩) (fun M n c K => h_77_L0 hG  l0 M n c)
/-! Farfiles$ActSet putAll (LFarfiles$ActSet;)V -/
def gY_78 : gxY := (false, prog_3_method_6_code, 3, (Option.none : Option FieldType), "Farfiles$ActSet", 1, 40, 5, [], "putAll")
theorem ok_78 {Y : gxY} (h1 : gy_f gY_78 + 1 ≤ gy_f Y) (h2 : 8 + (gy_l gY_78 + 11) + gy_k gY_78 ≤ gy_k Y) : gh_ok Y gY_78 yX1_putAll 1 := ⟨wd_994, wd_55, ⟨by decide, by decide⟩, by decide +kernel, h1, h2⟩
noncomputable def fi_78_B2 (K : Nat → Nat → Nat → Nat → Bool) (ih_2 : Nat → Nat → Nat → Nat → Nat → Nat → Bool) (l0 l1 l2 M n c : Nat) : Bool := gx_lt (l2) (4) (gx_get (l0) 0 M (fun v1 => gx_ald (v1) (l2) M (fun v2 => gx_get (l1) 0 M (fun v3 => gx_ald (v3) (l2) M (fun v4 => gx_ast (v1) (l2) (Nat.lor (v2) (v4)) M gx_f0 (fun M5 => gx_add (l2) 1 (fun z6 => ih_2 (l0) (l1) (z6) M5 n c))))))) (K 0 M n c)
theorem hb_78_B2 {G : gxG} (hG : gxG0 G) {K : Nat → Nat → Nat → Nat → Bool} {ih_2 : Nat → Nat → Nat → Nat → Nat → Nat → Bool} (hi_2 : ∀ l0 l1 l2 M n c : Nat, gxJ G gY_78 K 2 [] [gR 1 (l0), gR 1 (l1), gI (l2)] M n c (ih_2 l0 l1 l2 M n c)) (l0 l1 l2 M n c : Nat) : gxJ G gY_78 K 2 [] [gR 1 (l0), gR 1 (l1), gI (l2)] M n c (fi_78_B2 K ih_2 l0 l1 l2 M n c) := by
  unfold fi_78_B2
  refine gr_iload_n (pc := 2) (i := 2) (l2) (show decode (gy_b gY_78) 2 = .ok (.iload_n 2, 1) by decide +kernel) rfl rfl ?_
  refine gr_iconst (pc := 3) (z := 4) 4 (show decode (gy_b gY_78) 3 = .ok (.iconst (4), 1) by decide +kernel) kc_4 ?_
  refine gr_icmp_ge (pc := 4) (tgt := 28) (off := 24) hG.2.1 (show decode (gy_b gY_78) 4 = .ok (.if_icmp .ge (24), 3) by decide +kernel) (by decide) ?_ ?_
  · exact gr_return (pc := 28) (show decode (gy_b gY_78) 28 = .ok (.return_, 1) by decide +kernel) rfl rfl
  · refine gr_aload_n (pc := 7) (i := 0) 1 (l0) (show decode (gy_b gY_78) 7 = .ok (.aload_n 0, 1) by decide +kernel) rfl rfl ?_
    refine gr_getf (pc := 8) (index := 9) (t := 1) (j := 0) (σ := 76) (sv := (gR 68)) (show decode (gy_b gY_78) 8 = .ok (.getfield 9, 3) by decide +kernel) rfl rfl (fun _ => rfl) wd_130 (by decide) ?_
    intro v1
    refine gr_iload_n (pc := 11) (i := 2) (l2) (show decode (gy_b gY_78) 11 = .ok (.iload_n 2, 1) by decide +kernel) rfl rfl ?_
    refine gr_dup2_11 (pc := 12) (show decode (gy_b gY_78) 12 = .ok (.dup2, 1) by decide +kernel) rfl rfl ?_
    refine gr_lald (pc := 13) (show decode (gy_b gY_78) 13 = .ok (.laload, 1) by decide +kernel) ?_
    intro v2
    refine gr_aload_n (pc := 14) (i := 1) 1 (l1) (show decode (gy_b gY_78) 14 = .ok (.aload_n 1, 1) by decide +kernel) rfl rfl ?_
    refine gr_getf (pc := 15) (index := 9) (t := 1) (j := 0) (σ := 76) (sv := (gR 68)) (show decode (gy_b gY_78) 15 = .ok (.getfield 9, 3) by decide +kernel) rfl rfl (fun _ => rfl) wd_130 (by decide) ?_
    intro v3
    refine gr_iload_n (pc := 18) (i := 2) (l2) (show decode (gy_b gY_78) 18 = .ok (.iload_n 2, 1) by decide +kernel) rfl rfl ?_
    refine gr_lald (pc := 19) (show decode (gy_b gY_78) 19 = .ok (.laload, 1) by decide +kernel) ?_
    intro v4
    refine gr_lor (pc := 20) (show decode (gy_b gY_78) 20 = .ok (.lor, 1) by decide +kernel) ?_
    refine gr_last (pc := 21) hG.2.1 (show decode (gy_b gY_78) 21 = .ok (.lastore, 1) by decide +kernel) ?_
    intro M5
    refine gr_iinc (pc := 22) (i := 2) (d := 1) (z := 1) (L' := fun z6 => [gR 1 (l0), gR 1 (l1), gI (z6)]) (show decode (gy_b gY_78) 22 = .ok (.iinc 2 (1), 3) by decide +kernel) (by decide +kernel) (by decide) rfl rfl (fun _ => rfl) ?_
    intro z6
    refine gr_goto (pc := 25) (tgt := 2) (off := -23) (show decode (gy_b gY_78) 25 = .ok (.goto (-23), 3) by decide +kernel) (by decide) ?_
    exact hi_2 (l0) (l1) (z6) M5 n c
noncomputable def fi_78_W2 (K : Nat → Nat → Nat → Nat → Bool) (u : Nat) : Nat → Nat → Nat → Nat → Nat → Nat → Bool := Nat.rec (motive := fun _ => Nat → Nat → Nat → Nat → Nat → Nat → Bool) (fun _ _ _ _ _ _ => false) (fun _ ih => fi_78_B2 K ih) u
theorem hw_78_2 {G : gxG} (hG : gxG0 G) {K : Nat → Nat → Nat → Nat → Bool} (u : Nat) : ∀ l0 l1 l2 M n c : Nat, gxJ G gY_78 K 2 [] [gR 1 (l0), gR 1 (l1), gI (l2)] M n c (fi_78_W2 K u l0 l1 l2 M n c) := by
  induction u with
  | zero => intro l0 l1 l2 M n c; exact gj_false
  | succ u ih => intro l0 l1 l2 M n c; exact hb_78_B2 hG ih l0 l1 l2 M n c
noncomputable def fi_78_L0 (K : Nat → Nat → Nat → Nat → Bool) (l0 l1 M n c : Nat) : Bool := fi_78_W2 K 65536 (l0) (l1) (0) M n c
theorem h_78_L0 {G : gxG} (hG : gxG0 G) {K : Nat → Nat → Nat → Nat → Bool} (l0 l1 M n c : Nat) : gxJ G gY_78 K 0 [] [gR 1 (l0), gR 1 (l1), gB] M n c (fi_78_L0 K l0 l1 M n c) := by
  unfold fi_78_L0
  refine gr_iconst (pc := 0) (z := 0) 0 (show decode (gy_b gY_78) 0 = .ok (.iconst (0), 1) by decide +kernel) kc_0 ?_
  refine gr_istore_n (pc := 1) (i := 2) (L' := [gR 1 (l0), gR 1 (l1), gI (0)]) (show decode (gy_b gY_78) 1 = .ok (.istore_n 2, 1) by decide +kernel) rfl (by decide) rfl rfl ?_
  exact hw_78_2 hG 65536 (l0) (l1) (0) M n c
noncomputable def fi_78 (l0 l1 M n c : Nat) (K : Nat → Nat → Nat → Nat → Bool) : Bool := fi_78_L0 K l0 l1 M n c
theorem hm_78 {G : gxG} (hG : gxG0 G) (l0 l1 : Nat) : gxM G gY_78 yX1_putAll [gR 1 (l0), gR 1 (l1)] (fi_78 l0 l1) := gxM_of (L := [gR 1 (l0), gR 1 (l1), gB]) hG 1 (by decide +kernel) rfl rfl rfl rfl (List.forall_mem_cons.mpr ⟨rfl, List.forall_mem_cons.mpr ⟨rfl, fun _ h => nomatch h⟩⟩) (fun M n c K => h_78_L0 hG  l0 l1 M n c)
/-! Farfiles$ActSet takeOutAll (LFarfiles$ActSet;)V -/
def gY_79 : gxY := (false, prog_3_method_7_code, 3, (Option.none : Option FieldType), "Farfiles$ActSet", 1, 40, 5, [], "takeOutAll")
theorem ok_79 {Y : gxY} (h1 : gy_f gY_79 + 1 ≤ gy_f Y) (h2 : 8 + (gy_l gY_79 + 11) + gy_k gY_79 ≤ gy_k Y) : gh_ok Y gY_79 yX1_takeOutAll 1 := ⟨wd_999, wd_55, ⟨by decide, by decide⟩, by decide +kernel, h1, h2⟩
noncomputable def fi_79_B2 (K : Nat → Nat → Nat → Nat → Bool) (ih_2 : Nat → Nat → Nat → Nat → Nat → Nat → Bool) (l0 l1 l2 M n c : Nat) : Bool := gx_lt (l2) (4) (gx_get (l0) 0 M (fun v1 => gx_ald (v1) (l2) M (fun v2 => gx_get (l1) 0 M (fun v3 => gx_ald (v3) (l2) M (fun v4 => gx_ast (v1) (l2) (Nat.land (v2) (Nat.xor (v4) (18446744073709551615))) M gx_f0 (fun M5 => gx_add (l2) 1 (fun z6 => ih_2 (l0) (l1) (z6) M5 n c))))))) (K 0 M n c)
theorem hb_79_B2 {G : gxG} (hG : gxG0 G) {K : Nat → Nat → Nat → Nat → Bool} {ih_2 : Nat → Nat → Nat → Nat → Nat → Nat → Bool} (hi_2 : ∀ l0 l1 l2 M n c : Nat, gxJ G gY_79 K 2 [] [gR 1 (l0), gR 1 (l1), gI (l2)] M n c (ih_2 l0 l1 l2 M n c)) (l0 l1 l2 M n c : Nat) : gxJ G gY_79 K 2 [] [gR 1 (l0), gR 1 (l1), gI (l2)] M n c (fi_79_B2 K ih_2 l0 l1 l2 M n c) := by
  unfold fi_79_B2
  refine gr_iload_n (pc := 2) (i := 2) (l2) (show decode (gy_b gY_79) 2 = .ok (.iload_n 2, 1) by decide +kernel) rfl rfl ?_
  refine gr_iconst (pc := 3) (z := 4) 4 (show decode (gy_b gY_79) 3 = .ok (.iconst (4), 1) by decide +kernel) kc_4 ?_
  refine gr_icmp_ge (pc := 4) (tgt := 32) (off := 28) hG.2.1 (show decode (gy_b gY_79) 4 = .ok (.if_icmp .ge (28), 3) by decide +kernel) (by decide) ?_ ?_
  · exact gr_return (pc := 32) (show decode (gy_b gY_79) 32 = .ok (.return_, 1) by decide +kernel) rfl rfl
  · refine gr_aload_n (pc := 7) (i := 0) 1 (l0) (show decode (gy_b gY_79) 7 = .ok (.aload_n 0, 1) by decide +kernel) rfl rfl ?_
    refine gr_getf (pc := 8) (index := 9) (t := 1) (j := 0) (σ := 76) (sv := (gR 68)) (show decode (gy_b gY_79) 8 = .ok (.getfield 9, 3) by decide +kernel) rfl rfl (fun _ => rfl) wd_130 (by decide) ?_
    intro v1
    refine gr_iload_n (pc := 11) (i := 2) (l2) (show decode (gy_b gY_79) 11 = .ok (.iload_n 2, 1) by decide +kernel) rfl rfl ?_
    refine gr_dup2_11 (pc := 12) (show decode (gy_b gY_79) 12 = .ok (.dup2, 1) by decide +kernel) rfl rfl ?_
    refine gr_lald (pc := 13) (show decode (gy_b gY_79) 13 = .ok (.laload, 1) by decide +kernel) ?_
    intro v2
    refine gr_aload_n (pc := 14) (i := 1) 1 (l1) (show decode (gy_b gY_79) 14 = .ok (.aload_n 1, 1) by decide +kernel) rfl rfl ?_
    refine gr_getf (pc := 15) (index := 9) (t := 1) (j := 0) (σ := 76) (sv := (gR 68)) (show decode (gy_b gY_79) 15 = .ok (.getfield 9, 3) by decide +kernel) rfl rfl (fun _ => rfl) wd_130 (by decide) ?_
    intro v3
    refine gr_iload_n (pc := 18) (i := 2) (l2) (show decode (gy_b gY_79) 18 = .ok (.iload_n 2, 1) by decide +kernel) rfl rfl ?_
    refine gr_lald (pc := 19) (show decode (gy_b gY_79) 19 = .ok (.laload, 1) by decide +kernel) ?_
    intro v4
    refine gr_ldc2 (pc := 20) (index := 15) (z := (-1)) 18446744073709551615 (show decode (gy_b gY_79) 20 = .ok (.ldc2_w 15, 3) by decide +kernel) wd_947 (by decide +kernel) ?_
    refine gr_lxor (pc := 23) (show decode (gy_b gY_79) 23 = .ok (.lxor, 1) by decide +kernel) ?_
    refine gr_land (pc := 24) (show decode (gy_b gY_79) 24 = .ok (.land, 1) by decide +kernel) ?_
    refine gr_last (pc := 25) hG.2.1 (show decode (gy_b gY_79) 25 = .ok (.lastore, 1) by decide +kernel) ?_
    intro M5
    refine gr_iinc (pc := 26) (i := 2) (d := 1) (z := 1) (L' := fun z6 => [gR 1 (l0), gR 1 (l1), gI (z6)]) (show decode (gy_b gY_79) 26 = .ok (.iinc 2 (1), 3) by decide +kernel) (by decide +kernel) (by decide) rfl rfl (fun _ => rfl) ?_
    intro z6
    refine gr_goto (pc := 29) (tgt := 2) (off := -27) (show decode (gy_b gY_79) 29 = .ok (.goto (-27), 3) by decide +kernel) (by decide) ?_
    exact hi_2 (l0) (l1) (z6) M5 n c
noncomputable def fi_79_W2 (K : Nat → Nat → Nat → Nat → Bool) (u : Nat) : Nat → Nat → Nat → Nat → Nat → Nat → Bool := Nat.rec (motive := fun _ => Nat → Nat → Nat → Nat → Nat → Nat → Bool) (fun _ _ _ _ _ _ => false) (fun _ ih => fi_79_B2 K ih) u
theorem hw_79_2 {G : gxG} (hG : gxG0 G) {K : Nat → Nat → Nat → Nat → Bool} (u : Nat) : ∀ l0 l1 l2 M n c : Nat, gxJ G gY_79 K 2 [] [gR 1 (l0), gR 1 (l1), gI (l2)] M n c (fi_79_W2 K u l0 l1 l2 M n c) := by
  induction u with
  | zero => intro l0 l1 l2 M n c; exact gj_false
  | succ u ih => intro l0 l1 l2 M n c; exact hb_79_B2 hG ih l0 l1 l2 M n c
noncomputable def fi_79_L0 (K : Nat → Nat → Nat → Nat → Bool) (l0 l1 M n c : Nat) : Bool := fi_79_W2 K 65536 (l0) (l1) (0) M n c
theorem h_79_L0 {G : gxG} (hG : gxG0 G) {K : Nat → Nat → Nat → Nat → Bool} (l0 l1 M n c : Nat) : gxJ G gY_79 K 0 [] [gR 1 (l0), gR 1 (l1), gB] M n c (fi_79_L0 K l0 l1 M n c) := by
  unfold fi_79_L0
  refine gr_iconst (pc := 0) (z := 0) 0 (show decode (gy_b gY_79) 0 = .ok (.iconst (0), 1) by decide +kernel) kc_0 ?_
  refine gr_istore_n (pc := 1) (i := 2) (L' := [gR 1 (l0), gR 1 (l1), gI (0)]) (show decode (gy_b gY_79) 1 = .ok (.istore_n 2, 1) by decide +kernel) rfl (by decide) rfl rfl ?_
  exact hw_79_2 hG 65536 (l0) (l1) (0) M n c
noncomputable def fi_79 (l0 l1 M n c : Nat) (K : Nat → Nat → Nat → Nat → Bool) : Bool := fi_79_L0 K l0 l1 M n c
theorem hm_79 {G : gxG} (hG : gxG0 G) (l0 l1 : Nat) : gxM G gY_79 yX1_takeOutAll [gR 1 (l0), gR 1 (l1)] (fi_79 l0 l1) := gxM_of (L := [gR 1 (l0), gR 1 (l1), gB]) hG 1 (by decide +kernel) rfl rfl rfl rfl (List.forall_mem_cons.mpr ⟨rfl, List.forall_mem_cons.mpr ⟨rfl, fun _ h => nomatch h⟩⟩) (fun M n c K => h_79_L0 hG  l0 l1 M n c)
/-! Farfiles$Log gather (LFarfiles$ActSet;I)V -/
def gY_80 : gxY := (false, prog_7_method_5_code, 5, (Option.none : Option FieldType), "Farfiles$Log", 2, 62, 5, [], "gather")
theorem ok_80 {Y : gxY} (h1 : gy_f gY_80 + 1 ≤ gy_f Y) (h2 : 8 + (gy_l gY_80 + 11) + gy_k gY_80 ≤ gy_k Y) : gh_ok Y gY_80 yX5_gather 2 := ⟨wd_984, wd_53, ⟨by decide, by decide⟩, by decide +kernel, h1, h2⟩
noncomputable def fi_80_L103 (K : Nat → Nat → Nat → Nat → Bool) (ih_16 : Nat → Nat → Nat → Nat → Nat → Nat → Nat → Bool) (l0 l1 l2 l3 M n c : Nat) : Bool := gx_add (l3) 1 (fun z23 => ih_16 (l0) (l1) (l2) (z23) M n c)
theorem h_80_L103 {G : gxG} (hG : gxG0 G) {K : Nat → Nat → Nat → Nat → Bool} {ih_16 : Nat → Nat → Nat → Nat → Nat → Nat → Nat → Bool} (hi_16 : ∀ l0 l1 l2 l3 M n c : Nat, gxJ G gY_80 K 16 [] [gR 5 (l0), gR 1 (l1), gI (l2), gI (l3), gB] M n c (ih_16 l0 l1 l2 l3 M n c)) (l0 l1 l2 l3 M n c : Nat) : gxJ G gY_80 K 103 [] [gR 5 (l0), gR 1 (l1), gI (l2), gI (l3), gB] M n c (fi_80_L103 K ih_16 l0 l1 l2 l3 M n c) := by
  unfold fi_80_L103
  refine gr_iinc (pc := 103) (i := 3) (d := 1) (z := 1) (L' := fun z23 => [gR 5 (l0), gR 1 (l1), gI (l2), gI (z23), gB]) (show decode (gy_b gY_80) 103 = .ok (.iinc 3 (1), 3) by decide +kernel) (by decide +kernel) (by decide) rfl rfl (fun _ => rfl) ?_
  intro z23
  refine gr_goto (pc := 106) (tgt := 16) (off := -90) (show decode (gy_b gY_80) 106 = .ok (.goto (-90), 3) by decide +kernel) (by decide) ?_
  exact hi_16 (l0) (l1) (l2) (z23) M n c
noncomputable def fi_80_L81 (K : Nat → Nat → Nat → Nat → Bool) (ih_16 : Nat → Nat → Nat → Nat → Nat → Nat → Nat → Bool) (l0 l1 l2 l3 l4 M n c : Nat) : Bool := gx_get (l4) 2 M (fun v34 => gx_eq (v34) (115) (gx_get (l0) 3 M (fun v35 => gx_get (l4) 6 M (fun v36 => gx_nn (v35) (fi_78 (v35) (v36) M n c (fun v37 M38 n39 c40 => fi_80_L103 K ih_16 (l0) (l1) (l2) (l3) M38 n39 c40))))) (fi_80_L103 K ih_16 (l0) (l1) (l2) (l3) M n c))
theorem h_80_L81 {G : gxG} (hG : gxG0 G) {K : Nat → Nat → Nat → Nat → Bool} {ih_16 : Nat → Nat → Nat → Nat → Nat → Nat → Nat → Bool} (hi_16 : ∀ l0 l1 l2 l3 M n c : Nat, gxJ G gY_80 K 16 [] [gR 5 (l0), gR 1 (l1), gI (l2), gI (l3), gB] M n c (ih_16 l0 l1 l2 l3 M n c)) (l0 l1 l2 l3 l4 M n c : Nat) : gxJ G gY_80 K 81 [] [gR 5 (l0), gR 1 (l1), gI (l2), gI (l3), gR 0 (l4)] M n c (fi_80_L81 K ih_16 l0 l1 l2 l3 l4 M n c) := by
  unfold fi_80_L81
  refine gr_aload (pc := 81) (i := 4) 0 (l4) (show decode (gy_b gY_80) 81 = .ok (.aload 4, 2) by decide +kernel) rfl ?_
  refine gr_getfN (pc := 83) (index := 56) (t := 0) (j := 2) (σ := 1) (sv := gI) (show decode (gy_b gY_80) 83 = .ok (.getfield 56, 3) by decide +kernel) rfl rfl (fun _ => rfl) wd_142 (by decide) ?_
  intro v34
  refine gr_bipush (pc := 86) (z := 115) 115 (show decode (gy_b gY_80) 86 = .ok (.bipush (115), 2) by decide +kernel) (by decide +kernel) ?_
  refine gr_icmp_ne (pc := 88) (tgt := 103) (off := 15) hG.2.1 (show decode (gy_b gY_80) 88 = .ok (.if_icmp .ne (15), 3) by decide +kernel) (by decide) ?_ ?_
  · refine gr_wk [true, true, true, true, false] rfl ?_
    exact h_80_L103 hG hi_16 (l0) (l1) (l2) (l3) M n c
  · refine gr_aload_n (pc := 91) (i := 0) 5 (l0) (show decode (gy_b gY_80) 91 = .ok (.aload_n 0, 1) by decide +kernel) rfl rfl ?_
    refine gr_getf (pc := 92) (index := 35) (t := 5) (j := 3) (σ := 9) (sv := (gR 1)) (show decode (gy_b gY_80) 92 = .ok (.getfield 35, 3) by decide +kernel) rfl rfl (fun _ => rfl) wd_178 (by decide) ?_
    intro v35
    refine gr_aload (pc := 95) (i := 4) 0 (l4) (show decode (gy_b gY_80) 95 = .ok (.aload 4, 2) by decide +kernel) rfl ?_
    refine gr_getfN (pc := 97) (index := 71) (t := 0) (j := 6) (σ := 9) (sv := (gR 1)) (show decode (gy_b gY_80) 97 = .ok (.getfield 71, 3) by decide +kernel) rfl rfl (fun _ => rfl) wd_152 (by decide) ?_
    intro v36
    refine gj_nn (fun hx100 => ?_)
    refine gj_c0 (pc := 100) (Y' := gY_78) (y := yX1_putAll) (vs := [gR 1 (v35), gR 1 (v36)]) (rest := []) (rs := fun v37 => []) [gR 1 (v36), gR 1 (v35)] rfl (hm_78 hG (v35) (v36)) rfl (gh_V (t := 1) (vs := [gR 1 (v36)]) (rest := []) (show decode (gy_b gY_80) 100 = .ok (.invokevirtual 63, 3) by decide +kernel) rfl hx100 rfl rfl (ok_78 (by decide) (by decide)) wd_991 wd_992 wd_993 (Nat.le_of_ble_eq_true rfl)) (fun _ => rfl) ?_
    intro v37 M38 n39 c40
    refine gr_wk [true, true, true, true, false] rfl ?_
    exact h_80_L103 hG hi_16 (l0) (l1) (l2) (l3) M38 n39 c40
noncomputable def fi_80_L67 (K : Nat → Nat → Nat → Nat → Bool) (ih_16 : Nat → Nat → Nat → Nat → Nat → Nat → Nat → Bool) (l0 l1 l2 l3 l4 s0 s1 M n c : Nat) : Bool := gx_nn (s0) (fi_78 (s0) (s1) M n c (fun v43 M44 n45 c46 => fi_80_L81 K ih_16 (l0) (l1) (l2) (l3) (l4) M44 n45 c46))
theorem h_80_L67 {G : gxG} (hG : gxG0 G) {K : Nat → Nat → Nat → Nat → Bool} {ih_16 : Nat → Nat → Nat → Nat → Nat → Nat → Nat → Bool} (hi_16 : ∀ l0 l1 l2 l3 M n c : Nat, gxJ G gY_80 K 16 [] [gR 5 (l0), gR 1 (l1), gI (l2), gI (l3), gB] M n c (ih_16 l0 l1 l2 l3 M n c)) (l0 l1 l2 l3 l4 s0 s1 M n c : Nat) : gxJ G gY_80 K 67 [gR 1 (s1), gR 1 (s0)] [gR 5 (l0), gR 1 (l1), gI (l2), gI (l3), gR 0 (l4)] M n c (fi_80_L67 K ih_16 l0 l1 l2 l3 l4 s0 s1 M n c) := by
  unfold fi_80_L67
  refine gj_nn (fun hx67 => ?_)
  refine gj_c0 (pc := 67) (Y' := gY_78) (y := yX1_putAll) (vs := [gR 1 (s0), gR 1 (s1)]) (rest := []) (rs := fun v43 => []) [gR 1 (s1), gR 1 (s0)] rfl (hm_78 hG (s0) (s1)) rfl (gh_V (t := 1) (vs := [gR 1 (s1)]) (rest := []) (show decode (gy_b gY_80) 67 = .ok (.invokevirtual 63, 3) by decide +kernel) rfl hx67 rfl rfl (ok_78 (by decide) (by decide)) wd_991 wd_992 wd_993 (Nat.le_of_ble_eq_true rfl)) (fun _ => rfl) ?_
  intro v43 M44 n45 c46
  refine gr_goto (pc := 70) (tgt := 81) (off := 11) (show decode (gy_b gY_80) 70 = .ok (.goto (11), 3) by decide +kernel) (by decide) ?_
  exact h_80_L81 hG hi_16 (l0) (l1) (l2) (l3) (l4) M44 n45 c46
noncomputable def fi_80_B16 (K : Nat → Nat → Nat → Nat → Bool) (ih_16 : Nat → Nat → Nat → Nat → Nat → Nat → Nat → Bool) (l0 l1 l2 l3 M n c : Nat) : Bool := gx_get (l0) 4 M (fun v11 => gx_lt (l3) (v11) (gx_nn (l0) (fi_70 (l0) (l3) M n c (fun v18 M19 n20 c21 => gx_get (v18) 1 M19 (fun v22 => gx_eq (v22) (l2) (gx_nn (l1) (fi_69 (l1) (l3) M19 n20 c21 (fun v24 M25 n26 c27 => gx_eq (v24) 0 (fi_80_L103 K ih_16 (l0) (l1) (l2) (l3) M25 n26 c27) (gx_get (v18) 2 M25 (fun v28 => gx_eq (v28) (99) (gx_get (l0) 3 M25 (fun v41 => gx_get (v18) 7 M25 (fun v42 => fi_80_L67 K ih_16 (l0) (l1) (l2) (l3) (v18) (v41) (v42) M25 n26 c27))) (gx_get (l0) 2 M25 (fun v29 => gx_nn (v29) (fi_71 (v29) (l3) M25 n26 c27 (fun v30 M31 n32 c33 => fi_80_L81 K ih_16 (l0) (l1) (l2) (l3) (v18) M31 n32 c33))))))))) (fi_80_L103 K ih_16 (l0) (l1) (l2) (l3) M19 n20 c21))))) (gx_get (l0) 2 M (fun v12 => gx_get (l0) 3 M (fun v13 => gx_nn (v12) (fi_79 (v12) (v13) M n c (fun v14 M15 n16 c17 => K 0 M15 n16 c17))))))
theorem hb_80_B16 {G : gxG} (hG : gxG0 G) {K : Nat → Nat → Nat → Nat → Bool} {ih_16 : Nat → Nat → Nat → Nat → Nat → Nat → Nat → Bool} (hi_16 : ∀ l0 l1 l2 l3 M n c : Nat, gxJ G gY_80 K 16 [] [gR 5 (l0), gR 1 (l1), gI (l2), gI (l3), gB] M n c (ih_16 l0 l1 l2 l3 M n c)) (l0 l1 l2 l3 M n c : Nat) : gxJ G gY_80 K 16 [] [gR 5 (l0), gR 1 (l1), gI (l2), gI (l3), gB] M n c (fi_80_B16 K ih_16 l0 l1 l2 l3 M n c) := by
  unfold fi_80_B16
  refine gr_iload_n (pc := 16) (i := 3) (l3) (show decode (gy_b gY_80) 16 = .ok (.iload_n 3, 1) by decide +kernel) rfl rfl ?_
  refine gr_aload_n (pc := 17) (i := 0) 5 (l0) (show decode (gy_b gY_80) 17 = .ok (.aload_n 0, 1) by decide +kernel) rfl rfl ?_
  refine gr_getf (pc := 18) (index := 38) (t := 5) (j := 4) (σ := 0) (sv := gI) (show decode (gy_b gY_80) 18 = .ok (.getfield 38, 3) by decide +kernel) rfl rfl (fun _ => rfl) wd_179 (by decide) ?_
  intro v11
  refine gr_icmp_ge (pc := 21) (tgt := 109) (off := 88) hG.2.1 (show decode (gy_b gY_80) 21 = .ok (.if_icmp .ge (88), 3) by decide +kernel) (by decide) ?_ ?_
  · refine gr_aload_n (pc := 109) (i := 0) 5 (l0) (show decode (gy_b gY_80) 109 = .ok (.aload_n 0, 1) by decide +kernel) rfl rfl ?_
    refine gr_getf (pc := 110) (index := 31) (t := 5) (j := 2) (σ := 9) (sv := (gR 1)) (show decode (gy_b gY_80) 110 = .ok (.getfield 31, 3) by decide +kernel) rfl rfl (fun _ => rfl) wd_177 (by decide) ?_
    intro v12
    refine gr_aload_n (pc := 113) (i := 0) 5 (l0) (show decode (gy_b gY_80) 113 = .ok (.aload_n 0, 1) by decide +kernel) rfl rfl ?_
    refine gr_getf (pc := 114) (index := 35) (t := 5) (j := 3) (σ := 9) (sv := (gR 1)) (show decode (gy_b gY_80) 114 = .ok (.getfield 35, 3) by decide +kernel) rfl rfl (fun _ => rfl) wd_178 (by decide) ?_
    intro v13
    refine gj_nn (fun hx117 => ?_)
    refine gj_c0 (pc := 117) (Y' := gY_79) (y := yX1_takeOutAll) (vs := [gR 1 (v12), gR 1 (v13)]) (rest := []) (rs := fun v14 => []) [gR 1 (v13), gR 1 (v12)] rfl (hm_79 hG (v12) (v13)) rfl (gh_V (t := 1) (vs := [gR 1 (v13)]) (rest := []) (show decode (gy_b gY_80) 117 = .ok (.invokevirtual 74, 3) by decide +kernel) rfl hx117 rfl rfl (ok_79 (by decide) (by decide)) wd_996 wd_997 wd_998 (Nat.le_of_ble_eq_true rfl)) (fun _ => rfl) ?_
    intro v14 M15 n16 c17
    exact gr_return (pc := 120) (show decode (gy_b gY_80) 120 = .ok (.return_, 1) by decide +kernel) rfl rfl
  · refine gr_aload_n (pc := 24) (i := 0) 5 (l0) (show decode (gy_b gY_80) 24 = .ok (.aload_n 0, 1) by decide +kernel) rfl rfl ?_
    refine gr_iload_n (pc := 25) (i := 3) (l3) (show decode (gy_b gY_80) 25 = .ok (.iload_n 3, 1) by decide +kernel) rfl rfl ?_
    refine gj_nn (fun hx26 => ?_)
    refine gj_c0 (pc := 26) (Y' := gY_70) (y := yX5_at) (vs := [gR 5 (l0), gI (l3)]) (rest := []) (rs := fun v18 => [gR 0 (v18)]) [gI (l3), gR 5 (l0)] rfl (hm_70 hG (l0) (l3)) rfl (gh_V (t := 5) (vs := [gI (l3)]) (rest := []) (show decode (gy_b gY_80) 26 = .ok (.invokevirtual 45, 3) by decide +kernel) rfl hx26 rfl rfl (ok_70 (by decide) (by decide)) wd_989 wd_927 wd_928 (Nat.le_of_ble_eq_true rfl)) (fun _ => rfl) ?_
    intro v18 M19 n20 c21
    refine gr_astore (pc := 29) (i := 4) (L' := [gR 5 (l0), gR 1 (l1), gI (l2), gI (l3), gR 0 (v18)]) (show decode (gy_b gY_80) 29 = .ok (.astore 4, 2) by decide +kernel) (by decide) rfl rfl ?_
    refine gr_aload (pc := 31) (i := 4) 0 (v18) (show decode (gy_b gY_80) 31 = .ok (.aload 4, 2) by decide +kernel) rfl ?_
    refine gr_getfN (pc := 33) (index := 49) (t := 0) (j := 1) (σ := 0) (sv := gI) (show decode (gy_b gY_80) 33 = .ok (.getfield 49, 3) by decide +kernel) rfl rfl (fun _ => rfl) wd_138 (by decide) ?_
    intro v22
    refine gr_iload_n (pc := 36) (i := 2) (l2) (show decode (gy_b gY_80) 36 = .ok (.iload_n 2, 1) by decide +kernel) rfl rfl ?_
    refine gr_icmp_ne (pc := 37) (tgt := 103) (off := 66) hG.2.1 (show decode (gy_b gY_80) 37 = .ok (.if_icmp .ne (66), 3) by decide +kernel) (by decide) ?_ ?_
    · refine gr_wk [true, true, true, true, false] rfl ?_
      exact h_80_L103 hG hi_16 (l0) (l1) (l2) (l3) M19 n20 c21
    · refine gr_aload_n (pc := 40) (i := 1) 1 (l1) (show decode (gy_b gY_80) 40 = .ok (.aload_n 1, 1) by decide +kernel) rfl rfl ?_
      refine gr_iload_n (pc := 41) (i := 3) (l3) (show decode (gy_b gY_80) 41 = .ok (.iload_n 3, 1) by decide +kernel) rfl rfl ?_
      refine gj_nn (fun hx42 => ?_)
      refine gj_c0 (pc := 42) (Y' := gY_69) (y := yX1_has) (vs := [gR 1 (l1), gI (l3)]) (rest := []) (rs := fun v24 => [gI (v24)]) [gI (l3), gR 1 (l1)] rfl (hm_69 hG (l1) (l3)) rfl (gh_V (t := 1) (vs := [gI (l3)]) (rest := []) (show decode (gy_b gY_80) 42 = .ok (.invokevirtual 52, 3) by decide +kernel) rfl hx42 rfl rfl (ok_69 (by decide) (by decide)) wd_990 wd_923 wd_924 (Nat.le_of_ble_eq_true rfl)) (fun _ => rfl) ?_
      intro v24 M25 n26 c27
      refine gr_ifeq (pc := 45) (tgt := 103) (off := 58) hG.2.1 (show decode (gy_b gY_80) 45 = .ok (.ifCond .eq (58), 3) by decide +kernel) (by decide) ?_ ?_
      · refine gr_wk [true, true, true, true, false] rfl ?_
        exact h_80_L103 hG hi_16 (l0) (l1) (l2) (l3) M25 n26 c27
      · refine gr_aload (pc := 48) (i := 4) 0 (v18) (show decode (gy_b gY_80) 48 = .ok (.aload 4, 2) by decide +kernel) rfl ?_
        refine gr_getfN (pc := 50) (index := 56) (t := 0) (j := 2) (σ := 1) (sv := gI) (show decode (gy_b gY_80) 50 = .ok (.getfield 56, 3) by decide +kernel) rfl rfl (fun _ => rfl) wd_142 (by decide) ?_
        intro v28
        refine gr_bipush (pc := 53) (z := 99) 99 (show decode (gy_b gY_80) 53 = .ok (.bipush (99), 2) by decide +kernel) (by decide +kernel) ?_
        refine gr_icmp_ne (pc := 55) (tgt := 73) (off := 18) hG.2.1 (show decode (gy_b gY_80) 55 = .ok (.if_icmp .ne (18), 3) by decide +kernel) (by decide) ?_ ?_
        · refine gr_aload_n (pc := 73) (i := 0) 5 (l0) (show decode (gy_b gY_80) 73 = .ok (.aload_n 0, 1) by decide +kernel) rfl rfl ?_
          refine gr_getf (pc := 74) (index := 31) (t := 5) (j := 2) (σ := 9) (sv := (gR 1)) (show decode (gy_b gY_80) 74 = .ok (.getfield 31, 3) by decide +kernel) rfl rfl (fun _ => rfl) wd_177 (by decide) ?_
          intro v29
          refine gr_iload_n (pc := 77) (i := 3) (l3) (show decode (gy_b gY_80) 77 = .ok (.iload_n 3, 1) by decide +kernel) rfl rfl ?_
          refine gj_nn (fun hx78 => ?_)
          refine gj_c0 (pc := 78) (Y' := gY_71) (y := yX1_put) (vs := [gR 1 (v29), gI (l3)]) (rest := []) (rs := fun v30 => []) [gI (l3), gR 1 (v29)] rfl (hm_71 hG (v29) (l3)) rfl (gh_V (t := 1) (vs := [gI (l3)]) (rest := []) (show decode (gy_b gY_80) 78 = .ok (.invokevirtual 67, 3) by decide +kernel) rfl hx78 rfl rfl (ok_71 (by decide) (by decide)) wd_995 wd_957 wd_958 (Nat.le_of_ble_eq_true rfl)) (fun _ => rfl) ?_
          intro v30 M31 n32 c33
          exact h_80_L81 hG hi_16 (l0) (l1) (l2) (l3) (v18) M31 n32 c33
        · refine gr_aload_n (pc := 58) (i := 0) 5 (l0) (show decode (gy_b gY_80) 58 = .ok (.aload_n 0, 1) by decide +kernel) rfl rfl ?_
          refine gr_getf (pc := 59) (index := 35) (t := 5) (j := 3) (σ := 9) (sv := (gR 1)) (show decode (gy_b gY_80) 59 = .ok (.getfield 35, 3) by decide +kernel) rfl rfl (fun _ => rfl) wd_178 (by decide) ?_
          intro v41
          refine gr_aload (pc := 62) (i := 4) 0 (v18) (show decode (gy_b gY_80) 62 = .ok (.aload 4, 2) by decide +kernel) rfl ?_
          refine gr_getfN (pc := 64) (index := 60) (t := 0) (j := 7) (σ := 9) (sv := (gR 1)) (show decode (gy_b gY_80) 64 = .ok (.getfield 60, 3) by decide +kernel) rfl rfl (fun _ => rfl) wd_155 (by decide) ?_
          intro v42
          exact h_80_L67 hG hi_16 (l0) (l1) (l2) (l3) (v18) (v41) (v42) M25 n26 c27
noncomputable def fi_80_W16 (K : Nat → Nat → Nat → Nat → Bool) (u : Nat) : Nat → Nat → Nat → Nat → Nat → Nat → Nat → Bool := Nat.rec (motive := fun _ => Nat → Nat → Nat → Nat → Nat → Nat → Nat → Bool) (fun _ _ _ _ _ _ _ => false) (fun _ ih => fi_80_B16 K ih) u
theorem hw_80_16 {G : gxG} (hG : gxG0 G) {K : Nat → Nat → Nat → Nat → Bool} (u : Nat) : ∀ l0 l1 l2 l3 M n c : Nat, gxJ G gY_80 K 16 [] [gR 5 (l0), gR 1 (l1), gI (l2), gI (l3), gB] M n c (fi_80_W16 K u l0 l1 l2 l3 M n c) := by
  induction u with
  | zero => intro l0 l1 l2 l3 M n c; exact gj_false
  | succ u ih => intro l0 l1 l2 l3 M n c; exact hb_80_B16 hG ih l0 l1 l2 l3 M n c
noncomputable def fi_80_L0 (K : Nat → Nat → Nat → Nat → Bool) (l0 l1 l2 M n c : Nat) : Bool := gx_get (l0) 2 M (fun v1 => gx_nn (v1) (fi_77 (v1) M n c (fun v2 M3 n4 c5 => gx_get (l0) 3 M3 (fun v6 => gx_nn (v6) (fi_77 (v6) M3 n4 c5 (fun v7 M8 n9 c10 => fi_80_W16 K 65536 (l0) (l1) (l2) (0) M8 n9 c10))))))
theorem h_80_L0 {G : gxG} (hG : gxG0 G) {K : Nat → Nat → Nat → Nat → Bool} (l0 l1 l2 M n c : Nat) : gxJ G gY_80 K 0 [] [gR 5 (l0), gR 1 (l1), gI (l2), gB, gB] M n c (fi_80_L0 K l0 l1 l2 M n c) := by
  unfold fi_80_L0
  refine gr_aload_n (pc := 0) (i := 0) 5 (l0) (show decode (gy_b gY_80) 0 = .ok (.aload_n 0, 1) by decide +kernel) rfl rfl ?_
  refine gr_getf (pc := 1) (index := 31) (t := 5) (j := 2) (σ := 9) (sv := (gR 1)) (show decode (gy_b gY_80) 1 = .ok (.getfield 31, 3) by decide +kernel) rfl rfl (fun _ => rfl) wd_177 (by decide) ?_
  intro v1
  refine gj_nn (fun hx4 => ?_)
  refine gj_c0 (pc := 4) (Y' := gY_77) (y := yX1_empty) (vs := [gR 1 (v1)]) (rest := []) (rs := fun v2 => []) [gR 1 (v1)] rfl (hm_77 hG (v1)) rfl (gh_V (t := 1) (vs := []) (rest := []) (show decode (gy_b gY_80) 4 = .ok (.invokevirtual 42, 3) by decide +kernel) rfl hx4 rfl rfl (ok_77 (by decide) (by decide)) wd_985 wd_986 wd_987 (Nat.le_of_ble_eq_true rfl)) (fun _ => rfl) ?_
  intro v2 M3 n4 c5
  refine gr_aload_n (pc := 7) (i := 0) 5 (l0) (show decode (gy_b gY_80) 7 = .ok (.aload_n 0, 1) by decide +kernel) rfl rfl ?_
  refine gr_getf (pc := 8) (index := 35) (t := 5) (j := 3) (σ := 9) (sv := (gR 1)) (show decode (gy_b gY_80) 8 = .ok (.getfield 35, 3) by decide +kernel) rfl rfl (fun _ => rfl) wd_178 (by decide) ?_
  intro v6
  refine gj_nn (fun hx11 => ?_)
  refine gj_c0 (pc := 11) (Y' := gY_77) (y := yX1_empty) (vs := [gR 1 (v6)]) (rest := []) (rs := fun v7 => []) [gR 1 (v6)] rfl (hm_77 hG (v6)) rfl (gh_V (t := 1) (vs := []) (rest := []) (show decode (gy_b gY_80) 11 = .ok (.invokevirtual 42, 3) by decide +kernel) rfl hx11 rfl rfl (ok_77 (by decide) (by decide)) wd_985 wd_986 wd_987 (Nat.le_of_ble_eq_true rfl)) (fun _ => rfl) ?_
  intro v7 M8 n9 c10
  refine gr_iconst (pc := 14) (z := 0) 0 (show decode (gy_b gY_80) 14 = .ok (.iconst (0), 1) by decide +kernel) kc_0 ?_
  refine gr_istore_n (pc := 15) (i := 3) (L' := [gR 5 (l0), gR 1 (l1), gI (l2), gI (0), gB]) (show decode (gy_b gY_80) 15 = .ok (.istore_n 3, 1) by decide +kernel) rfl (by decide) rfl rfl ?_
  exact hw_80_16 hG 65536 (l0) (l1) (l2) (0) M8 n9 c10
noncomputable def fi_80 (l0 l1 l2 M n c : Nat) (K : Nat → Nat → Nat → Nat → Bool) : Bool := fi_80_L0 K l0 l1 l2 M n c
theorem hm_80 {G : gxG} (hG : gxG0 G) (l0 l1 l2 : Nat) : gxM G gY_80 yX5_gather [gR 5 (l0), gR 1 (l1), gI (l2)] (fi_80 l0 l1 l2) := gxM_of (L := [gR 5 (l0), gR 1 (l1), gI (l2), gB, gB]) hG 2 (by decide +kernel) rfl rfl rfl rfl (List.forall_mem_cons.mpr ⟨rfl, List.forall_mem_cons.mpr ⟨rfl, List.forall_mem_cons.mpr ⟨rfl, fun _ h => nomatch h⟩⟩⟩) (fun M n c K => h_80_L0 hG  l0 l1 l2 M n c)
/-! Farfiles$Log toldName (LFarfiles$Act;)I -/
def gY_81 : gxY := (false, prog_7_method_6_code, 4, (Option.some Jvm.ClassFile.FieldType.int), "Farfiles$Log", 2, 62, 0, [], "toldName")
theorem ok_81 {Y : gxY} (h1 : gy_f gY_81 + 1 ≤ gy_f Y) (h2 : 8 + (gy_l gY_81 + 11) + gy_k gY_81 ≤ gy_k Y) : gh_ok Y gY_81 yX5_toldName 1 := ⟨wd_1003, wd_53, ⟨by decide, by decide⟩, by decide +kernel, h1, h2⟩
noncomputable def fi_81_L57 (K : Nat → Nat → Nat → Nat → Bool) (ih_2 : Nat → Nat → Nat → Nat → Nat → Nat → Bool) (l0 l1 l2 M n c : Nat) : Bool := gx_add (l2) 1 (fun z8 => ih_2 (l0) (l1) (z8) M n c)
theorem h_81_L57 {G : gxG} (hG : gxG0 G) {K : Nat → Nat → Nat → Nat → Bool} {ih_2 : Nat → Nat → Nat → Nat → Nat → Nat → Bool} (hi_2 : ∀ l0 l1 l2 M n c : Nat, gxJ G gY_81 K 2 [] [gR 5 (l0), gR 0 (l1), gI (l2), gB] M n c (ih_2 l0 l1 l2 M n c)) (l0 l1 l2 M n c : Nat) : gxJ G gY_81 K 57 [] [gR 5 (l0), gR 0 (l1), gI (l2), gB] M n c (fi_81_L57 K ih_2 l0 l1 l2 M n c) := by
  unfold fi_81_L57
  refine gr_iinc (pc := 57) (i := 2) (d := 1) (z := 1) (L' := fun z8 => [gR 5 (l0), gR 0 (l1), gI (z8), gB]) (show decode (gy_b gY_81) 57 = .ok (.iinc 2 (1), 3) by decide +kernel) (by decide +kernel) (by decide) rfl rfl (fun _ => rfl) ?_
  intro z8
  refine gr_goto (pc := 60) (tgt := 2) (off := -58) (show decode (gy_b gY_81) 60 = .ok (.goto (-58), 3) by decide +kernel) (by decide) ?_
  exact hi_2 (l0) (l1) (z8) M n c
noncomputable def fi_81_B2 (K : Nat → Nat → Nat → Nat → Bool) (ih_2 : Nat → Nat → Nat → Nat → Nat → Nat → Bool) (l0 l1 l2 M n c : Nat) : Bool := gx_get (l0) 4 M (fun v1 => gx_lt (l2) (v1) (gx_get (l0) 2 M (fun v3 => gx_nn (v3) (fi_69 (v3) (l2) M n c (fun v4 M5 n6 c7 => gx_eq (v4) 0 (fi_81_L57 K ih_2 (l0) (l1) (l2) M5 n6 c7) (gx_nn (l0) (fi_70 (l0) (l2) M5 n6 c7 (fun v9 M10 n11 c12 => gx_get (v9) 3 M10 (fun v13 => gx_get (l1) 3 M10 (fun v14 => gx_eq (v13) (v14) (gx_get (v9) 4 M10 (fun v15 => gx_get (l1) 4 M10 (fun v16 => gx_lt (v15) (v16) (false) (fi_81_L57 K ih_2 (l0) (l1) (l2) M10 n11 c12)))) (fi_81_L57 K ih_2 (l0) (l1) (l2) M10 n11 c12)))))))))) (gx_get (l1) 3 M (fun v2 => gx_rt gx_f0 (v2) (K (v2) M n c))))
theorem hb_81_B2 {G : gxG} (hG : gxG0 G) {K : Nat → Nat → Nat → Nat → Bool} {ih_2 : Nat → Nat → Nat → Nat → Nat → Nat → Bool} (hi_2 : ∀ l0 l1 l2 M n c : Nat, gxJ G gY_81 K 2 [] [gR 5 (l0), gR 0 (l1), gI (l2), gB] M n c (ih_2 l0 l1 l2 M n c)) (l0 l1 l2 M n c : Nat) : gxJ G gY_81 K 2 [] [gR 5 (l0), gR 0 (l1), gI (l2), gB] M n c (fi_81_B2 K ih_2 l0 l1 l2 M n c) := by
  unfold fi_81_B2
  refine gr_iload_n (pc := 2) (i := 2) (l2) (show decode (gy_b gY_81) 2 = .ok (.iload_n 2, 1) by decide +kernel) rfl rfl ?_
  refine gr_aload_n (pc := 3) (i := 0) 5 (l0) (show decode (gy_b gY_81) 3 = .ok (.aload_n 0, 1) by decide +kernel) rfl rfl ?_
  refine gr_getf (pc := 4) (index := 38) (t := 5) (j := 4) (σ := 0) (sv := gI) (show decode (gy_b gY_81) 4 = .ok (.getfield 38, 3) by decide +kernel) rfl rfl (fun _ => rfl) wd_179 (by decide) ?_
  intro v1
  refine gr_icmp_ge (pc := 7) (tgt := 63) (off := 56) hG.2.1 (show decode (gy_b gY_81) 7 = .ok (.if_icmp .ge (56), 3) by decide +kernel) (by decide) ?_ ?_
  · refine gr_aload_n (pc := 63) (i := 1) 0 (l1) (show decode (gy_b gY_81) 63 = .ok (.aload_n 1, 1) by decide +kernel) rfl rfl ?_
    refine gr_getfN (pc := 64) (index := 77) (t := 0) (j := 3) (σ := 0) (sv := gI) (show decode (gy_b gY_81) 64 = .ok (.getfield 77, 3) by decide +kernel) rfl rfl (fun _ => rfl) wd_145 (by decide) ?_
    intro v2
    exact gr_ireturn (pc := 67) (show decode (gy_b gY_81) 67 = .ok (.ireturn, 1) by decide +kernel) rfl rfl (by decide) gv_0
  · refine gr_aload_n (pc := 10) (i := 0) 5 (l0) (show decode (gy_b gY_81) 10 = .ok (.aload_n 0, 1) by decide +kernel) rfl rfl ?_
    refine gr_getf (pc := 11) (index := 31) (t := 5) (j := 2) (σ := 9) (sv := (gR 1)) (show decode (gy_b gY_81) 11 = .ok (.getfield 31, 3) by decide +kernel) rfl rfl (fun _ => rfl) wd_177 (by decide) ?_
    intro v3
    refine gr_iload_n (pc := 14) (i := 2) (l2) (show decode (gy_b gY_81) 14 = .ok (.iload_n 2, 1) by decide +kernel) rfl rfl ?_
    refine gj_nn (fun hx15 => ?_)
    refine gj_c0 (pc := 15) (Y' := gY_69) (y := yX1_has) (vs := [gR 1 (v3), gI (l2)]) (rest := []) (rs := fun v4 => [gI (v4)]) [gI (l2), gR 1 (v3)] rfl (hm_69 hG (v3) (l2)) rfl (gh_V (t := 1) (vs := [gI (l2)]) (rest := []) (show decode (gy_b gY_81) 15 = .ok (.invokevirtual 52, 3) by decide +kernel) rfl hx15 rfl rfl (ok_69 (by decide) (by decide)) wd_990 wd_923 wd_924 (Nat.le_of_ble_eq_true rfl)) (fun _ => rfl) ?_
    intro v4 M5 n6 c7
    refine gr_ifeq (pc := 18) (tgt := 57) (off := 39) hG.2.1 (show decode (gy_b gY_81) 18 = .ok (.ifCond .eq (39), 3) by decide +kernel) (by decide) ?_ ?_
    · exact h_81_L57 hG hi_2 (l0) (l1) (l2) M5 n6 c7
    · refine gr_aload_n (pc := 21) (i := 0) 5 (l0) (show decode (gy_b gY_81) 21 = .ok (.aload_n 0, 1) by decide +kernel) rfl rfl ?_
      refine gr_iload_n (pc := 22) (i := 2) (l2) (show decode (gy_b gY_81) 22 = .ok (.iload_n 2, 1) by decide +kernel) rfl rfl ?_
      refine gj_nn (fun hx23 => ?_)
      refine gj_c0 (pc := 23) (Y' := gY_70) (y := yX5_at) (vs := [gR 5 (l0), gI (l2)]) (rest := []) (rs := fun v9 => [gR 0 (v9)]) [gI (l2), gR 5 (l0)] rfl (hm_70 hG (l0) (l2)) rfl (gh_V (t := 5) (vs := [gI (l2)]) (rest := []) (show decode (gy_b gY_81) 23 = .ok (.invokevirtual 45, 3) by decide +kernel) rfl hx23 rfl rfl (ok_70 (by decide) (by decide)) wd_989 wd_927 wd_928 (Nat.le_of_ble_eq_true rfl)) (fun _ => rfl) ?_
      intro v9 M10 n11 c12
      refine gr_astore_n (pc := 26) (i := 3) (L' := [gR 5 (l0), gR 0 (l1), gI (l2), gR 0 (v9)]) (show decode (gy_b gY_81) 26 = .ok (.astore_n 3, 1) by decide +kernel) rfl (by decide) rfl rfl ?_
      refine gr_aload_n (pc := 27) (i := 3) 0 (v9) (show decode (gy_b gY_81) 27 = .ok (.aload_n 3, 1) by decide +kernel) rfl rfl ?_
      refine gr_getfN (pc := 28) (index := 77) (t := 0) (j := 3) (σ := 0) (sv := gI) (show decode (gy_b gY_81) 28 = .ok (.getfield 77, 3) by decide +kernel) rfl rfl (fun _ => rfl) wd_145 (by decide) ?_
      intro v13
      refine gr_aload_n (pc := 31) (i := 1) 0 (l1) (show decode (gy_b gY_81) 31 = .ok (.aload_n 1, 1) by decide +kernel) rfl rfl ?_
      refine gr_getfN (pc := 32) (index := 77) (t := 0) (j := 3) (σ := 0) (sv := gI) (show decode (gy_b gY_81) 32 = .ok (.getfield 77, 3) by decide +kernel) rfl rfl (fun _ => rfl) wd_145 (by decide) ?_
      intro v14
      refine gr_icmp_ne (pc := 35) (tgt := 57) (off := 22) hG.2.1 (show decode (gy_b gY_81) 35 = .ok (.if_icmp .ne (22), 3) by decide +kernel) (by decide) ?_ ?_
      · refine gr_wk [true, true, true, false] rfl ?_
        exact h_81_L57 hG hi_2 (l0) (l1) (l2) M10 n11 c12
      · refine gr_aload_n (pc := 38) (i := 3) 0 (v9) (show decode (gy_b gY_81) 38 = .ok (.aload_n 3, 1) by decide +kernel) rfl rfl ?_
        refine gr_getfN (pc := 39) (index := 80) (t := 0) (j := 4) (σ := 0) (sv := gI) (show decode (gy_b gY_81) 39 = .ok (.getfield 80, 3) by decide +kernel) rfl rfl (fun _ => rfl) wd_147 (by decide) ?_
        intro v15
        refine gr_aload_n (pc := 42) (i := 1) 0 (l1) (show decode (gy_b gY_81) 42 = .ok (.aload_n 1, 1) by decide +kernel) rfl rfl ?_
        refine gr_getfN (pc := 43) (index := 80) (t := 0) (j := 4) (σ := 0) (sv := gI) (show decode (gy_b gY_81) 43 = .ok (.getfield 80, 3) by decide +kernel) rfl rfl (fun _ => rfl) wd_147 (by decide) ?_
        intro v16
        refine gr_icmp_ge (pc := 46) (tgt := 57) (off := 11) hG.2.1 (show decode (gy_b gY_81) 46 = .ok (.if_icmp .ge (11), 3) by decide +kernel) (by decide) ?_ ?_
        · refine gr_wk [true, true, true, false] rfl ?_
          exact h_81_L57 hG hi_2 (l0) (l1) (l2) M10 n11 c12
        · exact gj_false
noncomputable def fi_81_W2 (K : Nat → Nat → Nat → Nat → Bool) (u : Nat) : Nat → Nat → Nat → Nat → Nat → Nat → Bool := Nat.rec (motive := fun _ => Nat → Nat → Nat → Nat → Nat → Nat → Bool) (fun _ _ _ _ _ _ => false) (fun _ ih => fi_81_B2 K ih) u
theorem hw_81_2 {G : gxG} (hG : gxG0 G) {K : Nat → Nat → Nat → Nat → Bool} (u : Nat) : ∀ l0 l1 l2 M n c : Nat, gxJ G gY_81 K 2 [] [gR 5 (l0), gR 0 (l1), gI (l2), gB] M n c (fi_81_W2 K u l0 l1 l2 M n c) := by
  induction u with
  | zero => intro l0 l1 l2 M n c; exact gj_false
  | succ u ih => intro l0 l1 l2 M n c; exact hb_81_B2 hG ih l0 l1 l2 M n c
noncomputable def fi_81_L0 (K : Nat → Nat → Nat → Nat → Bool) (l0 l1 M n c : Nat) : Bool := fi_81_W2 K 65536 (l0) (l1) (0) M n c
theorem h_81_L0 {G : gxG} (hG : gxG0 G) {K : Nat → Nat → Nat → Nat → Bool} (l0 l1 M n c : Nat) : gxJ G gY_81 K 0 [] [gR 5 (l0), gR 0 (l1), gB, gB] M n c (fi_81_L0 K l0 l1 M n c) := by
  unfold fi_81_L0
  refine gr_iconst (pc := 0) (z := 0) 0 (show decode (gy_b gY_81) 0 = .ok (.iconst (0), 1) by decide +kernel) kc_0 ?_
  refine gr_istore_n (pc := 1) (i := 2) (L' := [gR 5 (l0), gR 0 (l1), gI (0), gB]) (show decode (gy_b gY_81) 1 = .ok (.istore_n 2, 1) by decide +kernel) rfl (by decide) rfl rfl ?_
  exact hw_81_2 hG 65536 (l0) (l1) (0) M n c
noncomputable def fi_81 (l0 l1 M n c : Nat) (K : Nat → Nat → Nat → Nat → Bool) : Bool := fi_81_L0 K l0 l1 M n c
theorem hm_81 {G : gxG} (hG : gxG0 G) (l0 l1 : Nat) : gxM G gY_81 yX5_toldName [gR 5 (l0), gR 0 (l1)] (fi_81 l0 l1) := gxM_of (L := [gR 5 (l0), gR 0 (l1), gB, gB]) hG 2 (by decide +kernel) rfl rfl rfl rfl (List.forall_mem_cons.mpr ⟨rfl, List.forall_mem_cons.mpr ⟨rfl, fun _ h => nomatch h⟩⟩) (fun M n c K => h_81_L0 hG  l0 l1 M n c)
/-! Farfiles$Log entryOf (LFarfiles$ActSet;II)I -/
def gY_82 : gxY := (false, prog_7_method_7_code, 6, (Option.some Jvm.ClassFile.FieldType.int), "Farfiles$Log", 3, 86, 0, [], "entryOf")
theorem ok_82 {Y : gxY} (h1 : gy_f gY_82 + 1 ≤ gy_f Y) (h2 : 8 + (gy_l gY_82 + 11) + gy_k gY_82 ≤ gy_k Y) : gh_ok Y gY_82 yX5_entryOf 3 := ⟨wd_980, wd_53, ⟨by decide, by decide⟩, by decide +kernel, h1, h2⟩
noncomputable def fi_82_L54 (K : Nat → Nat → Nat → Nat → Bool) (ih_9 : Nat → Nat → Nat → Nat → Nat → Nat → Bool) (l0 l3 l4 M n c : Nat) : Bool := gx_add (l4) 1 (fun z11 => ih_9 (l0) (l3) (z11) M n c)
theorem h_82_L54 {G : gxG} (hG : gxG0 G) {K : Nat → Nat → Nat → Nat → Bool} {ih_9 : Nat → Nat → Nat → Nat → Nat → Nat → Bool} (hi_9 : ∀ l0 l3 l4 M n c : Nat, gxJ G gY_82 K 9 [] [gR 5 (l0), gB, gB, gI (l3), gI (l4), gB] M n c (ih_9 l0 l3 l4 M n c)) (l0 l3 l4 M n c : Nat) : gxJ G gY_82 K 54 [] [gR 5 (l0), gB, gB, gI (l3), gI (l4), gB] M n c (fi_82_L54 K ih_9 l0 l3 l4 M n c) := by
  unfold fi_82_L54
  refine gr_iinc (pc := 54) (i := 4) (d := 1) (z := 1) (L' := fun z11 => [gR 5 (l0), gB, gB, gI (l3), gI (z11), gB]) (show decode (gy_b gY_82) 54 = .ok (.iinc 4 (1), 3) by decide +kernel) (by decide +kernel) (by decide) rfl rfl (fun _ => rfl) ?_
  intro z11
  refine gr_goto (pc := 57) (tgt := 9) (off := -48) (show decode (gy_b gY_82) 57 = .ok (.goto (-48), 3) by decide +kernel) (by decide) ?_
  exact hi_9 (l0) (l3) (z11) M n c
noncomputable def fi_82_B9 (K : Nat → Nat → Nat → Nat → Bool) (ih_9 : Nat → Nat → Nat → Nat → Nat → Nat → Bool) (l0 l3 l4 M n c : Nat) : Bool := gx_get (l0) 4 M (fun v5 => gx_lt (l4) (v5) (gx_get (l0) 2 M (fun v6 => gx_nn (v6) (fi_69 (v6) (l4) M n c (fun v7 M8 n9 c10 => gx_eq (v7) 0 (fi_82_L54 K ih_9 (l0) (l3) (l4) M8 n9 c10) (gx_nn (l0) (fi_70 (l0) (l4) M8 n9 c10 (fun v12 M13 n14 c15 => gx_nn (l0) (fi_81 (l0) (v12) M13 n14 c15 (fun v16 M17 n18 c19 => gx_eq (v16) (l3) (gx_get (v12) 4 M17 (fun v20 => gx_rt gx_f0 (v20) (K (v20) M17 n18 c19))) (fi_82_L54 K ih_9 (l0) (l3) (l4) M17 n18 c19)))))))))) (gx_rt gx_f0 (4294967295) (K (4294967295) M n c)))
theorem hb_82_B9 {G : gxG} (hG : gxG0 G) {K : Nat → Nat → Nat → Nat → Bool} {ih_9 : Nat → Nat → Nat → Nat → Nat → Nat → Bool} (hi_9 : ∀ l0 l3 l4 M n c : Nat, gxJ G gY_82 K 9 [] [gR 5 (l0), gB, gB, gI (l3), gI (l4), gB] M n c (ih_9 l0 l3 l4 M n c)) (l0 l3 l4 M n c : Nat) : gxJ G gY_82 K 9 [] [gR 5 (l0), gB, gB, gI (l3), gI (l4), gB] M n c (fi_82_B9 K ih_9 l0 l3 l4 M n c) := by
  unfold fi_82_B9
  refine gr_iload (pc := 9) (i := 4) (l4) (show decode (gy_b gY_82) 9 = .ok (.iload 4, 2) by decide +kernel) rfl ?_
  refine gr_aload_n (pc := 11) (i := 0) 5 (l0) (show decode (gy_b gY_82) 11 = .ok (.aload_n 0, 1) by decide +kernel) rfl rfl ?_
  refine gr_getf (pc := 12) (index := 38) (t := 5) (j := 4) (σ := 0) (sv := gI) (show decode (gy_b gY_82) 12 = .ok (.getfield 38, 3) by decide +kernel) rfl rfl (fun _ => rfl) wd_179 (by decide) ?_
  intro v5
  refine gr_icmp_ge (pc := 15) (tgt := 60) (off := 45) hG.2.1 (show decode (gy_b gY_82) 15 = .ok (.if_icmp .ge (45), 3) by decide +kernel) (by decide) ?_ ?_
  · refine gr_iconst (pc := 60) (z := -1) 4294967295 (show decode (gy_b gY_82) 60 = .ok (.iconst (-1), 1) by decide +kernel) kc_m1 ?_
    exact gr_ireturn (pc := 61) (show decode (gy_b gY_82) 61 = .ok (.ireturn, 1) by decide +kernel) rfl rfl (by decide) gv_0
  · refine gr_aload_n (pc := 18) (i := 0) 5 (l0) (show decode (gy_b gY_82) 18 = .ok (.aload_n 0, 1) by decide +kernel) rfl rfl ?_
    refine gr_getf (pc := 19) (index := 31) (t := 5) (j := 2) (σ := 9) (sv := (gR 1)) (show decode (gy_b gY_82) 19 = .ok (.getfield 31, 3) by decide +kernel) rfl rfl (fun _ => rfl) wd_177 (by decide) ?_
    intro v6
    refine gr_iload (pc := 22) (i := 4) (l4) (show decode (gy_b gY_82) 22 = .ok (.iload 4, 2) by decide +kernel) rfl ?_
    refine gj_nn (fun hx24 => ?_)
    refine gj_c0 (pc := 24) (Y' := gY_69) (y := yX1_has) (vs := [gR 1 (v6), gI (l4)]) (rest := []) (rs := fun v7 => [gI (v7)]) [gI (l4), gR 1 (v6)] rfl (hm_69 hG (v6) (l4)) rfl (gh_V (t := 1) (vs := [gI (l4)]) (rest := []) (show decode (gy_b gY_82) 24 = .ok (.invokevirtual 52, 3) by decide +kernel) rfl hx24 rfl rfl (ok_69 (by decide) (by decide)) wd_990 wd_923 wd_924 (Nat.le_of_ble_eq_true rfl)) (fun _ => rfl) ?_
    intro v7 M8 n9 c10
    refine gr_ifeq (pc := 27) (tgt := 54) (off := 27) hG.2.1 (show decode (gy_b gY_82) 27 = .ok (.ifCond .eq (27), 3) by decide +kernel) (by decide) ?_ ?_
    · exact h_82_L54 hG hi_9 (l0) (l3) (l4) M8 n9 c10
    · refine gr_aload_n (pc := 30) (i := 0) 5 (l0) (show decode (gy_b gY_82) 30 = .ok (.aload_n 0, 1) by decide +kernel) rfl rfl ?_
      refine gr_iload (pc := 31) (i := 4) (l4) (show decode (gy_b gY_82) 31 = .ok (.iload 4, 2) by decide +kernel) rfl ?_
      refine gj_nn (fun hx33 => ?_)
      refine gj_c0 (pc := 33) (Y' := gY_70) (y := yX5_at) (vs := [gR 5 (l0), gI (l4)]) (rest := []) (rs := fun v12 => [gR 0 (v12)]) [gI (l4), gR 5 (l0)] rfl (hm_70 hG (l0) (l4)) rfl (gh_V (t := 5) (vs := [gI (l4)]) (rest := []) (show decode (gy_b gY_82) 33 = .ok (.invokevirtual 45, 3) by decide +kernel) rfl hx33 rfl rfl (ok_70 (by decide) (by decide)) wd_989 wd_927 wd_928 (Nat.le_of_ble_eq_true rfl)) (fun _ => rfl) ?_
      intro v12 M13 n14 c15
      refine gr_astore (pc := 36) (i := 5) (L' := [gR 5 (l0), gB, gB, gI (l3), gI (l4), gR 0 (v12)]) (show decode (gy_b gY_82) 36 = .ok (.astore 5, 2) by decide +kernel) (by decide) rfl rfl ?_
      refine gr_aload_n (pc := 38) (i := 0) 5 (l0) (show decode (gy_b gY_82) 38 = .ok (.aload_n 0, 1) by decide +kernel) rfl rfl ?_
      refine gr_aload (pc := 39) (i := 5) 0 (v12) (show decode (gy_b gY_82) 39 = .ok (.aload 5, 2) by decide +kernel) rfl ?_
      refine gj_nn (fun hx41 => ?_)
      refine gj_c0 (pc := 41) (Y' := gY_81) (y := yX5_toldName) (vs := [gR 5 (l0), gR 0 (v12)]) (rest := []) (rs := fun v16 => [gI (v16)]) [gR 0 (v12), gR 5 (l0)] rfl (hm_81 hG (l0) (v12)) rfl (gh_V (t := 5) (vs := [gR 0 (v12)]) (rest := []) (show decode (gy_b gY_82) 41 = .ok (.invokevirtual 91, 3) by decide +kernel) rfl hx41 rfl rfl (ok_81 (by decide) (by decide)) wd_1000 wd_1002 wd_23 (Nat.le_of_ble_eq_true rfl)) (fun _ => rfl) ?_
      intro v16 M17 n18 c19
      refine gr_iload_n (pc := 44) (i := 3) (l3) (show decode (gy_b gY_82) 44 = .ok (.iload_n 3, 1) by decide +kernel) rfl rfl ?_
      refine gr_icmp_ne (pc := 45) (tgt := 54) (off := 9) hG.2.1 (show decode (gy_b gY_82) 45 = .ok (.if_icmp .ne (9), 3) by decide +kernel) (by decide) ?_ ?_
      · refine gr_wk [true, true, true, true, true, false] rfl ?_
        exact h_82_L54 hG hi_9 (l0) (l3) (l4) M17 n18 c19
      · refine gr_aload (pc := 48) (i := 5) 0 (v12) (show decode (gy_b gY_82) 48 = .ok (.aload 5, 2) by decide +kernel) rfl ?_
        refine gr_getfN (pc := 50) (index := 80) (t := 0) (j := 4) (σ := 0) (sv := gI) (show decode (gy_b gY_82) 50 = .ok (.getfield 80, 3) by decide +kernel) rfl rfl (fun _ => rfl) wd_147 (by decide) ?_
        intro v20
        exact gr_ireturn (pc := 53) (show decode (gy_b gY_82) 53 = .ok (.ireturn, 1) by decide +kernel) rfl rfl (by decide) gv_0
noncomputable def fi_82_W9 (K : Nat → Nat → Nat → Nat → Bool) (u : Nat) : Nat → Nat → Nat → Nat → Nat → Nat → Bool := Nat.rec (motive := fun _ => Nat → Nat → Nat → Nat → Nat → Nat → Bool) (fun _ _ _ _ _ _ => false) (fun _ ih => fi_82_B9 K ih) u
theorem hw_82_9 {G : gxG} (hG : gxG0 G) {K : Nat → Nat → Nat → Nat → Bool} (u : Nat) : ∀ l0 l3 l4 M n c : Nat, gxJ G gY_82 K 9 [] [gR 5 (l0), gB, gB, gI (l3), gI (l4), gB] M n c (fi_82_W9 K u l0 l3 l4 M n c) := by
  induction u with
  | zero => intro l0 l3 l4 M n c; exact gj_false
  | succ u ih => intro l0 l3 l4 M n c; exact hb_82_B9 hG ih l0 l3 l4 M n c
noncomputable def fi_82_L0 (K : Nat → Nat → Nat → Nat → Bool) (l0 l1 l2 l3 M n c : Nat) : Bool := gx_nn (l0) (fi_80 (l0) (l1) (l2) M n c (fun v1 M2 n3 c4 => fi_82_W9 K 65536 (l0) (l3) (0) M2 n3 c4))
theorem h_82_L0 {G : gxG} (hG : gxG0 G) {K : Nat → Nat → Nat → Nat → Bool} (l0 l1 l2 l3 M n c : Nat) : gxJ G gY_82 K 0 [] [gR 5 (l0), gR 1 (l1), gI (l2), gI (l3), gB, gB] M n c (fi_82_L0 K l0 l1 l2 l3 M n c) := by
  unfold fi_82_L0
  refine gr_aload_n (pc := 0) (i := 0) 5 (l0) (show decode (gy_b gY_82) 0 = .ok (.aload_n 0, 1) by decide +kernel) rfl rfl ?_
  refine gr_aload_n (pc := 1) (i := 1) 1 (l1) (show decode (gy_b gY_82) 1 = .ok (.aload_n 1, 1) by decide +kernel) rfl rfl ?_
  refine gr_iload_n (pc := 2) (i := 2) (l2) (show decode (gy_b gY_82) 2 = .ok (.iload_n 2, 1) by decide +kernel) rfl rfl ?_
  refine gj_nn (fun hx3 => ?_)
  refine gj_c0 (pc := 3) (Y' := gY_80) (y := yX5_gather) (vs := [gR 5 (l0), gR 1 (l1), gI (l2)]) (rest := []) (rs := fun v1 => []) [gI (l2), gR 1 (l1), gR 5 (l0)] rfl (hm_80 hG (l0) (l1) (l2)) rfl (gh_V (t := 5) (vs := [gR 1 (l1), gI (l2)]) (rest := []) (show decode (gy_b gY_82) 3 = .ok (.invokevirtual 87, 3) by decide +kernel) rfl hx3 rfl rfl (ok_80 (by decide) (by decide)) wd_981 wd_983 wd_22 (Nat.le_of_ble_eq_true rfl)) (fun _ => rfl) ?_
  intro v1 M2 n3 c4
  refine gr_iconst (pc := 6) (z := 0) 0 (show decode (gy_b gY_82) 6 = .ok (.iconst (0), 1) by decide +kernel) kc_0 ?_
  refine gr_istore (pc := 7) (i := 4) (L' := [gR 5 (l0), gR 1 (l1), gI (l2), gI (l3), gI (0), gB]) (show decode (gy_b gY_82) 7 = .ok (.istore 4, 2) by decide +kernel) (by decide) rfl rfl ?_
  refine gr_wk [true, false, false, true, true, true] rfl ?_
  exact hw_82_9 hG 65536 (l0) (l3) (0) M2 n3 c4
noncomputable def fi_82 (l0 l1 l2 l3 M n c : Nat) (K : Nat → Nat → Nat → Nat → Bool) : Bool := fi_82_L0 K l0 l1 l2 l3 M n c
theorem hm_82 {G : gxG} (hG : gxG0 G) (l0 l1 l2 l3 : Nat) : gxM G gY_82 yX5_entryOf [gR 5 (l0), gR 1 (l1), gI (l2), gI (l3)] (fi_82 l0 l1 l2 l3) := gxM_of (L := [gR 5 (l0), gR 1 (l1), gI (l2), gI (l3), gB, gB]) hG 2 (by decide +kernel) rfl rfl rfl rfl (List.forall_mem_cons.mpr ⟨rfl, List.forall_mem_cons.mpr ⟨rfl, List.forall_mem_cons.mpr ⟨rfl, List.forall_mem_cons.mpr ⟨rfl, fun _ h => nomatch h⟩⟩⟩⟩) (fun M n c K => h_82_L0 hG  l0 l1 l2 l3 M n c)
/-! Farfiles nextOf (LFarfiles$Client;II)I -/
def gY_83 : gxY := (true, prog_1_method_25_code, 5, (Option.some Jvm.ClassFile.FieldType.int), "Farfiles", 8, 131, 0, [], "nextOf")
theorem ok_83 {Y : gxY} (h1 : gy_f gY_83 + 1 ≤ gy_f Y) (h2 : 8 + (gy_l gY_83 + 11) + gy_k gY_83 ≤ gy_k Y) : gh_ok Y gY_83 yX7_nextOf 3 := ⟨wd_971, wd_51, ⟨by decide, by decide⟩, by decide +kernel, h1, h2⟩
noncomputable def fi_83_L41 (K : Nat → Nat → Nat → Nat → Bool) (l4 M n c : Nat) : Bool := gx_rt gx_f0 (l4) (K (l4) M n c)
theorem h_83_L41 {G : gxG} (hG : gxG0 G) {K : Nat → Nat → Nat → Nat → Bool} (l4 M n c : Nat) : gxJ G gY_83 K 41 [] [gB, gB, gB, gB, gI (l4)] M n c (fi_83_L41 K l4 M n c) := by
  unfold fi_83_L41
  refine gr_iload (pc := 41) (i := 4) (l4) (show decode (gy_b gY_83) 41 = .ok (.iload 4, 2) by decide +kernel) rfl ?_
  exact gr_ireturn (pc := 43) (show decode (gy_b gY_83) 43 = .ok (.ireturn, 1) by decide +kernel) rfl rfl (by decide) gv_0
noncomputable def fi_83_L0 (K : Nat → Nat → Nat → Nat → Bool) (l0 l1 l2 l3 M n c : Nat) : Bool := gx_nn (l0) (fi_76 (l0) (l2) M n c (fun v1 M2 n3 c4 => gx_eq (v1) 0 (false) (gx_get (l0) 1 M2 (fun v5 => gx_get (l1) 5 M2 (fun v6 => gx_nn (v5) (fi_82 (v5) (v6) (l2) (l3) M2 n3 c4 (fun v7 M8 n9 c10 => gx_eq (v7) (4294967295) (gx_nn (l0) (fd_ref (l0) (110) M8 n9 c10 (fun v11 M12 n13 c14 => gx_thr K v11 M12 n13 c14 (fi_83_L41 K (v7) M12 n13 c14)))) (fi_83_L41 K (v7) M8 n9 c10))))))))
theorem h_83_L0 {G : gxG} (hG : gxG0 G) {K : Nat → Nat → Nat → Nat → Bool} (l0 l1 l2 l3 M n c : Nat) : gxJ G gY_83 K 0 [] [gR 7 (l0), gR 3 (l1), gI (l2), gI (l3), gB] M n c (fi_83_L0 K l0 l1 l2 l3 M n c) := by
  unfold fi_83_L0
  refine gr_aload_n (pc := 0) (i := 0) 7 (l0) (show decode (gy_b gY_83) 0 = .ok (.aload_n 0, 1) by decide +kernel) rfl rfl ?_
  refine gr_iload_n (pc := 1) (i := 2) (l2) (show decode (gy_b gY_83) 1 = .ok (.iload_n 2, 1) by decide +kernel) rfl rfl ?_
  refine gj_nn (fun hx2 => ?_)
  refine gj_c0 (pc := 2) (Y' := gY_76) (y := yX7_hasDirectory) (vs := [gR 7 (l0), gI (l2)]) (rest := []) (rs := fun v1 => [gI (v1)]) [gI (l2), gR 7 (l0)] rfl (hm_76 hG (l0) (l2)) rfl (gh_V (t := 7) (vs := [gI (l2)]) (rest := []) (show decode (gy_b gY_83) 2 = .ok (.invokevirtual 198, 3) by decide +kernel) rfl hx2 rfl rfl (ok_76 (by decide) (by decide)) wd_972 wd_974 wd_21 (Nat.le_of_ble_eq_true rfl)) (fun _ => rfl) ?_
  intro v1 M2 n3 c4
  refine gr_ifne (pc := 5) (tgt := 14) (off := 9) hG.2.1 (show decode (gy_b gY_83) 5 = .ok (.ifCond .ne (9), 3) by decide +kernel) (by decide) ?_ ?_
  · refine gr_aload_n (pc := 14) (i := 0) 7 (l0) (show decode (gy_b gY_83) 14 = .ok (.aload_n 0, 1) by decide +kernel) rfl rfl ?_
    refine gr_getf (pc := 15) (index := 19) (t := 7) (j := 1) (σ := 13) (sv := (gR 5)) (show decode (gy_b gY_83) 15 = .ok (.getfield 19, 3) by decide +kernel) rfl rfl (fun _ => rfl) wd_295 (by decide) ?_
    intro v5
    refine gr_aload_n (pc := 18) (i := 1) 3 (l1) (show decode (gy_b gY_83) 18 = .ok (.aload_n 1, 1) by decide +kernel) rfl rfl ?_
    refine gr_getfN (pc := 19) (index := 201) (t := 3) (j := 5) (σ := 9) (sv := (gR 1)) (show decode (gy_b gY_83) 19 = .ok (.getfield 201, 3) by decide +kernel) rfl rfl (fun _ => rfl) wd_260 (by decide) ?_
    intro v6
    refine gr_iload_n (pc := 22) (i := 2) (l2) (show decode (gy_b gY_83) 22 = .ok (.iload_n 2, 1) by decide +kernel) rfl rfl ?_
    refine gr_iload_n (pc := 23) (i := 3) (l3) (show decode (gy_b gY_83) 23 = .ok (.iload_n 3, 1) by decide +kernel) rfl rfl ?_
    refine gj_nn (fun hx24 => ?_)
    refine gj_c0 (pc := 24) (Y' := gY_82) (y := yX5_entryOf) (vs := [gR 5 (v5), gR 1 (v6), gI (l2), gI (l3)]) (rest := []) (rs := fun v7 => [gI (v7)]) [gI (l3), gI (l2), gR 1 (v6), gR 5 (v5)] rfl (hm_82 hG (v5) (v6) (l2) (l3)) rfl (gh_V (t := 5) (vs := [gR 1 (v6), gI (l2), gI (l3)]) (rest := []) (show decode (gy_b gY_83) 24 = .ok (.invokevirtual 204, 3) by decide +kernel) rfl hx24 rfl rfl (ok_82 (by decide) (by decide)) wd_977 wd_978 wd_979 (Nat.le_of_ble_eq_true rfl)) (fun _ => rfl) ?_
    intro v7 M8 n9 c10
    refine gr_istore (pc := 27) (i := 4) (L' := [gR 7 (l0), gR 3 (l1), gI (l2), gI (l3), gI (v7)]) (show decode (gy_b gY_83) 27 = .ok (.istore 4, 2) by decide +kernel) (by decide) rfl rfl ?_
    refine gr_iload (pc := 29) (i := 4) (v7) (show decode (gy_b gY_83) 29 = .ok (.iload 4, 2) by decide +kernel) rfl ?_
    refine gr_iconst (pc := 31) (z := -1) 4294967295 (show decode (gy_b gY_83) 31 = .ok (.iconst (-1), 1) by decide +kernel) kc_m1 ?_
    refine gr_icmp_ne (pc := 32) (tgt := 41) (off := 9) hG.2.1 (show decode (gy_b gY_83) 32 = .ok (.if_icmp .ne (9), 3) by decide +kernel) (by decide) ?_ ?_
    · refine gr_wk [false, false, false, false, true] rfl ?_
      exact h_83_L41 hG (v7) M8 n9 c10
    · refine gr_aload_n (pc := 35) (i := 0) 7 (l0) (show decode (gy_b gY_83) 35 = .ok (.aload_n 0, 1) by decide +kernel) rfl rfl ?_
      refine gr_bipush (pc := 36) (z := 110) 110 (show decode (gy_b gY_83) 36 = .ok (.bipush (110), 2) by decide +kernel) (by decide +kernel) ?_
      refine gj_nn (fun hx38 => ?_)
      refine gj_c1 (pc := 38) (Y' := gY_refuse) (y := yX7_refuse) (vs := [gR 7 (l0), gI (110)]) (rest := []) (rs := fun v11 => []) [gI (110), gR 7 (l0)] rfl (hm_ref hG (l0) (110)) rfl rfl (gh_V (t := 7) (vs := [gI (110)]) (rest := []) (show decode (gy_b gY_83) 38 = .ok (.invokevirtual 180, 3) by decide +kernel) rfl hx38 rfl rfl (ok_refuse (by decide) (by decide)) wd_871 wd_873 wd_16 (Nat.le_of_ble_eq_true rfl)) (fun _ => rfl) ?_
      intro v11 M12 n13 c14
      refine gr_wk [false, false, false, false, true] rfl ?_
      exact h_83_L41 hG (v7) M12 n13 c14
  · exact gj_false
noncomputable def fi_83 (l0 l1 l2 l3 M n c : Nat) (K : Nat → Nat → Nat → Nat → Bool) : Bool := fi_83_L0 K l0 l1 l2 l3 M n c
theorem hm_83 {G : gxG} (hG : gxG0 G) (l0 l1 l2 l3 : Nat) : gxM G gY_83 yX7_nextOf [gR 7 (l0), gR 3 (l1), gI (l2), gI (l3)] (fi_83 l0 l1 l2 l3) := gxM_of (L := [gR 7 (l0), gR 3 (l1), gI (l2), gI (l3), gB]) hG 1 (by decide +kernel) rfl rfl rfl rfl (List.forall_mem_cons.mpr ⟨rfl, List.forall_mem_cons.mpr ⟨rfl, List.forall_mem_cons.mpr ⟨rfl, List.forall_mem_cons.mpr ⟨rfl, fun _ h => nomatch h⟩⟩⟩⟩) (fun M n c K => h_83_L0 hG  l0 l1 l2 l3 M n c)
/-! Farfiles go (LFarfiles$Client;LFarfiles$Path;I)I -/
def gY_84 : gxY := (true, prog_1_method_26_code, 6, (Option.some Jvm.ClassFile.FieldType.int), "Farfiles", 9, 155, 0, [], "go")
theorem ok_84 {Y : gxY} (h1 : gy_f gY_84 + 1 ≤ gy_f Y) (h2 : 8 + (gy_l gY_84 + 11) + gy_k gY_84 ≤ gy_k Y) : gh_ok Y gY_84 yX7_go 3 := ⟨wd_894, wd_51, ⟨by decide, by decide⟩, by decide +kernel, h1, h2⟩
noncomputable def fi_84_L66 (K : Nat → Nat → Nat → Nat → Bool) (l4 M n c : Nat) : Bool := gx_rt gx_f0 (l4) (K (l4) M n c)
theorem h_84_L66 {G : gxG} (hG : gxG0 G) {K : Nat → Nat → Nat → Nat → Bool} (l4 M n c : Nat) : gxJ G gY_84 K 66 [] [gB, gB, gB, gB, gI (l4), gB] M n c (fi_84_L66 K l4 M n c) := by
  unfold fi_84_L66
  refine gr_iload (pc := 66) (i := 4) (l4) (show decode (gy_b gY_84) 66 = .ok (.iload 4, 2) by decide +kernel) rfl ?_
  exact gr_ireturn (pc := 68) (show decode (gy_b gY_84) 68 = .ok (.ireturn, 1) by decide +kernel) rfl rfl (by decide) gv_0
noncomputable def fi_84_B19 (K : Nat → Nat → Nat → Nat → Bool) (ih_19 : Nat → Nat → Nat → Nat → Nat → Nat → Nat → Nat → Nat → Bool) (l0 l1 l2 l3 l4 l5 M n c : Nat) : Bool := gx_lt (l5) (l3) (gx_lt (l5) (20) (gx_nn (l2) (fi_75 (l2) (l5) M n c (fun v9 M10 n11 c12 => gx_nn (l0) (fi_83 (l0) (l1) (l4) (v9) M10 n11 c12 (fun v13 M14 n15 c16 => gx_thr K v13 M14 n15 c16 (gx_nn (l0) (fi_73 (l0) (l1) (v13) M14 n15 c16 (fun v17 M18 n19 c20 => gx_nn (l2) (fi_74 (l2) (v13) M18 n19 c20 (fun v21 M22 n23 c24 => gx_add (l5) 1 (fun z25 => ih_19 (l0) (l1) (l2) (l3) (v13) (z25) M22 n23 c24))))))))))) (fi_84_L66 K (l4) M n c)) (fi_84_L66 K (l4) M n c)
theorem hb_84_B19 {G : gxG} (hG : gxG0 G) {K : Nat → Nat → Nat → Nat → Bool} {ih_19 : Nat → Nat → Nat → Nat → Nat → Nat → Nat → Nat → Nat → Bool} (hi_19 : ∀ l0 l1 l2 l3 l4 l5 M n c : Nat, gxJ G gY_84 K 19 [] [gR 7 (l0), gR 3 (l1), gR 6 (l2), gI (l3), gI (l4), gI (l5)] M n c (ih_19 l0 l1 l2 l3 l4 l5 M n c)) (l0 l1 l2 l3 l4 l5 M n c : Nat) : gxJ G gY_84 K 19 [] [gR 7 (l0), gR 3 (l1), gR 6 (l2), gI (l3), gI (l4), gI (l5)] M n c (fi_84_B19 K ih_19 l0 l1 l2 l3 l4 l5 M n c) := by
  unfold fi_84_B19
  refine gr_iload (pc := 19) (i := 5) (l5) (show decode (gy_b gY_84) 19 = .ok (.iload 5, 2) by decide +kernel) rfl ?_
  refine gr_iload_n (pc := 21) (i := 3) (l3) (show decode (gy_b gY_84) 21 = .ok (.iload_n 3, 1) by decide +kernel) rfl rfl ?_
  refine gr_icmp_ge (pc := 22) (tgt := 66) (off := 44) hG.2.1 (show decode (gy_b gY_84) 22 = .ok (.if_icmp .ge (44), 3) by decide +kernel) (by decide) ?_ ?_
  · refine gr_wk [false, false, false, false, true, false] rfl ?_
    exact h_84_L66 hG (l4) M n c
  · refine gr_iload (pc := 25) (i := 5) (l5) (show decode (gy_b gY_84) 25 = .ok (.iload 5, 2) by decide +kernel) rfl ?_
    refine gr_bipush (pc := 27) (z := 20) 20 (show decode (gy_b gY_84) 27 = .ok (.bipush (20), 2) by decide +kernel) (by decide +kernel) ?_
    refine gr_icmp_ge (pc := 29) (tgt := 66) (off := 37) hG.2.1 (show decode (gy_b gY_84) 29 = .ok (.if_icmp .ge (37), 3) by decide +kernel) (by decide) ?_ ?_
    · refine gr_wk [false, false, false, false, true, false] rfl ?_
      exact h_84_L66 hG (l4) M n c
    · refine gr_aload_n (pc := 32) (i := 0) 7 (l0) (show decode (gy_b gY_84) 32 = .ok (.aload_n 0, 1) by decide +kernel) rfl rfl ?_
      refine gr_aload_n (pc := 33) (i := 1) 3 (l1) (show decode (gy_b gY_84) 33 = .ok (.aload_n 1, 1) by decide +kernel) rfl rfl ?_
      refine gr_iload (pc := 34) (i := 4) (l4) (show decode (gy_b gY_84) 34 = .ok (.iload 4, 2) by decide +kernel) rfl ?_
      refine gr_aload_n (pc := 36) (i := 2) 6 (l2) (show decode (gy_b gY_84) 36 = .ok (.aload_n 2, 1) by decide +kernel) rfl rfl ?_
      refine gr_iload (pc := 37) (i := 5) (l5) (show decode (gy_b gY_84) 37 = .ok (.iload 5, 2) by decide +kernel) rfl ?_
      refine gj_nn (fun hx39 => ?_)
      refine gj_c0 (pc := 39) (Y' := gY_75) (y := yX6_nameAt) (vs := [gR 6 (l2), gI (l5)]) (rest := [gI (l4), gR 3 (l1), gR 7 (l0)]) (rs := fun v9 => [gI (v9), gI (l4), gR 3 (l1), gR 7 (l0)]) [gI (l5), gR 6 (l2)] rfl (hm_75 hG (l2) (l5)) rfl (gh_V (t := 6) (vs := [gI (l5)]) (rest := [gI (l4), gR 3 (l1), gR 7 (l0)]) (show decode (gy_b gY_84) 39 = .ok (.invokevirtual 215, 3) by decide +kernel) rfl hx39 rfl rfl (ok_75 (by decide) (by decide)) wd_964 wd_965 wd_966 (Nat.le_of_ble_eq_true rfl)) (fun _ => rfl) ?_
      intro v9 M10 n11 c12
      refine gj_nn (fun hx42 => ?_)
      refine gj_c1 (pc := 42) (Y' := gY_83) (y := yX7_nextOf) (vs := [gR 7 (l0), gR 3 (l1), gI (l4), gI (v9)]) (rest := []) (rs := fun v13 => [gI (v13)]) [gI (v9), gI (l4), gR 3 (l1), gR 7 (l0)] rfl (hm_83 hG (l0) (l1) (l4) (v9)) rfl rfl (gh_V (t := 7) (vs := [gR 3 (l1), gI (l4), gI (v9)]) (rest := []) (show decode (gy_b gY_84) 42 = .ok (.invokevirtual 219, 3) by decide +kernel) rfl hx42 rfl rfl (ok_83 (by decide) (by decide)) wd_968 wd_970 wd_20 (Nat.le_of_ble_eq_true rfl)) (fun _ => rfl) ?_
      intro v13 M14 n15 c16
      refine gr_istore (pc := 45) (i := 4) (L' := [gR 7 (l0), gR 3 (l1), gR 6 (l2), gI (l3), gI (v13), gI (l5)]) (show decode (gy_b gY_84) 45 = .ok (.istore 4, 2) by decide +kernel) (by decide) rfl rfl ?_
      refine gr_aload_n (pc := 47) (i := 0) 7 (l0) (show decode (gy_b gY_84) 47 = .ok (.aload_n 0, 1) by decide +kernel) rfl rfl ?_
      refine gr_aload_n (pc := 48) (i := 1) 3 (l1) (show decode (gy_b gY_84) 48 = .ok (.aload_n 1, 1) by decide +kernel) rfl rfl ?_
      refine gr_iload (pc := 49) (i := 4) (v13) (show decode (gy_b gY_84) 49 = .ok (.iload 4, 2) by decide +kernel) rfl ?_
      refine gj_nn (fun hx51 => ?_)
      refine gj_c0 (pc := 51) (Y' := gY_73) (y := yX7_lookAt) (vs := [gR 7 (l0), gR 3 (l1), gI (v13)]) (rest := []) (rs := fun v17 => []) [gI (v13), gR 3 (l1), gR 7 (l0)] rfl (hm_73 hG (l0) (l1) (v13)) rfl (gh_V (t := 7) (vs := [gR 3 (l1), gI (v13)]) (rest := []) (show decode (gy_b gY_84) 51 = .ok (.invokevirtual 208, 3) by decide +kernel) rfl hx51 rfl rfl (ok_73 (by decide) (by decide)) wd_895 wd_897 wd_18 (Nat.le_of_ble_eq_true rfl)) (fun _ => rfl) ?_
      intro v17 M18 n19 c20
      refine gr_aload_n (pc := 54) (i := 2) 6 (l2) (show decode (gy_b gY_84) 54 = .ok (.aload_n 2, 1) by decide +kernel) rfl rfl ?_
      refine gr_iload (pc := 55) (i := 4) (v13) (show decode (gy_b gY_84) 55 = .ok (.iload 4, 2) by decide +kernel) rfl ?_
      refine gj_nn (fun hx57 => ?_)
      refine gj_c0 (pc := 57) (Y' := gY_74) (y := yX6_lookedAt) (vs := [gR 6 (l2), gI (v13)]) (rest := []) (rs := fun v21 => []) [gI (v13), gR 6 (l2)] rfl (hm_74 hG (l2) (v13)) rfl (gh_V (t := 6) (vs := [gI (v13)]) (rest := []) (show decode (gy_b gY_84) 57 = .ok (.invokevirtual 212, 3) by decide +kernel) rfl hx57 rfl rfl (ok_74 (by decide) (by decide)) wd_960 wd_961 wd_962 (Nat.le_of_ble_eq_true rfl)) (fun _ => rfl) ?_
      intro v21 M22 n23 c24
      refine gr_iinc (pc := 60) (i := 5) (d := 1) (z := 1) (L' := fun z25 => [gR 7 (l0), gR 3 (l1), gR 6 (l2), gI (l3), gI (v13), gI (z25)]) (show decode (gy_b gY_84) 60 = .ok (.iinc 5 (1), 3) by decide +kernel) (by decide +kernel) (by decide) rfl rfl (fun _ => rfl) ?_
      intro z25
      refine gr_goto (pc := 63) (tgt := 19) (off := -44) (show decode (gy_b gY_84) 63 = .ok (.goto (-44), 3) by decide +kernel) (by decide) ?_
      exact hi_19 (l0) (l1) (l2) (l3) (v13) (z25) M22 n23 c24
noncomputable def fi_84_W19 (K : Nat → Nat → Nat → Nat → Bool) (u : Nat) : Nat → Nat → Nat → Nat → Nat → Nat → Nat → Nat → Nat → Bool := Nat.rec (motive := fun _ => Nat → Nat → Nat → Nat → Nat → Nat → Nat → Nat → Nat → Bool) (fun _ _ _ _ _ _ _ _ _ => false) (fun _ ih => fi_84_B19 K ih) u
theorem hw_84_19 {G : gxG} (hG : gxG0 G) {K : Nat → Nat → Nat → Nat → Bool} (u : Nat) : ∀ l0 l1 l2 l3 l4 l5 M n c : Nat, gxJ G gY_84 K 19 [] [gR 7 (l0), gR 3 (l1), gR 6 (l2), gI (l3), gI (l4), gI (l5)] M n c (fi_84_W19 K u l0 l1 l2 l3 l4 l5 M n c) := by
  induction u with
  | zero => intro l0 l1 l2 l3 l4 l5 M n c; exact gj_false
  | succ u ih => intro l0 l1 l2 l3 l4 l5 M n c; exact hb_84_B19 hG ih l0 l1 l2 l3 l4 l5 M n c
noncomputable def fi_84_L0 (K : Nat → Nat → Nat → Nat → Bool) (l0 l1 l2 l3 M n c : Nat) : Bool := gx_nn (l0) (fi_73 (l0) (l1) (0) M n c (fun v1 M2 n3 c4 => gx_nn (l2) (fi_74 (l2) (0) M2 n3 c4 (fun v5 M6 n7 c8 => fi_84_W19 K 65536 (l0) (l1) (l2) (l3) (0) (0) M6 n7 c8))))
theorem h_84_L0 {G : gxG} (hG : gxG0 G) {K : Nat → Nat → Nat → Nat → Bool} (l0 l1 l2 l3 M n c : Nat) : gxJ G gY_84 K 0 [] [gR 7 (l0), gR 3 (l1), gR 6 (l2), gI (l3), gB, gB] M n c (fi_84_L0 K l0 l1 l2 l3 M n c) := by
  unfold fi_84_L0
  refine gr_iconst (pc := 0) (z := 0) 0 (show decode (gy_b gY_84) 0 = .ok (.iconst (0), 1) by decide +kernel) kc_0 ?_
  refine gr_istore (pc := 1) (i := 4) (L' := [gR 7 (l0), gR 3 (l1), gR 6 (l2), gI (l3), gI (0), gB]) (show decode (gy_b gY_84) 1 = .ok (.istore 4, 2) by decide +kernel) (by decide) rfl rfl ?_
  refine gr_aload_n (pc := 3) (i := 0) 7 (l0) (show decode (gy_b gY_84) 3 = .ok (.aload_n 0, 1) by decide +kernel) rfl rfl ?_
  refine gr_aload_n (pc := 4) (i := 1) 3 (l1) (show decode (gy_b gY_84) 4 = .ok (.aload_n 1, 1) by decide +kernel) rfl rfl ?_
  refine gr_iload (pc := 5) (i := 4) (0) (show decode (gy_b gY_84) 5 = .ok (.iload 4, 2) by decide +kernel) rfl ?_
  refine gj_nn (fun hx7 => ?_)
  refine gj_c0 (pc := 7) (Y' := gY_73) (y := yX7_lookAt) (vs := [gR 7 (l0), gR 3 (l1), gI (0)]) (rest := []) (rs := fun v1 => []) [gI (0), gR 3 (l1), gR 7 (l0)] rfl (hm_73 hG (l0) (l1) (0)) rfl (gh_V (t := 7) (vs := [gR 3 (l1), gI (0)]) (rest := []) (show decode (gy_b gY_84) 7 = .ok (.invokevirtual 208, 3) by decide +kernel) rfl hx7 rfl rfl (ok_73 (by decide) (by decide)) wd_895 wd_897 wd_18 (Nat.le_of_ble_eq_true rfl)) (fun _ => rfl) ?_
  intro v1 M2 n3 c4
  refine gr_aload_n (pc := 10) (i := 2) 6 (l2) (show decode (gy_b gY_84) 10 = .ok (.aload_n 2, 1) by decide +kernel) rfl rfl ?_
  refine gr_iload (pc := 11) (i := 4) (0) (show decode (gy_b gY_84) 11 = .ok (.iload 4, 2) by decide +kernel) rfl ?_
  refine gj_nn (fun hx13 => ?_)
  refine gj_c0 (pc := 13) (Y' := gY_74) (y := yX6_lookedAt) (vs := [gR 6 (l2), gI (0)]) (rest := []) (rs := fun v5 => []) [gI (0), gR 6 (l2)] rfl (hm_74 hG (l2) (0)) rfl (gh_V (t := 6) (vs := [gI (0)]) (rest := []) (show decode (gy_b gY_84) 13 = .ok (.invokevirtual 212, 3) by decide +kernel) rfl hx13 rfl rfl (ok_74 (by decide) (by decide)) wd_960 wd_961 wd_962 (Nat.le_of_ble_eq_true rfl)) (fun _ => rfl) ?_
  intro v5 M6 n7 c8
  refine gr_iconst (pc := 16) (z := 0) 0 (show decode (gy_b gY_84) 16 = .ok (.iconst (0), 1) by decide +kernel) kc_0 ?_
  refine gr_istore (pc := 17) (i := 5) (L' := [gR 7 (l0), gR 3 (l1), gR 6 (l2), gI (l3), gI (0), gI (0)]) (show decode (gy_b gY_84) 17 = .ok (.istore 5, 2) by decide +kernel) (by decide) rfl rfl ?_
  exact hw_84_19 hG 65536 (l0) (l1) (l2) (l3) (0) (0) M6 n7 c8
noncomputable def fi_84 (l0 l1 l2 l3 M n c : Nat) (K : Nat → Nat → Nat → Nat → Bool) : Bool := fi_84_L0 K l0 l1 l2 l3 M n c
theorem hm_84 {G : gxG} (hG : gxG0 G) (l0 l1 l2 l3 : Nat) : gxM G gY_84 yX7_go [gR 7 (l0), gR 3 (l1), gR 6 (l2), gI (l3)] (fi_84 l0 l1 l2 l3) := gxM_of (L := [gR 7 (l0), gR 3 (l1), gR 6 (l2), gI (l3), gB, gB]) hG 2 (by decide +kernel) rfl rfl rfl rfl (List.forall_mem_cons.mpr ⟨rfl, List.forall_mem_cons.mpr ⟨rfl, List.forall_mem_cons.mpr ⟨rfl, List.forall_mem_cons.mpr ⟨rfl, fun _ h => nomatch h⟩⟩⟩⟩) (fun M n c K => h_84_L0 hG  l0 l1 l2 l3 M n c)
/-! Farfiles goToDirectory (LFarfiles$Client;LFarfiles$Path;)I -/
def gY_85 : gxY := (true, prog_1_method_27_code, 4, (Option.some Jvm.ClassFile.FieldType.int), "Farfiles", 10, 180, 0, [], "goToDirectory")
theorem ok_85 {Y : gxY} (h1 : gy_f gY_85 + 1 ≤ gy_f Y) (h2 : 8 + (gy_l gY_85 + 11) + gy_k gY_85 ≤ gy_k Y) : gh_ok Y gY_85 yX7_goToDirectory 2 := ⟨wd_870, wd_51, ⟨by decide, by decide⟩, by decide +kernel, h1, h2⟩
noncomputable def fi_85_L0 (K : Nat → Nat → Nat → Nat → Bool) (l0 l1 l2 M n c : Nat) : Bool := gx_get (l2) 3 M (fun v1 => gx_eq (v1) 0 (false) (gx_get (l2) 3 M (fun v2 => gx_sub (v2) (1) (fun z3 => gx_nn (l0) (fi_84 (l0) (l1) (l2) (z3) M n c (fun v4 M5 n6 c7 => gx_thr K v4 M5 n6 c7 (gx_nn (l0) (fi_76 (l0) (v4) M5 n6 c7 (fun v8 M9 n10 c11 => gx_eq (v8) 0 (false) (gx_rt gx_f0 (v4) (K (v4) M9 n10 c11)))))))))))
theorem h_85_L0 {G : gxG} (hG : gxG0 G) {K : Nat → Nat → Nat → Nat → Bool} (l0 l1 l2 M n c : Nat) : gxJ G gY_85 K 0 [] [gR 7 (l0), gR 3 (l1), gR 6 (l2), gB] M n c (fi_85_L0 K l0 l1 l2 M n c) := by
  unfold fi_85_L0
  refine gr_aload_n (pc := 0) (i := 2) 6 (l2) (show decode (gy_b gY_85) 0 = .ok (.aload_n 2, 1) by decide +kernel) rfl rfl ?_
  refine gr_getfN (pc := 1) (index := 223) (t := 6) (j := 3) (σ := 0) (sv := gI) (show decode (gy_b gY_85) 1 = .ok (.getfield 223, 3) by decide +kernel) rfl rfl (fun _ => rfl) wd_230 (by decide) ?_
  intro v1
  refine gr_ifne (pc := 4) (tgt := 13) (off := 9) hG.2.1 (show decode (gy_b gY_85) 4 = .ok (.ifCond .ne (9), 3) by decide +kernel) (by decide) ?_ ?_
  · refine gr_aload_n (pc := 13) (i := 0) 7 (l0) (show decode (gy_b gY_85) 13 = .ok (.aload_n 0, 1) by decide +kernel) rfl rfl ?_
    refine gr_aload_n (pc := 14) (i := 1) 3 (l1) (show decode (gy_b gY_85) 14 = .ok (.aload_n 1, 1) by decide +kernel) rfl rfl ?_
    refine gr_aload_n (pc := 15) (i := 2) 6 (l2) (show decode (gy_b gY_85) 15 = .ok (.aload_n 2, 1) by decide +kernel) rfl rfl ?_
    refine gr_aload_n (pc := 16) (i := 2) 6 (l2) (show decode (gy_b gY_85) 16 = .ok (.aload_n 2, 1) by decide +kernel) rfl rfl ?_
    refine gr_getfN (pc := 17) (index := 223) (t := 6) (j := 3) (σ := 0) (sv := gI) (show decode (gy_b gY_85) 17 = .ok (.getfield 223, 3) by decide +kernel) rfl rfl (fun _ => rfl) wd_230 (by decide) ?_
    intro v2
    refine gr_iconst (pc := 20) (z := 1) 1 (show decode (gy_b gY_85) 20 = .ok (.iconst (1), 1) by decide +kernel) kc_1 ?_
    refine gr_isub (pc := 21) hG.2.1 (show decode (gy_b gY_85) 21 = .ok (.isub, 1) by decide +kernel) ?_
    intro z3
    refine gj_nn (fun hx22 => ?_)
    refine gj_c1 (pc := 22) (Y' := gY_84) (y := yX7_go) (vs := [gR 7 (l0), gR 3 (l1), gR 6 (l2), gI (z3)]) (rest := []) (rs := fun v4 => [gI (v4)]) [gI (z3), gR 6 (l2), gR 3 (l1), gR 7 (l0)] rfl (hm_84 hG (l0) (l1) (l2) (z3)) rfl rfl (gh_V (t := 7) (vs := [gR 3 (l1), gR 6 (l2), gI (z3)]) (rest := []) (show decode (gy_b gY_85) 22 = .ok (.invokevirtual 224, 3) by decide +kernel) rfl hx22 rfl rfl (ok_84 (by decide) (by decide)) wd_891 wd_893 wd_17 (Nat.le_of_ble_eq_true rfl)) (fun _ => rfl) ?_
    intro v4 M5 n6 c7
    refine gr_istore_n (pc := 25) (i := 3) (L' := [gR 7 (l0), gR 3 (l1), gR 6 (l2), gI (v4)]) (show decode (gy_b gY_85) 25 = .ok (.istore_n 3, 1) by decide +kernel) rfl (by decide) rfl rfl ?_
    refine gr_aload_n (pc := 26) (i := 0) 7 (l0) (show decode (gy_b gY_85) 26 = .ok (.aload_n 0, 1) by decide +kernel) rfl rfl ?_
    refine gr_iload_n (pc := 27) (i := 3) (v4) (show decode (gy_b gY_85) 27 = .ok (.iload_n 3, 1) by decide +kernel) rfl rfl ?_
    refine gj_nn (fun hx28 => ?_)
    refine gj_c0 (pc := 28) (Y' := gY_76) (y := yX7_hasDirectory) (vs := [gR 7 (l0), gI (v4)]) (rest := []) (rs := fun v8 => [gI (v8)]) [gI (v4), gR 7 (l0)] rfl (hm_76 hG (l0) (v4)) rfl (gh_V (t := 7) (vs := [gI (v4)]) (rest := []) (show decode (gy_b gY_85) 28 = .ok (.invokevirtual 198, 3) by decide +kernel) rfl hx28 rfl rfl (ok_76 (by decide) (by decide)) wd_972 wd_974 wd_21 (Nat.le_of_ble_eq_true rfl)) (fun _ => rfl) ?_
    intro v8 M9 n10 c11
    refine gr_ifne (pc := 31) (tgt := 40) (off := 9) hG.2.1 (show decode (gy_b gY_85) 31 = .ok (.ifCond .ne (9), 3) by decide +kernel) (by decide) ?_ ?_
    · refine gr_iload_n (pc := 40) (i := 3) (v4) (show decode (gy_b gY_85) 40 = .ok (.iload_n 3, 1) by decide +kernel) rfl rfl ?_
      exact gr_ireturn (pc := 41) (show decode (gy_b gY_85) 41 = .ok (.ireturn, 1) by decide +kernel) rfl rfl (by decide) gv_0
    · exact gj_false
  · exact gj_false
noncomputable def fi_85 (l0 l1 l2 M n c : Nat) (K : Nat → Nat → Nat → Nat → Bool) : Bool := fi_85_L0 K l0 l1 l2 M n c
theorem hm_85 {G : gxG} (hG : gxG0 G) (l0 l1 l2 : Nat) : gxM G gY_85 yX7_goToDirectory [gR 7 (l0), gR 3 (l1), gR 6 (l2)] (fi_85 l0 l1 l2) := gxM_of (L := [gR 7 (l0), gR 3 (l1), gR 6 (l2), gB]) hG 1 (by decide +kernel) rfl rfl rfl rfl (List.forall_mem_cons.mpr ⟨rfl, List.forall_mem_cons.mpr ⟨rfl, List.forall_mem_cons.mpr ⟨rfl, fun _ h => nomatch h⟩⟩⟩) (fun M n c K => h_85_L0 hG  l0 l1 l2 M n c)
/-! Farfiles$Path lastName ()I -/
def gY_86 : gxY := (false, prog_8_method_8_code, 1, (Option.some Jvm.ClassFile.FieldType.int), "Farfiles$Path", 2, 61, 0, [], "lastName")
theorem ok_86 {Y : gxY} (h1 : gy_f gY_86 + 1 ≤ gy_f Y) (h2 : 8 + (gy_l gY_86 + 11) + gy_k gY_86 ≤ gy_k Y) : gh_ok Y gY_86 yX6_lastName 0 := ⟨wd_1012, wd_57, ⟨by decide, by decide⟩, by decide +kernel, h1, h2⟩
noncomputable def fi_86_L0 (K : Nat → Nat → Nat → Nat → Bool) (l0 M n c : Nat) : Bool := gx_get (l0) 3 M (fun v1 => gx_sub (v1) (1) (fun z2 => gx_nn (l0) (fi_75 (l0) (z2) M n c (fun v3 M4 n5 c6 => gx_rt gx_f0 (v3) (K (v3) M4 n5 c6)))))
theorem h_86_L0 {G : gxG} (hG : gxG0 G) {K : Nat → Nat → Nat → Nat → Bool} (l0 M n c : Nat) : gxJ G gY_86 K 0 [] [gR 6 (l0)] M n c (fi_86_L0 K l0 M n c) := by
  unfold fi_86_L0
  refine gr_aload_n (pc := 0) (i := 0) 6 (l0) (show decode (gy_b gY_86) 0 = .ok (.aload_n 0, 1) by decide +kernel) rfl rfl ?_
  refine gr_aload_n (pc := 1) (i := 0) 6 (l0) (show decode (gy_b gY_86) 1 = .ok (.aload_n 0, 1) by decide +kernel) rfl rfl ?_
  refine gr_getf (pc := 2) (index := 21) (t := 6) (j := 3) (σ := 0) (sv := gI) (show decode (gy_b gY_86) 2 = .ok (.getfield 21, 3) by decide +kernel) rfl rfl (fun _ => rfl) wd_229 (by decide) ?_
  intro v1
  refine gr_iconst (pc := 5) (z := 1) 1 (show decode (gy_b gY_86) 5 = .ok (.iconst (1), 1) by decide +kernel) kc_1 ?_
  refine gr_isub (pc := 6) hG.2.1 (show decode (gy_b gY_86) 6 = .ok (.isub, 1) by decide +kernel) ?_
  intro z2
  refine gj_nn (fun hx7 => ?_)
  refine gj_c0 (pc := 7) (Y' := gY_75) (y := yX6_nameAt) (vs := [gR 6 (l0), gI (z2)]) (rest := []) (rs := fun v3 => [gI (v3)]) [gI (z2), gR 6 (l0)] rfl (hm_75 hG (l0) (z2)) rfl (gh_V (t := 6) (vs := [gI (z2)]) (rest := []) (show decode (gy_b gY_86) 7 = .ok (.invokevirtual 65, 3) by decide +kernel) rfl hx7 rfl rfl (ok_75 (by decide) (by decide)) wd_1013 wd_965 wd_966 (Nat.le_of_ble_eq_true rfl)) (fun _ => rfl) ?_
  intro v3 M4 n5 c6
  exact gr_ireturn (pc := 10) (show decode (gy_b gY_86) 10 = .ok (.ireturn, 1) by decide +kernel) rfl rfl (by decide) gv_0
noncomputable def fi_86 (l0 M n c : Nat) (K : Nat → Nat → Nat → Nat → Bool) : Bool := fi_86_L0 K l0 M n c
theorem hm_86 {G : gxG} (hG : gxG0 G) (l0 : Nat) : gxM G gY_86 yX6_lastName [gR 6 (l0)] (fi_86 l0) := gxM_of (L := [gR 6 (l0)]) hG 0 (by decide +kernel) rfl rfl rfl rfl (List.forall_mem_cons.mpr ⟨rfl, fun _ h => nomatch h⟩) (fun M n c K => h_86_L0 hG  l0 M n c)
/-! Farfiles refuseIfThere (LFarfiles$Client;II)V -/
def gY_87 : gxY := (false, prog_1_method_29_code, 4, (Option.none : Option FieldType), "Farfiles", 4, 111, 5, [], "refuseIfThere")
theorem ok_87 {Y : gxY} (h1 : gy_f gY_87 + 1 ≤ gy_f Y) (h2 : 8 + (gy_l gY_87 + 11) + gy_k gY_87 ≤ gy_k Y) : gh_ok Y gY_87 yX7_refuseIfThere 3 := ⟨wd_1017, wd_51, ⟨by decide, by decide⟩, by decide +kernel, h1, h2⟩
noncomputable def fi_87_L0 (K : Nat → Nat → Nat → Nat → Bool) (l0 l1 l2 l3 M n c : Nat) : Bool := gx_get (l0) 1 M (fun v1 => gx_get (l1) 5 M (fun v2 => gx_nn (v1) (fi_82 (v1) (v2) (l2) (l3) M n c (fun v3 M4 n5 c6 => gx_eq (v3) (4294967295) (K 0 M4 n5 c6) (false)))))
theorem h_87_L0 {G : gxG} (hG : gxG0 G) {K : Nat → Nat → Nat → Nat → Bool} (l0 l1 l2 l3 M n c : Nat) : gxJ G gY_87 K 0 [] [gR 7 (l0), gR 3 (l1), gI (l2), gI (l3)] M n c (fi_87_L0 K l0 l1 l2 l3 M n c) := by
  unfold fi_87_L0
  refine gr_aload_n (pc := 0) (i := 0) 7 (l0) (show decode (gy_b gY_87) 0 = .ok (.aload_n 0, 1) by decide +kernel) rfl rfl ?_
  refine gr_getf (pc := 1) (index := 19) (t := 7) (j := 1) (σ := 13) (sv := (gR 5)) (show decode (gy_b gY_87) 1 = .ok (.getfield 19, 3) by decide +kernel) rfl rfl (fun _ => rfl) wd_295 (by decide) ?_
  intro v1
  refine gr_aload_n (pc := 4) (i := 1) 3 (l1) (show decode (gy_b gY_87) 4 = .ok (.aload_n 1, 1) by decide +kernel) rfl rfl ?_
  refine gr_getfN (pc := 5) (index := 201) (t := 3) (j := 5) (σ := 9) (sv := (gR 1)) (show decode (gy_b gY_87) 5 = .ok (.getfield 201, 3) by decide +kernel) rfl rfl (fun _ => rfl) wd_260 (by decide) ?_
  intro v2
  refine gr_iload_n (pc := 8) (i := 2) (l2) (show decode (gy_b gY_87) 8 = .ok (.iload_n 2, 1) by decide +kernel) rfl rfl ?_
  refine gr_iload_n (pc := 9) (i := 3) (l3) (show decode (gy_b gY_87) 9 = .ok (.iload_n 3, 1) by decide +kernel) rfl rfl ?_
  refine gj_nn (fun hx10 => ?_)
  refine gj_c0 (pc := 10) (Y' := gY_82) (y := yX5_entryOf) (vs := [gR 5 (v1), gR 1 (v2), gI (l2), gI (l3)]) (rest := []) (rs := fun v3 => [gI (v3)]) [gI (l3), gI (l2), gR 1 (v2), gR 5 (v1)] rfl (hm_82 hG (v1) (v2) (l2) (l3)) rfl (gh_V (t := 5) (vs := [gR 1 (v2), gI (l2), gI (l3)]) (rest := []) (show decode (gy_b gY_87) 10 = .ok (.invokevirtual 204, 3) by decide +kernel) rfl hx10 rfl rfl (ok_82 (by decide) (by decide)) wd_977 wd_978 wd_979 (Nat.le_of_ble_eq_true rfl)) (fun _ => rfl) ?_
  intro v3 M4 n5 c6
  refine gr_iconst (pc := 13) (z := -1) 4294967295 (show decode (gy_b gY_87) 13 = .ok (.iconst (-1), 1) by decide +kernel) kc_m1 ?_
  refine gr_icmp_eq (pc := 14) (tgt := 23) (off := 9) hG.2.1 (show decode (gy_b gY_87) 14 = .ok (.if_icmp .eq (9), 3) by decide +kernel) (by decide) ?_ ?_
  · exact gr_return (pc := 23) (show decode (gy_b gY_87) 23 = .ok (.return_, 1) by decide +kernel) rfl rfl
  · exact gj_false
noncomputable def fi_87 (l0 l1 l2 l3 M n c : Nat) (K : Nat → Nat → Nat → Nat → Bool) : Bool := fi_87_L0 K l0 l1 l2 l3 M n c
theorem hm_87 {G : gxG} (hG : gxG0 G) (l0 l1 l2 l3 : Nat) : gxM G gY_87 yX7_refuseIfThere [gR 7 (l0), gR 3 (l1), gI (l2), gI (l3)] (fi_87 l0 l1 l2 l3) := gxM_of (L := [gR 7 (l0), gR 3 (l1), gI (l2), gI (l3)]) hG 0 (by decide +kernel) rfl rfl rfl rfl (List.forall_mem_cons.mpr ⟨rfl, List.forall_mem_cons.mpr ⟨rfl, List.forall_mem_cons.mpr ⟨rfl, List.forall_mem_cons.mpr ⟨rfl, fun _ h => nomatch h⟩⟩⟩⟩) (fun M n c K => h_87_L0 hG  l0 l1 l2 l3 M n c)
/-! Farfiles$Log hasRoomFor (I)Z -/
def gY_88 : gxY := (false, prog_7_method_3_code, 2, (Option.some Jvm.ClassFile.FieldType.boolean), "Farfiles$Log", 1, 40, 2, [], "hasRoomFor")
theorem ok_88 {Y : gxY} (h1 : gy_f gY_88 + 1 ≤ gy_f Y) (h2 : 8 + (gy_l gY_88 + 11) + gy_k gY_88 ≤ gy_k Y) : gh_ok Y gY_88 yX5_hasRoomFor 1 := ⟨wd_1025, wd_53, ⟨by decide, by decide⟩, by decide +kernel, h1, h2⟩
noncomputable def fi_88_L0 (K : Nat → Nat → Nat → Nat → Bool) (l0 l1 M n c : Nat) : Bool := gx_get (l0) 4 M (fun v1 => gx_add (v1) (l1) (fun z2 => gx_lt (250) (z2) (false) (gx_rt gx_f2 (1) (K (1) M n c))))
theorem h_88_L0 {G : gxG} (hG : gxG0 G) {K : Nat → Nat → Nat → Nat → Bool} (l0 l1 M n c : Nat) : gxJ G gY_88 K 0 [] [gR 5 (l0), gI (l1)] M n c (fi_88_L0 K l0 l1 M n c) := by
  unfold fi_88_L0
  refine gr_aload_n (pc := 0) (i := 0) 5 (l0) (show decode (gy_b gY_88) 0 = .ok (.aload_n 0, 1) by decide +kernel) rfl rfl ?_
  refine gr_getf (pc := 1) (index := 38) (t := 5) (j := 4) (σ := 0) (sv := gI) (show decode (gy_b gY_88) 1 = .ok (.getfield 38, 3) by decide +kernel) rfl rfl (fun _ => rfl) wd_179 (by decide) ?_
  intro v1
  refine gr_iload_n (pc := 4) (i := 1) (l1) (show decode (gy_b gY_88) 4 = .ok (.iload_n 1, 1) by decide +kernel) rfl rfl ?_
  refine gr_iadd (pc := 5) (show decode (gy_b gY_88) 5 = .ok (.iadd, 1) by decide +kernel) ?_
  intro z2
  refine gr_sipush (pc := 6) (z := 250) 250 (show decode (gy_b gY_88) 6 = .ok (.sipush (250), 3) by decide +kernel) (by decide +kernel) ?_
  refine gr_icmp_gt (pc := 9) (tgt := 16) (off := 7) hG.2.1 (show decode (gy_b gY_88) 9 = .ok (.if_icmp .gt (7), 3) by decide +kernel) (by decide) ?_ ?_
  · exact gj_false
  · refine gr_iconst (pc := 12) (z := 1) 1 (show decode (gy_b gY_88) 12 = .ok (.iconst (1), 1) by decide +kernel) kc_1 ?_
    refine gr_goto (pc := 13) (tgt := 17) (off := 4) (show decode (gy_b gY_88) 13 = .ok (.goto (4), 3) by decide +kernel) (by decide) ?_
    exact gr_ireturn (pc := 17) (show decode (gy_b gY_88) 17 = .ok (.ireturn, 1) by decide +kernel) rfl rfl (by decide) gv_2f
noncomputable def fi_88 (l0 l1 M n c : Nat) (K : Nat → Nat → Nat → Nat → Bool) : Bool := fi_88_L0 K l0 l1 M n c
theorem hm_88 {G : gxG} (hG : gxG0 G) (l0 l1 : Nat) : gxM G gY_88 yX5_hasRoomFor [gR 5 (l0), gI (l1)] (fi_88 l0 l1) := gxM_of (L := [gR 5 (l0), gI (l1)]) hG 0 (by decide +kernel) rfl rfl rfl rfl (List.forall_mem_cons.mpr ⟨rfl, List.forall_mem_cons.mpr ⟨rfl, fun _ h => nomatch h⟩⟩) (fun M n c K => h_88_L0 hG  l0 l1 M n c)
/-! Farfiles refuseIfTooFew (I)V -/
def gY_89 : gxY := (false, prog_1_method_30_code, 2, (Option.none : Option FieldType), "Farfiles", 2, 61, 5, [], "refuseIfTooFew")
theorem ok_89 {Y : gxY} (h1 : gy_f gY_89 + 1 ≤ gy_f Y) (h2 : 8 + (gy_l gY_89 + 11) + gy_k gY_89 ≤ gy_k Y) : gh_ok Y gY_89 yX7_refuseIfTooFew 1 := ⟨wd_1021, wd_51, ⟨by decide, by decide⟩, by decide +kernel, h1, h2⟩
noncomputable def fi_89_L0 (K : Nat → Nat → Nat → Nat → Bool) (l0 l1 M n c : Nat) : Bool := gx_get (l0) 1 M (fun v1 => gx_nn (v1) (fi_88 (v1) (l1) M n c (fun v2 M3 n4 c5 => gx_eq (v2) 0 (false) (K 0 M3 n4 c5))))
theorem h_89_L0 {G : gxG} (hG : gxG0 G) {K : Nat → Nat → Nat → Nat → Bool} (l0 l1 M n c : Nat) : gxJ G gY_89 K 0 [] [gR 7 (l0), gI (l1)] M n c (fi_89_L0 K l0 l1 M n c) := by
  unfold fi_89_L0
  refine gr_aload_n (pc := 0) (i := 0) 7 (l0) (show decode (gy_b gY_89) 0 = .ok (.aload_n 0, 1) by decide +kernel) rfl rfl ?_
  refine gr_getf (pc := 1) (index := 19) (t := 7) (j := 1) (σ := 13) (sv := (gR 5)) (show decode (gy_b gY_89) 1 = .ok (.getfield 19, 3) by decide +kernel) rfl rfl (fun _ => rfl) wd_295 (by decide) ?_
  intro v1
  refine gr_iload_n (pc := 4) (i := 1) (l1) (show decode (gy_b gY_89) 4 = .ok (.iload_n 1, 1) by decide +kernel) rfl rfl ?_
  refine gj_nn (fun hx5 => ?_)
  refine gj_c0 (pc := 5) (Y' := gY_88) (y := yX5_hasRoomFor) (vs := [gR 5 (v1), gI (l1)]) (rest := []) (rs := fun v2 => [gI (v2)]) [gI (l1), gR 5 (v1)] rfl (hm_88 hG (v1) (l1)) rfl (gh_V (t := 5) (vs := [gI (l1)]) (rest := []) (show decode (gy_b gY_89) 5 = .ok (.invokevirtual 231, 3) by decide +kernel) rfl hx5 rfl rfl (ok_88 (by decide) (by decide)) wd_1022 wd_1023 wd_1024 (Nat.le_of_ble_eq_true rfl)) (fun _ => rfl) ?_
  intro v2 M3 n4 c5
  refine gr_ifne (pc := 8) (tgt := 17) (off := 9) hG.2.1 (show decode (gy_b gY_89) 8 = .ok (.ifCond .ne (9), 3) by decide +kernel) (by decide) ?_ ?_
  · exact gr_return (pc := 17) (show decode (gy_b gY_89) 17 = .ok (.return_, 1) by decide +kernel) rfl rfl
  · exact gj_false
noncomputable def fi_89 (l0 l1 M n c : Nat) (K : Nat → Nat → Nat → Nat → Bool) : Bool := fi_89_L0 K l0 l1 M n c
theorem hm_89 {G : gxG} (hG : gxG0 G) (l0 l1 : Nat) : gxM G gY_89 yX7_refuseIfTooFew [gR 7 (l0), gI (l1)] (fi_89 l0 l1) := gxM_of (L := [gR 7 (l0), gI (l1)]) hG 0 (by decide +kernel) rfl rfl rfl rfl (List.forall_mem_cons.mpr ⟨rfl, List.forall_mem_cons.mpr ⟨rfl, fun _ h => nomatch h⟩⟩) (fun M n c K => h_89_L0 hG  l0 l1 M n c)
/-! Farfiles$Act isAddLike (LFarfiles$Act;)Z -/
def gY_90 : gxY := (false, prog_2_method_2_code, 2, (Option.some Jvm.ClassFile.FieldType.boolean), "Farfiles$Act", 1, 40, 2, [], "isAddLike")
theorem ok_90 {Y : gxY} (h1 : gy_f gY_90 + 1 ≤ gy_f Y) (h2 : 8 + (gy_l gY_90 + 11) + gy_k gY_90 ≤ gy_k Y) : gh_ok Y gY_90 yX0_isAddLike 1 := ⟨wd_1051, wd_54, ⟨by decide, by decide⟩, by decide +kernel, h1, h2⟩
noncomputable def fi_90_L47 (K : Nat → Nat → Nat → Nat → Bool) (s0 M n c : Nat) : Bool := gx_rt gx_f2 (s0) (K (s0) M n c)
theorem h_90_L47 {G : gxG} (hG : gxG0 G) {K : Nat → Nat → Nat → Nat → Bool} (s0 M n c : Nat) : gxJ G gY_90 K 47 [gI (s0)] [gB, gB] M n c (fi_90_L47 K s0 M n c) := by
  unfold fi_90_L47
  exact gr_ireturn (pc := 47) (show decode (gy_b gY_90) 47 = .ok (.ireturn, 1) by decide +kernel) rfl rfl (by decide) gv_2f
noncomputable def fi_90_L46 (K : Nat → Nat → Nat → Nat → Bool) (M n c : Nat) : Bool := fi_90_L47 K (0) M n c
theorem h_90_L46 {G : gxG} (hG : gxG0 G) {K : Nat → Nat → Nat → Nat → Bool} (M n c : Nat) : gxJ G gY_90 K 46 [] [gB, gB] M n c (fi_90_L46 K M n c) := by
  unfold fi_90_L46
  refine gr_iconst (pc := 46) (z := 0) 0 (show decode (gy_b gY_90) 46 = .ok (.iconst (0), 1) by decide +kernel) kc_0 ?_
  exact h_90_L47 hG (0) M n c
noncomputable def fi_90_L0 (K : Nat → Nat → Nat → Nat → Bool) (l0 l1 M n c : Nat) : Bool := gx_get (l0) 2 M (fun v1 => gx_eq (v1) (97) (gx_get (l0) 1 M (fun v2 => gx_get (l1) 1 M (fun v3 => gx_eq (v2) (v3) (gx_get (l0) 3 M (fun v4 => gx_get (l1) 3 M (fun v5 => gx_eq (v4) (v5) (gx_get (l0) 4 M (fun v6 => gx_get (l1) 4 M (fun v7 => gx_eq (v6) (v7) (fi_90_L47 K (1) M n c) (fi_90_L46 K  M n c)))) (fi_90_L46 K  M n c)))) (fi_90_L46 K  M n c)))) (fi_90_L46 K  M n c))
theorem h_90_L0 {G : gxG} (hG : gxG0 G) {K : Nat → Nat → Nat → Nat → Bool} (l0 l1 M n c : Nat) : gxJ G gY_90 K 0 [] [gR 0 (l0), gR 0 (l1)] M n c (fi_90_L0 K l0 l1 M n c) := by
  unfold fi_90_L0
  refine gr_aload_n (pc := 0) (i := 0) 0 (l0) (show decode (gy_b gY_90) 0 = .ok (.aload_n 0, 1) by decide +kernel) rfl rfl ?_
  refine gr_getf (pc := 1) (index := 28) (t := 0) (j := 2) (σ := 1) (sv := gI) (show decode (gy_b gY_90) 1 = .ok (.getfield 28, 3) by decide +kernel) rfl rfl (fun _ => rfl) wd_141 (by decide) ?_
  intro v1
  refine gr_bipush (pc := 4) (z := 97) 97 (show decode (gy_b gY_90) 4 = .ok (.bipush (97), 2) by decide +kernel) (by decide +kernel) ?_
  refine gr_icmp_ne (pc := 6) (tgt := 46) (off := 40) hG.2.1 (show decode (gy_b gY_90) 6 = .ok (.if_icmp .ne (40), 3) by decide +kernel) (by decide) ?_ ?_
  · refine gr_wk [false, false] rfl ?_
    exact h_90_L46 hG  M n c
  · refine gr_aload_n (pc := 9) (i := 0) 0 (l0) (show decode (gy_b gY_90) 9 = .ok (.aload_n 0, 1) by decide +kernel) rfl rfl ?_
    refine gr_getf (pc := 10) (index := 25) (t := 0) (j := 1) (σ := 0) (sv := gI) (show decode (gy_b gY_90) 10 = .ok (.getfield 25, 3) by decide +kernel) rfl rfl (fun _ => rfl) wd_137 (by decide) ?_
    intro v2
    refine gr_aload_n (pc := 13) (i := 1) 0 (l1) (show decode (gy_b gY_90) 13 = .ok (.aload_n 1, 1) by decide +kernel) rfl rfl ?_
    refine gr_getf (pc := 14) (index := 25) (t := 0) (j := 1) (σ := 0) (sv := gI) (show decode (gy_b gY_90) 14 = .ok (.getfield 25, 3) by decide +kernel) rfl rfl (fun _ => rfl) wd_137 (by decide) ?_
    intro v3
    refine gr_icmp_ne (pc := 17) (tgt := 46) (off := 29) hG.2.1 (show decode (gy_b gY_90) 17 = .ok (.if_icmp .ne (29), 3) by decide +kernel) (by decide) ?_ ?_
    · refine gr_wk [false, false] rfl ?_
      exact h_90_L46 hG  M n c
    · refine gr_aload_n (pc := 20) (i := 0) 0 (l0) (show decode (gy_b gY_90) 20 = .ok (.aload_n 0, 1) by decide +kernel) rfl rfl ?_
      refine gr_getf (pc := 21) (index := 32) (t := 0) (j := 3) (σ := 0) (sv := gI) (show decode (gy_b gY_90) 21 = .ok (.getfield 32, 3) by decide +kernel) rfl rfl (fun _ => rfl) wd_144 (by decide) ?_
      intro v4
      refine gr_aload_n (pc := 24) (i := 1) 0 (l1) (show decode (gy_b gY_90) 24 = .ok (.aload_n 1, 1) by decide +kernel) rfl rfl ?_
      refine gr_getf (pc := 25) (index := 32) (t := 0) (j := 3) (σ := 0) (sv := gI) (show decode (gy_b gY_90) 25 = .ok (.getfield 32, 3) by decide +kernel) rfl rfl (fun _ => rfl) wd_144 (by decide) ?_
      intro v5
      refine gr_icmp_ne (pc := 28) (tgt := 46) (off := 18) hG.2.1 (show decode (gy_b gY_90) 28 = .ok (.if_icmp .ne (18), 3) by decide +kernel) (by decide) ?_ ?_
      · refine gr_wk [false, false] rfl ?_
        exact h_90_L46 hG  M n c
      · refine gr_aload_n (pc := 31) (i := 0) 0 (l0) (show decode (gy_b gY_90) 31 = .ok (.aload_n 0, 1) by decide +kernel) rfl rfl ?_
        refine gr_getf (pc := 32) (index := 35) (t := 0) (j := 4) (σ := 0) (sv := gI) (show decode (gy_b gY_90) 32 = .ok (.getfield 35, 3) by decide +kernel) rfl rfl (fun _ => rfl) wd_146 (by decide) ?_
        intro v6
        refine gr_aload_n (pc := 35) (i := 1) 0 (l1) (show decode (gy_b gY_90) 35 = .ok (.aload_n 1, 1) by decide +kernel) rfl rfl ?_
        refine gr_getf (pc := 36) (index := 35) (t := 0) (j := 4) (σ := 0) (sv := gI) (show decode (gy_b gY_90) 36 = .ok (.getfield 35, 3) by decide +kernel) rfl rfl (fun _ => rfl) wd_146 (by decide) ?_
        intro v7
        refine gr_icmp_ne (pc := 39) (tgt := 46) (off := 7) hG.2.1 (show decode (gy_b gY_90) 39 = .ok (.if_icmp .ne (7), 3) by decide +kernel) (by decide) ?_ ?_
        · refine gr_wk [false, false] rfl ?_
          exact h_90_L46 hG  M n c
        · refine gr_iconst (pc := 42) (z := 1) 1 (show decode (gy_b gY_90) 42 = .ok (.iconst (1), 1) by decide +kernel) kc_1 ?_
          refine gr_goto (pc := 43) (tgt := 47) (off := 4) (show decode (gy_b gY_90) 43 = .ok (.goto (4), 3) by decide +kernel) (by decide) ?_
          refine gr_wk [false, false] rfl ?_
          exact h_90_L47 hG (1) M n c
noncomputable def fi_90 (l0 l1 M n c : Nat) (K : Nat → Nat → Nat → Nat → Bool) : Bool := fi_90_L0 K l0 l1 M n c
theorem hm_90 {G : gxG} (hG : gxG0 G) (l0 l1 : Nat) : gxM G gY_90 yX0_isAddLike [gR 0 (l0), gR 0 (l1)] (fi_90 l0 l1) := gxM_of (L := [gR 0 (l0), gR 0 (l1)]) hG 0 (by decide +kernel) rfl rfl rfl rfl (List.forall_mem_cons.mpr ⟨rfl, List.forall_mem_cons.mpr ⟨rfl, fun _ h => nomatch h⟩⟩) (fun M n c K => h_90_L0 hG  l0 l1 M n c)
