/-! BY HAND: what the law's draw, String.checkIndex and Farfiles.refuse do. -/
def gY_sci : gxY := (false, prog_32_method_155_code, 2, (Option.none : Option FieldType), "java/lang/String", 2, 70, 5, [], "checkIndex")
def gY_refuse : gxY := (true, prog_1_method_22_code, 2, (Option.none : Option FieldType), "Farfiles", 7, 110, 5, [], "refuse")
theorem ok_draw {Y : gxY} (h1 : gy_f gY_draw + 1 ≤ gy_f Y) (h2 : 8 + (gy_l gY_draw + 11) + gy_k gY_draw ≤ gy_k Y) : gh_ok Y gY_draw yL_draw 1 := ⟨wd_366, wd_50, ⟨by decide, by decide⟩, by decide +kernel, h1, h2⟩
theorem ok_sci {Y : gxY} (h1 : gy_f gY_sci + 1 ≤ gy_f Y) (h2 : 8 + (gy_l gY_sci + 11) + gy_k gY_sci ≤ gy_k Y) : gh_ok Y gY_sci yJ0_checkIndex_df160 2 := ⟨wd_561, wd_61, ⟨by decide, by decide⟩, by decide +kernel, h1, h2⟩
theorem ok_refuse {Y : gxY} (h1 : gy_f gY_refuse + 1 ≤ gy_f Y) (h2 : 8 + (gy_l gY_refuse + 11) + gy_k gY_refuse ≤ gy_k Y) : gh_ok Y gY_refuse yX7_refuse 1 := ⟨wd_874, wd_51, ⟨by decide, by decide⟩, by decide +kernel, h1, h2⟩
theorem hm_sci {G : gxG} (hG : gxG0 G) (i ln : Nat) : gxM G gY_sci yJ0_checkIndex_df160 [gI i, gI ln] (fd_sci i ln) := sorry
theorem hm_ref {G : gxG} (hG : gxG0 G) (x w : Nat) : gxM G gY_refuse yX7_refuse [gR 7 x, gI w] (fd_ref x w) := sorry
