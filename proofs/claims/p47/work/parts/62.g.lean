/-! THE START: what stands once for all. -/
theorem gz_G (l : Launch) (hflags : l.flags = flags0) {s : State} {b Ln : Nat} {xs : Nat → Int32} (hL : Ln ≤ 260) (hts : ∀ w ∈ lw_tbl, w.before #[Value.ref b] s = true) (hX : va_X b Ln xs s s.heap) (hb : b < s.heap.size) (hgv : (Cond.and given_1 narrow_1).before #[Value.ref b] s = true) :
    ∃ G : gxG, gg_l G = l ∧ gg_s G = s ∧ gg_dk G = gd_k Ln xs ∧ gg_M G = gx_M0 ∧ gg_cr G = gx_cr ∧ gg_ad G 1 = b ∧ gxG0 G ∧ gxS G Ln xs := by
  have ht := gz_hts hts
  have t0 : ∀ w ∈ tables_1, w.before #[Value.ref b] s = true := fun w hw => ht w (gw_0 w hw)
  have hs := flat_of_before _ hgv
  have hA : ∀ a : Nat, a < s.heap.size → ¬ s.heap.size ≤ a := fun a h => by omega
  obtain ⟨D, cT, hK⟩ := gz_K ht
  obtain ⟨aK, aV, hV, hev⟩ := gz_S (A := fun q => s.heap.size ≤ q) hs hA
  obtain ⟨a2, e2, t2⟩ := va_Tof (tm := .static "Farfiles" "NO_SIGNS" "[C") (ty := .char) (N := 0) (f := fun _ => .int 0) (A := fun q => s.heap.size ≤ q) (by decide) (hs (Cond.arrayOf (.static "Farfiles" "NO_SIGNS" "[C") .char) (List.mem_of_getElem? (i := 5) (by decide +kernel))) (va_eqt (hs (Cond.eq (.length (.static "Farfiles" "NO_SIGNS" "[C")) (.int (Int32.ofNat 0))) (List.mem_of_getElem? (i := 6) (by decide +kernel)))) (fun j hj => absurd hj (by omega)) hA
  obtain ⟨a3, e3, t3⟩ := va_Tof (tm := .static "java/lang/Integer" "DigitOnes" "[B") (ty := .byte) (N := 100) (f := fun j => .int (nI (48 + j % 10))) (A := fun q => s.heap.size ≤ q) (by decide) (hs (Cond.arrayOf (.static "java/lang/Integer" "DigitOnes" "[B") .byte) (List.mem_of_getElem? (i := 13) (by decide +kernel))) (va_eqt (hs (Cond.eq (.length (.static "java/lang/Integer" "DigitOnes" "[B")) (.int (Int32.ofNat 100))) (List.mem_of_getElem? (i := 14) (by decide +kernel)))) (fun j hj => va_eqt (hs _ (List.mem_of_getElem? (gz_d1 j hj)))) hA
  obtain ⟨a4, e4, t4⟩ := va_Tof (tm := .static "java/lang/Integer" "DigitTens" "[B") (ty := .byte) (N := 100) (f := fun j => .int (nI (48 + j / 10))) (A := fun q => s.heap.size ≤ q) (by decide) (hs (Cond.arrayOf (.static "java/lang/Integer" "DigitTens" "[B") .byte) (List.mem_of_getElem? (i := 116) (by decide +kernel))) (va_eqt (hs (Cond.eq (.length (.static "java/lang/Integer" "DigitTens" "[B")) (.int (Int32.ofNat 100))) (List.mem_of_getElem? (i := 117) (by decide +kernel)))) (fun j hj => va_eqt (hs _ (List.mem_of_getElem? (gz_d2 j hj)))) hA
  have z2 := va_Zof (t0 _ (List.mem_of_getElem? (i := 69) (by decide +kernel))) (t0 _ (List.mem_of_getElem? (i := 1) (by decide +kernel))) e2 hA
  have zc := va_Zof (v := .int 1) (t0 _ (List.mem_of_getElem? (i := 350) (by decide +kernel))) (t0 _ (List.mem_of_getElem? (i := 11) (by decide +kernel))) (va_eqt (hs (Cond.eq (.static "java/lang/String" "COMPACT_STRINGS" "Z") (.int 1)) (List.mem_of_getElem? (i := 7) (by decide +kernel)))) hA
  have z3 := va_Zof (t0 _ (List.mem_of_getElem? (i := 593) (by decide +kernel))) (t0 _ (List.mem_of_getElem? (i := 20) (by decide +kernel))) e3 hA
  have z4 := va_Zof (t0 _ (List.mem_of_getElem? (i := 595) (by decide +kernel))) (t0 _ (List.mem_of_getElem? (i := 20) (by decide +kernel))) e4 hA
  obtain ⟨a5, z5⟩ : ∃ a5 : Nat, va_Z "jdk/internal/util/Preconditions" "SIOOBE_FORMATTER" "Ljava/util/function/BiFunction;" .null (fun q => s.heap.size ≤ q) s s.heap ∨ va_Z "jdk/internal/util/Preconditions" "SIOOBE_FORMATTER" "Ljava/util/function/BiFunction;" (.ref a5) (fun q => s.heap.size ≤ q) s s.heap := by
    rcases va_Zqof (A := fun q => s.heap.size ≤ q) (t0 _ (List.mem_of_getElem? (i := 437) (by decide +kernel))) (t0 _ (List.mem_of_getElem? (i := 17) (by decide +kernel))) (hs (Cond.isRef (.static "jdk/internal/util/Preconditions" "SIOOBE_FORMATTER" "Ljava/util/function/BiFunction;")) (List.mem_of_getElem? (i := 8) (by decide +kernel))) hA with h | ⟨t, h⟩
    · exact ⟨0, Or.inl h⟩
    · exact ⟨t, Or.inr h⟩
  have zu : vx_Zq Bundle.tN "UNASSIGNED_STACK" Bundle.steD (fun q => s.heap.size ≤ q) s s.heap := vx_Zqof (t0 _ (List.mem_of_getElem? (i := 643) (by decide +kernel))) (t0 _ (List.mem_of_getElem? (i := 21) (by decide +kernel))) (hs (Cond.isRef (.static Bundle.tN "UNASSIGNED_STACK" Bundle.steD)) (List.mem_of_getElem? (i := 218) (by decide +kernel))) hA
  have zv : vx_Zq Bundle.tN "SUPPRESSED_SENTINEL" Bundle.listD (fun q => s.heap.size ≤ q) s s.heap := vx_Zqof (t0 _ (List.mem_of_getElem? (i := 645) (by decide +kernel))) (t0 _ (List.mem_of_getElem? (i := 21) (by decide +kernel))) (hs (Cond.isRef (.static Bundle.tN "SUPPRESSED_SENTINEL" Bundle.listD)) (List.mem_of_getElem? (i := 219) (by decide +kernel))) hA
  obtain ⟨sa, c9, cA9, kA9, q9, -⟩ := Cond.exactly_spec (args := #[Value.ref b]) (first := s) (o := none) (s := s) (idx := []) (t := .string "Farfiles" 171) (cls := "java/lang/String") (hs (Cond.exactly (.string "Farfiles" 171) "java/lang/String") (List.mem_of_getElem? (i := 369) (by decide +kernel)))
  refine ⟨(l, s, D, cT, gd_k Ln xs, gx_M0, gx_cr, gz_ad b a2 a3 a4 a5 aK aV), rfl, rfl, rfl, rfl, rfl, rfl, ⟨?_, gd_D Ln xs, ?_, hK, hflags, gz_car ht⟩, ⟨hX, hb, hL⟩⟩
  · intro q hq
    have hq : q ∈ gx_cr := hq
    unfold gx_cr at hq
    simp only [List.mem_cons, List.not_mem_nil, or_false] at hq
    rcases hq with rfl | rfl | rfl | rfl | rfl | rfl | rfl | rfl | rfl | rfl | rfl | rfl | rfl | rfl | rfl | rfl | rfl | rfl | rfl | rfl | rfl | rfl | rfl | rfl | rfl | rfl | rfl
    · exact ⟨by decide, by decide, fun h => absurd h (by decide), fun _ h => absurd h (by decide)⟩
    · exact ⟨by decide, by decide, fun h => absurd h (by decide), fun _ _ => ⟨by decide, by decide, (show gx_rd gx_M0 2 = 0 by decide +kernel), va_Tcg t2 (fun j hj => absurd hj (Nat.not_lt_zero j))⟩⟩
    · exact ⟨by decide, by decide, fun h => absurd h (by decide), fun _ h => absurd h (by decide)⟩
    · exact ⟨by decide, by decide, fun h => absurd h (by decide), fun _ h => absurd h (by decide)⟩
    · exact ⟨by decide, by decide, fun h => absurd h (by decide), fun _ h => absurd h (by decide)⟩
    · exact ⟨by decide, by decide, fun _ => ⟨⟨rfl, rfl⟩, (gz_str (G := (l, s, D, cT, gd_k Ln xs, gx_M0, gx_cr, gz_ad b a2 a3 a4 a5 aK aV)) rfl rfl hV 0 (by decide) rfl rfl).1⟩, fun h => absurd h (by decide)⟩
    · exact ⟨by decide, by decide, fun h => absurd h (by decide), fun _ _ => ⟨by decide, by decide, (gz_lay 0 (by decide)).2.2.1, (gz_str (G := (l, s, D, cT, gd_k Ln xs, gx_M0, gx_cr, gz_ad b a2 a3 a4 a5 aK aV)) rfl rfl hV 0 (by decide) rfl rfl).2⟩⟩
    · exact ⟨by decide, by decide, fun _ => ⟨⟨rfl, rfl⟩, (gz_str (G := (l, s, D, cT, gd_k Ln xs, gx_M0, gx_cr, gz_ad b a2 a3 a4 a5 aK aV)) rfl rfl hV 1 (by decide) rfl rfl).1⟩, fun h => absurd h (by decide)⟩
    · exact ⟨by decide, by decide, fun h => absurd h (by decide), fun _ _ => ⟨by decide, by decide, (gz_lay 1 (by decide)).2.2.1, (gz_str (G := (l, s, D, cT, gd_k Ln xs, gx_M0, gx_cr, gz_ad b a2 a3 a4 a5 aK aV)) rfl rfl hV 1 (by decide) rfl rfl).2⟩⟩
    · exact ⟨by decide, by decide, fun _ => ⟨⟨rfl, rfl⟩, (gz_str (G := (l, s, D, cT, gd_k Ln xs, gx_M0, gx_cr, gz_ad b a2 a3 a4 a5 aK aV)) rfl rfl hV 2 (by decide) rfl rfl).1⟩, fun h => absurd h (by decide)⟩
    · exact ⟨by decide, by decide, fun h => absurd h (by decide), fun _ _ => ⟨by decide, by decide, (gz_lay 2 (by decide)).2.2.1, (gz_str (G := (l, s, D, cT, gd_k Ln xs, gx_M0, gx_cr, gz_ad b a2 a3 a4 a5 aK aV)) rfl rfl hV 2 (by decide) rfl rfl).2⟩⟩
    · exact ⟨by decide, by decide, fun _ => ⟨⟨rfl, rfl⟩, (gz_str (G := (l, s, D, cT, gd_k Ln xs, gx_M0, gx_cr, gz_ad b a2 a3 a4 a5 aK aV)) rfl rfl hV 3 (by decide) rfl rfl).1⟩, fun h => absurd h (by decide)⟩
    · exact ⟨by decide, by decide, fun h => absurd h (by decide), fun _ _ => ⟨by decide, by decide, (gz_lay 3 (by decide)).2.2.1, (gz_str (G := (l, s, D, cT, gd_k Ln xs, gx_M0, gx_cr, gz_ad b a2 a3 a4 a5 aK aV)) rfl rfl hV 3 (by decide) rfl rfl).2⟩⟩
    · exact ⟨by decide, by decide, fun _ => ⟨⟨rfl, rfl⟩, (gz_str (G := (l, s, D, cT, gd_k Ln xs, gx_M0, gx_cr, gz_ad b a2 a3 a4 a5 aK aV)) rfl rfl hV 4 (by decide) rfl rfl).1⟩, fun h => absurd h (by decide)⟩
    · exact ⟨by decide, by decide, fun h => absurd h (by decide), fun _ _ => ⟨by decide, by decide, (gz_lay 4 (by decide)).2.2.1, (gz_str (G := (l, s, D, cT, gd_k Ln xs, gx_M0, gx_cr, gz_ad b a2 a3 a4 a5 aK aV)) rfl rfl hV 4 (by decide) rfl rfl).2⟩⟩
    · exact ⟨by decide, by decide, fun _ => ⟨⟨rfl, rfl⟩, (gz_str (G := (l, s, D, cT, gd_k Ln xs, gx_M0, gx_cr, gz_ad b a2 a3 a4 a5 aK aV)) rfl rfl hV 5 (by decide) rfl rfl).1⟩, fun h => absurd h (by decide)⟩
    · exact ⟨by decide, by decide, fun h => absurd h (by decide), fun _ _ => ⟨by decide, by decide, (gz_lay 5 (by decide)).2.2.1, (gz_str (G := (l, s, D, cT, gd_k Ln xs, gx_M0, gx_cr, gz_ad b a2 a3 a4 a5 aK aV)) rfl rfl hV 5 (by decide) rfl rfl).2⟩⟩
    · exact ⟨by decide, by decide, fun _ => ⟨⟨rfl, rfl⟩, (gz_str (G := (l, s, D, cT, gd_k Ln xs, gx_M0, gx_cr, gz_ad b a2 a3 a4 a5 aK aV)) rfl rfl hV 6 (by decide) rfl rfl).1⟩, fun h => absurd h (by decide)⟩
    · exact ⟨by decide, by decide, fun h => absurd h (by decide), fun _ _ => ⟨by decide, by decide, (gz_lay 6 (by decide)).2.2.1, (gz_str (G := (l, s, D, cT, gd_k Ln xs, gx_M0, gx_cr, gz_ad b a2 a3 a4 a5 aK aV)) rfl rfl hV 6 (by decide) rfl rfl).2⟩⟩
    · exact ⟨by decide, by decide, fun _ => ⟨⟨rfl, rfl⟩, (gz_str (G := (l, s, D, cT, gd_k Ln xs, gx_M0, gx_cr, gz_ad b a2 a3 a4 a5 aK aV)) rfl rfl hV 7 (by decide) rfl rfl).1⟩, fun h => absurd h (by decide)⟩
    · exact ⟨by decide, by decide, fun h => absurd h (by decide), fun _ _ => ⟨by decide, by decide, (gz_lay 7 (by decide)).2.2.1, (gz_str (G := (l, s, D, cT, gd_k Ln xs, gx_M0, gx_cr, gz_ad b a2 a3 a4 a5 aK aV)) rfl rfl hV 7 (by decide) rfl rfl).2⟩⟩
    · exact ⟨by decide, by decide, fun _ => ⟨⟨rfl, rfl⟩, (gz_str (G := (l, s, D, cT, gd_k Ln xs, gx_M0, gx_cr, gz_ad b a2 a3 a4 a5 aK aV)) rfl rfl hV 8 (by decide) rfl rfl).1⟩, fun h => absurd h (by decide)⟩
    · exact ⟨by decide, by decide, fun h => absurd h (by decide), fun _ _ => ⟨by decide, by decide, (gz_lay 8 (by decide)).2.2.1, (gz_str (G := (l, s, D, cT, gd_k Ln xs, gx_M0, gx_cr, gz_ad b a2 a3 a4 a5 aK aV)) rfl rfl hV 8 (by decide) rfl rfl).2⟩⟩
    · exact ⟨by decide, by decide, fun _ => ⟨⟨rfl, rfl⟩, (gz_str (G := (l, s, D, cT, gd_k Ln xs, gx_M0, gx_cr, gz_ad b a2 a3 a4 a5 aK aV)) rfl rfl hV 9 (by decide) rfl rfl).1⟩, fun h => absurd h (by decide)⟩
    · exact ⟨by decide, by decide, fun h => absurd h (by decide), fun _ _ => ⟨by decide, by decide, (gz_lay 9 (by decide)).2.2.1, (gz_str (G := (l, s, D, cT, gd_k Ln xs, gx_M0, gx_cr, gz_ad b a2 a3 a4 a5 aK aV)) rfl rfl hV 9 (by decide) rfl rfl).2⟩⟩
    · exact ⟨by decide, by decide, fun _ => ⟨⟨rfl, rfl⟩, (gz_str (G := (l, s, D, cT, gd_k Ln xs, gx_M0, gx_cr, gz_ad b a2 a3 a4 a5 aK aV)) rfl rfl hV 10 (by decide) rfl rfl).1⟩, fun h => absurd h (by decide)⟩
    · exact ⟨by decide, by decide, fun h => absurd h (by decide), fun _ _ => ⟨by decide, by decide, (gz_lay 10 (by decide)).2.2.1, (gz_str (G := (l, s, D, cT, gd_k Ln xs, gx_M0, gx_cr, gz_ad b a2 a3 a4 a5 aK aV)) rfl rfl hV 10 (by decide) rfl rfl).2⟩⟩
  · refine ⟨z2, zc, z5, ⟨z3, z4, t3, t4⟩, ⟨zu, zv⟩, fun q hq => ?_, ⟨sa, vk_R.of (t0 _ (List.mem_of_getElem? (i := 834) (by decide +kernel))) q9⟩, rfl, rfl⟩
    unfold gx_str at hq
    simp only [List.mem_cons, List.not_mem_nil, or_false] at hq
    rcases hq with rfl | rfl | rfl | rfl | rfl | rfl | rfl | rfl | rfl | rfl | rfl
    · exact vk_R.of (t0 _ (List.mem_of_getElem? (i := 372) (by decide +kernel))) (hev 0 (by decide))
    · exact vk_R.of (t0 _ (List.mem_of_getElem? (i := 1043) (by decide +kernel))) (hev 1 (by decide))
    · exact vk_R.of (t0 _ (List.mem_of_getElem? (i := 1193) (by decide +kernel))) (hev 2 (by decide))
    · exact vk_R.of (t0 _ (List.mem_of_getElem? (i := 1194) (by decide +kernel))) (hev 3 (by decide))
    · exact vk_R.of (t0 _ (List.mem_of_getElem? (i := 1203) (by decide +kernel))) (hev 4 (by decide))
    · exact vk_R.of (t0 _ (List.mem_of_getElem? (i := 1204) (by decide +kernel))) (hev 5 (by decide))
    · exact vk_R.of (t0 _ (List.mem_of_getElem? (i := 1226) (by decide +kernel))) (hev 6 (by decide))
    · exact vk_R.of (t0 _ (List.mem_of_getElem? (i := 1227) (by decide +kernel))) (hev 7 (by decide))
    · exact vk_R.of (t0 _ (List.mem_of_getElem? (i := 1280) (by decide +kernel))) (hev 8 (by decide))
    · exact vk_R.of (t0 _ (List.mem_of_getElem? (i := 1281) (by decide +kernel))) (hev 9 (by decide))
    · exact vk_R.of (t0 _ (List.mem_of_getElem? (i := 1303) (by decide +kernel))) (hev 10 (by decide))
