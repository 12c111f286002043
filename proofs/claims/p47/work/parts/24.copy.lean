/-! RULES: a part of a byte array is copied. -/
section CPY
variable {G : gxG} {Y Y' : gxY} {K : Nat → Nat → Nat → Nat → Bool} {pc : Nat} {st L rest vs : List gxV} {M n c x v : Nat} {e : Bool}
theorem gs_puts {M' : Nat} {ad : Nat → Nat} {cw : List gxq} {H H1 : Heap} {z : gxq} {q0 : Nat} (hI : gxI G ad cw M n H) (hq : cw[q0]? = some z) (hv : ∀ b, (∀ j, j < z.2.2 → b ≠ gx_sa z j) → gx_rd M' b = gx_rd M b) (hok : ∀ j, j < z.2.2 → gv_ok (gg_cr G ++ cw) (gx_sv M' z j))
    (h1 : gg_lo G ≤ H1.size ∧ ∀ q : Nat, q < gg_lo G → H1[q]? = (gg_s G).heap[q]?)
    (hP : va_P (gg_D G) gx_cl ((cw.map fun q => (ad q.1, gx_cel G ad M q)).set q0 (ad z.1, gx_cel G ad M' z)) H1) : gxI G ad cw M' n H1 := by
  obtain ⟨i1, i2, i3, i4, i5, i6, i7, i8, i9, i10⟩ := hI
  have hzm : z ∈ cw := List.mem_of_getElem? hq
  obtain ⟨z1, z2, z3, z4⟩ := i5 z hzm
  have other : ∀ q ∈ cw, q ≠ z → ∀ b, q.1 ≤ b → b < q.1 + gx_ex q → gx_rd M' b = gx_rd M b := by
    intro q hqm hne b b1 b2
    refine hv b fun j hj => ?_
    obtain ⟨a1, a2⟩ := gx_sa_in hj
    rcases i4 q hqm z hzm with h | h | h
    · exact absurd h hne
    · omega
    · omega
  have cel : ∀ q ∈ cw, q ≠ z → gx_cel G ad M' q = gx_cel G ad M q := fun q hqm hne => gx_cel_eq fun b hb => by
    obtain ⟨b1, b2⟩ := gx_sa_in hb
    exact other q hqm hne _ b1 b2
  have hmap : (cw.map fun q => (ad q.1, gx_cel G ad M q)).set q0 (ad z.1, gx_cel G ad M' z) = cw.map fun q => (ad q.1, gx_cel G ad M' q) := by
    apply List.ext_getElem?
    intro b
    rw [List.getElem?_set, List.getElem?_map, List.getElem?_map]
    by_cases hb : q0 = b
    · subst hb
      obtain ⟨hl, he⟩ := List.getElem?_eq_some_iff.mp hq
      simp [hl, he]
    · rw [if_neg hb]
      cases hc : cw[b]? with
      | none => rfl
      | some q =>
        show some _ = some _
        by_cases hqz : q = z
        · subst hqz
          exact absurd (i3.1 q0 b _ _ (by rw [List.getElem?_map, hq]; rfl) (by rw [List.getElem?_map, hc]; rfl) rfl) hb
        · exact congrArg (fun w => some (ad q.1, w)) (cel q (List.mem_of_getElem? hc) hqz).symm
  rw [hmap] at hP
  refine ⟨h1, hP, ?_, i4, ?_, ?_, ?_, ?_, i9, i10⟩
  · refine ⟨fun b d p q hp hq2 hpq => ?_, fun b q hq2 => ?_⟩
    · rw [List.getElem?_map] at hp hq2
      cases hb : cw[b]? with
      | none => rw [hb] at hp; cases hp
      | some p' =>
        cases hd : cw[d]? with
        | none => rw [hd] at hq2; cases hq2
        | some q' =>
          rw [hb] at hp
          rw [hd] at hq2
          cases hp
          cases hq2
          exact i3.1 b d (ad p'.1, gx_cel G ad M p') (ad q'.1, gx_cel G ad M q') (by rw [List.getElem?_map, hb]; rfl) (by rw [List.getElem?_map, hd]; rfl) hpq
    · rw [List.getElem?_map] at hq2
      cases hb : cw[b]? with
      | none => rw [hb] at hq2; cases hq2
      | some q' =>
        rw [hb] at hq2
        cases hq2
        exact i3.2 b (ad q'.1, gx_cel G ad M q') (by rw [List.getElem?_map, hb]; rfl)
  · intro q hqm
    obtain ⟨g1, g2, g3, g4⟩ := i5 q hqm
    refine ⟨g1, g2, g3, fun h64 => ?_⟩
    obtain ⟨g5, g6⟩ := g4 h64
    refine ⟨?_, g6⟩
    have hex : gx_ex q = q.2.2 + 1 := if_neg (by omega)
    by_cases hqz : q = z
    · subst hqz
      rw [hv _ (fun j _ => by unfold gx_sa; rw [if_neg (by omega)]; omega), g5]
    · rw [other q hqm hqz q.1 (Nat.le_refl _) (by omega), g5]
  · intro q hqm b hb
    by_cases hqz : q = z
    · subst hqz
      exact hok b hb
    · obtain ⟨b1, b2⟩ := gx_sa_in hb
      rw [gx_sv_eq (other q hqm hqz _ b1 b2)]
      exact i6 q hqm b hb
  · intro a ha
    rw [hv a (fun j hj => by
      have := gx_sa_in hj
      omega)]
    exact i7 a ha
  · intro a ha
    rw [hv a (fun j hj => by
      have := gx_sa_in hj
      omega)]
    exact i8 a ha
noncomputable def gx_cpv (s M ln : Nat) : Bool := Nat.rec (motive := fun _ => Bool) true (fun i acc => Bool.and (gx_f3 (gx_rd M (Nat.add s i))) acc) ln
noncomputable def gx_cpl (s d M ln : Nat) : Nat := Nat.rec (motive := fun _ => Nat) M (fun i acc => gx_wr acc (Nat.add d i) (gx_rd M (Nat.add s i))) ln
noncomputable def gx_cpy (s sp d dp ln M : Nat) (k : Nat → Bool) : Bool := Bool.rec (motive := fun _ => Bool) false (k (gx_cpl (Nat.succ (Nat.add s sp)) (Nat.succ (Nat.add d dp)) M ln))
  (Bool.and (Nat.ble 128 d) (Bool.and (Nat.ble 1 s) (Bool.and (Nat.ble (Nat.add sp ln) (gx_rd M s)) (Bool.and (Nat.ble (Nat.add dp ln) (gx_rd M d)) (gx_cpv (Nat.succ (Nat.add s sp)) M ln)))))
theorem gs_cpl (s d M b : Nat) : ∀ ln, gx_rd (gx_cpl s d M ln) b = if d ≤ b ∧ b < d + ln then gx_rd M (s + (b - d)) else gx_rd M b := by
  intro ln
  induction ln with
  | zero => rw [if_neg (by omega)]; rfl
  | succ ln ih =>
    show gx_rd (gx_wr (gx_cpl s d M ln) (d + ln) (gx_rd M (s + ln))) b = _
    rw [gh_wr (gh_lt _ _), ih]
    by_cases h1 : d + ln = b
    · subst h1
      rw [if_pos rfl, if_pos (by omega), show d + ln - d = ln by omega]
    · rw [if_neg h1]
      by_cases h2 : d ≤ b ∧ b < d + ln
      · rw [if_pos h2, if_pos (by omega)]
      · rw [if_neg h2, if_neg (by omega)]
theorem gs_cpv {s M : Nat} : ∀ {ln : Nat}, gx_cpv s M ln = true → ∀ i, i < ln → gx_f3 (gx_rd M (s + i)) = true := by
  intro ln
  induction ln with
  | zero => intro _ i hi; omega
  | succ ln ih =>
    intro h i hi
    have h : Bool.and (gx_f3 (gx_rd M (s + ln))) (gx_cpv s M ln) = true := h
    obtain ⟨h1, h2⟩ := go_and h
    by_cases e : i = ln
    · rw [e]; exact h1
    · exact ih h2 i (by omega)
theorem gr_copy {index s sp d dp ln : Nat} {k : Nat → Bool} (hG : gxG0 G) (hdg : decode (gy_b Y) pc = .ok (.invokestatic index, 3)) (hl : Cond.methodLink (gy_o Y) index arraycopyName ∈ gx_ws) (hnat : Cond.native arraycopyName ∈ gx_ws) (hsta : Cond.static arraycopyName ∈ gx_ws) (hini : Cond.initialized "java/lang/System" ∈ gx_ws) (hf : 1 ≤ gy_f Y) (hk9 : 40 ≤ gy_k Y) (hcat : gx_cats st ≤ 8) (hk : ∀ M1, gxJ G Y K (pc + 3) st L M1 n c (k M1)) : gxJ G Y K pc (gI ln :: gI dp :: gR 67 d :: gI sp :: gR 67 s :: st) L M n c (gx_cpy s sp d dp ln M k) := fun h => by
  obtain ⟨hc, h⟩ := gb_t h
  obtain ⟨c1, hc⟩ := go_and hc
  obtain ⟨c2, hc⟩ := go_and hc
  obtain ⟨c3, hc⟩ := go_and hc
  obtain ⟨c4, c5⟩ := go_and hc
  have c1 : 128 ≤ d := gb_ble c1
  have c2 : 1 ≤ s := gb_ble c2
  have c3 : sp + ln ≤ gx_rd M s := gb_ble c3
  have c4 : dp + ln ≤ gx_rd M d := gb_ble c4
  have c5 : ∀ i, i < ln → gx_f3 (gx_rd M (s + sp + 1 + i)) = true := gs_cpv c5
  have hrd : ∀ b, gx_rd (gx_cpl (Nat.succ (Nat.add s sp)) (Nat.succ (Nat.add d dp)) M ln) b = if d + dp + 1 ≤ b ∧ b < d + dp + 1 + ln then gx_rd M (s + sp + 1 + (b - (d + dp + 1))) else gx_rd M b := fun b => gs_cpl _ _ _ _ _
  generalize gx_cpl (Nat.succ (Nat.add s sp)) (Nat.succ (Nat.add d dp)) M ln = M' at hrd h
  refine gj_go3 (hk M') (Nat.le_refl _) (Nat.le_refl _) (fun p e R s9 m args below meth cd X cells slots cw ad H locs ls Q uI uS uL us ul hc9 hn9 kk => ?_) h rfl
  obtain ⟨z, hz, z1, z2⟩ := gs_find (gv_oks_hd (gv_2 us)) (by omega)
  obtain ⟨y, hy, y1, y2⟩ := gs_find (gv_oks_hd (gv_oks_tl (gv_oks_tl (gv_2 us)))) (by omega)
  subst z1
  subst y1
  rw [List.map_cons, List.map_cons, List.map_cons, List.map_cons, List.map_cons, gs_ref (by omega), gs_ref (by omega)]
  have X0 := X
  obtain ⟨x1, x2, x3, x4, x5, x6, x7, ⟨x8, x9, x10⟩, x11, x12, x13, x14, x15⟩ := X
  rcases List.mem_append.mp hz with hz | hz
  · obtain ⟨r1, r2, r3, r4⟩ := x9 z hz
    rw [gs_exk (κ := 3) z2] at r2
    omega
  obtain ⟨q0, hq0⟩ := List.getElem?_of_mem hz
  have hq := uI.2.2.2.2.1 z hz
  have hlz := (hq.2.2.2 (by omega)).1
  have hn := uI.2.2.2.2.2.2.2.2.1
  rw [gs_exk (κ := 3) z2] at hq
  have hnw : nativeFrameWords "java/lang/System" "arraycopy" 5 ≤ 21 := by decide +kernel
  have hloc : ((st.map (gx_den (gg_dk G) ad)).map fun v => v.category).sum + (nativeFrameWords "java/lang/System" "arraycopy" 5 + 11) ≤ R.locals := by
    have q1 : ((st.map (gx_den (gg_dk G) ad)).map fun v => v.category).sum ≤ 8 := Nat.le_trans (gx_cats_sum st) hcat
    omega
  have hzc : (cw.map fun q => (ad q.1, gx_cel G ad M q))[q0]? = some (ad z.1, .inl (gg_cT G 3, z.2.2, .inl (fun j => if j < z.2.2 then gx_N (gg_dk G) (gx_rd M (gx_sa z j)) else 0))) := by
    rw [List.getElem?_map, hq0]
    show some (_, gx_cel G ad M z) = _
    rw [gs_arr (κ := 3) z2, gs_elmi (κ := 3) z2 (by decide)]
  have fit : ∀ i, i < ln → fits .byte (.int (gx_N (gg_dk G) (gx_rd M (y.1 + sp + 1 + i)))) = true := fun i hi => (gv_3 (G := G) hG.2.1 ad _ (c5 i hi)).2.2
  have fin : ∀ (f : Nat → Int32) (hfe : ∀ j, j < ln → f (sp + j) = gx_N (gg_dk G) (gx_rd M (y.1 + sp + 1 + j))) (H1 : Heap) (locs1 : List Loc), sp + ln < 2147483648 →
      va_P (gg_D G) gx_cl ((cw.map fun q => (ad q.1, gx_cel G ad M q)).set q0 (ad z.1, .inl (gg_cT G 3, z.2.2, .inl (va_cpy f (fun j => if j < z.2.2 then gx_N (gg_dk G) (gx_rd M (gx_sa z j)) else 0) (nI sp).toNatClampNeg (nI dp).toNatClampNeg (nI ln).toNatClampNeg)))) H1 →
      va_S (gxA G) s9.heap H1 locs1 → W p (gg_l G) e R s9 m args below meth cd H1 locs1 cells slots Q (F0 m (pc + 3) ls (st.map (gx_den (gg_dk G) ad))) := fun f hfe H1 locs1 hsl hP hS => by
    rw [nI_clamp (show sp < 2 ^ 31 by omega), nI_clamp (show dp < 2 ^ 31 by omega), nI_clamp (show ln < 2 ^ 31 by omega)] at hP
    have ec : gx_cel G ad M' z = .inl (gg_cT G 3, (z.2.2, .inl (va_cpy f (fun j => if j < z.2.2 then gx_N (gg_dk G) (gx_rd M (gx_sa z j)) else 0) sp dp ln))) := by
      rw [gs_arr (κ := 3) z2, gs_elmi (κ := 3) z2 (by decide)]
      refine congrArg (fun w => Sum.inl (gg_cT G 3, (z.2.2, Sum.inl w))) (funext fun b => ?_)
      unfold va_cpy
      have hs : gx_sa z b = z.1 + (b + 1) := gs_sa (κ := 3) z2
      by_cases hb : dp ≤ b ∧ b < dp + ln
      · rw [if_pos hb, if_pos (by omega), hs, hrd, if_pos (by omega), hfe _ (by omega)]
        rw [show z.1 + (b + 1) - (z.1 + dp + 1) = b - dp by omega]
      · rw [if_neg hb]
        show _ = if b < z.2.2 then gx_N (gg_dk G) (gx_rd M (gx_sa z b)) else 0
        by_cases hbl : b < z.2.2
        · rw [if_pos hbl, if_pos hbl, hs, hrd, if_neg (by show ¬ (z.1 + dp + 1 ≤ z.1 + (b + 1) ∧ _); omega)]
        · rw [if_neg hbl, if_neg hbl]
    rw [← ec] at hP
    have I1 := gs_puts (M' := M') uI hq0 (fun b hb => by
      rw [hrd, if_neg (fun hh => hb (b - (z.1 + 1)) (by omega) (by rw [gs_sa (κ := 3) z2]; show b = z.1 + (b - (z.1 + 1) + 1); omega))]) (fun j hj => by
      rw [gs_svk (κ := 3) z2]; trivial) (gs_old X0 hS) hP
    have w := kk cw ad H1 locs1 ls gx_sb_rf gx_agr_rf I1 hS uL (gv_2 (gv_oks_tl (gv_2 us))) ul
    rw [Nat.sub_self, Nat.sub_self, Nat.add_zero, Nat.add_zero] at w
    exact w
  rcases List.mem_append.mp hy with hy | hy
  · obtain ⟨r1, r2, r3, r4⟩ := x9 y hy
    obtain ⟨r5, r6, r7, r8⟩ := r4 (by omega) (by omega)
    rw [gs_exk (κ := 3) y2] at r2
    have hly : gx_rd M y.1 = y.2.2 := by rw [uI.2.2.2.2.2.2.2.1 _ (by omega), r7]
    rw [show y.2.1 - 64 = 3 by omega, show (fun j => gx_den (gg_dk G) (gg_ad G) (gx_sv (gg_M G) y j)) = fun j => .int (gx_N (gg_dk G) (gx_rd (gg_M G) (gx_sa y j))) from funext fun j => by rw [gs_svk (κ := 3) y2, gs_sa (κ := 3) y2]; rfl] at r8
    have hfe : ∀ j, j < ln → gx_N (gg_dk G) (gx_rd (gg_M G) (gx_sa y (sp + j))) = gx_N (gg_dk G) (gx_rd M (y.1 + sp + 1 + j)) := fun j hj => by
      rw [gs_sa (κ := 3) y2]
      show gx_N (gg_dk G) (gx_rd (gg_M G) (y.1 + (sp + j + 1))) = _
      rw [← uI.2.2.2.2.2.2.2.1 _ (by omega), show y.1 + (sp + j + 1) = y.1 + sp + 1 + j by omega]
    rw [show gx_den (gg_dk G) ad (gI ln) = .int (nI ln) from congrArg Value.int (gn_c (by omega)), show gx_den (gg_dk G) ad (gI dp) = .int (nI dp) from congrArg Value.int (gn_c (by omega)), show gx_den (gg_dk G) ad (gI sp) = .int (nI sp) from congrArg Value.int (gn_c (by omega)), uI.2.2.2.2.2.2.2.2.2 y hy]
    refine vk_copyt x1 x2 (by rw [x3]; exact uL.1.symm) x5 (x6 _ hl) (x6 _ hnat) (x6 _ hsta) (x6 _ hini) x11 uI.2.1 uI.2.2.1 uS r8 q0 3 hzc rfl (nI_pos (by omega)) (nI_pos (by omega)) (nI_pos (by omega)) (by rw [nI_clamp (show sp < 2 ^ 31 by omega), nI_clamp (show ln < 2 ^ 31 by omega)]; omega) (by rw [nI_clamp (show dp < 2 ^ 31 by omega), nI_clamp (show ln < 2 ^ 31 by omega)]; omega) (fun i hi => by
      rw [nI_clamp (show ln < 2 ^ 31 by omega)] at hi
      rw [nI_clamp (show sp < 2 ^ 31 by omega), hfe i hi]
      exact fit i hi) (Nat.le_trans hf x13) hloc hdg (fun H1 locs1 hP hD hS => fin _ hfe H1 locs1 (by omega) hP hS)
  · obtain ⟨q1, hq1⟩ := List.getElem?_of_mem hy
    have hqy := uI.2.2.2.2.1 y hy
    have hly := (hqy.2.2.2 (by omega)).1
    rw [gs_exk (κ := 3) y2] at hqy
    have hyc : (cw.map fun q => (ad q.1, gx_cel G ad M q))[q1]? = some (ad y.1, .inl (gg_cT G 3, y.2.2, .inl (fun j => if j < y.2.2 then gx_N (gg_dk G) (gx_rd M (gx_sa y j)) else 0))) := by
      rw [List.getElem?_map, hq1]
      show some (_, gx_cel G ad M y) = _
      rw [gs_arr (κ := 3) y2, gs_elmi (κ := 3) y2 (by decide)]
    have hfe : ∀ j, j < ln → (fun j => if j < y.2.2 then gx_N (gg_dk G) (gx_rd M (gx_sa y j)) else 0) (sp + j) = gx_N (gg_dk G) (gx_rd M (y.1 + sp + 1 + j)) := fun j hj => by
      show (if sp + j < y.2.2 then gx_N (gg_dk G) (gx_rd M (gx_sa y (sp + j))) else 0) = _
      rw [if_pos (by omega), gs_sa (κ := 3) y2]
      show gx_N (gg_dk G) (gx_rd M (y.1 + (sp + j + 1))) = _
      rw [show y.1 + (sp + j + 1) = y.1 + sp + 1 + j by omega]
    rw [show gx_den (gg_dk G) ad (gI ln) = .int (nI ln) from congrArg Value.int (gn_c (by omega)), show gx_den (gg_dk G) ad (gI dp) = .int (nI dp) from congrArg Value.int (gn_c (by omega)), show gx_den (gg_dk G) ad (gI sp) = .int (nI sp) from congrArg Value.int (gn_c (by omega))]
    refine va_copyi x1 x2 (by rw [x3]; exact uL.1.symm) x5 (x6 _ hl) (x6 _ hnat) (x6 _ hsta) (x6 _ hini) x11 uI.2.1 uI.2.2.1 uS q1 q0 3 3 hyc hzc (ty := .byte) rfl rfl rfl (nI_pos (by omega)) (nI_pos (by omega)) (nI_pos (by omega)) (by rw [nI_clamp (show sp < 2 ^ 31 by omega), nI_clamp (show ln < 2 ^ 31 by omega)]; omega) (by rw [nI_clamp (show dp < 2 ^ 31 by omega), nI_clamp (show ln < 2 ^ 31 by omega)]; omega) (fun i hi => by
      rw [nI_clamp (show ln < 2 ^ 31 by omega)] at hi
      rw [nI_clamp (show sp < 2 ^ 31 by omega)]
      rw [show (if sp + i < y.2.2 then gx_N (gg_dk G) (gx_rd M (gx_sa y (sp + i))) else 0) = gx_N (gg_dk G) (gx_rd M (y.1 + sp + 1 + i)) from hfe i hi]
      exact fit i hi) (Nat.le_trans hf x13) hloc hdg (fun H1 locs1 hP hD hS => fin _ hfe H1 locs1 (by omega) hP hS)
end CPY
