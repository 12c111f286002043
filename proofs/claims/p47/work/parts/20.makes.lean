/-! RULES: what is made in the heap (printed by wip/p47/gen_makes.py). -/
def gx_d0 (σ : Nat) : Value := if σ < 4 then .int 0 else if σ = 4 then .long 0 else .null
theorem gk_def {t : Nat} {C : String} {T : u_T} {N : Nat} (h : gx_cl[t]? = some (C, T, N)) : ∃ ty0 : Nat → FieldType, (∀ k, k < N → parseFieldDescriptor (T k).2.2.1 = some (ty0 k)) ∧ ∀ j, j < N → defaultValue (ty0 j) = gx_d0 ((gx_F t).getD j 0) := by
  match t, h with
  | 0, h => cases h; exact ⟨_, tyX0_ok, fun j hj => by
      rcases (show j = 0 ∨ j = 1 ∨ j = 2 ∨ j = 3 ∨ j = 4 ∨ j = 5 ∨ j = 6 ∨ j = 7 by omega) with rfl | rfl | rfl | rfl | rfl | rfl | rfl | rfl <;> rfl⟩
  | 1, h => cases h; exact ⟨_, tyX1_ok, fun j hj => by
      rcases (show j = 0 by omega) with rfl <;> rfl⟩
  | 2, h => cases h; exact ⟨_, tyX2_ok, fun j hj => by
      rcases (show j = 0 ∨ j = 1 ∨ j = 2 ∨ j = 3 by omega) with rfl | rfl | rfl | rfl <;> rfl⟩
  | 3, h => cases h; exact ⟨_, tyX3_ok, fun j hj => by
      rcases (show j = 0 ∨ j = 1 ∨ j = 2 ∨ j = 3 ∨ j = 4 ∨ j = 5 ∨ j = 6 ∨ j = 7 ∨ j = 8 ∨ j = 9 ∨ j = 10 ∨ j = 11 by omega) with rfl | rfl | rfl | rfl | rfl | rfl | rfl | rfl | rfl | rfl | rfl | rfl <;> rfl⟩
  | 4, h => cases h; exact ⟨_, tyX4_ok, fun j hj => by
      rcases (show j = 0 ∨ j = 1 by omega) with rfl | rfl <;> rfl⟩
  | 5, h => cases h; exact ⟨_, tyX5_ok, fun j hj => by
      rcases (show j = 0 ∨ j = 1 ∨ j = 2 ∨ j = 3 ∨ j = 4 by omega) with rfl | rfl | rfl | rfl | rfl <;> rfl⟩
  | 6, h => cases h; exact ⟨_, tyX6_ok, fun j hj => by
      rcases (show j = 0 ∨ j = 1 ∨ j = 2 ∨ j = 3 ∨ j = 4 by omega) with rfl | rfl | rfl | rfl | rfl <;> rfl⟩
  | 7, h => cases h; exact ⟨_, tyX7_ok, fun j hj => by
      rcases (show j = 0 ∨ j = 1 ∨ j = 2 ∨ j = 3 ∨ j = 4 ∨ j = 5 ∨ j = 6 ∨ j = 7 ∨ j = 8 ∨ j = 9 ∨ j = 10 ∨ j = 11 ∨ j = 12 ∨ j = 13 ∨ j = 14 ∨ j = 15 by omega) with rfl | rfl | rfl | rfl | rfl | rfl | rfl | rfl | rfl | rfl | rfl | rfl | rfl | rfl | rfl | rfl <;> rfl⟩
  | 8, h => cases h; exact ⟨_, tyJ0_ok, fun j hj => by
      rcases (show j = 0 ∨ j = 1 ∨ j = 2 ∨ j = 3 by omega) with rfl | rfl | rfl | rfl <;> rfl⟩
  | 9, h => cases h; exact ⟨_, tyJ4_ok, fun j hj => by
      rcases (show j = 0 ∨ j = 1 ∨ j = 2 ∨ j = 3 by omega) with rfl | rfl | rfl | rfl <;> rfl⟩
  | 10, h => cases h; exact ⟨_, tyL_ok, fun j hj => by
      rcases (show j = 0 ∨ j = 1 ∨ j = 2 ∨ j = 3 ∨ j = 4 by omega) with rfl | rfl | rfl | rfl | rfl <;> rfl⟩
  | t + 11, h => simp [gx_cl] at h
section MKS
variable {G : gxG} {Y : gxY} {K : Nat → Nat → Nat → Nat → Bool} {pc : Nat} {st L : List gxV} {M n c x i v : Nat} {e : Bool}
theorem gs_map {dk : Nat → Nat} {cs : List gxq} {ad ad' : Nat → Nat} {L : List gxV} (h : gv_oks cs L) (ha : gx_agr cs ad ad') : L.map (gx_den dk ad') = L.map (gx_den dk ad) := List.map_congr_left fun v hv => gx_den_agr (h v hv) ha
theorem gs_nq {dk ad : Nat → Nat} {n q t : Nat} (h : n ≠ 0) : gx_den dk (fun b => if b = n then q else ad b) (gR t n) = .ref q := by
  show gx_rf (fun b => if b = n then q else ad b) n = .ref q
  unfold gx_rf
  rw [if_neg h]
  exact congrArg Value.ref (if_pos rfl)
theorem gs_crlt {s : State} (h : gxR G s) (hx : ∀ q ∈ gg_cr G, 0 < gx_ex q ∨ True) : ∀ q ∈ gg_cr G, q.1 < 128 ∨ gx_ex q = 0 := fun q hq => by
  have := (h q hq).2.1
  omega
theorem gs_cr {s : State} (h : gxR G s) : ∀ q ∈ gg_cr G, q.1 < 128 := fun q hq => by
  obtain ⟨r1, r2, r3, r4⟩ := h q hq
  by_cases h64 : q.2.1 < 64
  · obtain ⟨⟨r5, r6⟩, -⟩ := r3 h64
    have : gx_ex q = q.2.2 := if_pos h64
    omega
  · have : gx_ex q = q.2.2 + 1 := if_neg h64
    omega
theorem gs_new0 {t : Nat} (ad : Nat → Nat) {M n N : Nat} (h64 : t < 64) (h0 : ∀ a, n ≤ a → gx_rd M a = 0) (hN : N = (gx_F t).length) : gx_cel G ad M (n, (t, N)) = .inr (t, (List.range N).map (fun j => gx_d0 ((gx_F t).getD j 0))) := by
  rw [gs_obj h64]
  refine congrArg (fun w => Sum.inr (t, w)) (List.map_congr_left fun j hj => ?_)
  rw [gx_sv_at, gx_ss, gx_sa, if_pos h64, if_pos h64]
  show gx_den _ _ (gx_sl _ (gx_rd M (n + j))) = _
  rw [h0 _ (by omega)]
  unfold gx_sl gx_d0
  split
  · exact congrArg Value.int ((gn_c (by decide)).trans nI_0)
  · split
    · rfl
    · exact (show gx_rf ad 0 = Value.null from if_pos rfl)
theorem gr_newo {index t : Nat} {k : Nat → Nat → Nat → Bool} {C : String} {T : u_T} {N : Nat} (hdg : decode (gy_b Y) pc = .ok (.new index, 3)) (ht : gx_cl[t]? = some (C, T, N)) (hcl : Cond.classLink (gy_o Y) index C ∈ gx_ws) (hinst : Cond.instantiable C N ∈ gx_ws) (hini : Cond.initialized C ∈ gx_ws)
    (hk : ∀ v n1 c1, gxJ G Y K (pc + 3) (gR t v :: st) L M n1 c1 (k v n1 c1)) : gxJ G Y K pc st L M n c (gx_new N n c k) := fun h => by
  obtain ⟨hn, h⟩ := gb_t h
  have hn := gb_ble hn
  obtain ⟨g1, g2, g3⟩ := gk ht
  obtain ⟨ty0, g4, g5⟩ := gk_def ht
  have hN16 : N ≤ 16 ∧ 0 < N := by
    have ht11 : t < 11 := by
      rcases Nat.lt_or_ge t 11 with q | q
      · exact q
      · rw [List.getElem?_eq_none (by simpa [gx_cl] using q)] at ht; cases ht
    have h1 := gk_pos t ht11
    refine ⟨?_, by omega⟩
    rw [g2]
    rcases (show t = 0 ∨ t = 1 ∨ t = 2 ∨ t = 3 ∨ t = 4 ∨ t = 5 ∨ t = 6 ∨ t = 7 ∨ t = 8 ∨ t = 9 ∨ t = 10 by omega) with rfl | rfl | rfl | rfl | rfl | rfl | rfl | rfl | rfl | rfl | rfl <;> decide
  have hex : gx_ex (n, (t, N)) = N := if_pos g3
  refine gj_go3 (hk n (n + N) (c + 1)) (Nat.le_add_right _ _) (Nat.le_add_right _ _) (fun p e R s m args below meth cd X cells slots cw ad H locs ls Q uI uS uL us ul hc9 hn9 kk => ?_) h rfl
  have X0 := X
  obtain ⟨x1, x2, x3, x4, x5, x6, x7, ⟨x8, x9, x10⟩, x11, ⟨x12, x13⟩, x14⟩ := X
  have h128 := uI.2.2.2.2.2.2.2.2.1.1
  rw [show c + 1 - c = 1 by omega] at hc9 kk
  rw [show n + N - n = N by omega] at hn9 kk
  refine va_new (D := gg_D G) (cl := gx_cl) (tys := gx_tys (gg_cT G)) x1 x2 x6 g1 ty0 g4 x5 (x6 _ hcl) (x6 _ hinst) (x6 _ hini) x11 uI.2.1 uI.2.2.1 uS (fun q hq => by show gg_lo G ≤ q; omega) ht (fs := (List.range N).map (fun j => gx_d0 ((gx_F t).getD j 0))) (fun j hj => ?_) hc9 hn9 hdg (fun q H1 hP hD hS => ?_)
  · have e1 : ((List.range N).map (fun j => gx_d0 ((gx_F t).getD j 0)))[j]? = some (gx_d0 ((gx_F t).getD j 0)) := by
      rw [List.getElem?_map, List.getElem?_range hj]; rfl
    have e2 : ∀ (l : List Value) (w : Value), l[j]? = some w → l.getD j .null = w := fun l w h => by rw [List.getD_eq_getElem?_getD, h]; rfl
    exact (g5 j hj).trans (e2 _ _ e1).symm
  · rw [← gs_new0 (G := G) (fun b => if b = n then q else ad b) g3 uI.2.2.2.2.2.2.1 g2] at hP hD
    obtain ⟨I1, hag⟩ := gs_new (z := (n, (t, N))) uI rfl (by rw [hex]; omega) ⟨fun _ => g2, fun h64 => absurd g3 (by show ¬ t < 64; exact Nat.not_lt.mpr h64)⟩ (fun j hj => uI.2.2.2.2.2.2.1 _ (by rw [gx_sa, if_pos g3]; exact Nat.le_add_right _ _)) (fun b hb => rfl) (by rw [hex]; omega) (gs_old X0 hS) hP hD (gs_cr x9)
    rw [hex] at I1
    have hsb : gx_sb cw (cw ++ [(n, (t, N))]) := fun q hq => List.mem_append_left _ hq
    have w := kk (cw ++ [(n, (t, N))]) (fun b => if b = n then q else ad b) H1 locs ls hsb (fun z hz => hag z (List.mem_append_right _ hz)) I1 hS (gx_lc_agr uL ul hag)
      (gv_oks_cons (Or.inr ⟨(n, (t, N)), List.mem_append_right _ (List.mem_append_right _ (List.mem_singleton.mpr rfl)), rfl, rfl⟩) (gv_oks_sub us (gx_sb_app hsb))) (gv_oks_sub ul (gx_sb_app hsb))
    rw [List.map_cons, gs_map us hag, show gx_den (gg_dk G) (fun b => if b = n then q else ad b) (gR t n) = .ref q from gs_nq (by omega)] at w
    exact w
theorem gs_newa {ad : Nat → Nat} {cw : List gxq} {H : Heap} {κ ln : Nat} (hI : gxI G ad cw M n H) (hl : ln ≤ 4096) : (∀ j, j < ln → gx_rd (gx_wr M n ln) (gx_sa (n, (64 + κ, ln)) j) = 0) ∧ gx_rd (gx_wr M n ln) n = ln ∧ ∀ b, b ≠ n → gx_rd (gx_wr M n ln) b = gx_rd M b := by
  refine ⟨fun j hj => ?_, gh_same (by omega), fun b hb => gh_ne (by omega) (Ne.symm hb)⟩
  rw [gs_sa (κ := κ) rfl, gh_ne (by omega) (by show n ≠ n + (j + 1); omega)]
  exact hI.2.2.2.2.2.2.1 _ (by show n ≤ n + (j + 1); omega)
theorem gs_cls {tys : List (ClassId × FieldType)} {s : State} {cA cB : ClassId} {ty : FieldType} {κ : Nat} (h1 : va_K (gg_D G) gx_cl tys s) (h2 : va_K (gg_D G) gx_cl (tys ++ [(cB, ty)]) s) (hκ : tys[κ]? = some (cA, ty)) : cB = cA := by
  have q1 := (h1.2 κ _ hκ).2
  have q2 := (h2.2 tys.length (cB, ty) (by rw [List.getElem?_append_right (Nat.le_refl _)]; simp)).2
  cases ty with
  | object C =>
    obtain ⟨_, _, _, _, _, a⟩ := q1
    obtain ⟨_, _, _, _, _, b⟩ := q2
    exact Option.some.inj (b.symm.trans a)
  | _ => exact Option.some.inj (Eq.trans (Eq.symm q2) q1)
theorem gr_newI {k : Nat → Nat → Nat → Nat → Bool} (hdg : decode (gy_b Y) pc = .ok (.newarray .int, 2)) (harr : Cond.arrayClass .int ∈ gx_ws)
    (hk : ∀ v M1 n1 c1, gxJ G Y K (pc + 2) (gR 64 v :: st) L M1 n1 c1 (k v M1 n1 c1)) : gxJ G Y K pc (gI x :: st) L M n c (gx_nea x M n c k) := fun h => by
  obtain ⟨hn, h⟩ := gb_t h
  obtain ⟨hx, hn⟩ := go_and hn
  have hn := gb_ble hn
  have hx := gb_ble hx
  have hex : gx_ex (n, (64, x)) = x + 1 := gs_exk (κ := 0) rfl
  refine gj_go3 (hk n (gx_wr M n x) (n + (x + 1)) (c + 1)) (Nat.le_add_right _ _) (Nat.le_add_right _ _) (fun p e R s m args below meth cd X cells slots cw ad H locs ls Q uI uS uL us ul hc9 hn9 kk => ?_) h rfl
  have X0 := X
  obtain ⟨x1, x2, x3, x4, x5, x6, x7, ⟨x8, x9, x10⟩, x11, ⟨x12, x13⟩, x14⟩ := X
  have h128 := uI.2.2.2.2.2.2.2.2.1.1
  obtain ⟨a1, a2, a3⟩ := gs_newa (κ := 0) uI hx
  rw [show c + 1 - c = 1 by omega] at hc9 kk
  rw [show n + (x + 1) - n = x + 1 by omega] at hn9 kk
  have hcel : ∀ ad' : Nat → Nat, gx_cel G ad' (gx_wr M n x) (n, (64, x)) = .inl (gg_cT G 0, (x, Sum.inl (fun _ => 0))) := fun ad' => by
    rw [gs_arr (κ := 0) rfl, gs_elmi (κ := 0) rfl (by decide)]
    refine congrArg (fun w => Sum.inl (gg_cT G 0, (x, Sum.inl w))) (funext fun j => ?_)
    by_cases hj : j < x
    · rw [if_pos hj, a1 j hj]
      exact (gn_c (by decide)).trans nI_0
    · rw [if_neg hj]
  rw [List.map_cons, show gx_den (gg_dk G) ad (gI x) = .int (nI x) from congrArg Value.int (gn_c (by omega))]
  refine va_newa (D := gg_D G) (cl := gx_cl) (tys := gx_tys (gg_cT G)) (atype := .int) x1 x2 (x6 _ harr) (ty := .int) rfl x11 uI.2.1 uI.2.2.1 uS (fun q hq => by show gg_lo G ≤ q; omega) (a0 := (x, Sum.inl (fun _ => 0))) (fun cA => rfl) (nI_pos (by omega)) (nI_clamp (by omega)) (Nat.le_trans (Nat.mul_le_mul_left x (show componentBytes .int ≤ 8 by decide)) (by omega)) hc9 (by omega) hdg (fun q cA H1 hK hP hD hS => ?_)
  have hcA := gs_cls x11 hK (κ := 0) rfl
  subst hcA
  rw [← hcel (fun b => if b = n then q else ad b)] at hP hD
  obtain ⟨I1, hag⟩ := gs_new (z := (n, (64, x))) uI rfl (by rw [hex]; omega) ⟨fun h64 => absurd h64 (show ¬ 64 < 64 by decide), fun _ => ⟨a2, show 64 < 72 by decide⟩⟩ a1 a3 (by rw [hex]; omega) (gs_old X0 hS) hP hD (gs_cr x9)
  rw [hex] at I1
  have hsb : gx_sb cw (cw ++ [(n, (64, x))]) := fun q hq => List.mem_append_left _ hq
  have w := kk (cw ++ [(n, (64, x))]) (fun b => if b = n then q else ad b) H1 locs ls hsb (fun z hz => hag z (List.mem_append_right _ hz)) I1 hS (gx_lc_agr uL ul hag)
    (gv_oks_cons (Or.inr ⟨(n, (64, x)), List.mem_append_right _ (List.mem_append_right _ (List.mem_singleton.mpr rfl)), rfl, rfl⟩) (gv_oks_sub (gv_oks_tl us) (gx_sb_app hsb))) (gv_oks_sub ul (gx_sb_app hsb))
  rw [List.map_cons, gs_map (gv_oks_tl us) hag, show gx_den (gg_dk G) (fun b => if b = n then q else ad b) (gR 64 n) = .ref q from gs_nq (by omega)] at w
  exact W.widen (Nat.le_refl _) (Nat.le_succ _) w
theorem gr_newC {k : Nat → Nat → Nat → Nat → Bool} (hdg : decode (gy_b Y) pc = .ok (.newarray .char, 2)) (harr : Cond.arrayClass .char ∈ gx_ws)
    (hk : ∀ v M1 n1 c1, gxJ G Y K (pc + 2) (gR 65 v :: st) L M1 n1 c1 (k v M1 n1 c1)) : gxJ G Y K pc (gI x :: st) L M n c (gx_nea x M n c k) := fun h => by
  obtain ⟨hn, h⟩ := gb_t h
  obtain ⟨hx, hn⟩ := go_and hn
  have hn := gb_ble hn
  have hx := gb_ble hx
  have hex : gx_ex (n, (65, x)) = x + 1 := gs_exk (κ := 1) rfl
  refine gj_go3 (hk n (gx_wr M n x) (n + (x + 1)) (c + 1)) (Nat.le_add_right _ _) (Nat.le_add_right _ _) (fun p e R s m args below meth cd X cells slots cw ad H locs ls Q uI uS uL us ul hc9 hn9 kk => ?_) h rfl
  have X0 := X
  obtain ⟨x1, x2, x3, x4, x5, x6, x7, ⟨x8, x9, x10⟩, x11, ⟨x12, x13⟩, x14⟩ := X
  have h128 := uI.2.2.2.2.2.2.2.2.1.1
  obtain ⟨a1, a2, a3⟩ := gs_newa (κ := 1) uI hx
  rw [show c + 1 - c = 1 by omega] at hc9 kk
  rw [show n + (x + 1) - n = x + 1 by omega] at hn9 kk
  have hcel : ∀ ad' : Nat → Nat, gx_cel G ad' (gx_wr M n x) (n, (65, x)) = .inl (gg_cT G 1, (x, Sum.inl (fun _ => 0))) := fun ad' => by
    rw [gs_arr (κ := 1) rfl, gs_elmi (κ := 1) rfl (by decide)]
    refine congrArg (fun w => Sum.inl (gg_cT G 1, (x, Sum.inl w))) (funext fun j => ?_)
    by_cases hj : j < x
    · rw [if_pos hj, a1 j hj]
      exact (gn_c (by decide)).trans nI_0
    · rw [if_neg hj]
  rw [List.map_cons, show gx_den (gg_dk G) ad (gI x) = .int (nI x) from congrArg Value.int (gn_c (by omega))]
  refine va_newa (D := gg_D G) (cl := gx_cl) (tys := gx_tys (gg_cT G)) (atype := .char) x1 x2 (x6 _ harr) (ty := .char) rfl x11 uI.2.1 uI.2.2.1 uS (fun q hq => by show gg_lo G ≤ q; omega) (a0 := (x, Sum.inl (fun _ => 0))) (fun cA => rfl) (nI_pos (by omega)) (nI_clamp (by omega)) (Nat.le_trans (Nat.mul_le_mul_left x (show componentBytes .char ≤ 8 by decide)) (by omega)) hc9 (by omega) hdg (fun q cA H1 hK hP hD hS => ?_)
  have hcA := gs_cls x11 hK (κ := 1) rfl
  subst hcA
  rw [← hcel (fun b => if b = n then q else ad b)] at hP hD
  obtain ⟨I1, hag⟩ := gs_new (z := (n, (65, x))) uI rfl (by rw [hex]; omega) ⟨fun h64 => absurd h64 (show ¬ 65 < 64 by decide), fun _ => ⟨a2, show 65 < 72 by decide⟩⟩ a1 a3 (by rw [hex]; omega) (gs_old X0 hS) hP hD (gs_cr x9)
  rw [hex] at I1
  have hsb : gx_sb cw (cw ++ [(n, (65, x))]) := fun q hq => List.mem_append_left _ hq
  have w := kk (cw ++ [(n, (65, x))]) (fun b => if b = n then q else ad b) H1 locs ls hsb (fun z hz => hag z (List.mem_append_right _ hz)) I1 hS (gx_lc_agr uL ul hag)
    (gv_oks_cons (Or.inr ⟨(n, (65, x)), List.mem_append_right _ (List.mem_append_right _ (List.mem_singleton.mpr rfl)), rfl, rfl⟩) (gv_oks_sub (gv_oks_tl us) (gx_sb_app hsb))) (gv_oks_sub ul (gx_sb_app hsb))
  rw [List.map_cons, gs_map (gv_oks_tl us) hag, show gx_den (gg_dk G) (fun b => if b = n then q else ad b) (gR 65 n) = .ref q from gs_nq (by omega)] at w
  exact W.widen (Nat.le_refl _) (Nat.le_succ _) w
theorem gr_newZ {k : Nat → Nat → Nat → Nat → Bool} (hdg : decode (gy_b Y) pc = .ok (.newarray .boolean, 2)) (harr : Cond.arrayClass .boolean ∈ gx_ws)
    (hk : ∀ v M1 n1 c1, gxJ G Y K (pc + 2) (gR 66 v :: st) L M1 n1 c1 (k v M1 n1 c1)) : gxJ G Y K pc (gI x :: st) L M n c (gx_nea x M n c k) := fun h => by
  obtain ⟨hn, h⟩ := gb_t h
  obtain ⟨hx, hn⟩ := go_and hn
  have hn := gb_ble hn
  have hx := gb_ble hx
  have hex : gx_ex (n, (66, x)) = x + 1 := gs_exk (κ := 2) rfl
  refine gj_go3 (hk n (gx_wr M n x) (n + (x + 1)) (c + 1)) (Nat.le_add_right _ _) (Nat.le_add_right _ _) (fun p e R s m args below meth cd X cells slots cw ad H locs ls Q uI uS uL us ul hc9 hn9 kk => ?_) h rfl
  have X0 := X
  obtain ⟨x1, x2, x3, x4, x5, x6, x7, ⟨x8, x9, x10⟩, x11, ⟨x12, x13⟩, x14⟩ := X
  have h128 := uI.2.2.2.2.2.2.2.2.1.1
  obtain ⟨a1, a2, a3⟩ := gs_newa (κ := 2) uI hx
  rw [show c + 1 - c = 1 by omega] at hc9 kk
  rw [show n + (x + 1) - n = x + 1 by omega] at hn9 kk
  have hcel : ∀ ad' : Nat → Nat, gx_cel G ad' (gx_wr M n x) (n, (66, x)) = .inl (gg_cT G 2, (x, Sum.inl (fun _ => 0))) := fun ad' => by
    rw [gs_arr (κ := 2) rfl, gs_elmi (κ := 2) rfl (by decide)]
    refine congrArg (fun w => Sum.inl (gg_cT G 2, (x, Sum.inl w))) (funext fun j => ?_)
    by_cases hj : j < x
    · rw [if_pos hj, a1 j hj]
      exact (gn_c (by decide)).trans nI_0
    · rw [if_neg hj]
  rw [List.map_cons, show gx_den (gg_dk G) ad (gI x) = .int (nI x) from congrArg Value.int (gn_c (by omega))]
  refine va_newa (D := gg_D G) (cl := gx_cl) (tys := gx_tys (gg_cT G)) (atype := .boolean) x1 x2 (x6 _ harr) (ty := .boolean) rfl x11 uI.2.1 uI.2.2.1 uS (fun q hq => by show gg_lo G ≤ q; omega) (a0 := (x, Sum.inl (fun _ => 0))) (fun cA => rfl) (nI_pos (by omega)) (nI_clamp (by omega)) (Nat.le_trans (Nat.mul_le_mul_left x (show componentBytes .boolean ≤ 8 by decide)) (by omega)) hc9 (by omega) hdg (fun q cA H1 hK hP hD hS => ?_)
  have hcA := gs_cls x11 hK (κ := 2) rfl
  subst hcA
  rw [← hcel (fun b => if b = n then q else ad b)] at hP hD
  obtain ⟨I1, hag⟩ := gs_new (z := (n, (66, x))) uI rfl (by rw [hex]; omega) ⟨fun h64 => absurd h64 (show ¬ 66 < 64 by decide), fun _ => ⟨a2, show 66 < 72 by decide⟩⟩ a1 a3 (by rw [hex]; omega) (gs_old X0 hS) hP hD (gs_cr x9)
  rw [hex] at I1
  have hsb : gx_sb cw (cw ++ [(n, (66, x))]) := fun q hq => List.mem_append_left _ hq
  have w := kk (cw ++ [(n, (66, x))]) (fun b => if b = n then q else ad b) H1 locs ls hsb (fun z hz => hag z (List.mem_append_right _ hz)) I1 hS (gx_lc_agr uL ul hag)
    (gv_oks_cons (Or.inr ⟨(n, (66, x)), List.mem_append_right _ (List.mem_append_right _ (List.mem_singleton.mpr rfl)), rfl, rfl⟩) (gv_oks_sub (gv_oks_tl us) (gx_sb_app hsb))) (gv_oks_sub ul (gx_sb_app hsb))
  rw [List.map_cons, gs_map (gv_oks_tl us) hag, show gx_den (gg_dk G) (fun b => if b = n then q else ad b) (gR 66 n) = .ref q from gs_nq (by omega)] at w
  exact W.widen (Nat.le_refl _) (Nat.le_succ _) w
theorem gr_newB {k : Nat → Nat → Nat → Nat → Bool} (hdg : decode (gy_b Y) pc = .ok (.newarray .byte, 2)) (harr : Cond.arrayClass .byte ∈ gx_ws)
    (hk : ∀ v M1 n1 c1, gxJ G Y K (pc + 2) (gR 67 v :: st) L M1 n1 c1 (k v M1 n1 c1)) : gxJ G Y K pc (gI x :: st) L M n c (gx_nea x M n c k) := fun h => by
  obtain ⟨hn, h⟩ := gb_t h
  obtain ⟨hx, hn⟩ := go_and hn
  have hn := gb_ble hn
  have hx := gb_ble hx
  have hex : gx_ex (n, (67, x)) = x + 1 := gs_exk (κ := 3) rfl
  refine gj_go3 (hk n (gx_wr M n x) (n + (x + 1)) (c + 1)) (Nat.le_add_right _ _) (Nat.le_add_right _ _) (fun p e R s m args below meth cd X cells slots cw ad H locs ls Q uI uS uL us ul hc9 hn9 kk => ?_) h rfl
  have X0 := X
  obtain ⟨x1, x2, x3, x4, x5, x6, x7, ⟨x8, x9, x10⟩, x11, ⟨x12, x13⟩, x14⟩ := X
  have h128 := uI.2.2.2.2.2.2.2.2.1.1
  obtain ⟨a1, a2, a3⟩ := gs_newa (κ := 3) uI hx
  rw [show c + 1 - c = 1 by omega] at hc9 kk
  rw [show n + (x + 1) - n = x + 1 by omega] at hn9 kk
  have hcel : ∀ ad' : Nat → Nat, gx_cel G ad' (gx_wr M n x) (n, (67, x)) = .inl (gg_cT G 3, (x, Sum.inl (fun _ => 0))) := fun ad' => by
    rw [gs_arr (κ := 3) rfl, gs_elmi (κ := 3) rfl (by decide)]
    refine congrArg (fun w => Sum.inl (gg_cT G 3, (x, Sum.inl w))) (funext fun j => ?_)
    by_cases hj : j < x
    · rw [if_pos hj, a1 j hj]
      exact (gn_c (by decide)).trans nI_0
    · rw [if_neg hj]
  rw [List.map_cons, show gx_den (gg_dk G) ad (gI x) = .int (nI x) from congrArg Value.int (gn_c (by omega))]
  refine va_newa (D := gg_D G) (cl := gx_cl) (tys := gx_tys (gg_cT G)) (atype := .byte) x1 x2 (x6 _ harr) (ty := .byte) rfl x11 uI.2.1 uI.2.2.1 uS (fun q hq => by show gg_lo G ≤ q; omega) (a0 := (x, Sum.inl (fun _ => 0))) (fun cA => rfl) (nI_pos (by omega)) (nI_clamp (by omega)) (Nat.le_trans (Nat.mul_le_mul_left x (show componentBytes .byte ≤ 8 by decide)) (by omega)) hc9 (by omega) hdg (fun q cA H1 hK hP hD hS => ?_)
  have hcA := gs_cls x11 hK (κ := 3) rfl
  subst hcA
  rw [← hcel (fun b => if b = n then q else ad b)] at hP hD
  obtain ⟨I1, hag⟩ := gs_new (z := (n, (67, x))) uI rfl (by rw [hex]; omega) ⟨fun h64 => absurd h64 (show ¬ 67 < 64 by decide), fun _ => ⟨a2, show 67 < 72 by decide⟩⟩ a1 a3 (by rw [hex]; omega) (gs_old X0 hS) hP hD (gs_cr x9)
  rw [hex] at I1
  have hsb : gx_sb cw (cw ++ [(n, (67, x))]) := fun q hq => List.mem_append_left _ hq
  have w := kk (cw ++ [(n, (67, x))]) (fun b => if b = n then q else ad b) H1 locs ls hsb (fun z hz => hag z (List.mem_append_right _ hz)) I1 hS (gx_lc_agr uL ul hag)
    (gv_oks_cons (Or.inr ⟨(n, (67, x)), List.mem_append_right _ (List.mem_append_right _ (List.mem_singleton.mpr rfl)), rfl, rfl⟩) (gv_oks_sub (gv_oks_tl us) (gx_sb_app hsb))) (gv_oks_sub ul (gx_sb_app hsb))
  rw [List.map_cons, gs_map (gv_oks_tl us) hag, show gx_den (gg_dk G) (fun b => if b = n then q else ad b) (gR 67 n) = .ref q from gs_nq (by omega)] at w
  exact W.widen (Nat.le_refl _) (Nat.le_succ _) w
theorem gr_newJ {k : Nat → Nat → Nat → Nat → Bool} (hdg : decode (gy_b Y) pc = .ok (.newarray .long, 2)) (harr : Cond.arrayClass .long ∈ gx_ws)
    (hk : ∀ v M1 n1 c1, gxJ G Y K (pc + 2) (gR 68 v :: st) L M1 n1 c1 (k v M1 n1 c1)) : gxJ G Y K pc (gI x :: st) L M n c (gx_nea x M n c k) := fun h => by
  obtain ⟨hn, h⟩ := gb_t h
  obtain ⟨hx, hn⟩ := go_and hn
  have hn := gb_ble hn
  have hx := gb_ble hx
  have hex : gx_ex (n, (68, x)) = x + 1 := gs_exk (κ := 4) rfl
  refine gj_go3 (hk n (gx_wr M n x) (n + (x + 1)) (c + 1)) (Nat.le_add_right _ _) (Nat.le_add_right _ _) (fun p e R s m args below meth cd X cells slots cw ad H locs ls Q uI uS uL us ul hc9 hn9 kk => ?_) h rfl
  have X0 := X
  obtain ⟨x1, x2, x3, x4, x5, x6, x7, ⟨x8, x9, x10⟩, x11, ⟨x12, x13⟩, x14⟩ := X
  have h128 := uI.2.2.2.2.2.2.2.2.1.1
  obtain ⟨a1, a2, a3⟩ := gs_newa (κ := 4) uI hx
  rw [show c + 1 - c = 1 by omega] at hc9 kk
  rw [show n + (x + 1) - n = x + 1 by omega] at hn9 kk
  have hcel : ∀ ad' : Nat → Nat, gx_cel G ad' (gx_wr M n x) (n, (68, x)) = .inl (gg_cT G 4, (x, Sum.inr (Sum.inl (fun _ => 0)))) := fun ad' => by
    rw [gs_arr (κ := 4) rfl, gs_elml (κ := 4) rfl (by decide)]
    refine congrArg (fun w => Sum.inl (gg_cT G 4, (x, Sum.inr (Sum.inl w)))) (funext fun j => ?_)
    by_cases hj : j < x
    · rw [if_pos hj, a1 j hj]
      rfl
    · rw [if_neg hj]
  rw [List.map_cons, show gx_den (gg_dk G) ad (gI x) = .int (nI x) from congrArg Value.int (gn_c (by omega))]
  refine va_newa (D := gg_D G) (cl := gx_cl) (tys := gx_tys (gg_cT G)) (atype := .long) x1 x2 (x6 _ harr) (ty := .long) rfl x11 uI.2.1 uI.2.2.1 uS (fun q hq => by show gg_lo G ≤ q; omega) (a0 := (x, Sum.inr (Sum.inl (fun _ => 0)))) (fun cA => rfl) (nI_pos (by omega)) (nI_clamp (by omega)) (Nat.le_trans (Nat.mul_le_mul_left x (show componentBytes .long ≤ 8 by decide)) (by omega)) hc9 (by omega) hdg (fun q cA H1 hK hP hD hS => ?_)
  have hcA := gs_cls x11 hK (κ := 4) rfl
  subst hcA
  rw [← hcel (fun b => if b = n then q else ad b)] at hP hD
  obtain ⟨I1, hag⟩ := gs_new (z := (n, (68, x))) uI rfl (by rw [hex]; omega) ⟨fun h64 => absurd h64 (show ¬ 68 < 64 by decide), fun _ => ⟨a2, show 68 < 72 by decide⟩⟩ a1 a3 (by rw [hex]; omega) (gs_old X0 hS) hP hD (gs_cr x9)
  rw [hex] at I1
  have hsb : gx_sb cw (cw ++ [(n, (68, x))]) := fun q hq => List.mem_append_left _ hq
  have w := kk (cw ++ [(n, (68, x))]) (fun b => if b = n then q else ad b) H1 locs ls hsb (fun z hz => hag z (List.mem_append_right _ hz)) I1 hS (gx_lc_agr uL ul hag)
    (gv_oks_cons (Or.inr ⟨(n, (68, x)), List.mem_append_right _ (List.mem_append_right _ (List.mem_singleton.mpr rfl)), rfl, rfl⟩) (gv_oks_sub (gv_oks_tl us) (gx_sb_app hsb))) (gv_oks_sub ul (gx_sb_app hsb))
  rw [List.map_cons, gs_map (gv_oks_tl us) hag, show gx_den (gg_dk G) (fun b => if b = n then q else ad b) (gR 68 n) = .ref q from gs_nq (by omega)] at w
  exact W.widen (Nat.le_refl _) (Nat.le_succ _) w
theorem gs_AO {C : String} {args : Array Value} {s : State} (h : (Cond.arrayOver (.object C)).before args s = true) : va_AO C s := va_AO.of h
theorem gr_newq {index κ : Nat} {C : String} {k : Nat → Nat → Nat → Nat → Bool} (hdg : decode (gy_b Y) pc = .ok (.anewarray index, 3)) (hclink : Cond.classLink (gy_o Y) index C ∈ gx_ws) (hover : Cond.arrayOver (.object C) ∈ gx_ws) (hκ : 4 < κ ∧ κ < 8) (hC : (gx_tys (gg_cT G))[κ]? = some (gg_cT G κ, .object C))
    (hk : ∀ v M1 n1 c1, gxJ G Y K (pc + 3) (gR (64 + κ) v :: st) L M1 n1 c1 (k v M1 n1 c1)) : gxJ G Y K pc (gI x :: st) L M n c (gx_nea x M n c k) := fun h => by
  obtain ⟨hn, h⟩ := gb_t h
  obtain ⟨hx, hn⟩ := go_and hn
  have hn := gb_ble hn
  have hx := gb_ble hx
  have hex : gx_ex (n, (64 + κ, x)) = x + 1 := gs_exk (κ := κ) rfl
  have hks : 4 < gx_ks κ := by
    rcases (show κ = 5 ∨ κ = 6 ∨ κ = 7 by omega) with rfl | rfl | rfl <;> decide
  refine gj_go3 (hk n (gx_wr M n x) (n + (x + 1)) (c + 1)) (Nat.le_add_right _ _) (Nat.le_add_right _ _) (fun p e R s m args below meth cd X cells slots cw ad H locs ls Q uI uS uL us ul hc9 hn9 kk => ?_) h rfl
  have X0 := X
  obtain ⟨x1, x2, x3, x4, x5, x6, x7, ⟨x8, x9, x10⟩, x11, ⟨x12, x13⟩, x14⟩ := X
  have h128 := uI.2.2.2.2.2.2.2.2.1.1
  obtain ⟨a1, a2, a3⟩ := gs_newa (κ := κ) uI hx
  rw [show c + 1 - c = 1 by omega] at hc9 kk
  rw [show n + (x + 1) - n = x + 1 by omega] at hn9 kk
  have hcel : ∀ ad' : Nat → Nat, gx_cel G ad' (gx_wr M n x) (n, (64 + κ, x)) = .inl (gg_cT G κ, (x, .inr (.inr (.inr (.inr (fun _ => none)))))) := fun ad' => by
    rw [gs_arr (κ := κ) rfl, gs_elmr (κ := κ) rfl hks]
    refine congrArg (fun w => Sum.inl (gg_cT G κ, (x, Sum.inr (Sum.inr (Sum.inr (Sum.inr w)))))) (funext fun j => ?_)
    by_cases hj : j < x
    · rw [if_pos hj, a1 j hj, if_pos rfl]
    · rw [if_neg hj]
  rw [List.map_cons, show gx_den (gg_dk G) ad (gI x) = .int (nI x) from congrArg Value.int (gn_c (by omega))]
  refine va_newq (D := gg_D G) (cl := gx_cl) (tys := gx_tys (gg_cT G)) x1 x2 x5 (x6 _ hclink) (gs_AO (x6 _ hover)) x11 uI.2.1 uI.2.2.1 uS (fun q hq => by show gg_lo G ≤ q; omega) (nI_pos (by omega)) (nI_clamp (by omega)) (by omega) hc9 (by omega) hdg (fun q cA H1 hK hP hD hS => ?_)
  have hcA := gs_cls x11 hK (κ := κ) hC
  subst hcA
  rw [← hcel (fun b => if b = n then q else ad b)] at hP hD
  obtain ⟨I1, hag⟩ := gs_new (z := (n, (64 + κ, x))) uI rfl (by rw [hex]; omega) ⟨fun h64 => absurd h64 (by show ¬ 64 + κ < 64; omega), fun _ => ⟨a2, by show 64 + κ < 72; omega⟩⟩ a1 a3 (by rw [hex]; omega) (gs_old X0 hS) hP hD (gs_cr x9)
  rw [hex] at I1
  have hsb : gx_sb cw (cw ++ [(n, (64 + κ, x))]) := fun q hq => List.mem_append_left _ hq
  have w := kk (cw ++ [(n, (64 + κ, x))]) (fun b => if b = n then q else ad b) H1 locs ls hsb (fun z hz => hag z (List.mem_append_right _ hz)) I1 hS (gx_lc_agr uL ul hag)
    (gv_oks_cons (Or.inr ⟨(n, (64 + κ, x)), List.mem_append_right _ (List.mem_append_right _ (List.mem_singleton.mpr rfl)), rfl, rfl⟩) (gv_oks_sub (gv_oks_tl us) (gx_sb_app hsb))) (gv_oks_sub ul (gx_sb_app hsb))
  rw [List.map_cons, gs_map (gv_oks_tl us) hag, show gx_den (gg_dk G) (fun b => if b = n then q else ad b) (gR (64 + κ) n) = .ref q from gs_nq (by omega)] at w
  exact W.widen (Nat.le_refl _) (Nat.le_succ _) w
end MKS
