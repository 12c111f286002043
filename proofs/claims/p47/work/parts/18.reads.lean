/-! RULES: what is read of the heap. -/
noncomputable def gx_get (x j M : Nat) (k : Nat → Bool) : Bool := Bool.rec (motive := fun _ => Bool) (k (gx_rd M (Nat.add x j))) false (Nat.beq x 0)
noncomputable def gx_ald (x i M : Nat) (k : Nat → Bool) : Bool := Bool.rec (motive := fun _ => Bool) (Bool.rec (motive := fun _ => Bool) false (k (gx_rd M (Nat.add x (Nat.succ i)))) (Nat.ble (Nat.succ i) (gx_rd M x))) false (Nat.beq x 0)
noncomputable def gx_len (x M : Nat) (k : Nat → Bool) : Bool := Bool.rec (motive := fun _ => Bool) (k (gx_rd M x)) false (Nat.beq x 0)
theorem gw_m {t : List Cond} (ht : ∀ w ∈ t, w ∈ gx_tb) (n : Nat) {w : Cond} (h : t[n]? = some w) (hw : gx_okw w = true) : w ∈ gx_ws := List.mem_filter.mpr ⟨ht w (List.mem_of_getElem? h), hw⟩
theorem gw_x : ∀ w ∈ gx_xs, w ∈ gx_tb := fun _ h => List.mem_append_left _ h
theorem gw_p : ∀ w ∈ k2_sels lw_privs, w ∈ gx_tb := fun _ h => List.mem_append_right _ (List.mem_append_left _ h)
theorem gw_0 : ∀ w ∈ tables_1, w ∈ gx_tb := fun _ h => List.mem_append_right _ (List.mem_append_right _ h)
theorem gw_1 : ∀ w ∈ tables_1_1, w ∈ gx_tb := fun _ h => gw_0 _ (List.mem_append_left _ h)
theorem gw_2 : ∀ w ∈ tables_1_2, w ∈ gx_tb := fun _ h => gw_0 _ (List.mem_append_right _ (List.mem_append_left _ h))
theorem gw_3 : ∀ w ∈ tables_1_3, w ∈ gx_tb := fun _ h => gw_0 _ (List.mem_append_right _ (List.mem_append_right _ (List.mem_append_left _ h)))
theorem gw_4 : ∀ w ∈ tables_1_4, w ∈ gx_tb := fun _ h => gw_0 _ (List.mem_append_right _ (List.mem_append_right _ (List.mem_append_right _ (List.mem_append_left _ h))))
theorem gw_5 : ∀ w ∈ tables_1_5, w ∈ gx_tb := fun _ h => gw_0 _ (List.mem_append_right _ (List.mem_append_right _ (List.mem_append_right _ (List.mem_append_right _ (List.mem_append_left _ h)))))
theorem gw_6 : ∀ w ∈ tables_1_6, w ∈ gx_tb := fun _ h => gw_0 _ (List.mem_append_right _ (List.mem_append_right _ (List.mem_append_right _ (List.mem_append_right _ (List.mem_append_right _ h)))))
theorem gw (n : Nat) {w : Cond} (h : gx_tb[n]? = some w ∧ gx_okw w = true) : w ∈ gx_ws := List.mem_filter.mpr ⟨List.mem_of_getElem? h.1, h.2⟩
set_option maxRecDepth 100000 in
set_option maxHeartbeats 4000000 in
theorem gk_0 : ∀ w ∈ u_ws RX0 TX0 8 ++ (u_ws RX1 TX1 1 ++ (u_ws RX2 TX2 4 ++ u_ws RX3 TX3 12)), w ∈ gx_ws := by decide +kernel
set_option maxRecDepth 100000 in
set_option maxHeartbeats 4000000 in
theorem gk_1 : ∀ w ∈ u_ws RX4 TX4 2 ++ (u_ws RX5 TX5 5 ++ (u_ws RX6 TX6 5 ++ u_ws RX7 TX7 16)), w ∈ gx_ws := by decide +kernel
set_option maxRecDepth 100000 in
set_option maxHeartbeats 4000000 in
theorem gk_2 : ∀ w ∈ u_ws RJ0 TJ0 4 ++ (u_ws RJ4 TJ4 4 ++ u_ws RL TL 5), w ∈ gx_ws := by decide +kernel
theorem gk_l {a b : List Cond} (h : ∀ w ∈ a ++ b, w ∈ gx_ws) : ∀ w ∈ a, w ∈ gx_ws := fun w hw => h w (List.mem_append_left _ hw)
theorem gk_r {a b : List Cond} (h : ∀ w ∈ a ++ b, w ∈ gx_ws) : ∀ w ∈ b, w ∈ gx_ws := fun w hw => h w (List.mem_append_right _ hw)
theorem gk {t : Nat} {C : String} {T : u_T} {N : Nat} (h : gx_cl[t]? = some (C, T, N)) : (∀ w ∈ u_ws C T N, w ∈ gx_ws) ∧ N = (gx_F t).length ∧ t < 64 := by
  match t, h with
  | 0, h => cases h; exact ⟨gk_l gk_0, rfl, by decide⟩
  | 1, h => cases h; exact ⟨gk_l (gk_r gk_0), rfl, by decide⟩
  | 2, h => cases h; exact ⟨gk_l (gk_r (gk_r gk_0)), rfl, by decide⟩
  | 3, h => cases h; exact ⟨gk_r (gk_r (gk_r gk_0)), rfl, by decide⟩
  | 4, h => cases h; exact ⟨gk_l gk_1, rfl, by decide⟩
  | 5, h => cases h; exact ⟨gk_l (gk_r gk_1), rfl, by decide⟩
  | 6, h => cases h; exact ⟨gk_l (gk_r (gk_r gk_1)), rfl, by decide⟩
  | 7, h => cases h; exact ⟨gk_r (gk_r (gk_r gk_1)), rfl, by decide⟩
  | 8, h => cases h; exact ⟨gk_l gk_2, rfl, by decide⟩
  | 9, h => cases h; exact ⟨gk_l (gk_r gk_2), rfl, by decide⟩
  | 10, h => cases h; exact ⟨gk_r (gk_r gk_2), rfl, by decide⟩
  | t + 11, h => simp [gx_cl] at h
section RDS
variable {G : gxG} {Y : gxY} {K : Nat → Nat → Nat → Nat → Bool} {pc : Nat} {st L : List gxV} {M n c x i : Nat} {e : Bool} {k : Nat → Bool}
theorem gj_go2 {pc' : Nat} {st' L' : List gxV} (hk : gxJ G Y K pc' st' L' M n c e)
    (hrow : ∀ (p : Program) (e : Env) (R : Room) (s : State) (m : MethodId) (args : Array Value) (below : List Frame) (meth : Method) (cd : Code), gxX G Y p R s m args meth cd →
      ∀ (cells slots : Nat) (cw : List gxq) (ad : Nat → Nat) (H : Heap) (locs : List Loc) (ls : Array Slot) (Q : State → Prop), gxI G ad cw M n H → va_S (gxA G) s.heap H locs → gx_lc (gg_dk G) ad (gy_l Y) ls L → gv_oks (gg_cr G ++ cw) st → gv_oks (gg_cr G ++ cw) L →
        (∀ ls' : Array Slot, gx_lc (gg_dk G) ad (gy_l Y) ls' L' → gv_oks (gg_cr G ++ cw) st' → gv_oks (gg_cr G ++ cw) L' → W p (gg_l G) e R s m args below meth cd H locs cells slots Q (F0 m pc' ls' (st'.map (gx_den (gg_dk G) ad)))) →
        W p (gg_l G) e R s m args below meth cd H locs cells slots Q (F0 m pc ls (st.map (gx_den (gg_dk G) ad)))) : gxJ G Y K pc st L M n c e := by
  intro h
  obtain ⟨v, M', n', c', h1, h2, h3, h4, kk⟩ := hk h
  refine ⟨v, M', n', c', h1, h2, h3, h4, fun p e R s m args below meth cd X c0 n0 cw0 ad0 hc hn cells slots cw ad H locs ls U => ?_⟩
  obtain ⟨u1, u2, uI, ua, ud, uS, uL, us, ul⟩ := U
  exact hrow p e R s m args below meth cd X cells slots cw ad H locs ls _ uI uS uL us ul (fun ls' a b d => kk p e R s m args below meth cd X c0 n0 cw0 ad0 hc hn cells slots cw ad H locs ls' ⟨u1, u2, uI, ua, ud, uS, a, b, d⟩)
theorem gs_find {cs : List gxq} {t x : Nat} (h : gv_ok cs (gR t x)) (h0 : x ≠ 0) : ∃ z ∈ cs, z.1 = x ∧ z.2.1 = t := by
  rcases h with h | h
  · exact absurd h h0
  · exact h
theorem gs_ref {dk ad : Nat → Nat} {t x : Nat} (h0 : x ≠ 0) : gx_den dk ad (gR t x) = .ref (ad x) := if_neg h0
/-- a cell of the world, alone -/
theorem gs_one {G : gxG} {ad : Nat → Nat} {cw : List gxq} {H : Heap} {z : gxq} (hI : gxI G ad cw M n H) (hz : z ∈ cw) : va_P (gg_D G) gx_cl [(ad z.1, gx_cel G ad M z)] H := by
  obtain ⟨j, hj⟩ := List.getElem?_of_mem hz
  intro k q hq
  cases k with
  | succ k => simp at hq
  | zero =>
    have hq : (ad z.1, gx_cel G ad M z) = q := by simpa using hq
    subst hq
    exact hI.2.1 j _ (by rw [List.getElem?_map, hj]; rfl)
theorem gs_obj {G : gxG} {ad : Nat → Nat} {z : gxq} (h : z.2.1 < 64) : gx_cel G ad M z = .inr (z.2.1, (List.range z.2.2).map (fun j => gx_den (gg_dk G) ad (gx_sv M z j))) := if_pos h
theorem gs_sv {z : gxq} {j σ : Nat} (h : z.2.1 < 64) (hσ : (gx_F z.2.1)[j]? = some σ) : gx_sv M z j = gx_sl σ (gx_rd M (z.1 + j)) := by
  unfold gx_sv gx_ss gx_sa
  rw [if_pos h, if_pos h, List.getD_eq_getElem?_getD, hσ]
  rfl
/-- a cell that nobody writes holds what it held -/
theorem gs_ro {G : gxG} {ad : Nat → Nat} {cw : List gxq} {H : Heap} {z : gxq} {j : Nat} (hI : gxI G ad cw M n H) (hz : z ∈ gg_cr G) (hx : z.1 + gx_ex z ≤ 128) (hj : j < z.2.2) : gx_sv M z j = gx_sv (gg_M G) z j := by
  obtain ⟨a1, a2⟩ := gx_sa_in hj
  exact gx_sv_eq (hI.2.2.2.2.2.2.2.1 _ (by omega))
theorem gr_getf {index t j σ : Nat} {sv : Nat → gxV} {C : String} {T : u_T} {N : Nat} (hdg : decode (gy_b Y) pc = .ok (.getfield index, 3)) (ht : gx_cl[t]? = some (C, T, N)) (hσ : (gx_F t)[j]? = some σ) (hsv : ∀ v, gx_sl σ v = sv v) (hlink : Cond.fieldLink (gy_o Y) index (T j).1 (T j).2.1 (T j).2.2.1 ∈ gx_ws) (h8 : t = 8 → j < 2)
    (hk : ∀ v, gxJ G Y K (pc + 3) (sv v :: st) L M n c (k v)) : gxJ G Y K pc (gR t x :: st) L M n c (gx_get x j M k) := fun h => by
  obtain ⟨hx, h⟩ := gb_f h
  have hx := gb_nbeq hx
  refine gj_go2 (hk (gx_rd M (x + j))) (fun p e R s m args below meth cd X cells slots cw ad H locs ls Q uI uS uL us ul kk => ?_) h
  obtain ⟨g1, g2, g3⟩ := gk ht
  have hjl : j < (gx_F t).length := (List.getElem?_eq_some_iff.mp hσ).1
  obtain ⟨z, hz, z1, z2⟩ := gs_find (gv_oks_hd us) hx
  subst z1
  subst z2
  rw [List.map_cons, gs_ref hx]
  obtain ⟨x1, x2, x3, x4, x5, x6, x7, ⟨x8, x9, x10⟩, x11, x12⟩ := X
  have es : gx_sv M z j = sv (gx_rd M (z.1 + j)) := by rw [gs_sv g3 hσ, hsv]
  rcases List.mem_append.mp hz with hz | hz
  · obtain ⟨r1, r2, r3, r4⟩ := x9 z hz
    obtain ⟨r5, r6, r7⟩ := r3 g3
    obtain ⟨r5, r55⟩ := r5
    obtain ⟨r8, r9⟩ := r7 j (h8 r5)
    have ee : gx_sv M z j = gx_sv (gg_M G) z j := gs_ro uI hz r2 (by rw [r55]; exact h8 r5)
    have w := kk ls uL (gv_oks_cons (by rw [← es, ee]; exact gv_ok_sub r9 (fun q hq => List.mem_append_left _ hq)) (gv_oks_tl us)) ul
    rw [List.map_cons, ← es, ee, gx_den_agr (ad := gg_ad G) r9 (fun q hq => uI.2.2.2.2.2.2.2.2.2 q hq)] at w
    rw [uI.2.2.2.2.2.2.2.2.2 z hz]
    have e8 : T = TJ0 := by rw [r5] at ht; cases ht; rfl
    subst e8
    refine vk_getf x1 x2 r8 uS x5 (x6 _ hlink) (fun _ h => h) hdg w
  · have hP := gs_one uI hz
    have ok := uI.2.2.2.2.2.1 z hz j (by rw [(uI.2.2.2.2.1 z hz).2.2.1 g3]; exact hjl)
    have w := kk ls uL (gv_oks_cons (by rw [← es]; exact ok) (gv_oks_tl us)) ul
    rw [List.map_cons, ← es] at w
    refine va_get (D := gg_D G) (cl := gx_cl) (tys := gx_tys (gg_cT G)) x1 x2 x6 g1 x5 x11 hP 0 (fs := (List.range z.2.2).map (fun j => gx_den (gg_dk G) ad (gx_sv M z j))) (by rw [gs_obj g3]; rfl) ht j (by omega) (x6 _ hlink) (fun _ h => h) (v := gx_den (gg_dk G) ad (gx_sv M z j)) ?_ hdg w
    rw [List.getElem?_map, List.getElem?_range (by rw [(uI.2.2.2.2.1 z hz).2.2.1 g3]; exact hjl)]
    rfl
theorem gr_getfN {host : String} {index t j σ : Nat} {sv : Nat → gxV} {C : String} {T : u_T} {N : Nat} (hdg : decode (gy_b Y) pc = .ok (.getfield index, 3)) (ht : gx_cl[t]? = some (C, T, N)) (hσ : (gx_F t)[j]? = some σ) (hsv : ∀ v, gx_sl σ v = sv v) (hlink : Cond.fieldLinkNest (gy_o Y) index (T j).1 (T j).2.1 (T j).2.2.1 host ∈ gx_ws) (h8 : t ≠ 8)
    (hk : ∀ v, gxJ G Y K (pc + 3) (sv v :: st) L M n c (k v)) : gxJ G Y K pc (gR t x :: st) L M n c (gx_get x j M k) := fun h => by
  obtain ⟨hx, h⟩ := gb_f h
  have hx := gb_nbeq hx
  refine gj_go2 (hk (gx_rd M (x + j))) (fun p e R s m args below meth cd X cells slots cw ad H locs ls Q uI uS uL us ul kk => ?_) h
  obtain ⟨g1, g2, g3⟩ := gk ht
  have hjl : j < (gx_F t).length := (List.getElem?_eq_some_iff.mp hσ).1
  obtain ⟨z, hz, z1, z2⟩ := gs_find (gv_oks_hd us) hx
  subst z1
  subst z2
  rw [List.map_cons, gs_ref hx]
  obtain ⟨x1, x2, x3, x4, x5, x6, x7, ⟨x8, x9, x10⟩, x11, x12⟩ := X
  have es : gx_sv M z j = sv (gx_rd M (z.1 + j)) := by rw [gs_sv g3 hσ, hsv]
  rcases List.mem_append.mp hz with hz | hz
  · obtain ⟨r1, r2, r3, r4⟩ := x9 z hz
    obtain ⟨⟨r5, -⟩, -⟩ := r3 g3
    exact absurd r5 h8
  · have hP := gs_one uI hz
    have ok := uI.2.2.2.2.2.1 z hz j (by rw [(uI.2.2.2.2.1 z hz).2.2.1 g3]; exact hjl)
    have w := kk ls uL (gv_oks_cons (by rw [← es]; exact ok) (gv_oks_tl us)) ul
    rw [List.map_cons, ← es] at w
    refine va_getN (D := gg_D G) (cl := gx_cl) (tys := gx_tys (gg_cT G)) x1 x2 x6 g1 x5 x11 hP 0 (fs := (List.range z.2.2).map (fun j => gx_den (gg_dk G) ad (gx_sv M z j))) (by rw [gs_obj g3]; rfl) ht j (by omega) (x6 _ hlink) (fun _ h => h) (v := gx_den (gg_dk G) ad (gx_sv M z j)) ?_ hdg w
    rw [List.getElem?_map, List.getElem?_range (by rw [(uI.2.2.2.2.1 z hz).2.2.1 g3]; exact hjl)]
    rfl
theorem gs_sa {z : gxq} {κ i : Nat} (h : z.2.1 = 64 + κ) : gx_sa z i = Nat.add z.1 (Nat.succ i) := by
  unfold gx_sa
  rw [if_neg (by omega)]
  show z.1 + 1 + i = z.1 + (i + 1)
  omega
theorem gs_arr {G : gxG} {ad : Nat → Nat} {z : gxq} {κ : Nat} (h : z.2.1 = 64 + κ) : gx_cel G ad M z = .inl (gg_cT G κ, gx_elm (gg_dk G) ad M z) := by
  unfold gx_cel
  rw [if_neg (by omega), show z.2.1 - 64 = κ by omega]
theorem gs_elmi {dk ad : Nat → Nat} {z : gxq} {κ : Nat} (h : z.2.1 = 64 + κ) (hk : gx_ks κ < 4) : gx_elm dk ad M z = (z.2.2, .inl (fun j => if j < z.2.2 then gx_N dk (gx_rd M (gx_sa z j)) else 0)) := by
  unfold gx_elm
  rw [show z.2.1 - 64 = κ by omega, if_pos hk]
theorem gs_elml {dk ad : Nat → Nat} {z : gxq} {κ : Nat} (h : z.2.1 = 64 + κ) (hk : gx_ks κ = 4) : gx_elm dk ad M z = (z.2.2, .inr (.inl (fun j => if j < z.2.2 then lN (gx_rd M (gx_sa z j)) else 0))) := by
  unfold gx_elm
  rw [show z.2.1 - 64 = κ by omega, if_neg (by omega), if_pos hk]
theorem gs_elmr {dk ad : Nat → Nat} {z : gxq} {κ : Nat} (h : z.2.1 = 64 + κ) (hk : 4 < gx_ks κ) : gx_elm dk ad M z = (z.2.2, .inr (.inr (.inr (.inr (fun j => if j < z.2.2 then (if gx_rd M (gx_sa z j) = 0 then none else some (ad (gx_rd M (gx_sa z j)))) else none))))) := by
  unfold gx_elm
  rw [show z.2.1 - 64 = κ by omega, if_neg (by omega), if_neg (by omega)]
theorem gs_svk {z : gxq} {κ i : Nat} (h : z.2.1 = 64 + κ) : gx_sv M z i = gx_sl (gx_ks κ) (gx_rd M (Nat.add z.1 (Nat.succ i))) := by
  unfold gx_sv gx_ss
  rw [if_neg (by omega), show z.2.1 - 64 = κ by omega, gs_sa h]
theorem gs_exk {z : gxq} {κ : Nat} (h : z.2.1 = 64 + κ) : gx_ex z = z.2.2 + 1 := if_neg (by omega)
theorem gr_iald (hdg : decode (gy_b Y) pc = .ok (.iaload, 1)) (hk : ∀ v, gxJ G Y K (pc + 1) (gI v :: st) L M n c (k v)) : gxJ G Y K pc (gI i :: gR 64 x :: st) L M n c (gx_ald x i M k) := fun h => by
  obtain ⟨hx, h⟩ := gb_f h
  obtain ⟨hi, h⟩ := gb_t h
  have hx := gb_nbeq hx
  have hi : i + 1 ≤ gx_rd M x := gb_ble hi
  refine gj_go2 (hk (gx_rd M (Nat.add x (Nat.succ i)))) (fun p e R s m args below meth cd X cells slots cw ad H locs ls Q uI uS uL us ul kk => ?_) h
  obtain ⟨z, hz, z1, z2⟩ := gs_find (gv_oks_hd (gv_oks_tl us)) hx
  subst z1
  rw [List.map_cons, List.map_cons, gs_ref hx]
  obtain ⟨x1, x2, x3, x4, x5, x6, x7, ⟨x8, x9, x10⟩, x11, x12⟩ := X
  have w := kk ls uL (gv_oks_cons trivial (gv_oks_tl (gv_oks_tl us))) ul
  rw [List.map_cons] at w
  rcases List.mem_append.mp hz with hz | hz
  · obtain ⟨r1, r2, r3, r4⟩ := x9 z hz
    obtain ⟨r5, r6, r7, r8⟩ := r4 (by omega) (by omega)
    have hl : gx_rd M z.1 = z.2.2 := by rw [uI.2.2.2.2.2.2.2.1 _ (by rw [gs_exk (κ := 0) z2] at r2; omega), r7]
    have hil : i < z.2.2 := by omega
    rw [show gx_den (gg_dk G) ad (gI i) = .int (nI i) from congrArg Value.int (gn_c (by omega)), uI.2.2.2.2.2.2.2.2.2 z hz]
    rw [show z.2.1 - 64 = 0 by omega] at r8
    refine va_ti x1 x2 r8 uS (nI_in hil (by omega)) ?_ hdg w
    rw [nI_clamp (by omega), ← gs_ro uI hz r2 hil, gs_svk (κ := 0) z2]
    rfl
  · have hP := gs_one uI hz
    have hq := uI.2.2.2.2.1 z hz
    have hl := (hq.2.2.2 (by omega)).1
    have hn := uI.2.2.2.2.2.2.2.2.1
    rw [gs_exk (κ := 0) z2] at hq
    have hil : i < z.2.2 := by omega
    rw [show gx_den (gg_dk G) ad (gI i) = .int (nI i) from congrArg Value.int (gn_c (by omega))]
    rw [gs_arr (κ := 0) z2, gs_elmi (κ := 0) z2 (by decide)] at hP
    refine va_iald (D := gg_D G) (cl := gx_cl) (tys := gx_tys (gg_cT G)) x1 x2 x11 hP 0 0 rfl rfl (nI_in hil (by omega)) hdg ?_
    rw [nI_clamp (by omega), if_pos hil, gs_sa (κ := 0) z2]
    exact w
theorem gr_cald (hdg : decode (gy_b Y) pc = .ok (.caload, 1)) (hk : ∀ v, gxJ G Y K (pc + 1) (gI v :: st) L M n c (k v)) : gxJ G Y K pc (gI i :: gR 65 x :: st) L M n c (gx_ald x i M k) := fun h => by
  obtain ⟨hx, h⟩ := gb_f h
  obtain ⟨hi, h⟩ := gb_t h
  have hx := gb_nbeq hx
  have hi : i + 1 ≤ gx_rd M x := gb_ble hi
  refine gj_go2 (hk (gx_rd M (Nat.add x (Nat.succ i)))) (fun p e R s m args below meth cd X cells slots cw ad H locs ls Q uI uS uL us ul kk => ?_) h
  obtain ⟨z, hz, z1, z2⟩ := gs_find (gv_oks_hd (gv_oks_tl us)) hx
  subst z1
  rw [List.map_cons, List.map_cons, gs_ref hx]
  obtain ⟨x1, x2, x3, x4, x5, x6, x7, ⟨x8, x9, x10⟩, x11, x12⟩ := X
  have w := kk ls uL (gv_oks_cons trivial (gv_oks_tl (gv_oks_tl us))) ul
  rw [List.map_cons] at w
  rcases List.mem_append.mp hz with hz | hz
  · obtain ⟨r1, r2, r3, r4⟩ := x9 z hz
    obtain ⟨r5, r6, r7, r8⟩ := r4 (by omega) (by omega)
    have hl : gx_rd M z.1 = z.2.2 := by rw [uI.2.2.2.2.2.2.2.1 _ (by rw [gs_exk (κ := 1) z2] at r2; omega), r7]
    have hil : i < z.2.2 := by omega
    rw [show gx_den (gg_dk G) ad (gI i) = .int (nI i) from congrArg Value.int (gn_c (by omega)), uI.2.2.2.2.2.2.2.2.2 z hz]
    rw [show z.2.1 - 64 = 1 by omega] at r8
    refine va_tc x1 x2 r8 uS (nI_in hil (by omega)) ?_ hdg w
    rw [nI_clamp (by omega), ← gs_ro uI hz r2 hil, gs_svk (κ := 1) z2]
    rfl
  · have hP := gs_one uI hz
    have hq := uI.2.2.2.2.1 z hz
    have hl := (hq.2.2.2 (by omega)).1
    have hn := uI.2.2.2.2.2.2.2.2.1
    rw [gs_exk (κ := 1) z2] at hq
    have hil : i < z.2.2 := by omega
    rw [show gx_den (gg_dk G) ad (gI i) = .int (nI i) from congrArg Value.int (gn_c (by omega))]
    rw [gs_arr (κ := 1) z2, gs_elmi (κ := 1) z2 (by decide)] at hP
    refine va_cald (D := gg_D G) (cl := gx_cl) (tys := gx_tys (gg_cT G)) x1 x2 x11 hP 0 1 rfl rfl (nI_in hil (by omega)) hdg ?_
    rw [nI_clamp (by omega), if_pos hil, gs_sa (κ := 1) z2]
    exact w
theorem gr_zald (hdg : decode (gy_b Y) pc = .ok (.baload, 1)) (hk : ∀ v, gxJ G Y K (pc + 1) (gI v :: st) L M n c (k v)) : gxJ G Y K pc (gI i :: gR 66 x :: st) L M n c (gx_ald x i M k) := fun h => by
  obtain ⟨hx, h⟩ := gb_f h
  obtain ⟨hi, h⟩ := gb_t h
  have hx := gb_nbeq hx
  have hi : i + 1 ≤ gx_rd M x := gb_ble hi
  refine gj_go2 (hk (gx_rd M (Nat.add x (Nat.succ i)))) (fun p e R s m args below meth cd X cells slots cw ad H locs ls Q uI uS uL us ul kk => ?_) h
  obtain ⟨z, hz, z1, z2⟩ := gs_find (gv_oks_hd (gv_oks_tl us)) hx
  subst z1
  rw [List.map_cons, List.map_cons, gs_ref hx]
  obtain ⟨x1, x2, x3, x4, x5, x6, x7, ⟨x8, x9, x10⟩, x11, x12⟩ := X
  have w := kk ls uL (gv_oks_cons trivial (gv_oks_tl (gv_oks_tl us))) ul
  rw [List.map_cons] at w
  rcases List.mem_append.mp hz with hz | hz
  · obtain ⟨r1, r2, r3, r4⟩ := x9 z hz
    obtain ⟨r5, r6, r7, r8⟩ := r4 (by omega) (by omega)
    have hl : gx_rd M z.1 = z.2.2 := by rw [uI.2.2.2.2.2.2.2.1 _ (by rw [gs_exk (κ := 2) z2] at r2; omega), r7]
    have hil : i < z.2.2 := by omega
    rw [show gx_den (gg_dk G) ad (gI i) = .int (nI i) from congrArg Value.int (gn_c (by omega)), uI.2.2.2.2.2.2.2.2.2 z hz]
    rw [show z.2.1 - 64 = 2 by omega] at r8
    refine va_tz x1 x2 r8 uS (nI_in hil (by omega)) ?_ hdg w
    rw [nI_clamp (by omega), ← gs_ro uI hz r2 hil, gs_svk (κ := 2) z2]
    rfl
  · have hP := gs_one uI hz
    have hq := uI.2.2.2.2.1 z hz
    have hl := (hq.2.2.2 (by omega)).1
    have hn := uI.2.2.2.2.2.2.2.2.1
    rw [gs_exk (κ := 2) z2] at hq
    have hil : i < z.2.2 := by omega
    rw [show gx_den (gg_dk G) ad (gI i) = .int (nI i) from congrArg Value.int (gn_c (by omega))]
    rw [gs_arr (κ := 2) z2, gs_elmi (κ := 2) z2 (by decide)] at hP
    refine va_zald (D := gg_D G) (cl := gx_cl) (tys := gx_tys (gg_cT G)) x1 x2 x11 hP 0 2 rfl rfl (nI_in hil (by omega)) hdg ?_
    rw [nI_clamp (by omega), if_pos hil, gs_sa (κ := 2) z2]
    exact w
theorem gr_bald (hdg : decode (gy_b Y) pc = .ok (.baload, 1)) (hk : ∀ v, gxJ G Y K (pc + 1) (gI v :: st) L M n c (k v)) : gxJ G Y K pc (gI i :: gR 67 x :: st) L M n c (gx_ald x i M k) := fun h => by
  obtain ⟨hx, h⟩ := gb_f h
  obtain ⟨hi, h⟩ := gb_t h
  have hx := gb_nbeq hx
  have hi : i + 1 ≤ gx_rd M x := gb_ble hi
  refine gj_go2 (hk (gx_rd M (Nat.add x (Nat.succ i)))) (fun p e R s m args below meth cd X cells slots cw ad H locs ls Q uI uS uL us ul kk => ?_) h
  obtain ⟨z, hz, z1, z2⟩ := gs_find (gv_oks_hd (gv_oks_tl us)) hx
  subst z1
  rw [List.map_cons, List.map_cons, gs_ref hx]
  obtain ⟨x1, x2, x3, x4, x5, x6, x7, ⟨x8, x9, x10⟩, x11, x12⟩ := X
  have w := kk ls uL (gv_oks_cons trivial (gv_oks_tl (gv_oks_tl us))) ul
  rw [List.map_cons] at w
  rcases List.mem_append.mp hz with hz | hz
  · obtain ⟨r1, r2, r3, r4⟩ := x9 z hz
    obtain ⟨r5, r6, r7, r8⟩ := r4 (by omega) (by omega)
    have hl : gx_rd M z.1 = z.2.2 := by rw [uI.2.2.2.2.2.2.2.1 _ (by rw [gs_exk (κ := 3) z2] at r2; omega), r7]
    have hil : i < z.2.2 := by omega
    rw [show gx_den (gg_dk G) ad (gI i) = .int (nI i) from congrArg Value.int (gn_c (by omega)), uI.2.2.2.2.2.2.2.2.2 z hz]
    rw [show z.2.1 - 64 = 3 by omega] at r8
    refine va_tb x1 x2 r8 uS (nI_in hil (by omega)) ?_ hdg w
    rw [nI_clamp (by omega), ← gs_ro uI hz r2 hil, gs_svk (κ := 3) z2]
    rfl
  · have hP := gs_one uI hz
    have hq := uI.2.2.2.2.1 z hz
    have hl := (hq.2.2.2 (by omega)).1
    have hn := uI.2.2.2.2.2.2.2.2.1
    rw [gs_exk (κ := 3) z2] at hq
    have hil : i < z.2.2 := by omega
    rw [show gx_den (gg_dk G) ad (gI i) = .int (nI i) from congrArg Value.int (gn_c (by omega))]
    rw [gs_arr (κ := 3) z2, gs_elmi (κ := 3) z2 (by decide)] at hP
    refine va_bald (D := gg_D G) (cl := gx_cl) (tys := gx_tys (gg_cT G)) x1 x2 x11 hP 0 3 rfl rfl (nI_in hil (by omega)) hdg ?_
    rw [nI_clamp (by omega), if_pos hil, gs_sa (κ := 3) z2]
    exact w
theorem gr_lald (hdg : decode (gy_b Y) pc = .ok (.laload, 1)) (hk : ∀ v, gxJ G Y K (pc + 1) (gL v :: st) L M n c (k v)) : gxJ G Y K pc (gI i :: gR 68 x :: st) L M n c (gx_ald x i M k) := fun h => by
  obtain ⟨hx, h⟩ := gb_f h
  obtain ⟨hi, h⟩ := gb_t h
  have hx := gb_nbeq hx
  have hi : i + 1 ≤ gx_rd M x := gb_ble hi
  refine gj_go2 (hk (gx_rd M (Nat.add x (Nat.succ i)))) (fun p e R s m args below meth cd X cells slots cw ad H locs ls Q uI uS uL us ul kk => ?_) h
  obtain ⟨z, hz, z1, z2⟩ := gs_find (gv_oks_hd (gv_oks_tl us)) hx
  subst z1
  rw [List.map_cons, List.map_cons, gs_ref hx]
  obtain ⟨x1, x2, x3, x4, x5, x6, x7, ⟨x8, x9, x10⟩, x11, x12⟩ := X
  have w := kk ls uL (gv_oks_cons trivial (gv_oks_tl (gv_oks_tl us))) ul
  rw [List.map_cons] at w
  rcases List.mem_append.mp hz with hz | hz
  · obtain ⟨r1, r2, r3, r4⟩ := x9 z hz
    obtain ⟨r5, r6, r7, r8⟩ := r4 (by omega) (by omega)
    omega
  · have hP := gs_one uI hz
    have hq := uI.2.2.2.2.1 z hz
    have hl := (hq.2.2.2 (by omega)).1
    have hn := uI.2.2.2.2.2.2.2.2.1
    rw [gs_exk (κ := 4) z2] at hq
    have hil : i < z.2.2 := by omega
    rw [show gx_den (gg_dk G) ad (gI i) = .int (nI i) from congrArg Value.int (gn_c (by omega))]
    rw [gs_arr (κ := 4) z2, gs_elml (κ := 4) z2 rfl] at hP
    refine va_lald (D := gg_D G) (cl := gx_cl) (tys := gx_tys (gg_cT G)) x1 x2 x11 hP 0 4 rfl rfl (nI_in hil (by omega)) hdg ?_
    rw [nI_clamp (by omega), if_pos hil, gs_sa (κ := 4) z2]
    exact w
theorem gr_aald {κ t : Nat} {C : String} (hdg : decode (gy_b Y) pc = .ok (.aaload, 1)) (hκ : 4 < κ ∧ κ < 8 ∧ gx_ks κ = 8 + t) (hC : (gx_tys (gg_cT G))[κ]? = some (gg_cT G κ, .object C)) (hk : ∀ v, gxJ G Y K (pc + 1) (gR t v :: st) L M n c (k v)) : gxJ G Y K pc (gI i :: gR (64 + κ) x :: st) L M n c (gx_ald x i M k) := fun h => by
  obtain ⟨hx, h⟩ := gb_f h
  obtain ⟨hi, h⟩ := gb_t h
  have hx := gb_nbeq hx
  have hi : i + 1 ≤ gx_rd M x := gb_ble hi
  refine gj_go2 (hk (gx_rd M (Nat.add x (Nat.succ i)))) (fun p e R s m args below meth cd X cells slots cw ad H locs ls Q uI uS uL us ul kk => ?_) h
  obtain ⟨z, hz, z1, z2⟩ := gs_find (gv_oks_hd (gv_oks_tl us)) hx
  subst z1
  rw [List.map_cons, List.map_cons, gs_ref hx]
  obtain ⟨x1, x2, x3, x4, x5, x6, x7, ⟨x8, x9, x10⟩, x11, x12⟩ := X
  rcases List.mem_append.mp hz with hz | hz
  · obtain ⟨r1, r2, r3, r4⟩ := x9 z hz
    obtain ⟨r5, r6, r7, r8⟩ := r4 (by omega) (by omega)
    omega
  · have hP := gs_one uI hz
    have hq := uI.2.2.2.2.1 z hz
    have hl := (hq.2.2.2 (by omega)).1
    have hn := uI.2.2.2.2.2.2.2.2.1
    rw [gs_exk (κ := κ) z2] at hq
    have hil : i < z.2.2 := by omega
    have ok := uI.2.2.2.2.2.1 z hz i hil
    rw [gs_svk (κ := κ) z2, hκ.2.2, gx_sl, if_neg (by omega), if_neg (by omega), show 8 + t - 8 = t by omega] at ok
    have w := kk ls uL (gv_oks_cons ok (gv_oks_tl (gv_oks_tl us))) ul
    rw [List.map_cons] at w
    rw [show gx_den (gg_dk G) ad (gI i) = .int (nI i) from congrArg Value.int (gn_c (by omega))]
    rw [gs_arr (κ := κ) z2, gs_elmr (κ := κ) z2 (by omega)] at hP
    refine va_aldq (D := gg_D G) (cl := gx_cl) (tys := gx_tys (gg_cT G)) x1 x2 x11 hP 0 κ rfl hC (nI_in hil (by omega)) hdg ?_
    rw [nI_clamp (by omega), if_pos hil, gs_sa (κ := κ) z2]
    have e : va_rf (if gx_rd M (Nat.add z.1 (Nat.succ i)) = 0 then none else some (ad (gx_rd M (Nat.add z.1 (Nat.succ i))))) = gx_den (gg_dk G) ad (gR t (gx_rd M (Nat.add z.1 (Nat.succ i)))) := by
      show _ = gx_rf ad _
      unfold gx_rf
      split <;> rfl
    rw [e]
    exact w
theorem gr_alen {κ : Nat} (hdg : decode (gy_b Y) pc = .ok (.arraylength, 1)) (hκ : κ < 8) (hk : ∀ v, gxJ G Y K (pc + 1) (gI v :: st) L M n c (k v)) : gxJ G Y K pc (gR (64 + κ) x :: st) L M n c (gx_len x M k) := fun h => by
  obtain ⟨hx, h⟩ := gb_f h
  have hx := gb_nbeq hx
  refine gj_go2 (hk (gx_rd M x)) (fun p e R s m args below meth cd X cells slots cw ad H locs ls Q uI uS uL us ul kk => ?_) h
  obtain ⟨z, hz, z1, z2⟩ := gs_find (gv_oks_hd us) hx
  subst z1
  rw [List.map_cons, gs_ref hx]
  obtain ⟨x1, x2, x3, x4, x5, x6, x7, ⟨x8, x9, x10⟩, x11, x12⟩ := X
  have w := kk ls uL (gv_oks_cons trivial (gv_oks_tl us)) ul
  rw [List.map_cons] at w
  rcases List.mem_append.mp hz with hz | hz
  · obtain ⟨r1, r2, r3, r4⟩ := x9 z hz
    obtain ⟨r5, r6, r7, r8⟩ := r4 (by omega) (by omega)
    have hl : gx_rd M z.1 = z.2.2 := by rw [uI.2.2.2.2.2.2.2.1 _ (by rw [gs_exk (κ := κ) z2] at r2; omega), r7]
    rw [uI.2.2.2.2.2.2.2.2.2 z hz]
    refine va_tlen x1 x2 r8 uS (v := gx_N (gg_dk G) (gx_rd M z.1)) ?_ hdg w
    rw [hl, gn_c (by omega)]
    rfl
  · have hP := gs_one uI hz
    have hq := uI.2.2.2.2.1 z hz
    have hl := (hq.2.2.2 (by omega)).1
    have hn := uI.2.2.2.2.2.2.2.2.1
    rw [gs_exk (κ := κ) z2] at hq
    rw [gs_arr (κ := κ) z2] at hP
    have hC : (gx_tys (gg_cT G))[κ]? = some (gg_cT G κ, gx_ty κ) := by
      have : κ = 0 ∨ κ = 1 ∨ κ = 2 ∨ κ = 3 ∨ κ = 4 ∨ κ = 5 ∨ κ = 6 ∨ κ = 7 := by omega
      rcases this with rfl | rfl | rfl | rfl | rfl | rfl | rfl | rfl <;> rfl
    refine va_alen (D := gg_D G) (cl := gx_cl) (tys := gx_tys (gg_cT G)) x1 x2 x11 hP 0 κ rfl hC (v := gx_N (gg_dk G) (gx_rd M z.1)) ?_ hdg w
    rw [hl, gn_c (by omega)]
    rfl
end RDS
