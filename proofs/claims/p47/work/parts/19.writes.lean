/-! RULES: what is written in the heap, what is made there (printed by wip/p47/gen_writes.py). -/
noncomputable def gx_f0 (v : Nat) : Bool := Nat.ble v 281474976710655
noncomputable def gx_f1 (v : Nat) : Bool := Bool.rec (motive := fun _ => Bool) (Bool.and (gx_f0 v) (gx_in v 0 65535)) true (Nat.ble v 65535)
noncomputable def gx_f2 (v : Nat) : Bool := Nat.ble v 1
noncomputable def gx_f3 (v : Nat) : Bool := Bool.rec (motive := fun _ => Bool) (Bool.and (gx_f0 v) (gx_in v 0 127)) true (Nat.ble v 127)
noncomputable def gx_put (x j v M : Nat) (f : Nat → Bool) (k : Nat → Bool) : Bool := Bool.rec (motive := fun _ => Bool) false (Bool.rec (motive := fun _ => Bool) false (k (gx_wr M (Nat.add x j) v)) (f v)) (Nat.ble 128 x)
noncomputable def gx_ast (x i v M : Nat) (f : Nat → Bool) (k : Nat → Bool) : Bool := Bool.rec (motive := fun _ => Bool) false (Bool.rec (motive := fun _ => Bool) false (Bool.rec (motive := fun _ => Bool) false (k (gx_wr M (Nat.add x (Nat.succ i)) v)) (Nat.ble (Nat.succ i) (gx_rd M x))) (f v)) (Nat.ble 128 x)
noncomputable def gx_new (sz n c : Nat) (k : Nat → Nat → Nat → Bool) : Bool := Bool.rec (motive := fun _ => Bool) false (k n (Nat.add n sz) (Nat.succ c)) (Nat.ble n 1000000)
noncomputable def gx_nea (ln M n c : Nat) (k : Nat → Nat → Nat → Nat → Bool) : Bool := Bool.rec (motive := fun _ => Bool) false (k n (gx_wr M n ln) (Nat.add n (Nat.succ ln)) (Nat.succ c)) (Bool.and (Nat.ble ln 4096) (Nat.ble n 1000000))
/-- a number that a slot of this type can hold -/
def gf_ok (dk : Nat → Nat) (f : Nat → Bool) (ty : FieldType) : Prop := ∀ v, f v = true → v < 281474976710656 ∧ narrow ty (.int (gx_N dk v)) = .int (gx_N dk v) ∧ fits ty (.int (gx_N dk v)) = true
theorem gf_0 {dk : Nat → Nat} : gf_ok dk gx_f0 .int := fun v h => by
  have := gb_ble h
  exact ⟨by omega, rfl, rfl⟩
theorem gf_1 {dk : Nat → Nat} (hd : gx_D dk) : gf_ok dk gx_f1 .char := fun v h => by
  have key : ∃ z : Nat, z < 65536 ∧ gx_N dk v = nI z ∧ v < 281474976710656 := by
    rcases gb_true h with ⟨hc, -⟩ | ⟨-, h⟩
    · have := gb_ble hc
      exact ⟨v, by omega, gn_c (by omega), by omega⟩
    · obtain ⟨h1, h2⟩ := go_and h
      have := gb_ble h1
      obtain ⟨z, z1, z2, z3, -⟩ := gn_in hd h2
      exact ⟨z, by omega, z3, by omega⟩
  obtain ⟨z, z1, z2, z3⟩ := key
  rw [z2]
  exact ⟨z3, pk_charN z1⟩
theorem gf_2 {dk : Nat → Nat} : gf_ok dk gx_f2 .boolean := fun v h => by
  have := gb_ble h
  have e : v = 0 ∨ v = 1 := by omega
  rcases e with rfl | rfl
  · rw [gn_c (by decide)]; exact ⟨by decide, by decide +kernel, by decide +kernel⟩
  · rw [gn_c (by decide)]; exact ⟨by decide, by decide +kernel, by decide +kernel⟩
theorem gf_3 {dk : Nat → Nat} (hd : gx_D dk) : gf_ok dk gx_f3 .byte := fun v h => by
  have key : ∃ z : Nat, z < 128 ∧ gx_N dk v = nI z ∧ v < 281474976710656 := by
    rcases gb_true h with ⟨hc, -⟩ | ⟨-, h⟩
    · have := gb_ble hc
      exact ⟨v, by omega, gn_c (by omega), by omega⟩
    · obtain ⟨h1, h2⟩ := go_and h
      have := gb_ble h1
      obtain ⟨z, z1, z2, z3, -⟩ := gn_in hd h2
      exact ⟨z, by omega, z3, by omega⟩
  obtain ⟨z, z1, z2, z3⟩ := key
  rw [z2]
  have k2 : ∀ z : Fin 128, narrow .byte (.int (nI z.val)) = .int (nI z.val) ∧ fits .byte (.int (nI z.val)) = true := by decide +kernel
  exact ⟨z3, k2 ⟨z, z1⟩⟩
theorem gf_nar {dk : Nat → Nat} {ty : FieldType} {v : Nat} (h : narrow ty (.int (gx_N dk v)) = .int (gx_N dk v)) : vp_nar ty (gx_N dk v) = gx_N dk v := by
  unfold vp_nar
  rw [h]
section WRS
variable {G : gxG} {Y : gxY} {K : Nat → Nat → Nat → Nat → Bool} {pc : Nat} {st L : List gxV} {M n c x i v : Nat} {e : Bool} {k : Nat → Bool}
theorem gj_go3 {pc' M1 n1 c1 : Nat} {e1 : Bool} {st' L' : List gxV} (hk : gxJ G Y K pc' st' L' M1 n1 c1 e1) (hn1 : n ≤ n1) (hc1 : c ≤ c1)
    (hrow : ∀ (p : Program) (e : Env) (R : Room) (s : State) (m : MethodId) (args : Array Value) (below : List Frame) (meth : Method) (cd : Code), gxX G Y p R s m args meth cd →
      ∀ (cells slots : Nat) (cw : List gxq) (ad : Nat → Nat) (H : Heap) (locs : List Loc) (ls : Array Slot) (Q : State → Prop), gxI G ad cw M n H → va_S (gxA G) s.heap H locs → gx_lc (gg_dk G) ad (gy_l Y) ls L → gv_oks (gg_cr G ++ cw) st → gv_oks (gg_cr G ++ cw) L → cells + (c1 - c) ≤ R.cells → slots + (n1 - n) ≤ R.slots →
        (∀ (cw' : List gxq) (ad' : Nat → Nat) (H' : Heap) (locs' : List Loc) (ls' : Array Slot), gx_sb cw cw' → gx_agr cw ad ad' → gxI G ad' cw' M1 n1 H' → va_S (gxA G) s.heap H' locs' → gx_lc (gg_dk G) ad' (gy_l Y) ls' L' → gv_oks (gg_cr G ++ cw') st' → gv_oks (gg_cr G ++ cw') L' → W p (gg_l G) e R s m args below meth cd H' locs' (cells + (c1 - c)) (slots + (n1 - n)) Q (F0 m pc' ls' (st'.map (gx_den (gg_dk G) ad')))) →
        W p (gg_l G) e R s m args below meth cd H locs cells slots Q (F0 m pc ls (st.map (gx_den (gg_dk G) ad)))) (he : e1 = true) : gxJ G Y K pc st L M n c e := by
  intro _
  obtain ⟨v, M', n', c', h1, h2, h3, h4, kk⟩ := hk he
  refine ⟨v, M', n', c', h1, Nat.le_trans hn1 h2, Nat.le_trans hc1 h3, h4, fun p e R s m args below meth cd X c0 n0 cw0 ad0 hc hn cells slots cw ad H locs ls U => ?_⟩
  obtain ⟨u1, u2, uI, ua, ud, uS, uL, us, ul⟩ := U
  exact hrow p e R s m args below meth cd X cells slots cw ad H locs ls _ uI uS uL us ul (by omega) (by omega) (fun cw' ad' H' locs' ls' b1 b2 b3 b4 b5 b6 b7 => kk p e R s m args below meth cd X c0 n0 cw0 ad0 hc hn (cells + (c1 - c)) (slots + (n1 - n)) cw' ad' H' locs' ls' ⟨by omega, by omega, b3, gx_agr_tr ud ua b2, gx_sb_tr ud b1, b4, b5, b6, b7⟩)
theorem gs_old {Y : gxY} {p : Program} {R : Room} {s : State} {m : MethodId} {args : Array Value} {meth : Method} {cd : Code} {H : Heap} {locs : List Loc} (X : gxX G Y p R s m args meth cd) (hS : va_S (gxA G) s.heap H locs) : gg_lo G ≤ H.size ∧ ∀ q : Nat, q < gg_lo G → H[q]? = (gg_s G).heap[q]? := by
  obtain ⟨-, -, -, -, -, -, -, -, -, ⟨h1, h2⟩, -⟩ := X
  refine ⟨Nat.le_trans h1 hS.1, fun q hq => ?_⟩
  rw [hS.2.1 q (by omega) (by omega), h2 q hq]
/-- behind a write into a slot of a cell of the world -/
theorem gs_put {ad : Nat → Nat} {cw : List gxq} {H H1 : Heap} {z : gxq} {q0 j : Nat} (hI : gxI G ad cw M n H) (hq : cw[q0]? = some z) (hj : j < z.2.2) (hv : v < 281474976710656) (hok : gv_ok (gg_cr G ++ cw) (gx_sl (gx_ss z j) v))
    (h1 : gg_lo G ≤ H1.size ∧ ∀ q : Nat, q < gg_lo G → H1[q]? = (gg_s G).heap[q]?)
    (hP : va_P (gg_D G) gx_cl ((cw.map fun q => (ad q.1, gx_cel G ad M q)).set q0 (ad z.1, gx_cel G ad (gx_wr M (gx_sa z j) v) z)) H1) : gxI G ad cw (gx_wr M (gx_sa z j) v) n H1 := by
  obtain ⟨i1, i2, i3, i4, i5, i6, i7, i8, i9, i10⟩ := hI
  have hzm : z ∈ cw := List.mem_of_getElem? hq
  obtain ⟨a1, a2⟩ := gx_sa_in hj
  obtain ⟨z1, z2, z3, z4⟩ := i5 z hzm
  have other : ∀ q ∈ cw, q ≠ z → ∀ b, q.1 ≤ b → b < q.1 + gx_ex q → gx_rd (gx_wr M (gx_sa z j) v) b = gx_rd M b := by
    intro q hqm hne b b1 b2
    refine gh_ne hv ?_
    rcases i4 q hqm z hzm with h | h | h
    · exact absurd h hne
    · omega
    · omega
  have cel : ∀ q ∈ cw, q ≠ z → gx_cel G ad (gx_wr M (gx_sa z j) v) q = gx_cel G ad M q := fun q hqm hne => gx_cel_eq fun b hb => by
    obtain ⟨b1, b2⟩ := gx_sa_in hb
    exact other q hqm hne _ b1 b2
  have hmap : (cw.map fun q => (ad q.1, gx_cel G ad M q)).set q0 (ad z.1, gx_cel G ad (gx_wr M (gx_sa z j) v) z) = cw.map fun q => (ad q.1, gx_cel G ad (gx_wr M (gx_sa z j) v) q) := by
    apply List.ext_getElem?
    intro b
    rw [List.getElem?_set, List.getElem?_map, List.getElem?_map]
    by_cases hb : q0 = b
    · subst hb
      obtain ⟨hl, he⟩ := List.getElem?_eq_some_iff.mp hq
      simp [hl, he]
    · rw [if_neg hb]
      cases hc : cw[b]? with
      | none => rfl
      | some q =>
        show some _ = some _
        by_cases hqz : q = z
        · subst hqz
          exact absurd (i3.1 q0 b _ _ (by rw [List.getElem?_map, hq]; rfl) (by rw [List.getElem?_map, hc]; rfl) rfl) hb
        · exact congrArg (fun w => some (ad q.1, w)) (cel q (List.mem_of_getElem? hc) hqz).symm
  rw [hmap] at hP
  refine ⟨h1, hP, ?_, i4, ?_, ?_, ?_, ?_, i9, i10⟩
  · refine ⟨fun b d p q hp hq2 hpq => ?_, fun b q hq2 => ?_⟩
    · rw [List.getElem?_map] at hp hq2
      cases hb : cw[b]? with
      | none => rw [hb] at hp; cases hp
      | some p' =>
        cases hd : cw[d]? with
        | none => rw [hd] at hq2; cases hq2
        | some q' =>
          rw [hb] at hp
          rw [hd] at hq2
          cases hp
          cases hq2
          exact i3.1 b d (ad p'.1, gx_cel G ad M p') (ad q'.1, gx_cel G ad M q') (by rw [List.getElem?_map, hb]; rfl) (by rw [List.getElem?_map, hd]; rfl) hpq
    · rw [List.getElem?_map] at hq2
      cases hb : cw[b]? with
      | none => rw [hb] at hq2; cases hq2
      | some q' =>
        rw [hb] at hq2
        cases hq2
        exact i3.2 b (ad q'.1, gx_cel G ad M q') (by rw [List.getElem?_map, hb]; rfl)
  · intro q hqm
    obtain ⟨g1, g2, g3, g4⟩ := i5 q hqm
    refine ⟨g1, g2, g3, fun h64 => ?_⟩
    obtain ⟨g5, g6⟩ := g4 h64
    refine ⟨?_, g6⟩
    have hex : gx_ex q = q.2.2 + 1 := if_neg (by omega)
    by_cases hqz : q = z
    · subst hqz
      rw [gh_ne hv (by unfold gx_sa; rw [if_neg (by omega)]; omega), g5]
    · rw [other q hqm hqz q.1 (Nat.le_refl _) (by omega), g5]
  · intro q hqm b hb
    by_cases hqz : q = z
    · subst hqz
      by_cases hbj : b = j
      · subst hbj
        rw [gx_sv_at, gh_same hv]
        exact hok
      · rw [gx_sv_eq (gh_ne hv (by unfold gx_sa; split <;> omega))]
        exact i6 q hqm b hb
    · obtain ⟨b1, b2⟩ := gx_sa_in hb
      rw [gx_sv_eq (other q hqm hqz _ b1 b2)]
      exact i6 q hqm b hb
  · intro a ha
    rw [gh_ne hv (by omega)]
    exact i7 a ha
  · intro a ha
    rw [gh_ne hv (by omega)]
    exact i8 a ha
theorem gs_fs {ad : Nat → Nat} {M v j : Nat} {z : gxq} (h64 : z.2.1 < 64) (hj : j < z.2.2) (hv : v < 281474976710656) : gx_cel G ad (gx_wr M (gx_sa z j) v) z = .inr (z.2.1, ((List.range z.2.2).map (fun j => gx_den (gg_dk G) ad (gx_sv M z j))).set j (gx_den (gg_dk G) ad (gx_sl (gx_ss z j) v))) := by
  rw [gs_obj h64]
  refine congrArg (fun w => Sum.inr (z.2.1, w)) ?_
  apply List.ext_getElem?
  intro b
  rw [List.getElem?_set, List.getElem?_map, List.getElem?_map]
  by_cases hb : b < z.2.2
  · rw [List.getElem?_range hb]
    by_cases hbj : j = b
    · subst hbj
      rw [if_pos rfl]
      simp only [List.length_map, List.length_range, Option.map_some]
      rw [if_pos hb, gx_sv_at, gh_same hv]
    · rw [if_neg hbj]
      exact congrArg (fun w => some (gx_den (gg_dk G) ad w)) (gx_sv_eq (gh_ne hv (show gx_sa z j ≠ gx_sa z b by unfold gx_sa; rw [if_pos h64, if_pos h64]; omega)))
  · rw [List.getElem?_eq_none (by simp; omega)]
    by_cases hbj : j = b
    · omega
    · rw [if_neg hbj]
      rfl
theorem gk_ty {t : Nat} {C : String} {T : u_T} {N : Nat} (h : gx_cl[t]? = some (C, T, N)) : (∃ ty0 : Nat → FieldType, ∀ k, k < N → parseFieldDescriptor (T k).2.2.1 = some (ty0 k)) ∧ ∀ a, a < N → ∀ b, b < N → a ≠ b → (T a).2.1 ≠ (T b).2.1 := by
  match t, h with
  | 0, h => cases h; exact ⟨⟨_, tyX0_ok⟩, nmX0⟩
  | 1, h => cases h; exact ⟨⟨_, tyX1_ok⟩, nmX1⟩
  | 2, h => cases h; exact ⟨⟨_, tyX2_ok⟩, nmX2⟩
  | 3, h => cases h; exact ⟨⟨_, tyX3_ok⟩, nmX3⟩
  | 4, h => cases h; exact ⟨⟨_, tyX4_ok⟩, nmX4⟩
  | 5, h => cases h; exact ⟨⟨_, tyX5_ok⟩, nmX5⟩
  | 6, h => cases h; exact ⟨⟨_, tyX6_ok⟩, nmX6⟩
  | 7, h => cases h; exact ⟨⟨_, tyX7_ok⟩, nmX7⟩
  | 8, h => cases h; exact ⟨⟨_, tyJ0_ok⟩, nmJ0⟩
  | 9, h => cases h; exact ⟨⟨_, tyJ4_ok⟩, nmJ4⟩
  | 10, h => cases h; exact ⟨⟨_, tyL_ok⟩, nmL⟩
  | t + 11, h => simp [gx_cl] at h
/-- the value fits the field -/
def gf_v (G : gxG) (f : Nat → Bool) (ty : FieldType) (sv : Nat → gxV) : Prop := ∀ (ad : Nat → Nat) (v : Nat), f v = true → v < 281474976710656 ∧ narrow ty (gx_den (gg_dk G) ad (sv v)) = gx_den (gg_dk G) ad (sv v) ∧ fits ty (gx_den (gg_dk G) ad (sv v)) = true
theorem gv_0 : gf_v G gx_f0 .int gI := fun _ v h => gf_0 v h
theorem gv_1 (hd : gx_D (gg_dk G)) : gf_v G gx_f1 .char gI := fun _ v h => gf_1 hd v h
theorem gv_2f : gf_v G gx_f2 .boolean gI := fun _ v h => gf_2 v h
theorem gv_3 (hd : gx_D (gg_dk G)) : gf_v G gx_f3 .byte gI := fun _ v h => gf_3 hd v h
theorem gv_4 : gf_v G gx_f0 .long gL := fun _ v h => ⟨by have := gb_ble h; omega, rfl, rfl⟩
theorem gv_o {C : String} {t : Nat} : gf_v G gx_f0 (.object C) (gR t) := fun ad v h => ⟨by have := gb_ble h; omega, rfl, by
  rcases gx_rf2 (gg_dk G) ad t v with h | ⟨a, h⟩ <;> rw [h] <;> rfl⟩
theorem gv_a {ty : FieldType} {t : Nat} : gf_v G gx_f0 (.array ty) (gR t) := fun ad v h => ⟨by have := gb_ble h; omega, rfl, by
  rcases gx_rf2 (gg_dk G) ad t v with h | ⟨a, h⟩ <;> rw [h] <;> rfl⟩
theorem gr_putf {index t j σ : Nat} {sv : Nat → gxV} {f : Nat → Bool} {C : String} {T : u_T} {N : Nat} {ty : FieldType} (hdg : decode (gy_b Y) pc = .ok (.putfield index, 3)) (ht : gx_cl[t]? = some (C, T, N)) (hσ : (gx_F t)[j]? = some σ) (hsv : ∀ v, gx_sl σ v = sv v) (hlink : Cond.fieldLink (gy_o Y) index (T j).1 (T j).2.1 (T j).2.2.1 ∈ gx_ws) (hty : parseFieldDescriptor (T j).2.2.1 = some ty) (hf : gf_v G f ty sv) (hfin : (T j).2.2.2 = false)
    (hk : ∀ M1, gxJ G Y K (pc + 3) st L M1 n c (k M1)) : gxJ G Y K pc (sv v :: gR t x :: st) L M n c (gx_put x j v M f k) := fun h => by
  obtain ⟨hx, h⟩ := gb_t h
  obtain ⟨hfv, h⟩ := gb_t h
  have hx := gb_ble hx
  refine gj_go3 (hk (gx_wr M (x + j) v)) (Nat.le_refl _) (Nat.le_refl _) (fun p e R s m args below meth cd X cells slots cw ad H locs ls Q uI uS uL us ul hc9 hn9 kk => ?_) h rfl
  obtain ⟨g1, g2, g3⟩ := gk ht
  obtain ⟨⟨ty0, g4⟩, g5⟩ := gk_ty ht
  have hjl : j < (gx_F t).length := (List.getElem?_eq_some_iff.mp hσ).1
  obtain ⟨z, hz, z1, z2⟩ := gs_find (gv_oks_hd (gv_oks_tl us)) (by omega)
  subst z1
  subst z2
  rw [List.map_cons, List.map_cons, gs_ref (by omega)]
  have X0 := X
  obtain ⟨x1, x2, x3, x4, x5, x6, x7, ⟨x8, x9, x10⟩, x11, x12⟩ := X
  rcases List.mem_append.mp hz with hz | hz
  · obtain ⟨r1, r2, r3, r4⟩ := x9 z hz
    obtain ⟨⟨r5, r6⟩, -⟩ := r3 g3
    have : gx_ex z = z.2.2 := if_pos g3
    omega
  · obtain ⟨q0, hq0⟩ := List.getElem?_of_mem hz
    have hjz : j < z.2.2 := by rw [(uI.2.2.2.2.1 z hz).2.2.1 g3]; exact hjl
    obtain ⟨f1, f2, f3⟩ := hf ad v hfv
    have es : gx_sl (gx_ss z j) v = sv v := by
      unfold gx_ss
      rw [if_pos g3, List.getD_eq_getElem?_getD, hσ]
      exact hsv v
    have esa : gx_sa z j = z.1 + j := if_pos g3
    refine va_put (D := gg_D G) (cl := gx_cl) (tys := gx_tys (gg_cT G)) x1 x2 x6 g1 ty0 g4 g5 x5 x11 uI.2.1 uI.2.2.1 uS q0 (a := ad z.1) (fs := (List.range z.2.2).map (fun j => gx_den (gg_dk G) ad (gx_sv M z j))) (by rw [List.getElem?_map, hq0]; show some (_, gx_cel G ad M z) = _; rw [gs_obj g3]) ht j (by omega) (x6 _ hlink) (fun _ h => h) hfin hty f2 f3 (by simp; exact hjz) hdg (fun H1 locs1 hP hD hS => ?_)
    rw [← es, ← gs_fs g3 hjz f1] at hP
    have I1 := gs_put uI hq0 hjz f1 (by rw [es]; exact gv_oks_hd us) (gs_old X0 hS) hP
    rw [esa] at I1
    have w := kk cw ad H1 locs1 ls gx_sb_rf gx_agr_rf I1 hS uL (gv_2 us) ul
    rw [Nat.sub_self, Nat.sub_self, Nat.add_zero, Nat.add_zero] at w
    exact w
theorem gr_putF {index t j σ : Nat} {sv : Nat → gxV} {f : Nat → Bool} {C : String} {T : u_T} {N : Nat} {ty : FieldType} (hdg : decode (gy_b Y) pc = .ok (.putfield index, 3)) (ht : gx_cl[t]? = some (C, T, N)) (hσ : (gx_F t)[j]? = some σ) (hsv : ∀ v, gx_sl σ v = sv v) (hlink : Cond.fieldLink (gy_o Y) index (T j).1 (T j).2.1 (T j).2.2.1 ∈ gx_ws) (hty : parseFieldDescriptor (T j).2.2.1 = some ty) (hf : gf_v G f ty sv) (hfin : (T j).2.2.2 = true) (hin2 : ∀ (p : Program) (R : Room) (s : State) (m : MethodId) (args : Array Value) (meth : Method) (cd : Code), gxX G Y p R s m args meth cd → meth.name = "<init>") (hdecl : (T j).1 = gy_o Y)
    (hk : ∀ M1, gxJ G Y K (pc + 3) st L M1 n c (k M1)) : gxJ G Y K pc (sv v :: gR t x :: st) L M n c (gx_put x j v M f k) := fun h => by
  obtain ⟨hx, h⟩ := gb_t h
  obtain ⟨hfv, h⟩ := gb_t h
  have hx := gb_ble hx
  refine gj_go3 (hk (gx_wr M (x + j) v)) (Nat.le_refl _) (Nat.le_refl _) (fun p e R s m args below meth cd X cells slots cw ad H locs ls Q uI uS uL us ul hc9 hn9 kk => ?_) h rfl
  obtain ⟨g1, g2, g3⟩ := gk ht
  obtain ⟨⟨ty0, g4⟩, g5⟩ := gk_ty ht
  have hjl : j < (gx_F t).length := (List.getElem?_eq_some_iff.mp hσ).1
  obtain ⟨z, hz, z1, z2⟩ := gs_find (gv_oks_hd (gv_oks_tl us)) (by omega)
  subst z1
  subst z2
  rw [List.map_cons, List.map_cons, gs_ref (by omega)]
  have X0 := X
  obtain ⟨x1, x2, x3, x4, x5, x6, x7, ⟨x8, x9, x10⟩, x11, x12⟩ := X
  rcases List.mem_append.mp hz with hz | hz
  · obtain ⟨r1, r2, r3, r4⟩ := x9 z hz
    obtain ⟨⟨r5, r6⟩, -⟩ := r3 g3
    have : gx_ex z = z.2.2 := if_pos g3
    omega
  · obtain ⟨q0, hq0⟩ := List.getElem?_of_mem hz
    have hjz : j < z.2.2 := by rw [(uI.2.2.2.2.1 z hz).2.2.1 g3]; exact hjl
    obtain ⟨f1, f2, f3⟩ := hf ad v hfv
    have es : gx_sl (gx_ss z j) v = sv v := by
      unfold gx_ss
      rw [if_pos g3, List.getD_eq_getElem?_getD, hσ]
      exact hsv v
    have esa : gx_sa z j = z.1 + j := if_pos g3
    refine va_putF (D := gg_D G) (cl := gx_cl) (tys := gx_tys (gg_cT G)) x1 x2 x6 g1 ty0 g4 g5 x5 x11 uI.2.1 uI.2.2.1 uS q0 (a := ad z.1) (fs := (List.range z.2.2).map (fun j => gx_den (gg_dk G) ad (gx_sv M z j))) (by rw [List.getElem?_map, hq0]; show some (_, gx_cel G ad M z) = _; rw [gs_obj g3]) ht j (by omega) (x6 _ hlink) (fun _ h => h) hfin (hin2 p R s m args meth cd X0) hdecl hty f2 f3 (by simp; exact hjz) hdg (fun H1 locs1 hP hD hS => ?_)
    rw [← es, ← gs_fs g3 hjz f1] at hP
    have I1 := gs_put uI hq0 hjz f1 (by rw [es]; exact gv_oks_hd us) (gs_old X0 hS) hP
    rw [esa] at I1
    have w := kk cw ad H1 locs1 ls gx_sb_rf gx_agr_rf I1 hS uL (gv_2 us) ul
    rw [Nat.sub_self, Nat.sub_self, Nat.add_zero, Nat.add_zero] at w
    exact w
theorem gr_putfN {host : String} {index t j σ : Nat} {sv : Nat → gxV} {f : Nat → Bool} {C : String} {T : u_T} {N : Nat} {ty : FieldType} (hdg : decode (gy_b Y) pc = .ok (.putfield index, 3)) (ht : gx_cl[t]? = some (C, T, N)) (hσ : (gx_F t)[j]? = some σ) (hsv : ∀ v, gx_sl σ v = sv v) (hlink : Cond.fieldLinkNest (gy_o Y) index (T j).1 (T j).2.1 (T j).2.2.1 host ∈ gx_ws) (hty : parseFieldDescriptor (T j).2.2.1 = some ty) (hf : gf_v G f ty sv) (hfin : (T j).2.2.2 = false)
    (hk : ∀ M1, gxJ G Y K (pc + 3) st L M1 n c (k M1)) : gxJ G Y K pc (sv v :: gR t x :: st) L M n c (gx_put x j v M f k) := fun h => by
  obtain ⟨hx, h⟩ := gb_t h
  obtain ⟨hfv, h⟩ := gb_t h
  have hx := gb_ble hx
  refine gj_go3 (hk (gx_wr M (x + j) v)) (Nat.le_refl _) (Nat.le_refl _) (fun p e R s m args below meth cd X cells slots cw ad H locs ls Q uI uS uL us ul hc9 hn9 kk => ?_) h rfl
  obtain ⟨g1, g2, g3⟩ := gk ht
  obtain ⟨⟨ty0, g4⟩, g5⟩ := gk_ty ht
  have hjl : j < (gx_F t).length := (List.getElem?_eq_some_iff.mp hσ).1
  obtain ⟨z, hz, z1, z2⟩ := gs_find (gv_oks_hd (gv_oks_tl us)) (by omega)
  subst z1
  subst z2
  rw [List.map_cons, List.map_cons, gs_ref (by omega)]
  have X0 := X
  obtain ⟨x1, x2, x3, x4, x5, x6, x7, ⟨x8, x9, x10⟩, x11, x12⟩ := X
  rcases List.mem_append.mp hz with hz | hz
  · obtain ⟨r1, r2, r3, r4⟩ := x9 z hz
    obtain ⟨⟨r5, r6⟩, -⟩ := r3 g3
    have : gx_ex z = z.2.2 := if_pos g3
    omega
  · obtain ⟨q0, hq0⟩ := List.getElem?_of_mem hz
    have hjz : j < z.2.2 := by rw [(uI.2.2.2.2.1 z hz).2.2.1 g3]; exact hjl
    obtain ⟨f1, f2, f3⟩ := hf ad v hfv
    have es : gx_sl (gx_ss z j) v = sv v := by
      unfold gx_ss
      rw [if_pos g3, List.getD_eq_getElem?_getD, hσ]
      exact hsv v
    have esa : gx_sa z j = z.1 + j := if_pos g3
    refine va_putN (D := gg_D G) (cl := gx_cl) (tys := gx_tys (gg_cT G)) x1 x2 x6 g1 ty0 g4 g5 x5 x11 uI.2.1 uI.2.2.1 uS q0 (a := ad z.1) (fs := (List.range z.2.2).map (fun j => gx_den (gg_dk G) ad (gx_sv M z j))) (by rw [List.getElem?_map, hq0]; show some (_, gx_cel G ad M z) = _; rw [gs_obj g3]) ht j (by omega) (x6 _ hlink) (fun _ h => h) hfin hty f2 f3 (by simp; exact hjz) hdg (fun H1 locs1 hP hD hS => ?_)
    rw [← es, ← gs_fs g3 hjz f1] at hP
    have I1 := gs_put uI hq0 hjz f1 (by rw [es]; exact gv_oks_hd us) (gs_old X0 hS) hP
    rw [esa] at I1
    have w := kk cw ad H1 locs1 ls gx_sb_rf gx_agr_rf I1 hS uL (gv_2 us) ul
    rw [Nat.sub_self, Nat.sub_self, Nat.add_zero, Nat.add_zero] at w
    exact w
theorem gr_iast (hd : gx_D (gg_dk G)) (hdg : decode (gy_b Y) pc = .ok (.iastore, 1)) (hk : ∀ M1, gxJ G Y K (pc + 1) st L M1 n c (k M1)) : gxJ G Y K pc (gI v :: gI i :: gR 64 x :: st) L M n c (gx_ast x i v M gx_f0 k) := fun h => by
  obtain ⟨hx, h⟩ := gb_t h
  obtain ⟨hfv, h⟩ := gb_t h
  obtain ⟨hi, h⟩ := gb_t h
  have hx := gb_ble hx
  have hi : i + 1 ≤ gx_rd M x := gb_ble hi
  refine gj_go3 (hk (gx_wr M (Nat.add x (Nat.succ i)) v)) (Nat.le_refl _) (Nat.le_refl _) (fun p e R s m args below meth cd X cells slots cw ad H locs ls Q uI uS uL us ul hc9 hn9 kk => ?_) h rfl
  obtain ⟨z, hz, z1, z2⟩ := gs_find (gv_oks_hd (gv_2 us)) (by omega)
  subst z1
  rw [List.map_cons, List.map_cons, List.map_cons, gs_ref (by omega)]
  have X0 := X
  obtain ⟨x1, x2, x3, x4, x5, x6, x7, ⟨x8, x9, x10⟩, x11, x12⟩ := X
  rcases List.mem_append.mp hz with hz | hz
  · obtain ⟨r1, r2, r3, r4⟩ := x9 z hz
    rw [gs_exk (κ := 0) z2] at r2
    omega
  · obtain ⟨q0, hq0⟩ := List.getElem?_of_mem hz
    have hq := uI.2.2.2.2.1 z hz
    have hl := (hq.2.2.2 (by omega)).1
    have hn := uI.2.2.2.2.2.2.2.2.1
    rw [gs_exk (κ := 0) z2] at hq
    have hil : i < z.2.2 := by omega
    obtain ⟨f1, f2, f3⟩ := gv_0 (G := G) ad v hfv
    rw [show gx_den (gg_dk G) ad (gI i) = .int (nI i) from congrArg Value.int (gn_c (by omega))]
    refine va_iast (D := gg_D G) (cl := gx_cl) (tys := gx_tys (gg_cT G)) x1 x2 x11 uI.2.1 uI.2.2.1 uS q0 0 (a := ad z.1) (cA := gg_cT G 0) (n := z.2.2) (f := fun j => if j < z.2.2 then gx_N (gg_dk G) (gx_rd M (gx_sa z j)) else 0) (by rw [List.getElem?_map, hq0]; show some (_, gx_cel G ad M z) = _; rw [gs_arr (κ := 0) z2, gs_elmi (κ := 0) z2 (by decide)]) rfl (nI_in hil (by omega)) hdg (fun H1 locs1 hP hD hS => ?_)
    have ec : gx_cel G ad (gx_wr M (gx_sa z i) v) z = .inl (gg_cT G 0, (z.2.2, .inl (upd (fun j => if j < z.2.2 then gx_N (gg_dk G) (gx_rd M (gx_sa z j)) else 0) (nI i).toNatClampNeg (gx_N (gg_dk G) v)))) := by
      rw [gs_arr (κ := 0) z2, gs_elmi (κ := 0) z2 (by decide)]
      refine congrArg (fun w => Sum.inl (gg_cT G 0, (z.2.2, Sum.inl w))) (funext fun b => ?_)
      rw [nI_clamp (by omega)]
      show _ = if b = i then _ else _
      by_cases hb : b = i
      · subst hb
        rw [if_pos hil, if_pos rfl, gh_same f1]
      · rw [if_neg hb]
        show _ = if b < z.2.2 then gx_N (gg_dk G) (gx_rd M (gx_sa z b)) else 0
        by_cases hbl : b < z.2.2
        · rw [if_pos hbl, if_pos hbl, gh_ne f1 (by rw [gs_sa (κ := 0) z2, gs_sa (κ := 0) z2]; show z.1 + (i + 1) ≠ z.1 + (b + 1); omega)]
        · rw [if_neg hbl, if_neg hbl]
    rw [← ec] at hP
    have I1 := gs_put uI hq0 hil f1 (by unfold gx_ss; rw [if_neg (by omega), show z.2.1 - 64 = 0 by omega]; trivial) (gs_old X0 hS) hP
    rw [gs_sa (κ := 0) z2] at I1
    have w := kk cw ad H1 locs1 ls gx_sb_rf gx_agr_rf I1 hS uL (gv_oks_tl (gv_2 us)) ul
    rw [Nat.sub_self, Nat.sub_self, Nat.add_zero, Nat.add_zero] at w
    exact w
theorem gr_cast (hd : gx_D (gg_dk G)) (hdg : decode (gy_b Y) pc = .ok (.castore, 1)) (hk : ∀ M1, gxJ G Y K (pc + 1) st L M1 n c (k M1)) : gxJ G Y K pc (gI v :: gI i :: gR 65 x :: st) L M n c (gx_ast x i v M gx_f1 k) := fun h => by
  obtain ⟨hx, h⟩ := gb_t h
  obtain ⟨hfv, h⟩ := gb_t h
  obtain ⟨hi, h⟩ := gb_t h
  have hx := gb_ble hx
  have hi : i + 1 ≤ gx_rd M x := gb_ble hi
  refine gj_go3 (hk (gx_wr M (Nat.add x (Nat.succ i)) v)) (Nat.le_refl _) (Nat.le_refl _) (fun p e R s m args below meth cd X cells slots cw ad H locs ls Q uI uS uL us ul hc9 hn9 kk => ?_) h rfl
  obtain ⟨z, hz, z1, z2⟩ := gs_find (gv_oks_hd (gv_2 us)) (by omega)
  subst z1
  rw [List.map_cons, List.map_cons, List.map_cons, gs_ref (by omega)]
  have X0 := X
  obtain ⟨x1, x2, x3, x4, x5, x6, x7, ⟨x8, x9, x10⟩, x11, x12⟩ := X
  rcases List.mem_append.mp hz with hz | hz
  · obtain ⟨r1, r2, r3, r4⟩ := x9 z hz
    rw [gs_exk (κ := 1) z2] at r2
    omega
  · obtain ⟨q0, hq0⟩ := List.getElem?_of_mem hz
    have hq := uI.2.2.2.2.1 z hz
    have hl := (hq.2.2.2 (by omega)).1
    have hn := uI.2.2.2.2.2.2.2.2.1
    rw [gs_exk (κ := 1) z2] at hq
    have hil : i < z.2.2 := by omega
    obtain ⟨f1, f2, f3⟩ := gv_1 (G := G) hd ad v hfv
    rw [show gx_den (gg_dk G) ad (gI i) = .int (nI i) from congrArg Value.int (gn_c (by omega))]
    refine va_cast (D := gg_D G) (cl := gx_cl) (tys := gx_tys (gg_cT G)) x1 x2 x11 uI.2.1 uI.2.2.1 uS q0 1 (a := ad z.1) (cA := gg_cT G 1) (n := z.2.2) (f := fun j => if j < z.2.2 then gx_N (gg_dk G) (gx_rd M (gx_sa z j)) else 0) (by rw [List.getElem?_map, hq0]; show some (_, gx_cel G ad M z) = _; rw [gs_arr (κ := 1) z2, gs_elmi (κ := 1) z2 (by decide)]) rfl (nI_in hil (by omega)) hdg (fun H1 locs1 hP hD hS => ?_)
    have ec : gx_cel G ad (gx_wr M (gx_sa z i) v) z = .inl (gg_cT G 1, (z.2.2, .inl (upd (fun j => if j < z.2.2 then gx_N (gg_dk G) (gx_rd M (gx_sa z j)) else 0) (nI i).toNatClampNeg (vp_nar .char (gx_N (gg_dk G) v))))) := by
      rw [gs_arr (κ := 1) z2, gs_elmi (κ := 1) z2 (by decide)]
      refine congrArg (fun w => Sum.inl (gg_cT G 1, (z.2.2, Sum.inl w))) (funext fun b => ?_)
      rw [nI_clamp (by omega), gf_nar f2]
      show _ = if b = i then _ else _
      by_cases hb : b = i
      · subst hb
        rw [if_pos hil, if_pos rfl, gh_same f1]
      · rw [if_neg hb]
        show _ = if b < z.2.2 then gx_N (gg_dk G) (gx_rd M (gx_sa z b)) else 0
        by_cases hbl : b < z.2.2
        · rw [if_pos hbl, if_pos hbl, gh_ne f1 (by rw [gs_sa (κ := 1) z2, gs_sa (κ := 1) z2]; show z.1 + (i + 1) ≠ z.1 + (b + 1); omega)]
        · rw [if_neg hbl, if_neg hbl]
    rw [← ec] at hP
    have I1 := gs_put uI hq0 hil f1 (by unfold gx_ss; rw [if_neg (by omega), show z.2.1 - 64 = 1 by omega]; trivial) (gs_old X0 hS) hP
    rw [gs_sa (κ := 1) z2] at I1
    have w := kk cw ad H1 locs1 ls gx_sb_rf gx_agr_rf I1 hS uL (gv_oks_tl (gv_2 us)) ul
    rw [Nat.sub_self, Nat.sub_self, Nat.add_zero, Nat.add_zero] at w
    exact w
theorem gr_zast (hd : gx_D (gg_dk G)) (hdg : decode (gy_b Y) pc = .ok (.bastore, 1)) (hk : ∀ M1, gxJ G Y K (pc + 1) st L M1 n c (k M1)) : gxJ G Y K pc (gI v :: gI i :: gR 66 x :: st) L M n c (gx_ast x i v M gx_f2 k) := fun h => by
  obtain ⟨hx, h⟩ := gb_t h
  obtain ⟨hfv, h⟩ := gb_t h
  obtain ⟨hi, h⟩ := gb_t h
  have hx := gb_ble hx
  have hi : i + 1 ≤ gx_rd M x := gb_ble hi
  refine gj_go3 (hk (gx_wr M (Nat.add x (Nat.succ i)) v)) (Nat.le_refl _) (Nat.le_refl _) (fun p e R s m args below meth cd X cells slots cw ad H locs ls Q uI uS uL us ul hc9 hn9 kk => ?_) h rfl
  obtain ⟨z, hz, z1, z2⟩ := gs_find (gv_oks_hd (gv_2 us)) (by omega)
  subst z1
  rw [List.map_cons, List.map_cons, List.map_cons, gs_ref (by omega)]
  have X0 := X
  obtain ⟨x1, x2, x3, x4, x5, x6, x7, ⟨x8, x9, x10⟩, x11, x12⟩ := X
  rcases List.mem_append.mp hz with hz | hz
  · obtain ⟨r1, r2, r3, r4⟩ := x9 z hz
    rw [gs_exk (κ := 2) z2] at r2
    omega
  · obtain ⟨q0, hq0⟩ := List.getElem?_of_mem hz
    have hq := uI.2.2.2.2.1 z hz
    have hl := (hq.2.2.2 (by omega)).1
    have hn := uI.2.2.2.2.2.2.2.2.1
    rw [gs_exk (κ := 2) z2] at hq
    have hil : i < z.2.2 := by omega
    obtain ⟨f1, f2, f3⟩ := gv_2f (G := G) ad v hfv
    rw [show gx_den (gg_dk G) ad (gI i) = .int (nI i) from congrArg Value.int (gn_c (by omega))]
    refine va_zast (D := gg_D G) (cl := gx_cl) (tys := gx_tys (gg_cT G)) x1 x2 x11 uI.2.1 uI.2.2.1 uS q0 2 (a := ad z.1) (cA := gg_cT G 2) (n := z.2.2) (f := fun j => if j < z.2.2 then gx_N (gg_dk G) (gx_rd M (gx_sa z j)) else 0) (by rw [List.getElem?_map, hq0]; show some (_, gx_cel G ad M z) = _; rw [gs_arr (κ := 2) z2, gs_elmi (κ := 2) z2 (by decide)]) rfl (nI_in hil (by omega)) hdg (fun H1 locs1 hP hD hS => ?_)
    have ec : gx_cel G ad (gx_wr M (gx_sa z i) v) z = .inl (gg_cT G 2, (z.2.2, .inl (upd (fun j => if j < z.2.2 then gx_N (gg_dk G) (gx_rd M (gx_sa z j)) else 0) (nI i).toNatClampNeg (vp_nar .boolean (gx_N (gg_dk G) v))))) := by
      rw [gs_arr (κ := 2) z2, gs_elmi (κ := 2) z2 (by decide)]
      refine congrArg (fun w => Sum.inl (gg_cT G 2, (z.2.2, Sum.inl w))) (funext fun b => ?_)
      rw [nI_clamp (by omega), gf_nar f2]
      show _ = if b = i then _ else _
      by_cases hb : b = i
      · subst hb
        rw [if_pos hil, if_pos rfl, gh_same f1]
      · rw [if_neg hb]
        show _ = if b < z.2.2 then gx_N (gg_dk G) (gx_rd M (gx_sa z b)) else 0
        by_cases hbl : b < z.2.2
        · rw [if_pos hbl, if_pos hbl, gh_ne f1 (by rw [gs_sa (κ := 2) z2, gs_sa (κ := 2) z2]; show z.1 + (i + 1) ≠ z.1 + (b + 1); omega)]
        · rw [if_neg hbl, if_neg hbl]
    rw [← ec] at hP
    have I1 := gs_put uI hq0 hil f1 (by unfold gx_ss; rw [if_neg (by omega), show z.2.1 - 64 = 2 by omega]; trivial) (gs_old X0 hS) hP
    rw [gs_sa (κ := 2) z2] at I1
    have w := kk cw ad H1 locs1 ls gx_sb_rf gx_agr_rf I1 hS uL (gv_oks_tl (gv_2 us)) ul
    rw [Nat.sub_self, Nat.sub_self, Nat.add_zero, Nat.add_zero] at w
    exact w
theorem gr_bast (hd : gx_D (gg_dk G)) (hdg : decode (gy_b Y) pc = .ok (.bastore, 1)) (hk : ∀ M1, gxJ G Y K (pc + 1) st L M1 n c (k M1)) : gxJ G Y K pc (gI v :: gI i :: gR 67 x :: st) L M n c (gx_ast x i v M gx_f3 k) := fun h => by
  obtain ⟨hx, h⟩ := gb_t h
  obtain ⟨hfv, h⟩ := gb_t h
  obtain ⟨hi, h⟩ := gb_t h
  have hx := gb_ble hx
  have hi : i + 1 ≤ gx_rd M x := gb_ble hi
  refine gj_go3 (hk (gx_wr M (Nat.add x (Nat.succ i)) v)) (Nat.le_refl _) (Nat.le_refl _) (fun p e R s m args below meth cd X cells slots cw ad H locs ls Q uI uS uL us ul hc9 hn9 kk => ?_) h rfl
  obtain ⟨z, hz, z1, z2⟩ := gs_find (gv_oks_hd (gv_2 us)) (by omega)
  subst z1
  rw [List.map_cons, List.map_cons, List.map_cons, gs_ref (by omega)]
  have X0 := X
  obtain ⟨x1, x2, x3, x4, x5, x6, x7, ⟨x8, x9, x10⟩, x11, x12⟩ := X
  rcases List.mem_append.mp hz with hz | hz
  · obtain ⟨r1, r2, r3, r4⟩ := x9 z hz
    rw [gs_exk (κ := 3) z2] at r2
    omega
  · obtain ⟨q0, hq0⟩ := List.getElem?_of_mem hz
    have hq := uI.2.2.2.2.1 z hz
    have hl := (hq.2.2.2 (by omega)).1
    have hn := uI.2.2.2.2.2.2.2.2.1
    rw [gs_exk (κ := 3) z2] at hq
    have hil : i < z.2.2 := by omega
    obtain ⟨f1, f2, f3⟩ := gv_3 (G := G) hd ad v hfv
    rw [show gx_den (gg_dk G) ad (gI i) = .int (nI i) from congrArg Value.int (gn_c (by omega))]
    refine va_bast (D := gg_D G) (cl := gx_cl) (tys := gx_tys (gg_cT G)) x1 x2 x11 uI.2.1 uI.2.2.1 uS q0 3 (a := ad z.1) (cA := gg_cT G 3) (n := z.2.2) (f := fun j => if j < z.2.2 then gx_N (gg_dk G) (gx_rd M (gx_sa z j)) else 0) (by rw [List.getElem?_map, hq0]; show some (_, gx_cel G ad M z) = _; rw [gs_arr (κ := 3) z2, gs_elmi (κ := 3) z2 (by decide)]) rfl (nI_in hil (by omega)) hdg (fun H1 locs1 hP hD hS => ?_)
    have ec : gx_cel G ad (gx_wr M (gx_sa z i) v) z = .inl (gg_cT G 3, (z.2.2, .inl (upd (fun j => if j < z.2.2 then gx_N (gg_dk G) (gx_rd M (gx_sa z j)) else 0) (nI i).toNatClampNeg (vp_nar .byte (gx_N (gg_dk G) v))))) := by
      rw [gs_arr (κ := 3) z2, gs_elmi (κ := 3) z2 (by decide)]
      refine congrArg (fun w => Sum.inl (gg_cT G 3, (z.2.2, Sum.inl w))) (funext fun b => ?_)
      rw [nI_clamp (by omega), gf_nar f2]
      show _ = if b = i then _ else _
      by_cases hb : b = i
      · subst hb
        rw [if_pos hil, if_pos rfl, gh_same f1]
      · rw [if_neg hb]
        show _ = if b < z.2.2 then gx_N (gg_dk G) (gx_rd M (gx_sa z b)) else 0
        by_cases hbl : b < z.2.2
        · rw [if_pos hbl, if_pos hbl, gh_ne f1 (by rw [gs_sa (κ := 3) z2, gs_sa (κ := 3) z2]; show z.1 + (i + 1) ≠ z.1 + (b + 1); omega)]
        · rw [if_neg hbl, if_neg hbl]
    rw [← ec] at hP
    have I1 := gs_put uI hq0 hil f1 (by unfold gx_ss; rw [if_neg (by omega), show z.2.1 - 64 = 3 by omega]; trivial) (gs_old X0 hS) hP
    rw [gs_sa (κ := 3) z2] at I1
    have w := kk cw ad H1 locs1 ls gx_sb_rf gx_agr_rf I1 hS uL (gv_oks_tl (gv_2 us)) ul
    rw [Nat.sub_self, Nat.sub_self, Nat.add_zero, Nat.add_zero] at w
    exact w
theorem gr_last (hd : gx_D (gg_dk G)) (hdg : decode (gy_b Y) pc = .ok (.lastore, 1)) (hk : ∀ M1, gxJ G Y K (pc + 1) st L M1 n c (k M1)) : gxJ G Y K pc (gL v :: gI i :: gR 68 x :: st) L M n c (gx_ast x i v M gx_f0 k) := fun h => by
  obtain ⟨hx, h⟩ := gb_t h
  obtain ⟨hfv, h⟩ := gb_t h
  obtain ⟨hi, h⟩ := gb_t h
  have hx := gb_ble hx
  have hi : i + 1 ≤ gx_rd M x := gb_ble hi
  refine gj_go3 (hk (gx_wr M (Nat.add x (Nat.succ i)) v)) (Nat.le_refl _) (Nat.le_refl _) (fun p e R s m args below meth cd X cells slots cw ad H locs ls Q uI uS uL us ul hc9 hn9 kk => ?_) h rfl
  obtain ⟨z, hz, z1, z2⟩ := gs_find (gv_oks_hd (gv_2 us)) (by omega)
  subst z1
  rw [List.map_cons, List.map_cons, List.map_cons, gs_ref (by omega)]
  have X0 := X
  obtain ⟨x1, x2, x3, x4, x5, x6, x7, ⟨x8, x9, x10⟩, x11, x12⟩ := X
  rcases List.mem_append.mp hz with hz | hz
  · obtain ⟨r1, r2, r3, r4⟩ := x9 z hz
    rw [gs_exk (κ := 4) z2] at r2
    omega
  · obtain ⟨q0, hq0⟩ := List.getElem?_of_mem hz
    have hq := uI.2.2.2.2.1 z hz
    have hl := (hq.2.2.2 (by omega)).1
    have hn := uI.2.2.2.2.2.2.2.2.1
    rw [gs_exk (κ := 4) z2] at hq
    have hil : i < z.2.2 := by omega
    obtain ⟨f1, f2, f3⟩ := gv_4 (G := G) ad v hfv
    rw [show gx_den (gg_dk G) ad (gI i) = .int (nI i) from congrArg Value.int (gn_c (by omega))]
    refine va_last (D := gg_D G) (cl := gx_cl) (tys := gx_tys (gg_cT G)) x1 x2 x11 uI.2.1 uI.2.2.1 uS q0 4 (a := ad z.1) (cA := gg_cT G 4) (n := z.2.2) (f := fun j => if j < z.2.2 then lN (gx_rd M (gx_sa z j)) else 0) (by rw [List.getElem?_map, hq0]; show some (_, gx_cel G ad M z) = _; rw [gs_arr (κ := 4) z2, gs_elml (κ := 4) z2 (by decide)]) rfl (nI_in hil (by omega)) hdg (fun H1 locs1 hP hD hS => ?_)
    have ec : gx_cel G ad (gx_wr M (gx_sa z i) v) z = .inl (gg_cT G 4, (z.2.2, .inr (.inl (vp_updL (fun j => if j < z.2.2 then lN (gx_rd M (gx_sa z j)) else 0) (nI i).toNatClampNeg (lN v))))) := by
      rw [gs_arr (κ := 4) z2, gs_elml (κ := 4) z2 (by decide)]
      refine congrArg (fun w => Sum.inl (gg_cT G 4, (z.2.2, Sum.inr (Sum.inl w)))) (funext fun b => ?_)
      rw [nI_clamp (by omega)]
      show _ = if b = i then _ else _
      by_cases hb : b = i
      · subst hb
        rw [if_pos hil, if_pos rfl, gh_same f1]
      · rw [if_neg hb]
        show _ = if b < z.2.2 then lN (gx_rd M (gx_sa z b)) else 0
        by_cases hbl : b < z.2.2
        · rw [if_pos hbl, if_pos hbl, gh_ne f1 (by rw [gs_sa (κ := 4) z2, gs_sa (κ := 4) z2]; show z.1 + (i + 1) ≠ z.1 + (b + 1); omega)]
        · rw [if_neg hbl, if_neg hbl]
    rw [← ec] at hP
    have I1 := gs_put uI hq0 hil f1 (by unfold gx_ss; rw [if_neg (by omega), show z.2.1 - 64 = 4 by omega]; trivial) (gs_old X0 hS) hP
    rw [gs_sa (κ := 4) z2] at I1
    have w := kk cw ad H1 locs1 ls gx_sb_rf gx_agr_rf I1 hS uL (gv_oks_tl (gv_2 us)) ul
    rw [Nat.sub_self, Nat.sub_self, Nat.add_zero, Nat.add_zero] at w
    exact w
theorem gr_aast {κ t : Nat} {r : vw_C} (hdg : decode (gy_b Y) pc = .ok (.aastore, 1)) (hκ : 4 < κ ∧ κ < 8 ∧ gx_ks κ = 8 + t) (hC : (gx_tys (gg_cT G))[κ]? = some (gg_cT G κ, .object r.1)) (hr : gx_cl[t]? = some r) (hk : ∀ M1, gxJ G Y K (pc + 1) st L M1 n c (k M1)) : gxJ G Y K pc (gR t v :: gI i :: gR (64 + κ) x :: st) L M n c (gx_ast x i v M gx_f0 k) := fun h => by
  obtain ⟨hx, h⟩ := gb_t h
  obtain ⟨hfv, h⟩ := gb_t h
  obtain ⟨hi, h⟩ := gb_t h
  have hx := gb_ble hx
  have hi : i + 1 ≤ gx_rd M x := gb_ble hi
  refine gj_go3 (hk (gx_wr M (Nat.add x (Nat.succ i)) v)) (Nat.le_refl _) (Nat.le_refl _) (fun p e R s m args below meth cd X cells slots cw ad H locs ls Q uI uS uL us ul hc9 hn9 kk => ?_) h rfl
  obtain ⟨z, hz, z1, z2⟩ := gs_find (gv_oks_hd (gv_2 us)) (by omega)
  subst z1
  have X0 := X
  obtain ⟨x1, x2, x3, x4, x5, x6, x7, ⟨x8, x9, x10⟩, x11, x12⟩ := X
  rcases List.mem_append.mp hz with hz | hz
  · obtain ⟨r1, r2, r3, r4⟩ := x9 z hz
    rw [gs_exk (κ := κ) z2] at r2
    omega
  · obtain ⟨q0, hq0⟩ := List.getElem?_of_mem hz
    have hq := uI.2.2.2.2.1 z hz
    have hl := (hq.2.2.2 (by omega)).1
    have hn := uI.2.2.2.2.2.2.2.2.1
    rw [gs_exk (κ := κ) z2] at hq
    have hil : i < z.2.2 := by omega
    have f1 : v < 281474976710656 := by have := gb_ble hfv; omega
    have hap : ∀ b, b ≠ i → gx_rd (gx_wr M (gx_sa z i) v) (gx_sa z b) = gx_rd M (gx_sa z b) := fun b hb => gh_ne f1 (by rw [gs_sa (κ := κ) z2, gs_sa (κ := κ) z2]; show z.1 + (i + 1) ≠ z.1 + (b + 1); omega)
    have hcel : (cw.map fun q => (ad q.1, gx_cel G ad M q))[q0]? = some (ad z.1, .inl (gg_cT G κ, z.2.2, .inr (.inr (.inr (.inr (fun j => if j < z.2.2 then (if gx_rd M (gx_sa z j) = 0 then none else some (ad (gx_rd M (gx_sa z j)))) else none)))))) := by
      rw [List.getElem?_map, hq0]
      show some (_, gx_cel G ad M z) = _
      rw [gs_arr (κ := κ) z2, gs_elmr (κ := κ) z2 (by omega)]
    have ec : ∀ w : Option Nat, w = (if v = 0 then none else some (ad v)) → gx_cel G ad (gx_wr M (gx_sa z i) v) z = .inl (gg_cT G κ, (z.2.2, .inr (.inr (.inr (.inr (va_up (fun j => if j < z.2.2 then (if gx_rd M (gx_sa z j) = 0 then none else some (ad (gx_rd M (gx_sa z j)))) else none) (nI i).toNatClampNeg w)))))) := by
      intro w hw
      rw [gs_arr (κ := κ) z2, gs_elmr (κ := κ) z2 (by omega)]
      refine congrArg (fun w => Sum.inl (gg_cT G κ, (z.2.2, Sum.inr (Sum.inr (Sum.inr (Sum.inr w)))))) (funext fun b => ?_)
      rw [nI_clamp (by omega)]
      show _ = if b = i then w else _
      by_cases hb : b = i
      · subst hb
        rw [if_pos hil, if_pos rfl, gh_same f1, hw]
      · rw [if_neg hb]
        show _ = if b < z.2.2 then (if gx_rd M (gx_sa z b) = 0 then none else some (ad (gx_rd M (gx_sa z b)))) else none
        by_cases hbl : b < z.2.2
        · rw [if_pos hbl, if_pos hbl, hap b hb]
        · rw [if_neg hbl, if_neg hbl]
    have hok : gv_ok (gg_cr G ++ cw) (gx_sl (gx_ss z i) v) := by
      unfold gx_ss
      rw [if_neg (by omega), show z.2.1 - 64 = κ by omega, hκ.2.2, gx_sl, if_neg (by omega), if_neg (by omega), show 8 + t - 8 = t by omega]
      exact gv_oks_hd us
    have fin : ∀ (H1 : Heap) (locs1 : List Loc), va_P (gg_D G) gx_cl ((cw.map fun q => (ad q.1, gx_cel G ad M q)).set q0 (ad z.1, gx_cel G ad (gx_wr M (gx_sa z i) v) z)) H1 → va_S (gxA G) s.heap H1 locs1 → W p (gg_l G) e R s m args below meth cd H1 locs1 cells slots Q (F0 m (pc + 1) ls (st.map (gx_den (gg_dk G) ad))) := by
      intro H1 locs1 hP hS
      have I1 := gs_put uI hq0 hil f1 hok (gs_old X0 hS) hP
      rw [gs_sa (κ := κ) z2] at I1
      have w := kk cw ad H1 locs1 ls gx_sb_rf gx_agr_rf I1 hS uL (gv_oks_tl (gv_2 us)) ul
      rw [Nat.sub_self, Nat.sub_self, Nat.add_zero, Nat.add_zero] at w
      exact w
    rw [List.map_cons, List.map_cons, List.map_cons, gs_ref (t := 64 + κ) (by omega), show gx_den (gg_dk G) ad (gI i) = .int (nI i) from congrArg Value.int (gn_c (by omega))]
    by_cases hv0 : v = 0
    · rw [show gx_den (gg_dk G) ad (gR t v) = .null from if_pos hv0]
      refine va_astqN (D := gg_D G) (cl := gx_cl) (tys := gx_tys (gg_cT G)) x1 x2 x11 uI.2.1 uI.2.2.1 uS q0 κ hcel hC (nI_in hil (by omega)) hdg (fun H1 locs1 hP hD hS => ?_)
      rw [← ec none (by rw [if_pos hv0])] at hP
      exact fin H1 locs1 hP hS
    · rw [show gx_den (gg_dk G) ad (gR t v) = .ref (ad v) from if_neg hv0]
      obtain ⟨y, hy, y1, y2⟩ := gs_find (gv_oks_hd us) hv0
      rcases List.mem_append.mp hy with hy | hy
      · obtain ⟨r1, r2, r3, r4⟩ := x9 y hy
        have h64 : y.2.1 < 64 := by
          obtain ⟨rC, rT, rN⟩ := r
          have := (gk hr).2.2
          omega
        obtain ⟨⟨r5, -⟩, -⟩ := r3 h64
        exfalso
        have : κ = 5 ∨ κ = 6 ∨ κ = 7 := by omega
        rcases this with e | e | e <;> (subst e; have := hκ.2.2; simp only [gx_ks] at this; omega)
      · obtain ⟨qk, hqk⟩ := List.getElem?_of_mem hy
        have h64 : y.2.1 < 64 := by
          obtain ⟨rC, rT, rN⟩ := r
          have := (gk hr).2.2
          omega
        refine va_astq (D := gg_D G) (cl := gx_cl) (tys := gx_tys (gg_cT G)) x1 x2 x11 uI.2.1 uI.2.2.1 uS q0 κ qk t (v := ad v) (vs := (List.range y.2.2).map (fun j => gx_den (gg_dk G) ad (gx_sv M y j))) hcel hC (by rw [List.getElem?_map, hqk]; show some (ad y.1, gx_cel G ad M y) = _; rw [gs_obj h64, y1, y2]) hr (nI_in hil (by omega)) hdg (fun H1 locs1 hP hD hS => ?_)
        rw [← ec (some (ad v)) (by rw [if_neg hv0])] at hP
        exact fin H1 locs1 hP hS
/-- a new cell at the memory's end -/
theorem gs_new {ad : Nat → Nat} {cw : List gxq} {H H1 : Heap} {z : gxq} {M1 a : Nat} (hI : gxI G ad cw M n H) (hz : z.1 = n) (hx : n + gx_ex z < 2000000) (ht : (z.2.1 < 64 → z.2.2 = (gx_F z.2.1).length) ∧ (64 ≤ z.2.1 → gx_rd M1 z.1 = z.2.2 ∧ z.2.1 < 72)) (h0 : ∀ j, j < z.2.2 → gx_rd M1 (gx_sa z j) = 0) (hM : ∀ b, b ≠ n → gx_rd M1 b = gx_rd M b) (h3 : 0 < gx_ex z)
    (h1 : gg_lo G ≤ H1.size ∧ ∀ q : Nat, q < gg_lo G → H1[q]? = (gg_s G).heap[q]?)
    (hP : va_P (gg_D G) gx_cl ((cw.map fun q => (ad q.1, gx_cel G ad M q)) ++ [(a, gx_cel G (fun b => if b = n then a else ad b) M1 z)]) H1) (hD : va_D (fun q => gg_lo G ≤ q) ((cw.map fun q => (ad q.1, gx_cel G ad M q)) ++ [(a, gx_cel G (fun b => if b = n then a else ad b) M1 z)])) (hcr : ∀ q ∈ gg_cr G, q.1 < 128) :
    gxI G (fun b => if b = n then a else ad b) (cw ++ [z]) M1 (n + gx_ex z) H1 ∧ gx_agr (gg_cr G ++ cw) ad (fun b => if b = n then a else ad b) := by
  obtain ⟨i1, i2, i3, i4, i5, i6, i7, i8, i9, i10⟩ := hI
  have hne : ∀ q ∈ cw, gx_ex q ≠ 0 → q.1 ≠ n := fun q hq he => by have := (i5 q hq).2.1; omega
  have hag : gx_agr (gg_cr G ++ cw) ad (fun b => if b = n then a else ad b) := by
    intro q hq
    show (if q.1 = n then a else ad q.1) = ad q.1
    rcases List.mem_append.mp hq with hq | hq
    · rw [if_neg (by have := hcr q hq; omega)]
    · have hex : gx_ex q ≠ 0 := by have := i9.2 q hq; omega
      rw [if_neg (hne q hq hex)]
  have hrd : ∀ q ∈ cw, ∀ j, j < q.2.2 → gx_rd M1 (gx_sa q j) = gx_rd M (gx_sa q j) := fun q hq j hj => by
    obtain ⟨b1, b2⟩ := gx_sa_in hj
    have := (i5 q hq).2.1
    exact hM _ (by omega)
  have hcel : ∀ q ∈ cw, (ad q.1, gx_cel G ad M q) = ((if q.1 = n then a else ad q.1), gx_cel G (fun b => if b = n then a else ad b) M1 q) := by
    intro q hq
    have e1 := hag q (List.mem_append_right _ hq)
    have e1 : (if q.1 = n then a else ad q.1) = ad q.1 := e1
    rw [e1, ← gx_cel_eq (hrd q hq)]
    rw [gx_cel_agr (cs := gg_cr G ++ cw) (fun j hj => by rw [gx_sv_eq (hrd q hq j hj)]; exact i6 q hq j hj) hag]
  have hmap : (cw.map fun q => (ad q.1, gx_cel G ad M q)) ++ [(a, gx_cel G (fun b => if b = n then a else ad b) M1 z)] = (cw ++ [z]).map fun q => ((if q.1 = n then a else ad q.1), gx_cel G (fun b => if b = n then a else ad b) M1 q) := by
    rw [List.map_append, List.map_congr_left hcel]
    show _ ++ [(a, gx_cel G (fun b => if b = n then a else ad b) M1 z)] = _ ++ [((if z.1 = n then a else ad z.1), gx_cel G (fun b => if b = n then a else ad b) M1 z)]
    rw [if_pos hz]
  rw [hmap] at hP hD
  refine ⟨⟨h1, hP, hD, ?_, ?_, ?_, ?_, ?_, ?_, ?_⟩, hag⟩
  · intro q hq y hy
    rcases List.mem_append.mp hq with hq | hq
    · rcases List.mem_append.mp hy with hy | hy
      · exact i4 q hq y hy
      · rw [List.mem_singleton.mp hy]
        have := (i5 q hq).2.1
        exact Or.inr (Or.inl (by omega))
    · rcases List.mem_append.mp hy with hy | hy
      · rw [List.mem_singleton.mp hq]
        have := (i5 y hy).2.1
        exact Or.inr (Or.inr (by omega))
      · rw [List.mem_singleton.mp hq, List.mem_singleton.mp hy]
        exact Or.inl rfl
  · intro q hq
    rcases List.mem_append.mp hq with hq | hq
    · obtain ⟨g1, g2, g3, g4⟩ := i5 q hq
      refine ⟨g1, by omega, g3, fun h => ?_⟩
      obtain ⟨g5, g6⟩ := g4 h
      have hex : gx_ex q = q.2.2 + 1 := if_neg (by omega)
      exact ⟨by rw [hM _ (by omega), g5], g6⟩
    · rw [List.mem_singleton.mp hq]
      exact ⟨by omega, by omega, ht.1, ht.2⟩
  · intro q hq j hj
    rcases List.mem_append.mp hq with hq | hq
    · rw [gx_sv_eq (hrd q hq j hj)]
      exact gv_ok_sub (i6 q hq j hj) (gx_sb_app (fun q hq => List.mem_append_left _ hq))
    · rw [List.mem_singleton.mp hq] at hj ⊢
      rw [gx_sv_at, h0 j hj, gx_sl]
      split
      · trivial
      · split
        · trivial
        · exact Or.inl rfl
  · intro b hb
    by_cases hbn : b = n
    · omega
    · rw [hM b hbn]; exact i7 b (by omega)
  · intro b hb
    rw [hM b (by omega)]
    exact i8 b hb
  · refine ⟨by omega, fun q hq => ?_⟩
    rcases List.mem_append.mp hq with hq | hq
    · exact i9.2 q hq
    · rw [List.mem_singleton.mp hq]; exact h3
  · intro q hq
    have := hag q (List.mem_append_left _ hq)
    exact this.trans (i10 q hq)
theorem gk_pos (t : Nat) (h : t < 11) : 0 < (gx_F t).length := by
  have : t = 0 ∨ t = 1 ∨ t = 2 ∨ t = 3 ∨ t = 4 ∨ t = 5 ∨ t = 6 ∨ t = 7 ∨ t = 8 ∨ t = 9 ∨ t = 10 := by omega
  rcases this with rfl | rfl | rfl | rfl | rfl | rfl | rfl | rfl | rfl | rfl | rfl <;> decide
end WRS
