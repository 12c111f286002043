/-! RULES: what the printed judgements use. -/
theorem kc_m1 : Int32.ofInt (-1) = nI 4294967295 ∧ 4294967295 < 4294967296 := by decide +kernel
theorem kc_0 : Int32.ofInt 0 = nI 0 ∧ 0 < 4294967296 := by decide +kernel
theorem kc_1 : Int32.ofInt 1 = nI 1 ∧ 1 < 4294967296 := by decide +kernel
theorem kc_2 : Int32.ofInt 2 = nI 2 ∧ 2 < 4294967296 := by decide +kernel
theorem kc_3 : Int32.ofInt 3 = nI 3 ∧ 3 < 4294967296 := by decide +kernel
theorem kc_4 : Int32.ofInt 4 = nI 4 ∧ 4 < 4294967296 := by decide +kernel
theorem kc_5 : Int32.ofInt 5 = nI 5 ∧ 5 < 4294967296 := by decide +kernel
noncomputable def gx_nth (v : Nat) (e : Bool) : Bool := Bool.rec (motive := fun _ => Bool) e false (Nat.beq v gx_T)
noncomputable def gx_ctc (v : Nat) (e : Bool) : Bool := Bool.rec (motive := fun _ => Bool) false e (Nat.beq v gx_T)
section MRS
variable {G : gxG} {Y Y' : gxY} {K : Nat → Nat → Nat → Nat → Bool} {pc : Nat} {st L rest vs : List gxV} {M n c x : Nat} {y : MethodName} {f : Nat → Nat → Nat → (Nat → Nat → Nat → Nat → Bool) → Bool} {k : Nat → Nat → Nat → Nat → Bool}
theorem gx_nm {p : Program} {R : Room} {s : State} {m : MethodId} {args : Array Value} {meth : Method} {cd : Code} (X : gxX G Y p R s m args meth cd) : meth.name = gy_n Y := X.2.2.2.2.2.2.2.2.2.2.2.2.2.2
/-- a call of a method that may throw, where it doesn't -/
theorem gj_c2 {rs : Nat → List gxV} (a : List gxV) (hst : st = a ++ rest) (hM : gxM G Y' y vs f) (hrun : ∀ (p : Program) (e : Env) (R : Room) (s : State) (m : MethodId) (args : Array Value) (below : List Frame) (meth : Method) (cd : Code), gxX G Y p R s m args meth cd →
      ∀ (cells slots : Nat) (cw : List gxq) (ad : Nat → Nat) (H : Heap) (locs : List Loc) (ls : Array Slot), gxI G ad cw M n H → va_S (gxA G) s.heap H locs → gx_lc (gg_dk G) ad (gy_l Y) ls L → gv_oks (gg_cr G ++ cw) st → ∀ v M1 n1 c1 : Nat, gxC G Y' y vs cw ad M n c v M1 n1 c1 → cells + (c1 - c) ≤ R.cells → slots + (n1 - n) ≤ R.slots →
        gxRun G Y' p e R s m args below meth cd H locs cells slots (c1 - c) (n1 - n) (F0 m pc ls (st.map (gx_den (gg_dk G) ad))) (rest.map (gx_den (gg_dk G) ad)) ad cw v M1 n1 (vs.map (gx_den (gg_dk G) ad)).toArray)
    (hrs : ∀ v, gx_rs (gy_s Y') v rest = rs v) (hk : ∀ v M1 n1 c1, gxJ G Y K (pc + 3) (rs v) L M1 n1 c1 (k v M1 n1 c1)) : gxJ G Y K pc st L M n c (f M n c (fun v M n c => gx_nth v (k v M n c))) := fun h =>
  gj_call hM h hrun (fun q hq => by rw [hst]; exact List.mem_append_right _ hq) (fun v M1 n1 c1 hv _ => by
    rw [hrs]
    intro hz
    have hz : Bool.rec (motive := fun _ => Bool) (k v M1 n1 c1) false (Nat.beq v gx_T) = true := hz
    cases hb : Nat.beq v gx_T with
    | true => rw [hb] at hz; cases hz
    | false => rw [hb] at hz; exact hk v M1 n1 c1 hz) (fun M1 n1 c1 _ hz => by
    have hz : Bool.rec (motive := fun _ => Bool) (k gx_T M1 n1 c1) false (Nat.beq gx_T gx_T) = true := hz
    rw [show Nat.beq gx_T gx_T = true by decide +kernel] at hz
    cases hz) rfl
theorem gx_lc_setb {dk ad : Nat → Nat} {nL : Nat} {ls' : Array Slot} {L : List gxV} {i : Nat} {w : Value} (hp : gx_pl L i = true)
    (h' : lv_has ls' nL ((i, w) :: (gx_ll dk ad 0 L).filter (fun q => !(q.1 == i) && !(q.1 + 1 == i && q.2.category == 2)))) : gx_lc dk ad nL ls' (L.set i gB) := by
  refine ⟨h'.1, h'.2.1, fun q hq => ?_⟩
  obtain ⟨j, x, h3, h4, rfl⟩ := (gx_ll_mem _ _ _).mp hq
  refine h'.2.2 (0 + j, gx_den dk ad x) ?_
  rw [List.getElem?_set] at h3
  by_cases hj : i = j
  · rw [if_pos hj] at h3
    subst hj
    split at h3
    · obtain rfl := Option.some.inj h3
      exact nomatch h4
    · exact nomatch h3
  · rw [if_neg hj] at h3
    refine List.mem_cons_of_mem _ (List.mem_filter.mpr ⟨(gx_ll_mem L 0 _).mpr ⟨j, x, h3, h4, rfl⟩, ?_⟩)
    by_cases hj1 : j + 1 = i
    · subst hj1
      have hp : (match L[j]? with | some v => !gx_lg v | none => true) = true := hp
      rw [h3] at hp
      have hp : (!gx_lg x) = true := hp
      have hc := gx_cat (dk := dk) (ad := ad) (v := x) (by cases hx : gx_lg x; rfl; rw [hx] at hp; exact nomatch hp)
      simp [hc]
    · simp
      omega
theorem gj_c3 {rs : Nat → List gxV} {h sl : Nat} (a : List gxV) (hst : st = a ++ rest) (hM : gxM G Y' y vs f) (hrun : ∀ (p : Program) (e : Env) (R : Room) (s : State) (m : MethodId) (args : Array Value) (below : List Frame) (meth : Method) (cd : Code), gxX G Y p R s m args meth cd →
      ∀ (cells slots : Nat) (cw : List gxq) (ad : Nat → Nat) (H : Heap) (locs : List Loc) (ls : Array Slot), gxI G ad cw M n H → va_S (gxA G) s.heap H locs → gx_lc (gg_dk G) ad (gy_l Y) ls L → gv_oks (gg_cr G ++ cw) st → ∀ v M1 n1 c1 : Nat, gxC G Y' y vs cw ad M n c v M1 n1 c1 → cells + (c1 - c) ≤ R.cells → slots + (n1 - n) ≤ R.slots →
        gxRun G Y' p e R s m args below meth cd H locs cells slots (c1 - c) (n1 - n) (F0 m pc ls (st.map (gx_den (gg_dk G) ad))) (rest.map (gx_den (gg_dk G) ad)) ad cw v M1 n1 (vs.map (gx_den (gg_dk G) ad)).toArray)
    {k : Nat → Nat → Nat → Bool} {row : ExceptionTableEntry} (hsl : sl < gy_l Y) (hp : gx_pl L sl = true) (hfind : (tableOf (gy_h Y)).find? (fun z => covers z pc) = some row) (hrow : row.catchType ≠ 0 ∧ row.handlerPc = h) (hlk : Cond.classLink (gy_o Y) row.catchType "java/lang/UnsupportedOperationException" ∈ gx_ws) (hcs : Cond.castable "java/lang/UnsupportedOperationException" "java/lang/UnsupportedOperationException" ∈ gx_ws) (hdh : decode (gy_b Y) h = .ok (.astore sl, 2)) (hk : ∀ M1 n1 c1, gxJ G Y K (h + 2) [] (L.set sl gB) M1 n1 c1 (k M1 n1 c1)) : gxJ G Y K pc st L M n c (f M n c (fun v M n c => gx_ctc v (k M n c))) := fun h9 =>
  gj_call hM h9 hrun (fun q hq => by rw [hst]; exact List.mem_append_right _ hq) (fun v M1 n1 c1 hv hz => by
    have hz : Bool.rec (motive := fun _ => Bool) false (k M1 n1 c1) (Nat.beq v gx_T) = true := hz
    cases hb : Nat.beq v gx_T with
    | true => exact absurd (gb_beq hb) hv
    | false => rw [hb] at hz; cases hz) (fun M1 n1 c1 _ hz => by
    have hz : Bool.rec (motive := fun _ => Bool) false (k M1 n1 c1) (Nat.beq gx_T gx_T) = true := hz
    rw [show Nat.beq gx_T gx_T = true by decide +kernel] at hz
    obtain ⟨v', M', n', c', g1, g2, g3, g4, gg⟩ := hk M1 n1 c1 hz
    refine ⟨v', M', n', c', g1, g2, g3, g4, fun p e R s m args below meth cd X c0 n0 cw0 ad0 hc hn cells slots cw ad H locs ls q ce U hce hcv hcl => ?_⟩
    have X0 := X
    obtain ⟨u1, u2, uI, ua, ud, uS, uL, us, ul⟩ := U
    obtain ⟨x1, x2, x3, x4, x5, x6, x7, x8, x11, x12, x13, x14, x15, x16, x17⟩ := X
    obtain ⟨hcov, pre, suf, hsp, hpre⟩ := List.find?_eq_some_iff_append.mp hfind
    refine vx_catch x5 pre row suf (by rw [x16]; exact hsp) (fun z hz => Or.inl (by
      have h2 : (!covers z pc) = true := hpre z hz
      cases hc2 : covers z pc with
      | false => rfl
      | true => rw [hc2] at h2; cases h2)) hcov hrow.1 (x6 _ hlk) (x6 _ hcs) hce hcv hcl ?_
    rw [hrow.2]
    exact lv_astore x1 x2 hdh uL hsl rfl (fun ls' h' => gg p e R s m args below meth cd X0 c0 n0 cw0 ad0 hc hn cells slots cw ad H locs ls' ⟨u1, u2, uI, ua, ud, uS, gx_lc_setb hp h', gv_oks_nil, gv_oks_set ul trivial⟩)) rfl
noncomputable def gx_min (x y : Nat) (k : Nat → Bool) : Bool := Bool.rec (motive := fun _ => Bool) false (Bool.rec (motive := fun _ => Bool) (k x) (k y) (Nat.ble (Nat.succ y) x)) (Nat.ble (Nat.lor x y) 2147483647)
theorem gr_min {index x y : Nat} {k : Nat → Bool} (hdg : decode (gy_b Y) pc = .ok (.invokestatic index, 3)) (hl : Cond.methodLink (gy_o Y) index Lib.Math.min.name ∈ gx_ws) (hs : Cond.static Lib.Math.min.name ∈ gx_ws) (hi : Cond.initialized "java/lang/Math" ∈ gx_ws) (hc : Cond.code Lib.Math.min.name Lib.Math.min.code 2 (some .int) ∈ gx_ws) (hf : 1 ≤ gy_f Y) (hk9 : 22 ≤ gy_k Y) (hcat : gx_cats st ≤ 9) (hk : ∀ z, gxJ G Y K (pc + 3) (gI z :: st) L M n c (k z)) : gxJ G Y K pc (gI y :: gI x :: st) L M n c (gx_min x y k) := fun h => by
  obtain ⟨hc3, h⟩ := gb_t h
  obtain ⟨h1, h2⟩ := go_cc3 hc3
  obtain ⟨z, hz, hN⟩ : ∃ z, k z = true ∧ (if nI y < nI x then nI y else nI x) = gx_N (gg_dk G) z := by
    have e := nI_ltI h2 h1
    rcases gb_true h with ⟨hq, h⟩ | ⟨hq, h⟩
    · exact ⟨y, h, by rw [if_pos (e.mpr (gb_ble hq)), gn_c (by omega)]⟩
    · have := gb_nble hq
      exact ⟨x, h, by rw [if_neg (fun q => absurd (e.mp q) (by omega)), gn_c (by omega)]⟩
  refine gj_go3 (hk z) (Nat.le_refl _) (Nat.le_refl _) (fun p e R s m args below meth cd X cells slots cw ad H locs ls Q uI uS uL us ul hc9 hn9 kk => ?_) hz rfl
  obtain ⟨x1, x2, x3, x4, x5, x6, x7, ⟨x8, x9, x10⟩, x11, x12, x13, x14, x15⟩ := X
  rw [Nat.sub_self, Nat.sub_self] at kk
  have w := kk cw ad H locs ls gx_sb_rf gx_agr_rf uI uS uL (gv_oks_cons trivial (gv_2 us)) ul
  rw [List.map_cons, show gx_den (gg_dk G) ad (gI z) = .int (if nI y < nI x then nI y else nI x) from congrArg Value.int hN.symm] at w
  rw [List.map_cons, List.map_cons, show gx_den (gg_dk G) ad (gI y) = .int (nI y) from congrArg Value.int (gn_c (by omega)), show gx_den (gg_dk G) ad (gI x) = .int (nI x) from congrArg Value.int (gn_c (by omega))]
  refine va_mmin x1 x2 (by rw [x3]; exact uL.1.symm) x5 (x6 _ hl) (x6 _ hs) (x6 _ hi) (x6 _ hc) (Nat.le_trans hf x13) ?_ (by omega) (by omega) hdg w
  have q1 : ((st.map (gx_den (gg_dk G) ad)).map fun v => v.category).sum ≤ 9 := Nat.le_trans (gx_cats_sum st) hcat
  omega
theorem gh_W {index t : Nat} {h0 : Nat × Nat × Nat × Nat} {t0 : List (Nat × Nat × Nat × Nat)} {C : String} {T : u_T} {N : Nat} (hdg : decode (gy_b Y) pc = .ok (.invokevirtual index, 3)) (hst : st = vs.reverse ++ gR t x :: rest) (hx : x ≠ 0) (ht : gx_cl[t]? = some (C, T, N)) (hh : gy_h Y' = h0 :: t0) (hx' : gy_x Y' = false) (hk : gh_ok Y Y' y vs.length) (hl : Cond.methodLink (gy_o Y) index y ∈ gx_ws) (hi : Cond.instanceMethod y ∈ gx_ws) (hs : Cond.selects C y y ∈ gx_ws) (hcat : gx_cats rest ≤ 8) :
    ∀ (p : Program) (e : Env) (R : Room) (s : State) (m : MethodId) (args : Array Value) (below : List Frame) (meth : Method) (cd : Code), gxX G Y p R s m args meth cd →
      ∀ (cells slots : Nat) (cw : List gxq) (ad : Nat → Nat) (H : Heap) (locs : List Loc) (ls : Array Slot), gxI G ad cw M n H → va_S (gxA G) s.heap H locs → gx_lc (gg_dk G) ad (gy_l Y) ls L → gv_oks (gg_cr G ++ cw) st → ∀ v M1 n1 c1 : Nat, gxC G Y' y (gR t x :: vs) cw ad M n c v M1 n1 c1 → cells + (c1 - c) ≤ R.cells → slots + (n1 - n) ≤ R.slots →
        gxRun G Y' p e R s m args below meth cd H locs cells slots (c1 - c) (n1 - n) (F0 m pc ls (st.map (gx_den (gg_dk G) ad))) (rest.map (gx_den (gg_dk G) ad)) ad cw v M1 n1 ((gR t x :: vs).map (gx_den (gg_dk G) ad)).toArray := by
  intro p e R s m args below meth cd X cells slots cw ad H locs ls uI uS uL us v M1 n1 c1 hC hc9 hn9
  subst hst
  have us2 : gv_oks (gg_cr G ++ cw) (gR t x :: vs) := fun w hw => us w (by rcases List.mem_cons.mp hw with e | e <;> simp [e])
  obtain ⟨k1, k2, k3, k4, k5, k6⟩ := hk
  have hp := gh_pay X k1
  have hw : gy_w Y' y = .codeWith y (gy_b Y') (gy_l Y') (gy_r Y') (h0 :: t0) := by unfold gy_w; rw [hh]
  obtain ⟨x1, x2, x3, x4, x5, x6, x7, ⟨x8, x9, x10⟩, x11, x12⟩ := X
  have hcw : vx_CVW R s args (gy_o Y) C index y (gy_b Y') (gy_l Y') (gy_r Y') (h0 :: t0) (gy_w Y' y :: gx_gs) { frames := gy_f Y', cells := c1 - c, slots := n1 - n, locals := gy_k Y' } (c1 - c) (n1 - n) vs.length :=
    ⟨⟨rfl, rfl, Nat.le_trans k5 x12.2.1, Nat.le_trans k6 x12.2.2.1, hp, by rw [hw]; exact List.mem_cons_self⟩, by rw [← hw]; exact x6 _ k1, x6 _ k2, k3, fun sig h => by
      rw [h] at k4
      exact (Option.some.inj k4).symm, x6 _ hl, x6 _ hi, x6 _ hs⟩
  have hpre := gxPc_at x8 uI us2
  rw [List.map_cons, gs_ref hx] at hpre
  have hPV : PreV s H C (ad x) (gxPc G ad cw (gR t x :: vs) M n) (vs.map (gx_den (gg_dk G) ad)) := ⟨gxPc_blind, gs_recv ht x9 x11 uI uS (us2 _ List.mem_cons_self) hx, hpre⟩
  have hsk : ((vs.reverse ++ gR t x :: rest).map (gx_den (gg_dk G) ad)) = (vs.map (gx_den (gg_dk G) ad)).reverse ++ .ref (ad x) :: rest.map (gx_den (gg_dk G) ad) := by
    rw [List.map_append, List.map_reverse, List.map_cons, gs_ref hx]
  have hW8 : 2 * (F0 m pc ls ((vs.reverse ++ gR t x :: rest).map (gx_den (gg_dk G) ad))).monitorRoom + ((rest.map (gx_den (gg_dk G) ad)).map fun v => v.category).sum ≤ 8 := lv_room (Nat.le_trans (gx_cats_sum rest) hcat)
  rw [List.map_cons, gs_ref hx]
  rcases gh_C hC with ⟨h9, hM⟩ | ⟨-, hM⟩
  · rw [hx'] at h9; cases h9
  · exact va_to_vx (vx_runVW ⟨x1, x2, x3, x5, x6⟩ hM hcw hPV rfl (by rw [List.length_map]) uL.1 hsk hW8 hdg ⟨hc9, hn9⟩)
end MRS
/-! by hand: the law's draw, String.checkIndex, Farfiles.refuse -/
def gY_draw : gxY := (false, method_3_code, 3, (Option.some Jvm.ClassFile.FieldType.int), "FarfilesLaw", 3, 120, 0, [], "draw")
noncomputable def gx_g (b e : Bool) : Bool := Bool.rec (motive := fun _ => Bool) false e b
noncomputable def fd_draw (T x nn M n c : Nat) (K : Nat → Nat → Nat → Nat → Bool) : Bool := gx_get x 1 M (fun a => gx_g (Bool.and (Nat.ble a 1000) (Bool.and (Nat.beq (gx_rd M x) 1) (Bool.or (Nat.beq a 0) (Nat.beq (gx_rd M (Nat.add x 2)) 85899345920))))
  (gx_put x 2 85899345920 M gx_f0 (fun M1 => gx_g (Nat.beq (gx_rd M1 (Nat.add x 1)) a) (gx_put x 1 (Nat.add a 1) M1 gx_f0 (fun M2 => gx_g (Bool.and (Nat.beq (gx_rd M2 x) 1) (Bool.and (Nat.beq (gx_rd M2 (Nat.add x 1)) (Nat.add a 1)) (Nat.beq (gx_rd M2 (Nat.add x 2)) 85899345920)))
    (gx_g (Bool.and (Nat.beq (gx_rd T (Nat.add a 64)) nn) (Bool.and (Nat.ble 1 nn) (Nat.ble nn 1000))) (gx_rt gx_f0 (gx_rd T a) (K (gx_rd T a) M2 n c))))))))
noncomputable def fd_pre (i ln M n c : Nat) (K : Nat → Nat → Nat → Nat → Bool) : Bool := gx_lt i 0 false (gx_lt i ln (gx_rt gx_f0 i (K i M n c)) false)
noncomputable def fd_sci (i ln M n c : Nat) (K : Nat → Nat → Nat → Nat → Bool) : Bool := fd_pre i ln M n c (fun _ M1 n1 c1 => K 0 M1 n1 c1)
noncomputable def fd_ref (x w M n c : Nat) (K : Nat → Nat → Nat → Nat → Bool) : Bool := gx_put x 15 w M gx_f1 (fun M => Bool.rec (motive := fun _ => Bool) false (K gx_T M (Nat.add n 6) (Nat.succ c)) (Nat.ble n 1000000))
