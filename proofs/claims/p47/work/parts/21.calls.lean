/-! RULES: calls. -/
noncomputable def gx_nn (x : Nat) (e : Bool) : Bool := Bool.rec (motive := fun _ => Bool) e false (Nat.beq x 0)
/-- a callee that may throw: then so does its caller -/
noncomputable def gx_thr (K : Nat → Nat → Nat → Nat → Bool) (v M n c : Nat) (e : Bool) : Bool := Bool.rec (motive := fun _ => Bool) e (K gx_T M n c) (Nat.beq v gx_T)
def gx_rs (σ v : Nat) (rest : List gxV) : List gxV := if σ = 5 then rest else gx_sl σ v :: rest
def gx_cats : List gxV → Nat
  | [] => 0
  | v :: t => (match gx_lg v with | true => 2 | false => 1) + gx_cats t
theorem gx_cats_sum {dk ad : Nat → Nat} : ∀ (L : List gxV), ((L.map (gx_den dk ad)).map fun v => v.category).sum ≤ gx_cats L := by
  intro L
  induction L with
  | nil => exact Nat.le_refl _
  | cons v t ih =>
    show (gx_den dk ad v).category + _ ≤ _ + gx_cats t
    cases h : gx_lg v with
    | false => rw [gx_cat h]; exact Nat.add_le_add_left ih 1
    | true =>
      rcases v with x | x | x | x
      · exact nomatch h
      · exact Nat.add_le_add_left ih 2
      · exact nomatch h
      · exact nomatch h
section CLS
variable {G : gxG} {Y Y' : gxY} {K : Nat → Nat → Nat → Nat → Bool} {pc : Nat} {st L rest vs : List gxV} {M n c x : Nat} {y : MethodName} {f : Nat → Nat → Nat → (Nat → Nat → Nat → Nat → Bool) → Bool} {k : Nat → Nat → Nat → Nat → Bool}
theorem gxPc_blind {G : gxG} {ad : Nat → Nat} {cw : List gxq} {vs : List gxV} {M n : Nat} : FrameBlind (gxPc G ad cw vs M n) := fun _ _ _ _ h => h
theorem gxPc_at {s : State} {cw : List gxq} {ad : Nat → Nat} {H : Heap} (hW : (gg_s G).WarmedH s.vm) (uI : gxI G ad cw M n H) (us : gv_oks (gg_cr G ++ cw) vs) : ∀ U : State, U.heap = H → s.WarmedH U.vm → gxPc G ad cw vs M n (vs.map (gx_den (gg_dk G) ad)).toArray U := fun U hU hW2 => ⟨rfl, State.WarmedH.trans hW hW2, by rw [hU]; exact uI, us⟩
/-- what a call's run owes -/
def gxRun (G : gxG) (Y' : gxY) (p : Program) (e : Env) (R : Room) (s : State) (m : MethodId) (args : Array Value) (below : List Frame) (meth : Method) (cd : Code) (H : Heap) (locs : List Loc) (cells slots mc ms : Nat) (g : JFrame) (rest : List Value) (ad : Nat → Nat) (cw : List gxq) (v M1 n1 : Nat) (a : Array Value) : Prop :=
  vx_Run p (gg_l G) e R s m args below meth cd H locs cells slots mc ms g rest (gxQc G (gy_s Y') ad cw v M1 n1 a) (gxXC G ad cw v M1 n1) (gxA G)
theorem va_to_vx {p : Program} {l : Launch} {e : Env} {R : Room} {s : State} {m : MethodId} {args : Array Value} {below : List Frame} {meth : Method} {c : Code} {H : Heap} {locs : List Loc} {cells slots mc ms : Nat} {g : JFrame} {rest : List Value} {Qa : State → Outcome → State → Prop} {XC : String → State → State → Prop} {free : Addr → Prop}
    (h : va_Run p l e R s m args below meth c H locs cells slots mc ms g rest Qa free) : vx_Run p l e R s m args below meth c H locs cells slots mc ms g rest Qa XC free := fun T hT X => Or.inl (h T hT X)
theorem gj_call (hM : gxM G Y' y vs f) (hf : f M n c k = true)
    (hrun : ∀ (p : Program) (e : Env) (R : Room) (s : State) (m : MethodId) (args : Array Value) (below : List Frame) (meth : Method) (cd : Code), gxX G Y p R s m args meth cd →
      ∀ (cells slots : Nat) (cw : List gxq) (ad : Nat → Nat) (H : Heap) (locs : List Loc) (ls : Array Slot), gxI G ad cw M n H → va_S (gxA G) s.heap H locs → gx_lc (gg_dk G) ad (gy_l Y) ls L → gv_oks (gg_cr G ++ cw) st → ∀ v M1 n1 c1 : Nat, gxC G Y' y vs cw ad M n c v M1 n1 c1 → cells + (c1 - c) ≤ R.cells → slots + (n1 - n) ≤ R.slots →
        gxRun G Y' p e R s m args below meth cd H locs cells slots (c1 - c) (n1 - n) (F0 m pc ls (st.map (gx_den (gg_dk G) ad))) (rest.map (gx_den (gg_dk G) ad)) ad cw v M1 n1 (vs.map (gx_den (gg_dk G) ad)).toArray)
    (hsub : ∀ q ∈ rest, q ∈ st)
    (hk : ∀ v M1 n1 c1, v ≠ gx_T → k v M1 n1 c1 = true → gxJ G Y K (pc + 3) (gx_rs (gy_s Y') v rest) L M1 n1 c1 (k v M1 n1 c1))
    (hx : ∀ M1 n1 c1, gy_x Y' = true → k gx_T M1 n1 c1 = true → ∃ v' M' n' c', K v' M' n' c' = true ∧ n1 ≤ n' ∧ c1 ≤ c' ∧ (gy_x Y = false → v' ≠ gx_T) ∧ ∀ (p : Program) (e : Env) (R : Room) (s : State) (m : MethodId) (args : Array Value) (below : List Frame) (meth : Method) (cd : Code), gxX G Y p R s m args meth cd →
      ∀ (c0 n0 : Nat) (cw0 : List gxq) (ad0 : Nat → Nat), R.cells + c0 = c' → R.slots + n0 = n' → ∀ (cells slots : Nat) (cw : List gxq) (ad : Nat → Nat) (H : Heap) (locs : List Loc) (ls : Array Slot) (q : Addr) (ce : Cell), gxU G s (gy_l Y) c0 n0 cw0 ad0 [] L M1 n1 c1 cells slots cw ad H locs ls →
        H[q]? = some ce → ce.vm = .none → s.vm.findClass "java/lang/UnsupportedOperationException" = some ce.cls →
        vx_W p (gg_l G) e R s m args below meth cd H locs cells slots (gxQ (gy_x Y) below (gxQc G (gy_s Y) ad0 cw0 v' M' n') (gxXC G ad0 cw0 v' M' n') args s R.cells R.slots (gxA G)) (F0 m pc ls (rest.map (gx_den (gg_dk G) ad))) q) : gxJ G Y K pc st L M n c true := by
  intro _
  obtain ⟨v, M1, n1, c1, h1, h2, h3, h4, hC⟩ := hM M n c k hf
  have step : ∀ {e : Env} {p : Program} {R : Room} {s : State} {m : MethodId} {args : Array Value} {below : List Frame} {meth : Method} {cd : Code} {cw : List gxq} {ad : Nat → Nat} {H : Heap} {locs L9 : List Loc} {st₀ t T' : State} {cw' : List gxq} {ad' : Nat → Nat} {ls : Array Slot} {cells slots c0 n0 : Nat} {cw0 : List gxq} {ad0 : Nat → Nat},
      gxU G s (gy_l Y) c0 n0 cw0 ad0 st L M n c cells slots cw ad H locs ls → st₀.heap = H → T'.heap = t.heap → (∀ q ∈ L9, gxA G q.base) → gx_agr cw ad ad' → gx_sb cw cw' → gxI G ad' cw' M1 n1 t.heap → va_F (gxA G) st₀ t →
      va_S (gxA G) s.heap T'.heap (locs ++ L9) ∧ gx_agr cw0 ad0 ad' ∧ gx_sb cw0 cw' ∧ gx_lc (gg_dk G) ad' (gy_l Y) ls L ∧ gv_oks (gg_cr G ++ cw') rest ∧ gv_oks (gg_cr G ++ cw') L ∧ rest.map (gx_den (gg_dk G) ad') = rest.map (gx_den (gg_dk G) ad) := by
    intro e p R s m args below meth cd cw ad H locs L9 st₀ t T' cw' ad' ls cells slots c0 n0 cw0 ad0 U h0 e1 hL ha hs hI hF
    obtain ⟨u1, u2, uI, ua, ud, uS, uL, us, ul⟩ := U
    obtain ⟨-, -, k3⟩ := vx_keep (A0 := gxA G) (A1 := gxA G) (free := gxA G) h0 e1 uS (fun _ _ h => h) (fun _ h => h) hL hF
    have ha2 : gx_agr (gg_cr G ++ cw) ad ad' := by
      intro q hq
      rcases List.mem_append.mp hq with hq | hq
      · rw [hI.2.2.2.2.2.2.2.2.2 q hq, uI.2.2.2.2.2.2.2.2.2 q hq]
      · exact ha q hq
    have hrs : gv_oks (gg_cr G ++ cw) rest := fun q hq => us q (hsub q hq)
    exact ⟨k3, gx_agr_tr ud ua ha, gx_sb_tr ud hs, gx_lc_agr uL ul ha2, gv_oks_sub hrs (gx_sb_app hs), gv_oks_sub ul (gx_sb_app hs), gs_map hrs ha2⟩
  by_cases hv : v = gx_T
  · subst hv
    have hY : gy_x Y' = true := by
      cases hb : gy_x Y' with
      | true => rfl
      | false => exact absurd rfl (h4 hb)
    obtain ⟨v', M', n', c', g1, g2, g3, g4, gg⟩ := hx M1 n1 c1 hY h1
    refine ⟨v', M', n', c', g1, Nat.le_trans h2 g2, Nat.le_trans h3 g3, g4, fun p e R s m args below meth cd X c0 n0 cw0 ad0 hc hn cells slots cw ad H locs ls U => ?_⟩
    have U0 := U
    obtain ⟨u1, u2, uI, ua, ud, uS, uL, us, ul⟩ := U
    intro T hT ST
    rcases hrun p e R s m args below meth cd X cells slots cw ad H locs ls uI uS uL us gx_T M1 n1 c1 (hC cw ad) (by omega) (by omega) T hT ST with ⟨w, st₀, t, T', L9, h0, X', hL, e1, e2, ⟨hq0, -⟩, -⟩ | ⟨q, st₀, t, T', L9, E, ce, h0, X', hL, e1, e2, ⟨-, ad', cw', hE, ha, hs, hI, hF⟩, hce, hcv, hcl, stp⟩
    · exact absurd rfl hq0
    · subst hE
      obtain ⟨k3, k4, k5, k6, k7, k8, k9⟩ := step (e := e) (p := p) (R := R) (m := m) (args := args) (below := below) (meth := meth) (cd := cd) U0 h0 e1 hL ha hs hI hF
      have w := gg p e R s m args below meth cd X c0 n0 cw0 ad0 hc hn (cells + (c1 - c)) (slots + (n1 - n)) cw' ad' T'.heap (locs ++ L9) ls q ce ⟨by omega, by omega, by rw [e1]; exact hI, k4, k5, k3, k6, gv_oks_nil, k8⟩ (by rw [e1]; exact hce) hcv hcl
      rw [k9] at w
      obtain ⟨t2, a1, b1⟩ := w T' rfl X'
      exact ⟨t2, stp.trans a1, b1⟩
  · obtain ⟨v', M', n', c', g1, g2, g3, g4, gg⟩ := hk v M1 n1 c1 hv h1 h1
    refine ⟨v', M', n', c', g1, Nat.le_trans h2 g2, Nat.le_trans h3 g3, g4, fun p e R s m args below meth cd X c0 n0 cw0 ad0 hc hn cells slots cw ad H locs ls U => ?_⟩
    have U0 := U
    obtain ⟨u1, u2, uI, ua, ud, uS, uL, us, ul⟩ := U
    intro T hT ST
    rcases hrun p e R s m args below meth cd X cells slots cw ad H locs ls uI uS uL us v M1 n1 c1 (hC cw ad) (by omega) (by omega) T hT ST with ⟨w, st₀, t, T', L9, h0, X', hL, e1, e2, ⟨hq0, ad', cw', hr, ha, hs, hI, hok, hF⟩, stp⟩ | ⟨q, st₀, t, T', L9, E, ce, h0, X', hL, e1, e2, ⟨hq0, -⟩, -⟩
    · obtain ⟨k3, k4, k5, k6, k7, k8, k9⟩ := step (e := e) (p := p) (R := R) (m := m) (args := args) (below := below) (meth := meth) (cd := cd) U0 h0 e1 hL ha hs hI hF
      have hro : gv_oks (gg_cr G ++ cw') (gx_rs (gy_s Y') v rest) := by
        unfold gx_rs
        split
        · exact k7
        · exact gv_oks_cons hok k7
      have w := gg p e R s m args below meth cd X c0 n0 cw0 ad0 hc hn (cells + (c1 - c)) (slots + (n1 - n)) cw' ad' T'.heap (locs ++ L9) ls ⟨by omega, by omega, by rw [e1]; exact hI, k4, k5, k3, k6, hro, k8⟩
      cases hr
      have hst : (gx_rs (gy_s Y') v rest).map (gx_den (gg_dk G) ad') = (gx_ret (gg_dk G) ad' (gy_s Y') v).toList ++ rest.map (gx_den (gg_dk G) ad) := by
        unfold gx_rs gx_ret
        split
        · rw [k9]; rfl
        · rw [List.map_cons, k9]; rfl
      rw [hst] at w
      obtain ⟨t2, a1, b1⟩ := w T' rfl X'
      exact ⟨t2, stp t2 a1, b1⟩
    · exact absurd hq0 hv
/-- thrown on: a caller without handlers -/
theorem gj_out (hh : gy_h Y = []) (hY : gy_x Y = true) : ∀ M1 n1 c1, K gx_T M1 n1 c1 = true → ∃ v' M' n' c', K v' M' n' c' = true ∧ n1 ≤ n' ∧ c1 ≤ c' ∧ (gy_x Y = false → v' ≠ gx_T) ∧ ∀ (p : Program) (e : Env) (R : Room) (s : State) (m : MethodId) (args : Array Value) (below : List Frame) (meth : Method) (cd : Code), gxX G Y p R s m args meth cd →
      ∀ (c0 n0 : Nat) (cw0 : List gxq) (ad0 : Nat → Nat), R.cells + c0 = c' → R.slots + n0 = n' → ∀ (cells slots : Nat) (cw : List gxq) (ad : Nat → Nat) (H : Heap) (locs : List Loc) (ls : Array Slot) (q : Addr) (ce : Cell), gxU G s (gy_l Y) c0 n0 cw0 ad0 [] L M1 n1 c1 cells slots cw ad H locs ls →
        H[q]? = some ce → ce.vm = .none → s.vm.findClass "java/lang/UnsupportedOperationException" = some ce.cls →
        vx_W p (gg_l G) e R s m args below meth cd H locs cells slots (gxQ (gy_x Y) below (gxQc G (gy_s Y) ad0 cw0 v' M' n') (gxXC G ad0 cw0 v' M' n') args s R.cells R.slots (gxA G)) (F0 m pc ls (rest.map (gx_den (gg_dk G) ad))) q := by
  intro M1 n1 c1 hK
  refine ⟨gx_T, M1, n1, c1, hK, Nat.le_refl _, Nat.le_refl _, (by intro h; rw [hY] at h; cases h), fun p e R s m args below meth cd X c0 n0 cw0 ad0 hc hn cells slots cw ad H locs ls q ce U hce hcv hcl => ?_⟩
  obtain ⟨u1, u2, uI, ua, ud, uS, uL, us, ul⟩ := U
  obtain ⟨x1, x2, x3, x4, x5, x6, x7, x8, x11, x12, x13, x14, x15, x16, -⟩ := X
  rw [hY]
  refine vx_out (fun x hx => ?_) x7 hce hcv hcl (fun t ht hA => ⟨rfl, ad, cw, rfl, ua, ud, by rw [ht]; exact uI, uS.F ht⟩) uS.2.2 (by omega) (by omega)
  rw [x16, hh] at hx
  exact nomatch hx
theorem gy_w0 (hh : gy_h Y' = []) : gy_w Y' y = .code y (gy_b Y') (gy_l Y') (gy_r Y') := by
  unfold gy_w
  rw [hh]
theorem gh_pay {p : Program} {R : Room} {s : State} {m : MethodId} {args : Array Value} {meth : Method} {cd : Code} (X : gxX G Y p R s m args meth cd) (hw : gy_w Y' y ∈ gx_ws) : ∀ w ∈ gy_w Y' y :: gx_gs, ∀ (a' : Array Value) (U : State), s.WarmedH U.vm → w.before a' U = true := pay_in X.2.2.2.2.2.1 (gx_goodc hw (gy_wg _ _))
/-- what the tables must say of a callee -/
def gh_ok (Y Y' : gxY) (y : MethodName) (n : Nat) : Prop := gy_w Y' y ∈ gx_ws ∧ Cond.initialized y.cls ∈ gx_ws ∧ (y.cls ≠ "java/lang/invoke/MethodHandle" ∧ y.cls ≠ "java/lang/invoke/VarHandle") ∧ (parseMethodDescriptor y.desc).map (fun d => d.parameters.length) = some n ∧ gy_f Y' + 1 ≤ gy_f Y ∧ 8 + (gy_l Y' + 11) + gy_k Y' ≤ gy_k Y
theorem gh_B {p : Program} {R : Room} {s : State} {m : MethodId} {args : Array Value} {meth : Method} {cd : Code} {mc ms n index : Nat} (X : gxX G Y p R s m args meth cd) (hh : gy_h Y' = []) (hk : gh_ok Y Y' y n) (hl : Cond.methodLink (gy_o Y) index y ∈ gx_ws) :
    CallB R s args (gy_o Y) index y (gy_b Y') (gy_l Y') (gy_r Y') (gy_w Y' y :: gx_gs) { frames := gy_f Y', cells := mc, slots := ms, locals := gy_k Y' } mc ms n := by
  obtain ⟨k1, k2, k3, k4, k5, k6⟩ := hk
  have hp := gh_pay X k1
  have hx := X.2.2.2.2.2.1
  have x13 := X.2.2.2.2.2.2.2.2.2.2.1
  have x14 := X.2.2.2.2.2.2.2.2.2.2.2.1
  refine ⟨rfl, rfl, Nat.le_trans k5 x13, Nat.le_trans k6 x14, hp, by rw [gy_w0 hh]; exact List.mem_cons_self, by rw [← gy_w0 hh]; exact hx _ k1, hx _ k2, k3, fun sig h => ?_, hx _ hl⟩
  rw [h] at k4
  exact (Option.some.inj k4).symm
theorem gh_C {v M1 n1 c1 : Nat} {cw : List gxq} {ad : Nat → Nat} (hC : gxC G Y' y vs cw ad M n c v M1 n1 c1) :
    (gy_x Y' = true ∧ vx_Met (gg_l G) y (gy_w Y' y :: gx_gs) { frames := gy_f Y', cells := c1 - c, slots := n1 - n, locals := gy_k Y' } (gxPc G ad cw vs M n) (gxQc G (gy_s Y') ad cw v M1 n1) (gxXC G ad cw v M1 n1) (c1 - c) (n1 - n) (gxA G)) ∨
    (gy_x Y' = false ∧ Met (gg_l G) y (gy_w Y' y :: gx_gs) { frames := gy_f Y', cells := c1 - c, slots := n1 - n, locals := gy_k Y' } (gxPc G ad cw vs M n) (gxQc G (gy_s Y') ad cw v M1 n1) (c1 - c) (n1 - n) (gxA G)) := by
  unfold gxC at hC
  split at hC
  · next h => exact Or.inl ⟨h, hC⟩
  · next h => exact Or.inr ⟨h, hC⟩
theorem gs_recv {s : State} {cw : List gxq} {ad : Nat → Nat} {H : Heap} {locs : List Loc} {t : Nat} {C : String} {T : u_T} {N : Nat} (ht : gx_cl[t]? = some (C, T, N)) (hR : gxR G s) (hK : va_K (gg_D G) gx_cl (gx_tys (gg_cT G)) s) (uI : gxI G ad cw M n H) (uS : va_S (gxA G) s.heap H locs) (ho : gv_ok (gg_cr G ++ cw) (gR t x)) (hx : x ≠ 0) :
    ∃ cellB : Cell, H[ad x]? = some cellB ∧ cellB.vm.isStatics = false ∧ s.vm.findClass C = some cellB.cls := by
  obtain ⟨g1, g2, g3⟩ := gk ht
  obtain ⟨z, hz, z1, z2⟩ := gs_find ho hx
  subst z1
  rcases List.mem_append.mp hz with hz | hz
  · obtain ⟨r1, r2, r3, r4⟩ := hR z hz
    obtain ⟨⟨r5, -⟩, r6, -⟩ := r3 (by omega)
    rw [uI.2.2.2.2.2.2.2.2.2 z hz]
    obtain ⟨cell, h1, h2, h3, -⟩ := r6.kept uS.2.1
    refine ⟨cell, h1, h2, ?_⟩
    have e8 : C = RJ0 := by
      rw [← z2, r5] at ht
      cases ht
      rfl
    rw [e8]
    exact h3
  · have hP := gs_one uI hz
    rw [gs_obj (by omega), z2] at hP
    exact va_recv hK hP ht (q0 := 0) rfl
def gh_st (dk ad : Nat → Nat) (vs rest : List gxV) : List Value := (vs.map (gx_den dk ad)).reverse ++ rest.map (gx_den dk ad)
theorem gh_V {index t : Nat} {C : String} {T : u_T} {N : Nat} (hdg : decode (gy_b Y) pc = .ok (.invokevirtual index, 3)) (hst : st = vs.reverse ++ gR t x :: rest) (hx : x ≠ 0) (ht : gx_cl[t]? = some (C, T, N)) (hh : gy_h Y' = []) (hk : gh_ok Y Y' y vs.length) (hl : Cond.methodLink (gy_o Y) index y ∈ gx_ws) (hi : Cond.instanceMethod y ∈ gx_ws) (hs : Cond.selects C y y ∈ gx_ws) (hcat : gx_cats rest ≤ 8) :
    ∀ (p : Program) (e : Env) (R : Room) (s : State) (m : MethodId) (args : Array Value) (below : List Frame) (meth : Method) (cd : Code), gxX G Y p R s m args meth cd →
      ∀ (cells slots : Nat) (cw : List gxq) (ad : Nat → Nat) (H : Heap) (locs : List Loc) (ls : Array Slot), gxI G ad cw M n H → va_S (gxA G) s.heap H locs → gx_lc (gg_dk G) ad (gy_l Y) ls L → gv_oks (gg_cr G ++ cw) st → ∀ v M1 n1 c1 : Nat, gxC G Y' y (gR t x :: vs) cw ad M n c v M1 n1 c1 → cells + (c1 - c) ≤ R.cells → slots + (n1 - n) ≤ R.slots →
        gxRun G Y' p e R s m args below meth cd H locs cells slots (c1 - c) (n1 - n) (F0 m pc ls (st.map (gx_den (gg_dk G) ad))) (rest.map (gx_den (gg_dk G) ad)) ad cw v M1 n1 ((gR t x :: vs).map (gx_den (gg_dk G) ad)).toArray := by
  intro p e R s m args below meth cd X cells slots cw ad H locs ls uI uS uL us v M1 n1 c1 hC hc9 hn9
  subst hst
  have us2 : gv_oks (gg_cr G ++ cw) (gR t x :: vs) := fun w hw => us w (by rcases List.mem_cons.mp hw with e | e <;> simp [e])
  have hB : CallB R s args (gy_o Y) index y (gy_b Y') (gy_l Y') (gy_r Y') (gy_w Y' y :: gx_gs) { frames := gy_f Y', cells := c1 - c, slots := n1 - n, locals := gy_k Y' } (c1 - c) (n1 - n) vs.length := gh_B X hh hk hl
  obtain ⟨x1, x2, x3, x4, x5, x6, x7, ⟨x8, x9, x10⟩, x11, x12⟩ := X
  have hcw : CallW R s args (gy_o Y) C index y (gy_b Y') (gy_l Y') (gy_r Y') (gy_w Y' y :: gx_gs) { frames := gy_f Y', cells := c1 - c, slots := n1 - n, locals := gy_k Y' } (c1 - c) (n1 - n) vs.length := ⟨hB, x6 _ hi, x6 _ hs⟩
  have hpre := gxPc_at x8 uI us2
  rw [List.map_cons, gs_ref hx] at hpre
  have hPV : PreV s H C (ad x) (gxPc G ad cw (gR t x :: vs) M n) (vs.map (gx_den (gg_dk G) ad)) := ⟨gxPc_blind, gs_recv ht x9 x11 uI uS (us2 _ List.mem_cons_self) hx, hpre⟩
  have hsk : ((vs.reverse ++ gR t x :: rest).map (gx_den (gg_dk G) ad)) = (vs.map (gx_den (gg_dk G) ad)).reverse ++ .ref (ad x) :: rest.map (gx_den (gg_dk G) ad) := by
    rw [List.map_append, List.map_reverse, List.map_cons, gs_ref hx]
  have hW8 : 2 * (F0 m pc ls ((vs.reverse ++ gR t x :: rest).map (gx_den (gg_dk G) ad))).monitorRoom + ((rest.map (gx_den (gg_dk G) ad)).map fun v => v.category).sum ≤ 8 := lv_room (Nat.le_trans (gx_cats_sum rest) hcat)
  rw [List.map_cons, gs_ref hx]
  rcases gh_C hC with ⟨-, hM⟩ | ⟨-, hM⟩
  · exact vx_runV ⟨x1, x2, x3, x5, x6⟩ hM hcw hPV rfl (by rw [List.length_map]) uL.1 hsk hW8 hdg ⟨hc9, hn9⟩
  · exact va_to_vx (va_runV ⟨x1, x2, x3, x5, x6⟩ hM hcw hPV rfl (by rw [List.length_map]) uL.1 hsk hW8 hdg ⟨hc9, hn9⟩)
theorem gh_pack {p : Program} {R : Room} {s : State} {m : MethodId} {args : Array Value} {meth : Method} {cd : Code} {mc ms n : Nat} (X : gxX G Y p R s m args meth cd) (hh : gy_h Y' = []) (hk : gh_ok Y Y' y n) :
    (({ frames := gy_f Y', cells := mc, slots := ms, locals := gy_k Y' } : Room).cells = mc ∧ ({ frames := gy_f Y', cells := mc, slots := ms, locals := gy_k Y' } : Room).slots = ms ∧ ({ frames := gy_f Y', cells := mc, slots := ms, locals := gy_k Y' } : Room).frames + 1 ≤ R.frames ∧ 8 + (gy_l Y' + 11) + ({ frames := gy_f Y', cells := mc, slots := ms, locals := gy_k Y' } : Room).locals ≤ R.locals ∧ (∀ w ∈ gy_w Y' y :: gx_gs, ∀ (a' : Array Value) (U : State), s.WarmedH U.vm → w.before a' U = true) ∧ Cond.code y (gy_b Y') (gy_l Y') (gy_r Y') ∈ gy_w Y' y :: gx_gs) ∧ (Cond.code y (gy_b Y') (gy_l Y') (gy_r Y')).before args s = true ∧ (Cond.initialized y.cls).before args s = true ∧ (y.cls ≠ "java/lang/invoke/MethodHandle" ∧ y.cls ≠ "java/lang/invoke/VarHandle") ∧ (∀ sig, parseMethodDescriptor y.desc = some sig → n = sig.parameters.length) := by
  obtain ⟨k1, k2, k3, k4, k5, k6⟩ := hk
  have hp := gh_pay X k1
  have hx := X.2.2.2.2.2.1
  have x13 := X.2.2.2.2.2.2.2.2.2.2.1
  have x14 := X.2.2.2.2.2.2.2.2.2.2.2.1
  refine ⟨⟨rfl, rfl, Nat.le_trans k5 x13, Nat.le_trans k6 x14, hp, by rw [gy_w0 hh]; exact List.mem_cons_self⟩, by rw [← gy_w0 hh]; exact hx _ k1, hx _ k2, k3, fun sig h => ?_⟩
  rw [h] at k4
  exact (Option.some.inj k4).symm
theorem gh_U {index t : Nat} {C : String} {T : u_T} {N : Nat} (hdg : decode (gy_b Y) pc = .ok (.invokevirtual index, 3)) (hst : st = vs.reverse ++ gR t x :: rest) (hx : x ≠ 0) (ht : gx_cl[t]? = some (C, T, N)) (hk : gh_ok Y Y' y vs.length) {x0 : MethodName} (hx' : gy_x Y' = false) (hh : gy_h Y' = []) (hl : Cond.methodLink (gy_o Y) index x0 ∈ gx_ws) (hd0 : x0.desc = y.desc) (hsm : Cond.sameMethod x0.cls x0.cls x0.name x0.desc ∈ gx_ws) (hi0 : Cond.instanceMethod x0 ∈ gx_ws) (hco : ∃ b0 m0 r0, Cond.code x0 b0 m0 r0 ∈ gx_ws) (hmh : x0.cls ≠ "java/lang/invoke/MethodHandle" ∧ x0.cls ≠ "java/lang/invoke/VarHandle") (hi : Cond.instanceMethod y ∈ gx_ws) (hs : Cond.selects C x0 y ∈ gx_ws) (hcat : gx_cats rest ≤ 8) :
    ∀ (p : Program) (e : Env) (R : Room) (s : State) (m : MethodId) (args : Array Value) (below : List Frame) (meth : Method) (cd : Code), gxX G Y p R s m args meth cd →
      ∀ (cells slots : Nat) (cw : List gxq) (ad : Nat → Nat) (H : Heap) (locs : List Loc) (ls : Array Slot), gxI G ad cw M n H → va_S (gxA G) s.heap H locs → gx_lc (gg_dk G) ad (gy_l Y) ls L → gv_oks (gg_cr G ++ cw) st → ∀ v M1 n1 c1 : Nat, gxC G Y' y (gR t x :: vs) cw ad M n c v M1 n1 c1 → cells + (c1 - c) ≤ R.cells → slots + (n1 - n) ≤ R.slots →
        gxRun G Y' p e R s m args below meth cd H locs cells slots (c1 - c) (n1 - n) (F0 m pc ls (st.map (gx_den (gg_dk G) ad))) (rest.map (gx_den (gg_dk G) ad)) ad cw v M1 n1 ((gR t x :: vs).map (gx_den (gg_dk G) ad)).toArray := by
  intro p e R s m args below meth cd X cells slots cw ad H locs ls uI uS uL us v M1 n1 c1 hC hc9 hn9
  subst hst
  have us2 : gv_oks (gg_cr G ++ cw) (gR t x :: vs) := fun w hw => us w (by rcases List.mem_cons.mp hw with e | e <;> simp [e])
  have X0 := X
  obtain ⟨x1, x2, x3, x4, x5, x6, x7, ⟨x8, x9, x10⟩, x11, x12, x13, x14, x15⟩ := X
  have hpre := gxPc_at x8 uI us2
  rw [List.map_cons, gs_ref hx] at hpre
  have hrc := gs_recv ht x9 x11 uI uS (us2 _ List.mem_cons_self) hx
  have hsk : ((vs.reverse ++ gR t x :: rest).map (gx_den (gg_dk G) ad)) = (vs.map (gx_den (gg_dk G) ad)).reverse ++ .ref (ad x) :: rest.map (gx_den (gg_dk G) ad) := by
    rw [List.map_append, List.map_reverse, List.map_cons, gs_ref hx]
  have hW8 : 2 * (F0 m pc ls ((vs.reverse ++ gR t x :: rest).map (gx_den (gg_dk G) ad))).monitorRoom + ((rest.map (gx_den (gg_dk G) ad)).map fun v => v.category).sum ≤ 8 := lv_room (Nat.le_trans (gx_cats_sum rest) hcat)
  obtain ⟨k1, k2, k3, k4, k5⟩ := gh_pack (mc := c1 - c) (ms := n1 - n) (args := args) X0 hh hk
  obtain ⟨b0, m0, r0, hco⟩ := hco
  have hcw : va_CU R s args (gy_o Y) C x0.cls index x0 y (gy_b Y') (gy_l Y') (gy_r Y') (gy_w Y' y :: gx_gs) { frames := gy_f Y', cells := c1 - c, slots := n1 - n, locals := gy_k Y' } (c1 - c) (n1 - n) vs.length :=
    ⟨k1, k2, k3, hmh, fun sig h => k5 sig (by rw [← hd0]; exact h), x6 _ hl, x6 _ hsm, va_Decl.of (x6 _ hi0) (x6 _ hco), x6 _ hs, x6 _ hi⟩
  have hPV : PreV s H C (ad x) (gxPc G ad cw (gR t x :: vs) M n) (vs.map (gx_den (gg_dk G) ad)) := ⟨gxPc_blind, hrc, hpre⟩
  rw [List.map_cons, gs_ref hx]
  rcases gh_C hC with ⟨hq, -⟩ | ⟨-, hM⟩
  · rw [hx'] at hq; cases hq
  · exact va_to_vx (va_runU ⟨x1, x2, x3, x5, x6⟩ hM hcw hPV rfl (by rw [List.length_map]) uL.1 hsk hW8 hdg ⟨hc9, hn9⟩)
theorem gh_SU {index t : Nat} {C : String} {T : u_T} {N : Nat} (hdg : decode (gy_b Y) pc = .ok (.invokespecial index, 3)) (hst : st = vs.reverse ++ gR t x :: rest) (hx : x ≠ 0) (ht : gx_cl[t]? = some (C, T, N)) (hk : gh_ok Y Y' y vs.length) (hx' : gy_x Y' = false) (hh : gy_h Y' = []) (hno : y.name ≠ "<init>") (hl : Cond.methodLink (gy_o Y) index y ∈ gx_ws) (hsm : Cond.sameMethod y.cls y.cls y.name y.desc ∈ gx_ws) (hsu : Cond.superclass (gy_o Y) y.cls ∈ gx_ws) (hi : Cond.instanceMethod y ∈ gx_ws) (hcat : gx_cats rest ≤ 8) :
    ∀ (p : Program) (e : Env) (R : Room) (s : State) (m : MethodId) (args : Array Value) (below : List Frame) (meth : Method) (cd : Code), gxX G Y p R s m args meth cd →
      ∀ (cells slots : Nat) (cw : List gxq) (ad : Nat → Nat) (H : Heap) (locs : List Loc) (ls : Array Slot), gxI G ad cw M n H → va_S (gxA G) s.heap H locs → gx_lc (gg_dk G) ad (gy_l Y) ls L → gv_oks (gg_cr G ++ cw) st → ∀ v M1 n1 c1 : Nat, gxC G Y' y (gR t x :: vs) cw ad M n c v M1 n1 c1 → cells + (c1 - c) ≤ R.cells → slots + (n1 - n) ≤ R.slots →
        gxRun G Y' p e R s m args below meth cd H locs cells slots (c1 - c) (n1 - n) (F0 m pc ls (st.map (gx_den (gg_dk G) ad))) (rest.map (gx_den (gg_dk G) ad)) ad cw v M1 n1 ((gR t x :: vs).map (gx_den (gg_dk G) ad)).toArray := by
  intro p e R s m args below meth cd X cells slots cw ad H locs ls uI uS uL us v M1 n1 c1 hC hc9 hn9
  subst hst
  have us2 : gv_oks (gg_cr G ++ cw) (gR t x :: vs) := fun w hw => us w (by rcases List.mem_cons.mp hw with e | e <;> simp [e])
  have X0 := X
  obtain ⟨x1, x2, x3, x4, x5, x6, x7, ⟨x8, x9, x10⟩, x11, x12, x13, x14, x15⟩ := X
  have hpre := gxPc_at x8 uI us2
  rw [List.map_cons, gs_ref hx] at hpre
  have hrc := gs_recv ht x9 x11 uI uS (us2 _ List.mem_cons_self) hx
  have hsk : ((vs.reverse ++ gR t x :: rest).map (gx_den (gg_dk G) ad)) = (vs.map (gx_den (gg_dk G) ad)).reverse ++ .ref (ad x) :: rest.map (gx_den (gg_dk G) ad) := by
    rw [List.map_append, List.map_reverse, List.map_cons, gs_ref hx]
  have hW8 : 2 * (F0 m pc ls ((vs.reverse ++ gR t x :: rest).map (gx_den (gg_dk G) ad))).monitorRoom + ((rest.map (gx_den (gg_dk G) ad)).map fun v => v.category).sum ≤ 8 := lv_room (Nat.le_trans (gx_cats_sum rest) hcat)
  obtain ⟨k1, k2, k3, k4, k5⟩ := gh_pack (mc := c1 - c) (ms := n1 - n) (args := args) X0 hh hk
  have hcw : va_CS R s args (gy_o Y) index y (gy_b Y') (gy_l Y') (gy_r Y') (gy_w Y' y :: gx_gs) { frames := gy_f Y', cells := c1 - c, slots := n1 - n, locals := gy_k Y' } (c1 - c) (n1 - n) vs.length :=
    ⟨k1, x6 _ hl, x6 _ hsm, x6 _ hsu, x6 _ hi, k3, k2, hno, k5⟩
  have hPV : PreV s H C (ad x) (gxPc G ad cw (gR t x :: vs) M n) (vs.map (gx_den (gg_dk G) ad)) := ⟨gxPc_blind, hrc, hpre⟩
  have hat := (x11.1 t _ ht).2
  rw [List.map_cons, gs_ref hx]
  rcases gh_C hC with ⟨hq, -⟩ | ⟨-, hM⟩
  · rw [hx'] at hq; cases hq
  · exact va_to_vx (va_runSU hat ⟨x1, x2, x3, x5, x6⟩ hM hcw hPV rfl (by rw [List.length_map]) uL.1 hsk hW8 hdg ⟨hc9, hn9⟩)
theorem gh_I {index t : Nat} {C : String} {T : u_T} {N : Nat} (hdg : decode (gy_b Y) pc = .ok (.invokespecial index, 3)) (hst : st = vs.reverse ++ gR t x :: rest) (hx : x ≠ 0) (ht : gx_cl[t]? = some (C, T, N)) (hk : gh_ok Y Y' y vs.length) (hx' : gy_x Y' = false) (hh : gy_h Y' = []) (hr : gy_r Y' = none) (hno : y.name = "<init>") (hl : Cond.methodLink (gy_o Y) index y ∈ gx_ws) (hi : Cond.instanceMethod y ∈ gx_ws) (hcat : gx_cats rest ≤ 8) :
    ∀ (p : Program) (e : Env) (R : Room) (s : State) (m : MethodId) (args : Array Value) (below : List Frame) (meth : Method) (cd : Code), gxX G Y p R s m args meth cd →
      ∀ (cells slots : Nat) (cw : List gxq) (ad : Nat → Nat) (H : Heap) (locs : List Loc) (ls : Array Slot), gxI G ad cw M n H → va_S (gxA G) s.heap H locs → gx_lc (gg_dk G) ad (gy_l Y) ls L → gv_oks (gg_cr G ++ cw) st → ∀ v M1 n1 c1 : Nat, gxC G Y' y (gR t x :: vs) cw ad M n c v M1 n1 c1 → cells + (c1 - c) ≤ R.cells → slots + (n1 - n) ≤ R.slots →
        gxRun G Y' p e R s m args below meth cd H locs cells slots (c1 - c) (n1 - n) (F0 m pc ls (st.map (gx_den (gg_dk G) ad))) (rest.map (gx_den (gg_dk G) ad)) ad cw v M1 n1 ((gR t x :: vs).map (gx_den (gg_dk G) ad)).toArray := by
  intro p e R s m args below meth cd X cells slots cw ad H locs ls uI uS uL us v M1 n1 c1 hC hc9 hn9
  subst hst
  have us2 : gv_oks (gg_cr G ++ cw) (gR t x :: vs) := fun w hw => us w (by rcases List.mem_cons.mp hw with e | e <;> simp [e])
  have X0 := X
  obtain ⟨x1, x2, x3, x4, x5, x6, x7, ⟨x8, x9, x10⟩, x11, x12, x13, x14, x15⟩ := X
  have hpre := gxPc_at x8 uI us2
  rw [List.map_cons, gs_ref hx] at hpre
  have hrc := gs_recv ht x9 x11 uI uS (us2 _ List.mem_cons_self) hx
  have hsk : ((vs.reverse ++ gR t x :: rest).map (gx_den (gg_dk G) ad)) = (vs.map (gx_den (gg_dk G) ad)).reverse ++ .ref (ad x) :: rest.map (gx_den (gg_dk G) ad) := by
    rw [List.map_append, List.map_reverse, List.map_cons, gs_ref hx]
  have hW8 : 2 * (F0 m pc ls ((vs.reverse ++ gR t x :: rest).map (gx_den (gg_dk G) ad))).monitorRoom + ((rest.map (gx_den (gg_dk G) ad)).map fun v => v.category).sum ≤ 8 := lv_room (Nat.le_trans (gx_cats_sum rest) hcat)
  have hB : CallB R s args (gy_o Y) index y (gy_b Y') (gy_l Y') (gy_r Y') (gy_w Y' y :: gx_gs) { frames := gy_f Y', cells := c1 - c, slots := n1 - n, locals := gy_k Y' } (c1 - c) (n1 - n) vs.length := gh_B X0 hh hk hl
  rw [hr] at hB
  have hPS : PreS s H (gxPc G ad cw (gR t x :: vs) M n) (.ref (ad x) :: vs.map (gx_den (gg_dk G) ad)) := ⟨gxPc_blind, hpre⟩
  rw [List.map_cons, gs_ref hx]
  rcases gh_C hC with ⟨hq, -⟩ | ⟨-, hM⟩
  · rw [hx'] at hq; cases hq
  · exact va_to_vx (va_runI ⟨x1, x2, x3, x5, x6⟩ hM ⟨hB, hno, x6 _ hi⟩ hPS rfl (by rw [List.length_map]) uL.1 hsk hW8 hdg ⟨hc9, hn9⟩)
theorem gh_IN {index t : Nat} {C : String} {T : u_T} {N : Nat} (hdg : decode (gy_b Y) pc = .ok (.invokespecial index, 3)) (hst : st = vs.reverse ++ gR t x :: rest) (hx : x ≠ 0) (ht : gx_cl[t]? = some (C, T, N)) (hk : gh_ok Y Y' y vs.length) {host : String} (hx' : gy_x Y' = false) (hh : gy_h Y' = []) (hr : gy_r Y' = none) (hno : y.name = "<init>") (hl : Cond.methodLinkNest (gy_o Y) index y host ∈ gx_ws) (hi : Cond.instanceMethod y ∈ gx_ws) (hcat : gx_cats rest ≤ 8) :
    ∀ (p : Program) (e : Env) (R : Room) (s : State) (m : MethodId) (args : Array Value) (below : List Frame) (meth : Method) (cd : Code), gxX G Y p R s m args meth cd →
      ∀ (cells slots : Nat) (cw : List gxq) (ad : Nat → Nat) (H : Heap) (locs : List Loc) (ls : Array Slot), gxI G ad cw M n H → va_S (gxA G) s.heap H locs → gx_lc (gg_dk G) ad (gy_l Y) ls L → gv_oks (gg_cr G ++ cw) st → ∀ v M1 n1 c1 : Nat, gxC G Y' y (gR t x :: vs) cw ad M n c v M1 n1 c1 → cells + (c1 - c) ≤ R.cells → slots + (n1 - n) ≤ R.slots →
        gxRun G Y' p e R s m args below meth cd H locs cells slots (c1 - c) (n1 - n) (F0 m pc ls (st.map (gx_den (gg_dk G) ad))) (rest.map (gx_den (gg_dk G) ad)) ad cw v M1 n1 ((gR t x :: vs).map (gx_den (gg_dk G) ad)).toArray := by
  intro p e R s m args below meth cd X cells slots cw ad H locs ls uI uS uL us v M1 n1 c1 hC hc9 hn9
  subst hst
  have us2 : gv_oks (gg_cr G ++ cw) (gR t x :: vs) := fun w hw => us w (by rcases List.mem_cons.mp hw with e | e <;> simp [e])
  have X0 := X
  obtain ⟨x1, x2, x3, x4, x5, x6, x7, ⟨x8, x9, x10⟩, x11, x12, x13, x14, x15⟩ := X
  have hpre := gxPc_at x8 uI us2
  rw [List.map_cons, gs_ref hx] at hpre
  have hrc := gs_recv ht x9 x11 uI uS (us2 _ List.mem_cons_self) hx
  have hsk : ((vs.reverse ++ gR t x :: rest).map (gx_den (gg_dk G) ad)) = (vs.map (gx_den (gg_dk G) ad)).reverse ++ .ref (ad x) :: rest.map (gx_den (gg_dk G) ad) := by
    rw [List.map_append, List.map_reverse, List.map_cons, gs_ref hx]
  have hW8 : 2 * (F0 m pc ls ((vs.reverse ++ gR t x :: rest).map (gx_den (gg_dk G) ad))).monitorRoom + ((rest.map (gx_den (gg_dk G) ad)).map fun v => v.category).sum ≤ 8 := lv_room (Nat.le_trans (gx_cats_sum rest) hcat)
  obtain ⟨k1, k2, k3, k4, k5⟩ := gh_pack (mc := c1 - c) (ms := n1 - n) (args := args) X0 hh hk
  have hcw : va_CN R s args (gy_o Y) index y host (gy_b Y') (gy_l Y') (gy_r Y') (gy_w Y' y :: gx_gs) { frames := gy_f Y', cells := c1 - c, slots := n1 - n, locals := gy_k Y' } (c1 - c) (n1 - n) vs.length := ⟨k1, k2, k3, k4, k5, x6 _ hl⟩
  rw [hr] at hcw
  have hPS : PreS s H (gxPc G ad cw (gR t x :: vs) M n) (.ref (ad x) :: vs.map (gx_den (gg_dk G) ad)) := ⟨gxPc_blind, hpre⟩
  rw [List.map_cons, gs_ref hx]
  rcases gh_C hC with ⟨hq, -⟩ | ⟨-, hM⟩
  · rw [hx'] at hq; cases hq
  · exact va_to_vx (va_runIN ⟨x1, x2, x3, x5, x6⟩ hM ⟨hcw, hno, x6 _ hi⟩ hPS rfl (by rw [List.length_map]) uL.1 hsk hW8 hdg ⟨hc9, hn9⟩)
theorem gh_S {index : Nat} (hdg : decode (gy_b Y) pc = .ok (.invokestatic index, 3)) (hst : st = vs.reverse ++ rest) (hk : gh_ok Y Y' y vs.length) (hx' : gy_x Y' = false) (hh : gy_h Y' = []) (hl : Cond.methodLink (gy_o Y) index y ∈ gx_ws) (hs : Cond.static y ∈ gx_ws) (hcat : gx_cats rest ≤ 8) :
    ∀ (p : Program) (e : Env) (R : Room) (s : State) (m : MethodId) (args : Array Value) (below : List Frame) (meth : Method) (cd : Code), gxX G Y p R s m args meth cd →
      ∀ (cells slots : Nat) (cw : List gxq) (ad : Nat → Nat) (H : Heap) (locs : List Loc) (ls : Array Slot), gxI G ad cw M n H → va_S (gxA G) s.heap H locs → gx_lc (gg_dk G) ad (gy_l Y) ls L → gv_oks (gg_cr G ++ cw) st → ∀ v M1 n1 c1 : Nat, gxC G Y' y vs cw ad M n c v M1 n1 c1 → cells + (c1 - c) ≤ R.cells → slots + (n1 - n) ≤ R.slots →
        gxRun G Y' p e R s m args below meth cd H locs cells slots (c1 - c) (n1 - n) (F0 m pc ls (st.map (gx_den (gg_dk G) ad))) (rest.map (gx_den (gg_dk G) ad)) ad cw v M1 n1 (vs.map (gx_den (gg_dk G) ad)).toArray := by
  intro p e R s m args below meth cd X cells slots cw ad H locs ls uI uS uL us v M1 n1 c1 hC hc9 hn9
  subst hst
  have us2 : gv_oks (gg_cr G ++ cw) vs := fun w hw => us w (by simp [hw])
  have X0 := X
  obtain ⟨x1, x2, x3, x4, x5, x6, x7, ⟨x8, x9, x10⟩, x11, x12, x13, x14, x15⟩ := X
  have hPS : PreS s H (gxPc G ad cw vs M n) (vs.map (gx_den (gg_dk G) ad)) := ⟨gxPc_blind, gxPc_at x8 uI us2⟩
  have hsk : ((vs.reverse ++ rest).map (gx_den (gg_dk G) ad)) = (vs.map (gx_den (gg_dk G) ad)).reverse ++ rest.map (gx_den (gg_dk G) ad) := by
    rw [List.map_append, List.map_reverse]
  have hW8 : 2 * (F0 m pc ls ((vs.reverse ++ rest).map (gx_den (gg_dk G) ad))).monitorRoom + ((rest.map (gx_den (gg_dk G) ad)).map fun v => v.category).sum ≤ 8 := lv_room (Nat.le_trans (gx_cats_sum rest) hcat)
  have hB : CallB R s args (gy_o Y) index y (gy_b Y') (gy_l Y') (gy_r Y') (gy_w Y' y :: gx_gs) { frames := gy_f Y', cells := c1 - c, slots := n1 - n, locals := gy_k Y' } (c1 - c) (n1 - n) vs.length := gh_B X0 hh hk hl
  rcases gh_C hC with ⟨hq, -⟩ | ⟨-, hM⟩
  · rw [hx'] at hq; cases hq
  · exact va_to_vx (va_runS ⟨x1, x2, x3, x5, x6⟩ hM ⟨hB, x6 _ hs⟩ hPS rfl (by rw [List.length_map]) uL.1 hsk hW8 hdg ⟨hc9, hn9⟩)
theorem gh_SN {index : Nat} (hdg : decode (gy_b Y) pc = .ok (.invokestatic index, 3)) (hst : st = vs.reverse ++ rest) (hk : gh_ok Y Y' y vs.length) {host : String} (hx' : gy_x Y' = false) (hh : gy_h Y' = []) (hl : Cond.methodLinkNest (gy_o Y) index y host ∈ gx_ws) (hs : Cond.static y ∈ gx_ws) (hcat : gx_cats rest ≤ 8) :
    ∀ (p : Program) (e : Env) (R : Room) (s : State) (m : MethodId) (args : Array Value) (below : List Frame) (meth : Method) (cd : Code), gxX G Y p R s m args meth cd →
      ∀ (cells slots : Nat) (cw : List gxq) (ad : Nat → Nat) (H : Heap) (locs : List Loc) (ls : Array Slot), gxI G ad cw M n H → va_S (gxA G) s.heap H locs → gx_lc (gg_dk G) ad (gy_l Y) ls L → gv_oks (gg_cr G ++ cw) st → ∀ v M1 n1 c1 : Nat, gxC G Y' y vs cw ad M n c v M1 n1 c1 → cells + (c1 - c) ≤ R.cells → slots + (n1 - n) ≤ R.slots →
        gxRun G Y' p e R s m args below meth cd H locs cells slots (c1 - c) (n1 - n) (F0 m pc ls (st.map (gx_den (gg_dk G) ad))) (rest.map (gx_den (gg_dk G) ad)) ad cw v M1 n1 (vs.map (gx_den (gg_dk G) ad)).toArray := by
  intro p e R s m args below meth cd X cells slots cw ad H locs ls uI uS uL us v M1 n1 c1 hC hc9 hn9
  subst hst
  have us2 : gv_oks (gg_cr G ++ cw) vs := fun w hw => us w (by simp [hw])
  have X0 := X
  obtain ⟨x1, x2, x3, x4, x5, x6, x7, ⟨x8, x9, x10⟩, x11, x12, x13, x14, x15⟩ := X
  have hPS : PreS s H (gxPc G ad cw vs M n) (vs.map (gx_den (gg_dk G) ad)) := ⟨gxPc_blind, gxPc_at x8 uI us2⟩
  have hsk : ((vs.reverse ++ rest).map (gx_den (gg_dk G) ad)) = (vs.map (gx_den (gg_dk G) ad)).reverse ++ rest.map (gx_den (gg_dk G) ad) := by
    rw [List.map_append, List.map_reverse]
  have hW8 : 2 * (F0 m pc ls ((vs.reverse ++ rest).map (gx_den (gg_dk G) ad))).monitorRoom + ((rest.map (gx_den (gg_dk G) ad)).map fun v => v.category).sum ≤ 8 := lv_room (Nat.le_trans (gx_cats_sum rest) hcat)
  obtain ⟨k1, k2, k3, k4, k5⟩ := gh_pack (mc := c1 - c) (ms := n1 - n) (args := args) X0 hh hk
  have hcw : va_CN R s args (gy_o Y) index y host (gy_b Y') (gy_l Y') (gy_r Y') (gy_w Y' y :: gx_gs) { frames := gy_f Y', cells := c1 - c, slots := n1 - n, locals := gy_k Y' } (c1 - c) (n1 - n) vs.length := ⟨k1, k2, k3, k4, k5, x6 _ hl⟩
  rcases gh_C hC with ⟨hq, -⟩ | ⟨-, hM⟩
  · rw [hx'] at hq; cases hq
  · exact va_to_vx (va_runSN ⟨x1, x2, x3, x5, x6⟩ hM ⟨hcw, x6 _ hs, trivial⟩ hPS rfl (by rw [List.length_map]) uL.1 hsk hW8 hdg ⟨hc9, hn9⟩)
theorem gj_nn {e : Bool} (h : x ≠ 0 → gxJ G Y K pc st L M n c e) : gxJ G Y K pc st L M n c (gx_nn x e) := fun h2 => by
  obtain ⟨h3, h4⟩ := gb_f h2
  exact h (gb_nbeq h3) h4
theorem gx_thr_t {v M n c : Nat} {e : Bool} (h : gx_thr K v M n c e = true) : (v = gx_T ∧ K gx_T M n c = true) ∨ (v ≠ gx_T ∧ e = true) := by
  unfold gx_thr at h
  rcases gb_true h with ⟨h1, h2⟩ | ⟨h1, h2⟩
  · exact Or.inl ⟨gb_beq h1, h2⟩
  · exact Or.inr ⟨gb_nbeq h1, h2⟩
/-- a call of a method that doesn't throw -/
theorem gj_c0 {rs : Nat → List gxV} (a : List gxV) (hst : st = a ++ rest) (hM : gxM G Y' y vs f) (hx' : gy_x Y' = false) (hrun : ∀ (p : Program) (e : Env) (R : Room) (s : State) (m : MethodId) (args : Array Value) (below : List Frame) (meth : Method) (cd : Code), gxX G Y p R s m args meth cd →
      ∀ (cells slots : Nat) (cw : List gxq) (ad : Nat → Nat) (H : Heap) (locs : List Loc) (ls : Array Slot), gxI G ad cw M n H → va_S (gxA G) s.heap H locs → gx_lc (gg_dk G) ad (gy_l Y) ls L → gv_oks (gg_cr G ++ cw) st → ∀ v M1 n1 c1 : Nat, gxC G Y' y vs cw ad M n c v M1 n1 c1 → cells + (c1 - c) ≤ R.cells → slots + (n1 - n) ≤ R.slots →
        gxRun G Y' p e R s m args below meth cd H locs cells slots (c1 - c) (n1 - n) (F0 m pc ls (st.map (gx_den (gg_dk G) ad))) (rest.map (gx_den (gg_dk G) ad)) ad cw v M1 n1 (vs.map (gx_den (gg_dk G) ad)).toArray)
    (hrs : ∀ v, gx_rs (gy_s Y') v rest = rs v) (hk : ∀ v M1 n1 c1, gxJ G Y K (pc + 3) (rs v) L M1 n1 c1 (k v M1 n1 c1)) : gxJ G Y K pc st L M n c (f M n c k) := fun h =>
  gj_call hM h hrun (fun q hq => by rw [hst]; exact List.mem_append_right _ hq) (fun v M1 n1 c1 _ _ => by rw [hrs]; exact hk v M1 n1 c1) (fun M1 n1 c1 hq _ => by rw [hx'] at hq; cases hq) rfl
/-- a call of a method that may throw, by one that has no handlers -/
theorem gj_c1 {rs : Nat → List gxV} (a : List gxV) (hst : st = a ++ rest) (hM : gxM G Y' y vs f) (hY : gy_x Y = true) (hh : gy_h Y = []) (hrun : ∀ (p : Program) (e : Env) (R : Room) (s : State) (m : MethodId) (args : Array Value) (below : List Frame) (meth : Method) (cd : Code), gxX G Y p R s m args meth cd →
      ∀ (cells slots : Nat) (cw : List gxq) (ad : Nat → Nat) (H : Heap) (locs : List Loc) (ls : Array Slot), gxI G ad cw M n H → va_S (gxA G) s.heap H locs → gx_lc (gg_dk G) ad (gy_l Y) ls L → gv_oks (gg_cr G ++ cw) st → ∀ v M1 n1 c1 : Nat, gxC G Y' y vs cw ad M n c v M1 n1 c1 → cells + (c1 - c) ≤ R.cells → slots + (n1 - n) ≤ R.slots →
        gxRun G Y' p e R s m args below meth cd H locs cells slots (c1 - c) (n1 - n) (F0 m pc ls (st.map (gx_den (gg_dk G) ad))) (rest.map (gx_den (gg_dk G) ad)) ad cw v M1 n1 (vs.map (gx_den (gg_dk G) ad)).toArray)
    (hrs : ∀ v, gx_rs (gy_s Y') v rest = rs v) (hk : ∀ v M1 n1 c1, gxJ G Y K (pc + 3) (rs v) L M1 n1 c1 (k v M1 n1 c1)) : gxJ G Y K pc st L M n c (f M n c (fun v M n c => gx_thr K v M n c (k v M n c))) := fun h =>
  gj_call hM h hrun (fun q hq => by rw [hst]; exact List.mem_append_right _ hq) (fun v M1 n1 c1 hv _ => by
    rw [hrs]
    intro hz
    rcases gx_thr_t hz with ⟨hb, -⟩ | ⟨-, hz⟩
    · exact absurd hb hv
    · exact hk v M1 n1 c1 hz) (fun M1 n1 c1 _ hz => by
    refine gj_out hh hY M1 n1 c1 ?_
    rcases gx_thr_t hz with ⟨-, hz⟩ | ⟨hb, -⟩
    · exact hz
    · exact absurd rfl hb) rfl
end CLS
