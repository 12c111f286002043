/-! RULES: calls. -/
noncomputable def gx_nn (x : Nat) (e : Bool) : Bool := Bool.rec (motive := fun _ => Bool) e false (Nat.beq x 0)
/-- a callee that may throw: then so does its caller -/
noncomputable def gx_thr (K : Nat → Nat → Nat → Nat → Bool) (v M n c : Nat) (e : Bool) : Bool := Bool.rec (motive := fun _ => Bool) e (K gx_T M n c) (Nat.beq v gx_T)
def gx_rs (σ v : Nat) (rest : List gxV) : List gxV := if σ = 5 then rest else gx_sl σ v :: rest
def gx_cats : List gxV → Nat
  | [] => 0
  | v :: t => (match gx_lg v with | true => 2 | false => 1) + gx_cats t
theorem gx_cats_sum {dk ad : Nat → Nat} : ∀ (L : List gxV), ((L.map (gx_den dk ad)).map fun v => v.category).sum ≤ gx_cats L := by
  intro L
  induction L with
  | nil => exact Nat.le_refl _
  | cons v t ih =>
    show (gx_den dk ad v).category + _ ≤ _ + gx_cats t
    cases h : gx_lg v with
    | false => rw [gx_cat h]; exact Nat.add_le_add_left ih 1
    | true =>
      rcases v with x | x | x | x
      · exact nomatch h
      · exact Nat.add_le_add_left ih 2
      · exact nomatch h
      · exact nomatch h
section CLS
variable {G : gxG} {Y Y' : gxY} {K : Nat → Nat → Nat → Nat → Bool} {pc : Nat} {st L rest vs : List gxV} {M n c x : Nat} {y : MethodName} {f : Nat → Nat → Nat → (Nat → Nat → Nat → Nat → Bool) → Bool} {k : Nat → Nat → Nat → Nat → Bool}
theorem gxPc_blind {G : gxG} {ad : Nat → Nat} {cw : List gxq} {vs : List gxV} {M n : Nat} : FrameBlind (gxPc G ad cw vs M n) := fun _ _ _ _ h => h
theorem gxPc_at {s : State} {cw : List gxq} {ad : Nat → Nat} {H : Heap} (hW : (gg_s G).WarmedH s.vm) (uI : gxI G ad cw M n H) (us : gv_oks (gg_cr G ++ cw) vs) : ∀ U : State, U.heap = H → s.WarmedH U.vm → gxPc G ad cw vs M n (vs.map (gx_den (gg_dk G) ad)).toArray U := fun U hU hW2 => ⟨rfl, State.WarmedH.trans hW hW2, by rw [hU]; exact uI, us⟩
/-- what a call's run owes -/
def gxRun (G : gxG) (Y' : gxY) (p : Program) (e : Env) (R : Room) (s : State) (m : MethodId) (args : Array Value) (below : List Frame) (meth : Method) (cd : Code) (H : Heap) (locs : List Loc) (cells slots mc ms : Nat) (g : JFrame) (rest : List Value) (ad : Nat → Nat) (cw : List gxq) (v M1 n1 : Nat) (a : Array Value) : Prop :=
  vx_Run p (gg_l G) e R s m args below meth cd H locs cells slots mc ms g rest (gxQc G (gy_s Y') ad cw v M1 n1 a) (gxXC G ad cw v M1 n1) (gxA G)
theorem va_to_vx {p : Program} {l : Launch} {e : Env} {R : Room} {s : State} {m : MethodId} {args : Array Value} {below : List Frame} {meth : Method} {c : Code} {H : Heap} {locs : List Loc} {cells slots mc ms : Nat} {g : JFrame} {rest : List Value} {Qa : State → Outcome → State → Prop} {XC : String → State → State → Prop} {free : Addr → Prop}
    (h : va_Run p l e R s m args below meth c H locs cells slots mc ms g rest Qa free) : vx_Run p l e R s m args below meth c H locs cells slots mc ms g rest Qa XC free := fun T hT X => Or.inl (h T hT X)
theorem gj_call (hM : gxM G Y' y vs f) (hf : f M n c k = true)
    (hrun : ∀ (p : Program) (e : Env) (R : Room) (s : State) (m : MethodId) (args : Array Value) (below : List Frame) (meth : Method) (cd : Code), gxX G Y p R s m args meth cd →
      ∀ (cells slots : Nat) (cw : List gxq) (ad : Nat → Nat) (H : Heap) (locs : List Loc) (ls : Array Slot), gxI G ad cw M n H → va_S (gxA G) s.heap H locs → gx_lc (gg_dk G) ad (gy_l Y) ls L → gv_oks (gg_cr G ++ cw) st → ∀ v M1 n1 c1 : Nat, gxC G Y' y vs cw ad M n c v M1 n1 c1 → cells + (c1 - c) ≤ R.cells → slots + (n1 - n) ≤ R.slots →
        gxRun G Y' p e R s m args below meth cd H locs cells slots (c1 - c) (n1 - n) (F0 m pc ls (st.map (gx_den (gg_dk G) ad))) (rest.map (gx_den (gg_dk G) ad)) ad cw v M1 n1 (vs.map (gx_den (gg_dk G) ad)).toArray)
    (hrest : gv_oks (gg_cr G) st → True) (hsub : ∀ q ∈ rest, q ∈ st)
    (hk : ∀ v M1 n1 c1, v ≠ gx_T → k v M1 n1 c1 = true → gxJ G Y K (pc + 3) (gx_rs (gy_s Y') v rest) L M1 n1 c1 (k v M1 n1 c1))
    (hx : ∀ M1 n1 c1, gy_x Y' = true → k gx_T M1 n1 c1 = true → ∃ v' M' n' c', K v' M' n' c' = true ∧ n1 ≤ n' ∧ c1 ≤ c' ∧ (gy_x Y = false → v' ≠ gx_T) ∧ ∀ (p : Program) (e : Env) (R : Room) (s : State) (m : MethodId) (args : Array Value) (below : List Frame) (meth : Method) (cd : Code), gxX G Y p R s m args meth cd →
      ∀ (c0 n0 : Nat) (cw0 : List gxq) (ad0 : Nat → Nat), R.cells + c0 = c' → R.slots + n0 = n' → ∀ (cells slots : Nat) (cw : List gxq) (ad : Nat → Nat) (H : Heap) (locs : List Loc) (ls : Array Slot) (q : Addr) (ce : Cell), gxU G s (gy_l Y) c0 n0 cw0 ad0 [] L M1 n1 c1 cells slots cw ad H locs ls →
        H[q]? = some ce → ce.vm = .none → s.vm.findClass "java/lang/UnsupportedOperationException" = some ce.cls →
        vx_W p (gg_l G) e R s m args below meth cd H locs cells slots (gxQ (gy_x Y) below (gxQc G (gy_s Y) ad0 cw0 v' M' n') (gxXC G ad0 cw0 v' M' n') args s R.cells R.slots (gxA G)) (F0 m pc ls (rest.map (gx_den (gg_dk G) ad))) q) : gxJ G Y K pc st L M n c true := by
  intro _
  obtain ⟨v, M1, n1, c1, h1, h2, h3, h4, hC⟩ := hM M n c k hf
  have step : ∀ {e : Env} {p : Program} {R : Room} {s : State} {m : MethodId} {args : Array Value} {below : List Frame} {meth : Method} {cd : Code} {cw : List gxq} {ad : Nat → Nat} {H : Heap} {locs L9 : List Loc} {st₀ t T' : State} {cw' : List gxq} {ad' : Nat → Nat} {ls : Array Slot} {cells slots c0 n0 : Nat} {cw0 : List gxq} {ad0 : Nat → Nat},
      gxU G s (gy_l Y) c0 n0 cw0 ad0 st L M n c cells slots cw ad H locs ls → st₀.heap = H → T'.heap = t.heap → (∀ q ∈ L9, gxA G q.base) → gx_agr cw ad ad' → gx_sb cw cw' → gxI G ad' cw' M1 n1 t.heap → va_F (gxA G) st₀ t →
      va_S (gxA G) s.heap T'.heap (locs ++ L9) ∧ gx_agr cw0 ad0 ad' ∧ gx_sb cw0 cw' ∧ gx_lc (gg_dk G) ad' (gy_l Y) ls L ∧ gv_oks (gg_cr G ++ cw') rest ∧ gv_oks (gg_cr G ++ cw') L ∧ rest.map (gx_den (gg_dk G) ad') = rest.map (gx_den (gg_dk G) ad) := by
    intro e p R s m args below meth cd cw ad H locs L9 st₀ t T' cw' ad' ls cells slots c0 n0 cw0 ad0 U h0 e1 hL ha hs hI hF
    obtain ⟨u1, u2, uI, ua, ud, uS, uL, us, ul⟩ := U
    obtain ⟨-, -, k3⟩ := vx_keep (A0 := gxA G) (A1 := gxA G) (free := gxA G) h0 e1 uS (fun _ _ h => h) (fun _ h => h) hL hF
    have ha2 : gx_agr (gg_cr G ++ cw) ad ad' := by
      intro q hq
      rcases List.mem_append.mp hq with hq | hq
      · rw [hI.2.2.2.2.2.2.2.2.2 q hq, uI.2.2.2.2.2.2.2.2.2 q hq]
      · exact ha q hq
    have hrs : gv_oks (gg_cr G ++ cw) rest := fun q hq => us q (hsub q hq)
    exact ⟨k3, gx_agr_tr ud ua ha, gx_sb_tr ud hs, gx_lc_agr uL ul ha2, gv_oks_sub hrs (gx_sb_app hs), gv_oks_sub ul (gx_sb_app hs), gs_map hrs ha2⟩
  by_cases hv : v = gx_T
  · subst hv
    have hY : gy_x Y' = true := by
      cases hb : gy_x Y' with
      | true => rfl
      | false => exact absurd rfl (h4 hb)
    obtain ⟨v', M', n', c', g1, g2, g3, g4, gg⟩ := hx M1 n1 c1 hY h1
    refine ⟨v', M', n', c', g1, Nat.le_trans h2 g2, Nat.le_trans h3 g3, g4, fun p e R s m args below meth cd X c0 n0 cw0 ad0 hc hn cells slots cw ad H locs ls U => ?_⟩
    have U0 := U
    obtain ⟨u1, u2, uI, ua, ud, uS, uL, us, ul⟩ := U
    intro T hT ST
    rcases hrun p e R s m args below meth cd X cells slots cw ad H locs ls uI uS uL us gx_T M1 n1 c1 (hC cw ad) (by omega) (by omega) T hT ST with ⟨w, st₀, t, T', L9, h0, X', hL, e1, e2, ⟨hq0, -⟩, -⟩ | ⟨q, st₀, t, T', L9, E, ce, h0, X', hL, e1, e2, ⟨-, ad', cw', hE, ha, hs, hI, hF⟩, hce, hcv, hcl, stp⟩
    · exact absurd rfl hq0
    · subst hE
      obtain ⟨k3, k4, k5, k6, k7, k8, k9⟩ := step (e := e) (p := p) (R := R) (m := m) (args := args) (below := below) (meth := meth) (cd := cd) U0 h0 e1 hL ha hs hI hF
      have w := gg p e R s m args below meth cd X c0 n0 cw0 ad0 hc hn (cells + (c1 - c)) (slots + (n1 - n)) cw' ad' T'.heap (locs ++ L9) ls q ce ⟨by omega, by omega, by rw [e1]; exact hI, k4, k5, k3, k6, gv_oks_nil, k8⟩ (by rw [e1]; exact hce) hcv hcl
      rw [k9] at w
      obtain ⟨t2, a1, b1⟩ := w T' rfl X'
      exact ⟨t2, stp.trans a1, b1⟩
  · obtain ⟨v', M', n', c', g1, g2, g3, g4, gg⟩ := hk v M1 n1 c1 hv h1 h1
    refine ⟨v', M', n', c', g1, Nat.le_trans h2 g2, Nat.le_trans h3 g3, g4, fun p e R s m args below meth cd X c0 n0 cw0 ad0 hc hn cells slots cw ad H locs ls U => ?_⟩
    have U0 := U
    obtain ⟨u1, u2, uI, ua, ud, uS, uL, us, ul⟩ := U
    intro T hT ST
    rcases hrun p e R s m args below meth cd X cells slots cw ad H locs ls uI uS uL us v M1 n1 c1 (hC cw ad) (by omega) (by omega) T hT ST with ⟨w, st₀, t, T', L9, h0, X', hL, e1, e2, ⟨hq0, ad', cw', hr, ha, hs, hI, hok, hF⟩, stp⟩ | ⟨q, st₀, t, T', L9, E, ce, h0, X', hL, e1, e2, ⟨hq0, -⟩, -⟩
    · obtain ⟨k3, k4, k5, k6, k7, k8, k9⟩ := step (e := e) (p := p) (R := R) (m := m) (args := args) (below := below) (meth := meth) (cd := cd) U0 h0 e1 hL ha hs hI hF
      have hro : gv_oks (gg_cr G ++ cw') (gx_rs (gy_s Y') v rest) := by
        unfold gx_rs
        split
        · exact k7
        · exact gv_oks_cons hok k7
      have w := gg p e R s m args below meth cd X c0 n0 cw0 ad0 hc hn (cells + (c1 - c)) (slots + (n1 - n)) cw' ad' T'.heap (locs ++ L9) ls ⟨by omega, by omega, by rw [e1]; exact hI, k4, k5, k3, k6, hro, k8⟩
      cases hr
      have hst : (gx_rs (gy_s Y') v rest).map (gx_den (gg_dk G) ad') = (gx_ret (gg_dk G) ad' (gy_s Y') v).toList ++ rest.map (gx_den (gg_dk G) ad) := by
        unfold gx_rs gx_ret
        split
        · rw [k9]; rfl
        · rw [List.map_cons, k9]; rfl
      rw [hst] at w
      obtain ⟨t2, a1, b1⟩ := w T' rfl X'
      exact ⟨t2, stp t2 a1, b1⟩
    · exact absurd hq0 hv
end CLS
