/-! RULES: how a method begins and ends. -/
noncomputable def gx_rt (f : Nat → Bool) (v : Nat) (e : Bool) : Bool := Bool.rec (motive := fun _ => Bool) false e (f v)
section ENS
variable {G : gxG} {Y : gxY} {K : Nat → Nat → Nat → Nat → Bool} {pc : Nat} {L : List gxV} {M n c v : Nat}
theorem gf_T {G : gxG} {f : Nat → Bool} {ty : FieldType} {sv : Nat → gxV} (hf : gf_v G f ty sv) (h : f v = true) : v ≠ gx_T := by
  have := (hf (fun _ => 0) v h).1
  unfold gx_T
  omega
theorem gr_fin {G : gxG} {Y : gxY} {p : Program} {e : Env} {R : Room} {s : State} {m : MethodId} {args : Array Value} {below : List Frame} {meth : Method} {cd : Code} {H : Heap} {locs : List Loc} {cells slots : Nat} {Qc : Array Value → State → Outcome → State → Prop} {XC : String → State → State → Prop} {g : JFrame} {c0 n0 c n : Nat} (h1 : cells + c0 = c) (h2 : slots + n0 = n) (h3 : R.cells + c0 = c) (h4 : R.slots + n0 = n)
    (w : W p (gg_l G) e R s m args below meth cd H locs cells slots (MQ below Qc args s cells slots (gxA G)) g) : W p (gg_l G) e R s m args below meth cd H locs cells slots (gxQ (gy_x Y) below Qc XC args s R.cells R.slots (gxA G)) g := by
  obtain rfl : cells = R.cells := by omega
  obtain rfl : slots = R.slots := by omega
  unfold gxQ
  split
  · exact vx_ret w
  · exact w
theorem gr_ireturn {f : Nat → Bool} {ty : FieldType} {σ : Nat} (hdg : decode (gy_b Y) pc = .ok (.ireturn, 1)) (hr : gy_r Y = some ty) (hs : gy_s Y = σ) (hσ : σ < 4) (hf : gf_v G f ty gI) : gxJ G Y K pc [gI v] L M n c (gx_rt f v (K v M n c)) := fun h => by
  obtain ⟨hfv, hK⟩ := gb_t h
  refine ⟨v, M, n, c, hK, Nat.le_refl _, Nat.le_refl _, fun _ => gf_T hf hfv, fun p e R s m args below meth cd X c0 n0 cw0 ad0 hc hn cells slots cw ad H locs ls U => ?_⟩
  obtain ⟨u1, u2, uI, ua, ud, uS, uL, us, ul⟩ := U
  obtain ⟨x1, x2, x3, x4, x5, x6, x7, x8, x11, x12⟩ := X
  refine gr_fin u1 u2 hc hn (W.zret (v := gx_N (gg_dk G) v) x1 x2 (x4.trans hr) (hf ad v hfv).2.1 (fun t ht hW => ⟨gf_T hf hfv, ad, cw, ?_, ua, ud, by rw [ht]; exact uI, ?_, uS.F ht⟩) uS.2.2 hdg x7)
  · rw [hs]; unfold gx_ret gx_sl; rw [if_neg (by omega), if_pos hσ]; rfl
  · rw [hs]; unfold gx_sl; rw [if_pos hσ]; trivial
theorem gr_lreturn (hdg : decode (gy_b Y) pc = .ok (.lreturn, 1)) (hr : gy_r Y = some .long) (hs : gy_s Y = 4) : gxJ G Y K pc [gL v] L M n c (gx_rt gx_f0 v (K v M n c)) := fun h => by
  obtain ⟨hfv, hK⟩ := gb_t h
  refine ⟨v, M, n, c, hK, Nat.le_refl _, Nat.le_refl _, fun _ => gf_T (gv_4 (G := G)) hfv, fun p e R s m args below meth cd X c0 n0 cw0 ad0 hc hn cells slots cw ad H locs ls U => ?_⟩
  obtain ⟨u1, u2, uI, ua, ud, uS, uL, us, ul⟩ := U
  obtain ⟨x1, x2, x3, x4, x5, x6, x7, x8, x11, x12⟩ := X
  refine gr_fin u1 u2 hc hn (W.lret (v := lN v) x1 x2 (x4.trans hr) (fun t ht hW => ⟨gf_T (gv_4 (G := G)) hfv, ad, cw, ?_, ua, ud, by rw [ht]; exact uI, ?_, uS.F ht⟩) uS.2.2 hdg x7)
  · rw [hs]; rfl
  · rw [hs]; trivial
theorem gr_areturn {rt : FieldType} {t : Nat} (hdg : decode (gy_b Y) pc = .ok (.areturn, 1)) (hr : gy_r Y = some rt) (hs : gy_s Y = 8 + t) (hrt : (∃ n, rt = .object n) ∨ ∃ t, rt = .array t) : gxJ G Y K pc [gR t v] L M n c (gx_rt gx_f0 v (K v M n c)) := fun h => by
  obtain ⟨hfv, hK⟩ := gb_t h
  have hT : v ≠ gx_T := gf_T (gv_4 (G := G)) hfv
  refine ⟨v, M, n, c, hK, Nat.le_refl _, Nat.le_refl _, fun _ => hT, fun p e R s m args below meth cd X c0 n0 cw0 ad0 hc hn cells slots cw ad H locs ls U => ?_⟩
  obtain ⟨u1, u2, uI, ua, ud, uS, uL, us, ul⟩ := U
  obtain ⟨x1, x2, x3, x4, x5, x6, x7, x8, x11, x12⟩ := X
  have e1 : gx_sl (gy_s Y) v = gR t v := by rw [hs]; unfold gx_sl; rw [if_neg (by omega), if_neg (by omega), show 8 + t - 8 = t by omega]
  refine gr_fin u1 u2 hc hn (W.aret (v := gx_den (gg_dk G) ad (gR t v)) x1 x2 (x4.trans hr) hrt (gx_rf2 _ _ _ _) (fun t ht hW => ⟨hT, ad, cw, ?_, ua, ud, by rw [ht]; exact uI, ?_, uS.F ht⟩) uS.2.2 hdg x7)
  · unfold gx_ret; rw [if_neg (by omega), e1]
  · rw [e1]; exact gv_oks_hd us
theorem gr_return (hdg : decode (gy_b Y) pc = .ok (.return_, 1)) (hr : gy_r Y = none) (hs : gy_s Y = 5) : gxJ G Y K pc [] L M n c (K 0 M n c) := fun hK => by
  have hT : 0 ≠ gx_T := by unfold gx_T; omega
  refine ⟨0, M, n, c, hK, Nat.le_refl _, Nat.le_refl _, fun _ => hT, fun p e R s m args below meth cd X c0 n0 cw0 ad0 hc hn cells slots cw ad H locs ls U => ?_⟩
  obtain ⟨u1, u2, uI, ua, ud, uS, uL, us, ul⟩ := U
  obtain ⟨x1, x2, x3, x4, x5, x6, x7, x8, x11, x12⟩ := X
  refine gr_fin u1 u2 hc hn (W.vret x1 x2 (x4.trans hr) (fun t ht hW => ⟨hT, ad, cw, ?_, ua, ud, by rw [ht]; exact uI, ?_, uS.F ht⟩) uS.2.2 hdg x7)
  · rw [hs]; rfl
  · rw [hs]; exact Or.inl rfl
/-- what is given once for all -/
def gxG0 (G : gxG) : Prop := gxR G (gg_s G) ∧ gx_D (gg_dk G) ∧ gxZ G (gg_s G) ∧ va_K (gg_D G) gx_cl (gx_tys (gg_cT G)) (gg_s G) ∧ (gg_l G).flags = flags0 ∧ ∀ w ∈ gx_tb, gx_crw w = true → va_Nw w (gg_s G)
theorem gxR_at {s : State} (h : gxR G (gg_s G)) (hA : (gg_s G).vm.Alike s.vm) (hq : ∀ a : Nat, a < (gg_s G).heap.size → ¬ gg_lo G ≤ a → s.heap[a]? = (gg_s G).heap[a]?) : gxR G s := fun q hqm => by
  obtain ⟨r1, r2, r3, r4⟩ := h q hqm
  refine ⟨r1, r2, fun h64 => ?_, fun h64 h96 => ?_⟩
  · obtain ⟨r5, r6, r7⟩ := r3 h64
    exact ⟨r5, (va_O.moved hA r6).kept hq, fun j hj => ⟨(va_OF.moved hA (r7 j hj).1).kept hq, (r7 j hj).2⟩⟩
  · obtain ⟨r5, r6, r7, r8⟩ := r4 h64 h96
    exact ⟨r5, r6, r7, (va_T.moved hA r8).kept hq⟩
theorem va_Z_at {s : State} {C n d : String} {v : Value} {A : Nat → Prop} {u : State} (h : va_Z C n d v A u u.heap) (hA : u.vm.Alike s.vm) (hq : ∀ a : Nat, a < u.heap.size → ¬ A a → s.heap[a]? = u.heap[a]?) : va_Z C n d v A s s.heap := (va_Z.moved hA h).kept hq
theorem gxZ_at {s : State} (h : gxZ G (gg_s G)) (hW : (gg_s G).WarmedH s.vm) (hq : ∀ a : Nat, a < (gg_s G).heap.size → ¬ gg_lo G ≤ a → s.heap[a]? = (gg_s G).heap[a]?) : gxZ G s := by
  obtain ⟨z1, z2, z3, ⟨z4, z5, z6, z7⟩, ⟨z8, z9⟩, z10, ⟨sa, z11⟩, z12, z13⟩ := h
  have hA := hW.alike
  refine ⟨va_Z_at z1 hA hq, va_Z_at z2 hA hq, ?_, ⟨va_Z_at z4 hA hq, va_Z_at z5 hA hq, (va_T.moved hA z6).kept hq, (va_T.moved hA z7).kept hq⟩, ⟨(vx_Zq.moved hA z8).kept hq, (vx_Zq.moved hA z9).kept hq⟩, fun q hq => vk_R.warm hW (z10 q hq), ⟨sa, vk_R.warm hW z11⟩, z12, z13⟩
  rcases z3 with z3 | z3
  · exact Or.inl (va_Z_at z3 hA hq)
  · exact Or.inr (va_Z_at z3 hA hq)
/-- the locals at a method's beginning -/
def gx_ent : List gxV → List gxV
  | [] => []
  | v :: t => match gx_lg v with
    | true => v :: gB :: gx_ent t
    | false => v :: gx_ent t
theorem gx_ent_args {dk ad : Nat → Nat} : ∀ (vs : List gxV) (b : Nat) (i : Nat), (∀ v ∈ vs, gx_bl0 v = false) → ∀ q, q ∈ gx_ll dk ad i (gx_ent vs ++ List.replicate b gB) → q ∈ lv_args i (vs.map (gx_den dk ad)) := by
  intro vs
  induction vs with
  | nil =>
    intro b i _ q hq
    exfalso
    obtain ⟨j, x, h3, h4, -⟩ := (gx_ll_mem _ _ _).mp hq
    have := List.mem_of_getElem? h3
    have := List.eq_of_mem_replicate this
    rw [this] at h4
    exact nomatch h4
  | cons v t ih =>
    intro b i hb q hq
    have ht : ∀ w ∈ t, gx_bl0 w = false := fun w hw => hb w (List.mem_cons_of_mem _ hw)
    have hv := hb v List.mem_cons_self
    cases hl : gx_lg v with
    | true =>
      rcases v with x | x | x | x
      · exact nomatch hl
      · have hq : q ∈ (i, gx_den dk ad (gL x)) :: gx_ll dk ad (i + 1 + 1) (gx_ent t ++ List.replicate b gB) := hq
        rcases List.mem_cons.mp hq with e | e
        · exact List.mem_cons.mpr (Or.inl e)
        · exact List.mem_cons_of_mem _ (ih b (i + 2) ht q e)
      · exact nomatch hl
      · exact nomatch hl
    | false =>
      have e1 : gx_ent (v :: t) = v :: gx_ent t := by
        show (match gx_lg v with | true => _ | false => _) = _
        rw [hl]
      rw [e1] at hq
      have hc := gx_cat (dk := dk) (ad := ad) hl
      have hq : q ∈ (i, gx_den dk ad v) :: gx_ll dk ad (i + 1) (gx_ent t ++ List.replicate b gB) := by
        rcases v with x | x | x | x
        · exact hq
        · exact nomatch hl
        · exact hq
        · exact nomatch hv
      show q ∈ (i, gx_den dk ad v) :: lv_args (if (gx_den dk ad v).category = 2 then i + 2 else i + 1) (t.map (gx_den dk ad))
      rw [if_neg (by rw [hc]; decide)]
      rcases List.mem_cons.mp hq with e | e
      · exact List.mem_cons.mpr (Or.inl e)
      · exact List.mem_cons_of_mem _ (ih b (i + 1) ht q e)
theorem gx_ent_len {dk ad : Nat → Nat} : ∀ (vs : List gxV), (lg_sl (vs.map (gx_den dk ad))).length = (gx_ent vs).length := by
  intro vs
  induction vs with
  | nil => rfl
  | cons v t ih =>
    have e0 : lg_sl ((v :: t).map (gx_den dk ad)) = (if (gx_den dk ad v).category = 2 then [Slot.val (gx_den dk ad v), .second] else [Slot.val (gx_den dk ad v)]) ++ lg_sl (t.map (gx_den dk ad)) := rfl
    rw [e0, List.length_append, ih]
    cases hl : gx_lg v with
    | true =>
      rcases v with x | x | x | x
      · exact nomatch hl
      · show _ = (gL x :: gB :: gx_ent t).length
        rw [if_pos (show (gx_den dk ad (Sum.inr (Sum.inl x))).category = 2 from rfl)]
        simp
        omega
      · exact nomatch hl
      · exact nomatch hl
    | false =>
      have e1 : gx_ent (v :: t) = v :: gx_ent t := by
        show (match gx_lg v with | true => _ | false => _) = _
        rw [hl]
      rw [e1, if_neg (by rw [gx_cat hl]; decide)]
      simp
      omega
theorem gx_ent_ok {cs : List gxq} {vs : List gxV} (h : gv_oks cs vs) (b : Nat) : gv_oks cs (gx_ent vs ++ List.replicate b gB) := by
  intro w hw
  rcases List.mem_append.mp hw with hw | hw
  · induction vs with
    | nil => exact nomatch hw
    | cons v t ih =>
      have hw : w ∈ (match gx_lg v with | true => v :: gB :: gx_ent t | false => v :: gx_ent t) := hw
      cases hl : gx_lg v with
      | true =>
        rw [hl] at hw
        rcases List.mem_cons.mp hw with e | e
        · rw [e]; exact gv_oks_hd h
        · rcases List.mem_cons.mp e with e | e
          · rw [e]; trivial
          · exact ih (gv_oks_tl h) (List.mem_append_left _ e) e
      | false =>
        rw [hl] at hw
        rcases List.mem_cons.mp hw with e | e
        · rw [e]; exact gv_oks_hd h
        · exact ih (gv_oks_tl h) (List.mem_append_left _ e) e
  · rw [List.eq_of_mem_replicate hw]; trivial
theorem gx_ofW {l : Launch} {y : MethodName} {ws ws' : List Cond} {rm : Room} {Pc : Array Value → State → Prop} {Qc : Array Value → State → Outcome → State → Prop} {mc ms : Nat} {free : Addr → Prop} {cc : ByteArray} {maxL : Nat} {ret : Option FieldType}
    (hy : plainName y.cls = true) (hw : ws = Cond.code y cc maxL ret :: ws')
    (body : ∀ p e s m args below meth c s₁, BodyLoose p l y (headSpec ws rm) cc maxL ret e s m args below meth c s₁ → c.maxLocals = maxL → (∀ x ∈ c.exceptionTable.toList, False) → Pc args s →
      W p l e (headSpec ws rm).room s m args below meth c s.heap [] 0 0 (MQ below Qc args s mc ms free) (entryFrame m args maxL)) : Met l y ws rm Pc Qc mc ms free := by
  refine MetFree.of_bodyS (code := cc) (maxLocals := maxL) (ret := ret) hy ?_ ?_
  · intro args s m h hn
    obtain ⟨meth, c, h1, h2, h3, h4, h5, h6, -, -⟩ := Cond.code_spec hn (atoms_spec (ws := ws) h _ (by rw [hw]; exact List.mem_cons_self))
    exact ⟨meth, c, h1, h2, h3, h4, h5, h6⟩
  · intro p e s m args below meth c s₁ B hml hP _
    have hh0 : s₁.heap = s.heap := by rw [B.state]; rfl
    have ht : ∀ x ∈ c.exceptionTable.toList, False := by
      obtain ⟨meth9, c9, h1, h2, -, -, -, -, h7, -⟩ := Cond.code_spec B.named (atoms_spec (ws := ws) B.pre _ (by rw [hw]; exact List.mem_cons_self))
      cases Option.some.inj (h1.symm.trans B.method)
      cases Option.some.inj (h2.symm.trans (Stand.of_body B).code)
      intro x hx
      rw [Array.isEmpty_iff.mp h7] at hx
      cases hx
    obtain ⟨t, a1, o, b1, b2, b3⟩ := body p e s m args below meth c s₁ B hml ht hP s₁ hh0 (Stand.of_body B)
    exact ⟨t, o, a1, b1, b2, ⟨b3.1, b3.2⟩⟩
/-- a method's contract out of the judgement of its first place -/
theorem gxM_of {y : MethodName} {vs : List gxV} {f : Nat → Nat → Nat → (Nat → Nat → Nat → Nat → Bool) → Bool} (hG : gxG0 G) (b : Nat) (hpn : plainName y.cls = true) (ho : y.cls = gy_o Y) (hnm : y.name = gy_n Y) (hL : gx_ent vs ++ List.replicate b gB = L) (hlen : L.length = gy_l Y) (hbl : ∀ v ∈ vs, gx_bl0 v = false) (hJ : ∀ (M n c : Nat) (K : Nat → Nat → Nat → Nat → Bool), gxJ G Y K 0 [] L M n c (f M n c K)) : gxM G Y y vs f := by
  intro M n c K h
  obtain ⟨v, M', n', c', h1, h2, h3, h4, kk⟩ := hJ M n c K h
  refine ⟨v, M', n', c', h1, h2, h3, h4, fun cw ad => ?_⟩
  have body : ∀ p e s m args below meth cd s₁, BodyLoose p (gg_l G) y (headSpec (gy_w Y y :: gx_gs) { frames := gy_f Y, cells := c' - c, slots := n' - n, locals := gy_k Y }) (gy_b Y) (gy_l Y) (gy_r Y) e s m args below meth cd s₁ → cd.maxLocals = gy_l Y → cd.exceptionTable.toList = tableOf (gy_h Y) → gxPc G ad cw vs M n args s →
      W p (gg_l G) e (headSpec (gy_w Y y :: gx_gs) { frames := gy_f Y, cells := c' - c, slots := n' - n, locals := gy_k Y }).room s m args below meth cd s.heap [] 0 0 (gxQ (gy_x Y) below (gxQc G (gy_s Y) ad cw v M' n') (gxXC G ad cw v M' n') args s (c' - c) (n' - n) (gxA G)) (entryFrame m args (gy_l Y)) := by
    intro p e s m args below meth cd s₁ B hml htb hv
    obtain ⟨rfl, hW, hI, hok⟩ := hv
    obtain ⟨g1, g2, g3, g4, g5, g6⟩ := hG
    have hts := atoms_spec (ws := gy_w Y y :: gx_gs) B.pre
    have hq : ∀ a : Nat, a < (gg_s G).heap.size → ¬ gg_lo G ≤ a → s.heap[a]? = (gg_s G).heap[a]? := fun a ha _ => hI.1.2 a ha
    have X : gxX G Y p (headSpec (gy_w Y y :: gx_gs) { frames := gy_f Y, cells := c' - c, slots := n' - n, locals := gy_k Y }).room s m (vs.map (gx_den (gg_dk G) ad)).toArray meth cd :=
      ⟨B.exec, B.bytes, hml, B.returns, by rw [← ho]; exact findClass_of_methodNamed B.named, fun w hw => by
        obtain ⟨hw1, hw2⟩ := List.mem_filter.mp hw
        cases hg : goodWord w with
        | true => exact hts w (List.mem_cons_of_mem _ (List.mem_filter.mpr ⟨hw1, hg⟩))
        | false => exact gx_car (by unfold gx_okw at hw2; rw [hg] at hw2; exact hw2) hW (g6 w hw1 (by unfold gx_okw at hw2; rw [hg] at hw2; exact hw2)) _, B.notSynchronized, ⟨hW, gxR_at g1 hW.alike hq, g2, gxZ_at g3 hW hq⟩, va_K.moved hW.alike g4, hI.1, Nat.le_refl _, Nat.le_refl _, g5, htb, (name_of_methodNamed B.named B.method).1.trans hnm⟩
    have hlsl : (lg_sl (vs.map (gx_den (gg_dk G) ad))).length ≤ gy_l Y := by
      rw [gx_ent_len, ← hlen, ← hL, List.length_append]
      omega
    have hl := lv_entry (vs.map (gx_den (gg_dk G) ad)) (n := gy_l Y) hlsl
    rw [lg_entry_eq]
    generalize (lg_sl (vs.map (gx_den (gg_dk G) ad)) ++ List.replicate (gy_l Y - (lg_sl (vs.map (gx_den (gg_dk G) ad))).length) Slot.unset).toArray = ls at hl ⊢
    have hlc : gx_lc (gg_dk G) ad (gy_l Y) ls L := by
      subst hL
      exact ⟨hl.1, hl.2.1, fun q hq => hl.2.2 q (gx_ent_args vs b 0 hbl q hq)⟩
    have w := kk p e (headSpec (gy_w Y y :: gx_gs) { frames := gy_f Y, cells := c' - c, slots := n' - n, locals := gy_k Y }).room s m _ below meth cd X c n cw ad (by show c' - c + c = c'; omega) (by show n' - n + n = n'; omega) 0 0 cw ad s.heap [] ls ⟨by omega, by omega, hI, gx_agr_rf, gx_sb_rf, va_S.rf, hlc, gv_oks_nil, by subst hL; exact gx_ent_ok hok b⟩
    exact w
  have tb0 : ∀ {c9 : Code}, gy_h Y = [] → (∀ x ∈ c9.exceptionTable.toList, False) → c9.exceptionTable.toList = tableOf (gy_h Y) := by
    intro c9 hh hx
    rw [hh]
    cases hz : c9.exceptionTable.toList with
    | nil => rfl
    | cons x t => rw [hz] at hx; exact absurd List.mem_cons_self (hx x)
  unfold gxC
  cases hh : gy_h Y with
  | nil =>
    have hw : gy_w Y y :: gx_gs = Cond.code y (gy_b Y) (gy_l Y) (gy_r Y) :: gx_gs := by rw [gy_w0 hh]
    split
    · next hx =>
      refine vx_ofW (cc := gy_b Y) (maxL := gy_l Y) (ret := gy_r Y) hpn hw (fun p e s m args below meth cd s₁ B hml ht hv => ?_)
      have w := body p e s m args below meth cd s₁ B hml (tb0 hh ht) hv
      rw [show gy_x Y = true from hx] at w
      exact w
    · next hx =>
      refine gx_ofW (cc := gy_b Y) (maxL := gy_l Y) (ret := gy_r Y) hpn hw (fun p e s m args below meth cd s₁ B hml ht hv => ?_)
      have w := body p e s m args below meth cd s₁ B hml (tb0 hh ht) hv
      rw [show gy_x Y = false from hx] at w
      exact w
  | cons h0 t0 =>
    have hw : gy_w Y y :: gx_gs = Cond.codeWith y (gy_b Y) (gy_l Y) (gy_r Y) (h0 :: t0) :: gx_gs := by unfold gy_w; rw [hh]
    have tbW : ∀ {p : Program} {e : Env} {s s₁ : State} {m : MethodId} {args : Array Value} {below : List Frame} {meth : Method} {cd : Code}, BodyLoose p (gg_l G) y (headSpec (gy_w Y y :: gx_gs) { frames := gy_f Y, cells := c' - c, slots := n' - n, locals := gy_k Y }) (gy_b Y) (gy_l Y) (gy_r Y) e s m args below meth cd s₁ → cd.exceptionTable.toList = tableOf (gy_h Y) := fun B => by
      rw [hh]
      exact vx_table (x := y) B (atoms_spec (ws := gy_w Y y :: gx_gs) B.pre _ (by rw [hw]; exact List.mem_cons_self))
    split
    · next hx =>
      refine vx_ofWH (cc := gy_b Y) (maxL := gy_l Y) (ret := gy_r Y) (hh := h0 :: t0) hpn hw (fun p e s m args below meth cd s₁ B hml hv => ?_)
      have w := body p e s m args below meth cd s₁ B hml (tbW B) hv
      rw [show gy_x Y = true from hx] at w
      exact w
    · next hx =>
      refine va_MetW (cc := gy_b Y) (maxL := gy_l Y) (ret := gy_r Y) (hh := h0 :: t0) hpn hw (fun p e s m args below meth cd s₁ B hml hv => ?_)
      have w := body p e s m args below meth cd s₁ B hml (tbW B) hv
      rw [show gy_x Y = false from hx] at w
      exact w
end ENS
