/-! THE LAW'S ENTRY. -/
def gY_law : gxY := (false, code, 1, ret, "FarfilesLaw", 16, 640, 2, [], "law")
noncomputable def fd_main (F : Nat → Nat → Nat → Nat → (Nat → Nat → Nat → Nat → Bool) → Bool) (K : Nat → Nat → Nat → Nat → Bool) : Bool := gx_new 5 128 0 (fun v n c => gx_nn v (fi_8 v gx_M0 n c (fun _ M1 n1 c1 => gx_nn v (F v M1 n1 c1 (fun r M2 n2 c2 => gx_rt gx_f2 r (K r M2 n2 c2))))))
theorem h_main {G : gxG} (hG : gxG0 G) {F : Nat → Nat → Nat → Nat → (Nat → Nat → Nat → Nat → Bool) → Bool} (hF : ∀ v, gxM G gY_166 yL_holdsAll [gR 10 v, gR 99 1] (F v)) {K : Nat → Nat → Nat → Nat → Bool} : gxJ G gY_law K 0 [] [gR 99 1] gx_M0 128 0 (fd_main F K) := by
  unfold fd_main
  refine gr_newo (pc := 0) (index := 11) (t := 10) (show decode (gy_b gY_law) 0 = .ok (.new 11, 3) by decide +kernel) rfl (show Cond.classLink "FarfilesLaw" 11 "FarfilesLaw" ∈ gx_ws from gw_m gw_1 30 rfl rfl) (show Cond.instantiable "FarfilesLaw" 5 ∈ gx_ws from gw_m gw_1 31 rfl rfl) (show Cond.initialized "FarfilesLaw" ∈ gx_ws from gw_m gw_1 0 rfl rfl) ?_
  intro v n c
  refine gr_dup (b := gB) (pc := 3) (show decode (gy_b gY_law) 3 = .ok (.dup, 1) by decide +kernel) rfl ?_
  refine gj_nn (fun hx4 => ?_)
  refine gj_c0 (pc := 4) (Y' := gY_8) (y := yL_init) (vs := [gR 10 v]) (rest := [gR 10 v]) (rs := fun _ => [gR 10 v]) [gR 10 v] rfl (hm_8 hG v) rfl (gh_I (t := 10) (vs := []) (rest := [gR 10 v]) (show decode (gy_b gY_law) 4 = .ok (.invokespecial 232, 3) by decide +kernel) rfl hx4 rfl (ok_8 (by decide) (by decide)) rfl rfl rfl rfl (show Cond.methodLink "FarfilesLaw" 232 ⟨"FarfilesLaw", "<init>", "()V"⟩ ∈ gx_ws from gw_m gw_1 32 rfl rfl) (show Cond.instanceMethod ⟨"FarfilesLaw", "<init>", "()V"⟩ ∈ gx_ws from gw_m gw_1 33 rfl rfl) (Nat.le_of_ble_eq_true rfl)) (fun _ => rfl) ?_
  intro w M1 n1 c1
  refine gr_aload_n (pc := 7) (i := 0) 99 1 (show decode (gy_b gY_law) 7 = .ok (.aload_n 0, 1) by decide +kernel) rfl rfl ?_
  refine gj_nn (fun hx8 => ?_)
  refine gj_c0 (pc := 8) (Y' := gY_166) (y := yL_holdsAll) (vs := [gR 10 v, gR 99 1]) (rest := []) (rs := fun r => [gI r]) [gR 99 1, gR 10 v] rfl (hF v) rfl (gh_V (t := 10) (vs := [gR 99 1]) (rest := []) (show decode (gy_b gY_law) 8 = .ok (.invokevirtual 233, 3) by decide +kernel) rfl hx8 rfl rfl (ok_166 (by decide) (by decide)) (show Cond.methodLink "FarfilesLaw" 233 ⟨"FarfilesLaw", "holdsAll", "([I)Z"⟩ ∈ gx_ws from gw_m gw_2 69 rfl rfl) (show Cond.instanceMethod ⟨"FarfilesLaw", "holdsAll", "([I)Z"⟩ ∈ gx_ws from gw_m gw_2 71 rfl rfl) (show Cond.selects "FarfilesLaw" ⟨"FarfilesLaw", "holdsAll", "([I)Z"⟩ ⟨"FarfilesLaw", "holdsAll", "([I)Z"⟩ ∈ gx_ws from gw_m gw_p 0 rfl rfl) (Nat.le_of_ble_eq_true rfl)) (fun _ => rfl) ?_
  intro r M2 n2 c2
  exact gr_ireturn (pc := 11) (show decode (gy_b gY_law) 11 = .ok (.ireturn, 1) by decide +kernel) rfl rfl (by decide) gv_2f
noncomputable def gK : Nat → Nat → Nat → Nat → Bool := fun v _ n c => Bool.and (Nat.beq v 1) (Bool.and (Nat.ble c 797102) (Nat.ble n 6710757))
theorem gz_zero (a : Nat) (h : 128 ≤ a) : gx_rd gx_M0 a = 0 := by
  have hM : gx_M0 < 2 ^ 6144 := by decide +kernel
  apply Nat.eq_of_testBit_eq
  intro i
  rw [gh_bit, Nat.zero_testBit, Nat.testBit_lt_two_pow (Nat.lt_of_lt_of_le hM (Nat.pow_le_pow_right (by decide) (by omega))), Bool.and_false]
theorem gz_end {p : Program} {e : Env} {s : State} {m : MethodId} {below : List Frame} {meth : Method} {c : Code} (l : Launch) {b Ln : Nat} {xs : Nat → Int32} {G : gxG} (hl : gg_l G = l) (hs : gg_s G = s) (hM : gg_M G = gx_M0) (hc : gg_cr G = gx_cr) (hG : gxG0 G) (hS : gxS G Ln xs)
    (had : gg_ad G 1 = b) {e0 : Bool} (hJ : gxJ G gY_law gK 0 [] [gR 99 1] gx_M0 128 0 e0) (hrun : e0 = true)
    (h1 : p.tables.exec = Jvm.exec) (h2 : c.code = code) (h3 : meth.sig.returnType = ret) (h4 : c.maxLocals = 1) (h5 : s.vm.findClass R_law = some m.cls) (h6 : ∀ w ∈ gx_tb, w.before #[Value.ref b] s = true) (h7 : meth.locks = false) (h8 : c.exceptionTable.toList = []) (h9 : meth.name = "law") :
    W p l e room_1 s m #[Value.ref b] below meth c s.heap [] 0 0 (lw_Z below #[Value.ref b] s) (entryFrame m ([Value.ref b] : List Value).toArray 1) := by
  subst hl
  subst hs
  obtain ⟨v, M', n', c', g1, g2, g3, g4, gg⟩ := hJ hrun
  obtain ⟨k1, k2⟩ := go_and g1
  obtain ⟨k2, k3⟩ := go_and k2
  have k1 : v = 1 := gb_beq k1
  have k2 : c' ≤ 797102 := gb_ble k2
  have k3 : n' ≤ 6710757 := gb_ble k3
  subst k1
  intro T0 hT0 X
  have Y := vx_rebase X (R' := { frames := 16, locals := 640, cells := c', slots := n' - 128 }) (Nat.le_refl _) (Nat.le_refl _) (by show 0 + c' ≤ 797102; omega) (by show 0 + (n' - 128) ≤ 6710629; omega)
  obtain ⟨s', hA⟩ : ∃ z, z = (T0.setVm (gg_s G).vm).setFrames (.invoking m #[Value.ref b] :: below) := ⟨_, rfl⟩
  rw [← hA] at Y
  have hvm : s'.vm = (gg_s G).vm := by rw [hA]; rfl
  have hhp : s'.heap = (gg_s G).heap := by rw [hA]; exact hT0
  have hW0 : (gg_s G).WarmedH s'.vm := by rw [hvm]; exact State.WarmedH.refl _
  obtain ⟨q1, q2, q3, q4, q5, q6⟩ := hG
  have hq : ∀ a : Nat, a < (gg_s G).heap.size → ¬ gg_lo G ≤ a → s'.heap[a]? = (gg_s G).heap[a]? := fun a _ _ => by rw [hhp]
  have XX : gxX G gY_law p { frames := 16, locals := 640, cells := c', slots := n' - 128 } s' m #[Value.ref b] meth c := by
    refine ⟨h1, h2, h4, h3, by rw [hvm]; exact h5, fun w hw => ?_, h7, ⟨hW0, gxR_at q1 hW0.alike hq, q2, gxZ_at q3 hW0 hq⟩, va_K.moved hW0.alike q4, ⟨by rw [hhp]; exact Nat.le_refl _, fun q _ => by rw [hhp]⟩, Nat.le_refl _, Nat.le_refl _, q5, h8, h9⟩
    obtain ⟨hw1, hw2⟩ := List.mem_filter.mp hw
    cases hg : goodWord w with
    | true => exact word_at hW0 (good_of_word hg) (h6 w hw1)
    | false => exact gx_car (by unfold gx_okw at hw2; rw [hg] at hw2; exact hw2) hW0 (q6 w hw1 (by unfold gx_okw at hw2; rw [hg] at hw2; exact hw2)) _
  have hP0 : va_P (gg_D G) gx_cl [] (gg_s G).heap := fun k q hk => by simp at hk
  have hD0 : va_D (fun q => gg_lo G ≤ q) [] := ⟨fun i j p q hp => by simp at hp, fun k q hk => by simp at hk⟩
  have hI : gxI G (gg_ad G) [] gx_M0 128 (gg_s G).heap := by
    refine ⟨⟨Nat.le_refl _, fun _ _ => rfl⟩, hP0, hD0, ?_, ?_, ?_, gz_zero, ?_, ⟨⟨Nat.le_refl _, by decide⟩, ?_⟩, fun _ _ => rfl⟩
    · intro q hq; exact absurd hq List.not_mem_nil
    · intro q hq; exact absurd hq List.not_mem_nil
    · intro q hq; exact absurd hq List.not_mem_nil
    · intro a _; rw [hM]
    · intro q hq; exact absurd hq List.not_mem_nil
  have hok : gv_oks (gg_cr G ++ []) [gR 99 1] := fun v hv => by
    rw [List.mem_singleton.mp hv, hc]
    exact Or.inr ⟨(1, (99, 0)), by decide, rfl, rfl⟩
  have hden : [gR 99 1].map (gx_den (gg_dk G) (gg_ad G)) = [Value.ref b] := by
    show [gx_rf (gg_ad G) 1] = _
    rw [gx_rfn (by decide), had]
  have hl := lv_entry [Value.ref b] (n := 1) (Nat.le_refl _)
  rw [lg_entry_eq]
  generalize (lg_sl [Value.ref b] ++ List.replicate (1 - (lg_sl [Value.ref b]).length) Slot.unset).toArray = ls at hl ⊢
  have hlc : gx_lc (gg_dk G) (gg_ad G) 1 ls [gR 99 1] := by
    refine ⟨hl.1, hl.2.1, fun q hq => hl.2.2 q ?_⟩
    rw [← hden]
    exact gx_ent_args [gR 99 1] 0 0 (List.forall_mem_cons.mpr ⟨rfl, fun _ h => nomatch h⟩) q hq
  have w := gg p e { frames := 16, locals := 640, cells := c', slots := n' - 128 } s' m #[Value.ref b] below meth c XX 0 128 [] (gg_ad G) (by show c' + 0 = c'; omega) (by show n' - 128 + 128 = n'; omega) 0 0 [] (gg_ad G) (gg_s G).heap [] ls ⟨rfl, by omega, hI, gx_agr_rf, gx_sb_rf, by rw [hhp]; exact va_S.rf, hlc, gv_oks_nil, hok⟩
  obtain ⟨t, a1, o, b1, b2, ⟨-, ad', cw', hr, -⟩, L9, ⟨f1, f2, f3⟩, hL9⟩ := w T0 hT0 Y
  refine ⟨t, a1, o, b1, b2, ?_, f1, ?_, ?_⟩
  · rw [hr]
    exact congrArg (fun z => Outcome.returned (some (Value.int z))) ((gn_c (by decide)).trans rfl)
  · rw [hA] at f2; exact f2
  · subst hA
    obtain ⟨e1, e2⟩ := f3
    rw [State.setFrames_setFrames] at e1
    have j2 : (T0.setVm (gg_s G).vm).sameButNew ({ t with vm := (gg_s G).vm } : State) L9 (0 + c') (0 + (n' - 128)) := by
      rw [Nat.zero_add, Nat.zero_add]; exact ⟨e1, e2⟩
    have j3 := X.same.trans j2
    exact j3.weaken (fun y hy hlt => absurd hlt (Nat.not_lt.mpr (hL9 y (by simpa using hy)))) (by omega) (by omega)
