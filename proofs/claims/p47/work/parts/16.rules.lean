/-! RULES: constants, locals, the stack. The run e is the same ahead of such a place and behind it. -/
section RL1
variable {G : gxG} {Y : gxY} {K : Nat → Nat → Nat → Nat → Bool} {pc : Nat} {st L : List gxV} {M n c : Nat} {e : Bool}
theorem gj_false : gxJ G Y K pc st L M n c false := fun h => nomatch h
theorem gj_go {pc' : Nat} {st' L' : List gxV} (hk : gxJ G Y K pc' st' L' M n c e)
    (hrow : ∀ (p : Program) (e : Env) (R : Room) (s : State) (m : MethodId) (args : Array Value) (below : List Frame) (meth : Method) (cd : Code), gxX G Y p R s m args meth cd →
      ∀ (cells slots : Nat) (cw : List gxq) (ad : Nat → Nat) (H : Heap) (locs : List Loc) (ls : Array Slot) (Q : State → Prop), gx_lc (gg_dk G) ad (gy_l Y) ls L → gv_oks (gg_cr G ++ cw) st → gv_oks (gg_cr G ++ cw) L →
        (∀ ls' : Array Slot, gx_lc (gg_dk G) ad (gy_l Y) ls' L' → gv_oks (gg_cr G ++ cw) st' → gv_oks (gg_cr G ++ cw) L' → W p (gg_l G) e R s m args below meth cd H locs cells slots Q (F0 m pc' ls' (st'.map (gx_den (gg_dk G) ad)))) →
        W p (gg_l G) e R s m args below meth cd H locs cells slots Q (F0 m pc ls (st.map (gx_den (gg_dk G) ad)))) : gxJ G Y K pc st L M n c e := by
  intro h
  obtain ⟨v, M', n', c', h1, h2, h3, h4, kk⟩ := hk h
  refine ⟨v, M', n', c', h1, h2, h3, h4, fun p e R s m args below meth cd X c0 n0 cw0 ad0 hc hn cells slots cw ad H locs ls U => ?_⟩
  obtain ⟨u1, u2, uI, ua, ud, uS, uL, us, ul⟩ := U
  exact hrow p e R s m args below meth cd X cells slots cw ad H locs ls _ uL us ul (fun ls' a b d => kk p e R s m args below meth cd X c0 n0 cw0 ad0 hc hn cells slots cw ad H locs ls' ⟨u1, u2, uI, ua, ud, uS, a, b, d⟩)
theorem gv_oks_cons {cs : List gxq} {v : gxV} {L : List gxV} (h : gv_ok cs v) (hl : gv_oks cs L) : gv_oks cs (v :: L) := fun w hw => by
  rcases List.mem_cons.mp hw with e | e
  · rw [e]; exact h
  · exact hl w e
theorem gv_oks_tl {cs : List gxq} {v : gxV} {L : List gxV} (h : gv_oks cs (v :: L)) : gv_oks cs L := fun w hw => h w (List.mem_cons_of_mem _ hw)
theorem gv_oks_hd {cs : List gxq} {v : gxV} {L : List gxV} (h : gv_oks cs (v :: L)) : gv_ok cs v := h v List.mem_cons_self
theorem gv_oks_set {cs : List gxq} {v : gxV} {L : List gxV} {i : Nat} (h : gv_oks cs L) (hv : gv_ok cs v) : gv_oks cs (L.set i v) := fun w hw => by
  rcases List.mem_or_eq_of_mem_set hw with e | e
  · exact h w e
  · rw [e]; exact hv
theorem gv_oks_at {cs : List gxq} {v : gxV} {L : List gxV} {i : Nat} (h : gv_oks cs L) (hv : L[i]? = some v) : gv_ok cs v := h v (List.mem_of_getElem? hv)
theorem gv_oks_nil {cs : List gxq} : gv_oks cs [] := fun _ h => nomatch h
theorem gr_iconst {z : Int} (x : Nat) (hdg : decode (gy_b Y) pc = .ok (.iconst z, 1)) (hv : Int32.ofInt z = nI x ∧ x < 4294967296) (hk : gxJ G Y K (pc + 1) (gI x :: st) L M n c e) : gxJ G Y K pc st L M n c e :=
  gj_go hk fun p e R s m args below meth cd X cells slots cw ad H locs ls Q uL us ul kk => lv_iconst X.1 X.2.1 hdg (hv.1.trans (gn_c hv.2).symm) (kk ls uL (gv_oks_cons trivial us) ul)
theorem gr_bipush {z : Int} (x : Nat) (hdg : decode (gy_b Y) pc = .ok (.bipush z, 2)) (hv : (Int8.ofInt z).toInt32 = nI x ∧ x < 4294967296) (hk : gxJ G Y K (pc + 2) (gI x :: st) L M n c e) : gxJ G Y K pc st L M n c e :=
  gj_go hk fun p e R s m args below meth cd X cells slots cw ad H locs ls Q uL us ul kk => lv_bipush X.1 X.2.1 hdg (hv.1.trans (gn_c hv.2).symm) (kk ls uL (gv_oks_cons trivial us) ul)
theorem gr_sipush {z : Int} (x : Nat) (hdg : decode (gy_b Y) pc = .ok (.sipush z, 3)) (hv : (Int16.ofInt z).toInt32 = nI x ∧ x < 4294967296) (hk : gxJ G Y K (pc + 3) (gI x :: st) L M n c e) : gxJ G Y K pc st L M n c e :=
  gj_go hk fun p e R s m args below meth cd X cells slots cw ad H locs ls Q uL us ul kk => lv_sipush X.1 X.2.1 hdg (hv.1.trans (gn_c hv.2).symm) (kk ls uL (gv_oks_cons trivial us) ul)
theorem gr_lconst {z : Fin 2} (x : Nat) (hdg : decode (gy_b Y) pc = .ok (.lconst z, 1)) (hv : Int64.ofNat (z : Nat) = lN x) (hk : gxJ G Y K (pc + 1) (gL x :: st) L M n c e) : gxJ G Y K pc st L M n c e :=
  gj_go hk fun p e R s m args below meth cd X cells slots cw ad H locs ls Q uL us ul kk => lv_lconst X.1 X.2.1 hdg hv (kk ls uL (gv_oks_cons trivial us) ul)
theorem gr_null (t : Nat) (hdg : decode (gy_b Y) pc = .ok (.aconst_null, 1)) (hk : gxJ G Y K (pc + 1) (gR t 0 :: st) L M n c e) : gxJ G Y K pc st L M n c e :=
  gj_go hk fun p e R s m args below meth cd X cells slots cw ad H locs ls Q uL us ul kk => lv_null X.1 X.2.1 hdg (kk ls uL (gv_oks_cons (Or.inl rfl) us) ul)
theorem gr_ldc {index : Nat} {z : Int32} (x : Nat) (hdg : decode (gy_b Y) pc = .ok (.ldc index, 2)) (hw : Cond.constant (gy_o Y) index z ∈ gx_ws) (hv : z = nI x ∧ x < 4294967296) (hk : gxJ G Y K (pc + 2) (gI x :: st) L M n c e) : gxJ G Y K pc st L M n c e :=
  gj_go hk fun p e R s m args below meth cd X cells slots cw ad H locs ls Q uL us ul kk => by
    have := hv.1.trans (gn_c (dk := gg_dk G) hv.2).symm
    subst this
    exact lv_ldc X.1 X.2.1 X.2.2.2.2.1 (X.2.2.2.2.2.1 _ hw) hdg (kk ls uL (gv_oks_cons trivial us) ul)
theorem gr_ldc2 {index : Nat} {z : Int64} (x : Nat) (hdg : decode (gy_b Y) pc = .ok (.ldc2_w index, 3)) (hw : Cond.constantLong (gy_o Y) index z ∈ gx_ws) (hv : z = lN x) (hk : gxJ G Y K (pc + 3) (gL x :: st) L M n c e) : gxJ G Y K pc st L M n c e :=
  gj_go hk fun p e R s m args below meth cd X cells slots cw ad H locs ls Q uL us ul kk => by
    subst hv
    exact lv_ldc2 X.1 X.2.1 X.2.2.2.2.1 (X.2.2.2.2.2.1 _ hw) hdg (kk ls uL (gv_oks_cons trivial us) ul)
/-- locals -/
theorem gr_iload_n {i : Nat} {j : Fin 4} (x : Nat) (hdg : decode (gy_b Y) pc = .ok (.iload_n j, 1)) (hj : (j : Nat) = i) (hi : L[i]? = some (gI x)) (hk : gxJ G Y K (pc + 1) (gI x :: st) L M n c e) : gxJ G Y K pc st L M n c e :=
  gj_go hk fun p e R s m args below meth cd X cells slots cw ad H locs ls Q uL us ul kk => lv_iload_n X.1 X.2.1 hdg hj (gx_lc_at uL hi rfl) (kk ls uL (gv_oks_cons trivial us) ul)
theorem gr_iload {i : Nat} (x : Nat) (hdg : decode (gy_b Y) pc = .ok (.iload i, 2)) (hi : L[i]? = some (gI x)) (hk : gxJ G Y K (pc + 2) (gI x :: st) L M n c e) : gxJ G Y K pc st L M n c e :=
  gj_go hk fun p e R s m args below meth cd X cells slots cw ad H locs ls Q uL us ul kk => lv_iload X.1 X.2.1 hdg (gx_lc_at uL hi rfl) (kk ls uL (gv_oks_cons trivial us) ul)
theorem gr_lload_n {i : Nat} {j : Fin 4} (x : Nat) (hdg : decode (gy_b Y) pc = .ok (.lload_n j, 1)) (hj : (j : Nat) = i) (hi : L[i]? = some (gL x)) (hk : gxJ G Y K (pc + 1) (gL x :: st) L M n c e) : gxJ G Y K pc st L M n c e :=
  gj_go hk fun p e R s m args below meth cd X cells slots cw ad H locs ls Q uL us ul kk => lv_lload_n X.1 X.2.1 hdg hj (gx_lc_at uL hi rfl) (kk ls uL (gv_oks_cons trivial us) ul)
theorem gl_aload_n {p : Program} {l : Launch} {e : Env} {R : Room} {s : State} {m : MethodId} {args : Array Value} {below : List Frame} {meth : Method} {c : Code} {H : Heap} {locs : List Loc} {cells slots : Nat} {Q : State → Prop} {cc : ByteArray} {ls : Array Slot} {rest : List Value} {pc : Nat}
    (hexec : p.tables.exec = Jvm.exec) (hb : c.code = cc) {j : Fin 4} {i : Nat} (hdg : decode cc pc = .ok (.aload_n j, 1)) (hi : (j : Nat) = i) (hl : ls[i]? = some (.val .null))
    (k : W p l e R s m args below meth c H locs cells slots Q (F0 m (pc + 1) ls (.null :: rest))) : W p l e R s m args below meth c H locs cells slots Q (F0 m pc ls (rest)) := by
  subst hi
  intro T hT X
  obtain ⟨t, a, b⟩ := k T hT X
  refine ⟨t, ?_, b⟩
  jvm_step X.here [X.here.top, hexec, hb, hdg, hl]
  exact ⟨rfl, a⟩
theorem gl_aload {p : Program} {l : Launch} {e : Env} {R : Room} {s : State} {m : MethodId} {args : Array Value} {below : List Frame} {meth : Method} {c : Code} {H : Heap} {locs : List Loc} {cells slots : Nat} {Q : State → Prop} {cc : ByteArray} {ls : Array Slot} {rest : List Value} {pc : Nat}
    (hexec : p.tables.exec = Jvm.exec) (hb : c.code = cc) {i : Nat} (hdg : decode cc pc = .ok (.aload i, 2)) (hl : ls[i]? = some (.val .null))
    (k : W p l e R s m args below meth c H locs cells slots Q (F0 m (pc + 2) ls (.null :: rest))) : W p l e R s m args below meth c H locs cells slots Q (F0 m pc ls (rest)) := by
  intro T hT X
  obtain ⟨t, a, b⟩ := k T hT X
  refine ⟨t, ?_, b⟩
  jvm_step X.here [X.here.top, hexec, hb, hdg, hl]
  exact ⟨rfl, a⟩
theorem gx_rf2 (dk ad : Nat → Nat) (t x : Nat) : gx_den dk ad (gR t x) = .null ∨ ∃ a, gx_den dk ad (gR t x) = .ref a := by
  show gx_rf ad x = _ ∨ ∃ a, gx_rf ad x = _
  unfold gx_rf
  split
  · exact Or.inl rfl
  · exact Or.inr ⟨_, rfl⟩
theorem gr_aload_n {i : Nat} {j : Fin 4} (t x : Nat) (hdg : decode (gy_b Y) pc = .ok (.aload_n j, 1)) (hj : (j : Nat) = i) (hi : L[i]? = some (gR t x)) (hk : gxJ G Y K (pc + 1) (gR t x :: st) L M n c e) : gxJ G Y K pc st L M n c e :=
  gj_go hk fun p e R s m args below meth cd X cells slots cw ad H locs ls Q uL us ul kk => by
    have hl := gx_lc_at uL hi rfl
    have w := kk ls uL (gv_oks_cons (gv_oks_at ul hi) us) ul
    rw [List.map_cons] at w
    rcases gx_rf2 (gg_dk G) ad t x with h | ⟨a, h⟩
    · rw [h] at hl w; exact gl_aload_n X.1 X.2.1 hdg hj hl w
    · rw [h] at hl w; exact lv_aload_n X.1 X.2.1 hdg hj hl w
theorem gr_aload {i : Nat} (t x : Nat) (hdg : decode (gy_b Y) pc = .ok (.aload i, 2)) (hi : L[i]? = some (gR t x)) (hk : gxJ G Y K (pc + 2) (gR t x :: st) L M n c e) : gxJ G Y K pc st L M n c e :=
  gj_go hk fun p e R s m args below meth cd X cells slots cw ad H locs ls Q uL us ul kk => by
    have hl := gx_lc_at uL hi rfl
    have w := kk ls uL (gv_oks_cons (gv_oks_at ul hi) us) ul
    rw [List.map_cons] at w
    rcases gx_rf2 (gg_dk G) ad t x with h | ⟨a, h⟩
    · rw [h] at hl w; exact gl_aload X.1 X.2.1 hdg hl w
    · rw [h] at hl w; exact lv_aload X.1 X.2.1 hdg hl w
theorem gr_istore_n {i : Nat} {j : Fin 4} {x : Nat} {L' : List gxV} (hdg : decode (gy_b Y) pc = .ok (.istore_n j, 1)) (hj : (j : Nat) = i) (hi : i < gy_l Y) (hp : gx_pl L i = true) (hL : L.set i (gI x) = L') (hk : gxJ G Y K (pc + 1) st L' M n c e) : gxJ G Y K pc (gI x :: st) L M n c e := by
  subst hL
  exact gj_go hk fun p e R s m args below meth cd X cells slots cw ad H locs ls Q uL us ul kk => lv_istore_n X.1 X.2.1 hdg hj uL hi rfl (fun ls' h' => kk ls' (gx_lc_set (v := gI x) hp h') (gv_oks_tl us) (gv_oks_set ul trivial))
theorem gr_istore {i : Nat} {x : Nat} {L' : List gxV} (hdg : decode (gy_b Y) pc = .ok (.istore i, 2)) (hi : i < gy_l Y) (hp : gx_pl L i = true) (hL : L.set i (gI x) = L') (hk : gxJ G Y K (pc + 2) st L' M n c e) : gxJ G Y K pc (gI x :: st) L M n c e := by
  subst hL
  exact gj_go hk fun p e R s m args below meth cd X cells slots cw ad H locs ls Q uL us ul kk => lv_istore X.1 X.2.1 hdg uL hi rfl (fun ls' h' => kk ls' (gx_lc_set (v := gI x) hp h') (gv_oks_tl us) (gv_oks_set ul trivial))
theorem gr_lstore_n {i : Nat} {j : Fin 4} {x : Nat} {L' : List gxV} (hdg : decode (gy_b Y) pc = .ok (.lstore_n j, 1)) (hj : (j : Nat) = i) (hi : i + 1 < gy_l Y) (hp : gx_pl L i = true) (hL : (L.set i (gL x)).set (i + 1) gB = L') (hk : gxJ G Y K (pc + 1) st L' M n c e) : gxJ G Y K pc (gL x :: st) L M n c e := by
  subst hL
  exact gj_go hk fun p e R s m args below meth cd X cells slots cw ad H locs ls Q uL us ul kk => lv_lstore_n X.1 X.2.1 hdg hj uL hi rfl (fun ls' h' => kk ls' (gx_lc_setl hp h') (gv_oks_tl us) (gv_oks_set (gv_oks_set ul trivial) trivial))
theorem gl_astore_n {p : Program} {l : Launch} {e : Env} {R : Room} {s : State} {m : MethodId} {args : Array Value} {below : List Frame} {meth : Method} {c : Code} {H : Heap} {locs : List Loc} {cells slots : Nat} {Q : State → Prop} {cc : ByteArray} {ls : Array Slot} {rest : List Value} {pc : Nat}
    (hexec : p.tables.exec = Jvm.exec) (hb : c.code = cc) {j : Fin 4} {i nL : Nat} {lv : List (Nat × Value)} (hdg : decode cc pc = .ok (.astore_n j, 1)) (hi : (j : Nat) = i) (h : lv_has ls nL lv) (hn : i < nL)
    (kk : ∀ ls' : Array Slot, lv_has ls' nL ((i, Value.null) :: lv.filter (fun q => !(q.1 == i) && !(q.1 + 1 == i && q.2.category == 2))) → W p l e R s m args below meth c H locs cells slots Q (F0 m (pc + 1) ls' rest)) : W p l e R s m args below meth c H locs cells slots Q (F0 m pc ls (.null :: rest)) := by
  subst hi
  obtain ⟨ls', e', h'⟩ := lv_store1 (v := .null) h hn rfl
  intro T hT X
  obtain ⟨t, a, b⟩ := kk ls' h' T hT X
  refine ⟨t, ?_, b⟩
  jvm_step X.here [X.here.top, ↓top_set X.here.top, hexec, hb, hdg, e']
  exact ⟨rfl, a⟩
theorem gl_astore {p : Program} {l : Launch} {e : Env} {R : Room} {s : State} {m : MethodId} {args : Array Value} {below : List Frame} {meth : Method} {c : Code} {H : Heap} {locs : List Loc} {cells slots : Nat} {Q : State → Prop} {cc : ByteArray} {ls : Array Slot} {rest : List Value} {pc : Nat}
    (hexec : p.tables.exec = Jvm.exec) (hb : c.code = cc) {i nL : Nat} {lv : List (Nat × Value)} (hdg : decode cc pc = .ok (.astore i, 2)) (h : lv_has ls nL lv) (hn : i < nL)
    (kk : ∀ ls' : Array Slot, lv_has ls' nL ((i, Value.null) :: lv.filter (fun q => !(q.1 == i) && !(q.1 + 1 == i && q.2.category == 2))) → W p l e R s m args below meth c H locs cells slots Q (F0 m (pc + 2) ls' rest)) : W p l e R s m args below meth c H locs cells slots Q (F0 m pc ls (.null :: rest)) := by
  obtain ⟨ls', e', h'⟩ := lv_store1 (v := .null) h hn rfl
  intro T hT X
  obtain ⟨t, a, b⟩ := kk ls' h' T hT X
  refine ⟨t, ?_, b⟩
  jvm_step X.here [X.here.top, ↓top_set X.here.top, hexec, hb, hdg, e']
  exact ⟨rfl, a⟩
theorem gr_astore_n {i : Nat} {j : Fin 4} {t x : Nat} {L' : List gxV} (hdg : decode (gy_b Y) pc = .ok (.astore_n j, 1)) (hj : (j : Nat) = i) (hi : i < gy_l Y) (hp : gx_pl L i = true) (hL : L.set i (gR t x) = L') (hk : gxJ G Y K (pc + 1) st L' M n c e) : gxJ G Y K pc (gR t x :: st) L M n c e := by
  subst hL
  refine gj_go hk fun p e R s m args below meth cd X cells slots cw ad H locs ls Q uL us ul kk => ?_
  have ko := fun ls' h' => kk ls' (gx_lc_set (v := gR t x) hp h') (gv_oks_tl us) (gv_oks_set ul (gv_oks_hd us))
  rw [List.map_cons]
  rcases gx_rf2 (gg_dk G) ad t x with h | ⟨a, h⟩
  · rw [h] at ko ⊢; exact gl_astore_n X.1 X.2.1 hdg hj uL hi ko
  · rw [h] at ko ⊢; exact lv_astore_n X.1 X.2.1 hdg hj uL hi rfl ko
theorem gr_astore {i : Nat} {t x : Nat} {L' : List gxV} (hdg : decode (gy_b Y) pc = .ok (.astore i, 2)) (hi : i < gy_l Y) (hp : gx_pl L i = true) (hL : L.set i (gR t x) = L') (hk : gxJ G Y K (pc + 2) st L' M n c e) : gxJ G Y K pc (gR t x :: st) L M n c e := by
  subst hL
  refine gj_go hk fun p e R s m args below meth cd X cells slots cw ad H locs ls Q uL us ul kk => ?_
  have ko := fun ls' h' => kk ls' (gx_lc_set (v := gR t x) hp h') (gv_oks_tl us) (gv_oks_set ul (gv_oks_hd us))
  rw [List.map_cons]
  rcases gx_rf2 (gg_dk G) ad t x with h | ⟨a, h⟩
  · rw [h] at ko ⊢; exact gl_astore X.1 X.2.1 hdg uL hi ko
  · rw [h] at ko ⊢; exact lv_astore X.1 X.2.1 hdg uL hi rfl ko
/-- jumps, and places that are only called otherwise -/
theorem gr_goto {tgt : Nat} {off : Int} (hdg : decode (gy_b Y) pc = .ok (.goto off, 3)) (ht : (pc : Int) + off = (tgt : Int)) (hk : gxJ G Y K tgt st L M n c e) : gxJ G Y K pc st L M n c e :=
  gj_go hk fun p e R s m args below meth cd X cells slots cw ad H locs ls Q uL us ul kk => lv_goto X.1 X.2.1 hdg ht (kk ls uL us ul)
/-- locals are forgotten -/
def gx_wk : List gxV → List gxV → Bool
  | [], [] => true
  | a :: x, b :: y => match b with
    | .inr (.inr (.inr _)) => gx_wk x y
    | _ => false
  | _, _ => false
def gx_mk : List Bool → List gxV → List gxV
  | b :: bs, v :: L => (match b with | true => v | false => gB) :: gx_mk bs L
  | _, L => L
theorem gx_mk_at : ∀ (bs : List Bool) (L : List gxV) (j : Nat) (v : gxV), (gx_mk bs L)[j]? = some v → L[j]? = some v ∨ gx_bl0 v = true := by
  intro bs
  induction bs with
  | nil => intro L j v h; exact Or.inl h
  | cons b bs ih =>
    intro L j v h
    cases L with
    | nil => exact Or.inl h
    | cons a t =>
      cases j with
      | zero =>
        cases b with
        | true => exact Or.inl h
        | false =>
          have h : some gB = some v := h
          obtain rfl := Option.some.inj h
          exact Or.inr rfl
      | succ j => exact ih t j v h
theorem gr_wk {L' : List gxV} (bs : List Bool) (hb : gx_mk bs L = L') (hk : gxJ G Y K pc st L' M n c e) : gxJ G Y K pc st L M n c e := by
  subst hb
  refine gj_go hk fun p e R s m args below meth cd X cells slots cw ad H locs ls Q uL us ul kk => kk ls ⟨uL.1, uL.2.1, fun q hq => ?_⟩ us (fun v hv => ?_)
  · obtain ⟨j, x, h3, h4, rfl⟩ := (gx_ll_mem _ _ _).mp hq
    rcases gx_mk_at bs L j x h3 with h | h
    · exact uL.2.2 _ ((gx_ll_mem L 0 _).mpr ⟨j, x, h, h4, rfl⟩)
    · rw [h] at h4; exact nomatch h4
  · obtain ⟨j, hj⟩ := List.getElem?_of_mem hv
    rcases gx_mk_at bs L j v hj with h | h
    · exact ul v (List.mem_of_getElem? h)
    · rcases v with x | x | x | x
      · exact nomatch h
      · exact nomatch h
      · exact nomatch h
      · trivial
end RL1
