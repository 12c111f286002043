/-! STEPS ON THE STACK AND THE LOCALS ARE RIGHT. -/
section LOC
variable {G : fxG} {Y : fxY} {lab : List Nat} {pc : Nat} {k kt kf : fxK}
theorem fx_oks_cons {M : fxT 9} {v : fxV} {L : List fxV} (h : fx_ok M v) (hl : fx_oks M L) : fx_oks M (v :: L) := fun w hw => by
  rcases List.mem_cons.mp hw with e | e
  · rw [e]; exact h
  · exact hl w e
theorem fx_oks_tl {M : fxT 9} {v : fxV} {L : List fxV} (h : fx_oks M (v :: L)) : fx_oks M L := fun w hw => h w (List.mem_cons_of_mem _ hw)
theorem fx_oks_hd {M : fxT 9} {v : fxV} {L : List fxV} (h : fx_oks M (v :: L)) : fx_ok M v := h v List.mem_cons_self
theorem fx_oks_app {M : fxT 9} {L L' : List fxV} (h : fx_oks M L) (h' : fx_oks M L') : fx_oks M (L ++ L') := fun w hw => (List.mem_append.mp hw).elim (h w) (h' w)
theorem fx_ok_kd {M : fxT 9} {v : fxV} (h : fx_kd v ≠ 1) : fx_ok M v := fun b p e => by subst e; exact absurd rfl h
theorem fx_oks_upd {M : fxT 9} {v : fxV} {L : List fxV} {i : Nat} (h : fx_oks M L) (hv : fx_ok M v) : fx_oks M (fx_upd L i v) := fun w hw => by
  rw [fx_upd_eq] at hw
  rcases List.mem_or_eq_of_mem_set hw with e | e
  · exact h w e
  · rw [e]; exact hv
theorem fx_oks_get {M : fxT 9} {v : fxV} {L : List fxV} {i : Nat} (h : fx_oks M L) (hv : L[i]? = some v) : fx_ok M v := h v (List.mem_of_getElem? hv)
theorem fx_int {G : fxG} {ad : List Bool → Nat} {v : fxV} (h : fx_kd v = 0) : ∃ x : Int32, fx_den G ad v = .int x := by
  rcases v with n | p | n | ⟨j, o, s⟩
  · exact ⟨_, rfl⟩
  · exact nomatch (show (1 : Nat) = 0 from h)
  · exact nomatch (show (2 : Nat) = 0 from h)
  · exact ⟨_, rfl⟩
theorem fx_ref {G : fxG} {ad : List Bool → Nat} {v : fxV} (h : fx_kd v = 1) : fx_den G ad v = .null ∨ ∃ a, fx_den G ad v = .ref a := by
  rcases v with n | (_ | ⟨b, p⟩) | n | ⟨j, o, s⟩
  · exact nomatch (show (0 : Nat) = 1 from h)
  · exact Or.inl rfl
  · exact Or.inr ⟨_, rfl⟩
  · exact nomatch (show (2 : Nat) = 1 from h)
  · have h' : Bool.rec (motive := fun _ => Nat) 0 3 (Nat.beq j 7) = 1 := h
    cases hj : Nat.beq j 7 <;> rw [hj] at h' <;> exact absurd h' (by decide)
theorem fb_stuck : fxB G Y lab pc fx_stuck := fun _ _ _ _ _ _ _ _ _ _ _ _ _ _ _ _ h => nomatch h
/-- a value is pushed -/
theorem fb_push {v : fxV} {len : Nat} (hv : fx_kd v ≠ 1 ∨ v = .inr (.inl [])) (hrow : ∀ (p : Program) (e : Env) (R : Room) (s : State) (m : MethodId) (args : Array Value) (below : List Frame) (meth : Method) (c : Code), fxX G Y p R s m args meth c →
    ∀ (ad : List Bool → Nat) (H : Heap) (locs : List Loc) (cells slots : Nat) (Q : State → Prop) (ls : Array Slot) (rest : List Value), W p (fg_l G) e R s m args below meth c H locs cells slots Q (F0 m (pc + len) ls (fx_den G ad v :: rest)) → W p (fg_l G) e R s m args below meth c H locs cells slots Q (F0 m pc ls rest))
    (hk : fxB G Y lab (pc + len) k) : fxB G Y lab pc (fx_push v k) := by
  intro self hs p e R s m args below meth c X st L S o h
  obtain ⟨hm, kk⟩ := hk self hs p e R s m args below meth c X (v :: st) L S o h
  refine ⟨hm, fun c0 n0 M0 ad0 hc hn cells slots ad H locs ls U => ?_⟩
  obtain ⟨u1, u2, uI, ua, ud, uS, uL, us, ul⟩ := U
  have hv' : fx_ok S.1 v := by
    rcases hv with h | h
    · exact fx_ok_kd h
    · subst h; exact fun b p e => nomatch e
  exact hrow p e R s m args below meth c X ad H locs cells slots _ ls _ (kk c0 n0 M0 ad0 hc hn cells slots ad H locs ls ⟨u1, u2, uI, ua, ud, uS, uL, fx_oks_cons hv' us, ul⟩)
theorem fb_iconst {z : Int} {n : Nat} (hdg : decode Y.2.1 pc = .ok (.iconst z, 1)) (hv : Int32.ofInt z = nI n) (hk : fxB G Y lab (pc + 1) k) : fxB G Y lab pc (fx_push (.inl n) k) :=
  fb_push (Or.inl (by show (0 : Nat) ≠ 1; decide)) (fun _ _ _ _ _ _ _ _ _ X _ _ _ _ _ _ _ _ w => lv_iconst X.1 X.2.1 hdg hv w) hk
theorem fb_bipush {z : Int} {n : Nat} (hdg : decode Y.2.1 pc = .ok (.bipush z, 2)) (hv : (Int8.ofInt z).toInt32 = nI n) (hk : fxB G Y lab (pc + 2) k) : fxB G Y lab pc (fx_push (.inl n) k) :=
  fb_push (Or.inl (by show (0 : Nat) ≠ 1; decide)) (fun _ _ _ _ _ _ _ _ _ X _ _ _ _ _ _ _ _ w => lv_bipush X.1 X.2.1 hdg hv w) hk
theorem fb_sipush {z : Int} {n : Nat} (hdg : decode Y.2.1 pc = .ok (.sipush z, 3)) (hv : (Int16.ofInt z).toInt32 = nI n) (hk : fxB G Y lab (pc + 3) k) : fxB G Y lab pc (fx_push (.inl n) k) :=
  fb_push (Or.inl (by show (0 : Nat) ≠ 1; decide)) (fun _ _ _ _ _ _ _ _ _ X _ _ _ _ _ _ _ _ w => lv_sipush X.1 X.2.1 hdg hv w) hk
theorem fb_lconst {z : Fin 2} {n : Nat} (hdg : decode Y.2.1 pc = .ok (.lconst z, 1)) (hv : Int64.ofNat (z : Nat) = lN n) (hk : fxB G Y lab (pc + 1) k) : fxB G Y lab pc (fx_push (.inr (.inr (.inl n))) k) :=
  fb_push (Or.inl (by show (2 : Nat) ≠ 1; decide)) (fun _ _ _ _ _ _ _ _ _ X _ _ _ _ _ _ _ _ w => lv_lconst X.1 X.2.1 hdg hv w) hk
theorem fb_null (hdg : decode Y.2.1 pc = .ok (.aconst_null, 1)) (hk : fxB G Y lab (pc + 1) k) : fxB G Y lab pc (fx_push (.inr (.inl [])) k) :=
  fb_push (Or.inr rfl) (fun _ _ _ _ _ _ _ _ _ X _ _ _ _ _ _ _ _ w => lv_null X.1 X.2.1 hdg w) hk
theorem fb_ldc {index n : Nat} {z : Int32} (hdg : decode Y.2.1 pc = .ok (.ldc index, 2)) (hw : Cond.constant Y.2.2.2.2.1 index z ∈ Y.2.2.2.2.2.1) (hv : z = nI n) (hk : fxB G Y lab (pc + 2) k) : fxB G Y lab pc (fx_push (.inl n) k) :=
  fb_push (Or.inl (by show (0 : Nat) ≠ 1; decide)) (fun _ _ _ _ _ _ _ _ _ X _ _ _ _ _ _ _ _ w => by
    subst hv
    exact lv_ldc X.1 X.2.1 X.2.2.2.2.1 (X.2.2.2.2.2.1 _ hw) hdg w) hk
/-- a local is pushed -/
theorem fb_load {d i len : Nat} (hd : d < 2) (hrow : ∀ (p : Program) (e : Env) (R : Room) (s : State) (m : MethodId) (args : Array Value) (below : List Frame) (meth : Method) (c : Code), fxX G Y p R s m args meth c →
    ∀ (ad : List Bool → Nat) (v : fxV) (H : Heap) (locs : List Loc) (cells slots : Nat) (Q : State → Prop) (ls : Array Slot) (rest : List Value), fx_kd v = d → ls[i]? = some (.val (fx_den G ad v)) → W p (fg_l G) e R s m args below meth c H locs cells slots Q (F0 m (pc + len) ls (fx_den G ad v :: rest)) → W p (fg_l G) e R s m args below meth c H locs cells slots Q (F0 m pc ls rest))
    (hk : fxB G Y lab (pc + len) k) : fxB G Y lab pc (fx_load d i k) := by
  intro self hs p e R s m args below meth c X st L S o h
  obtain ⟨v, h1, h2, h⟩ := fo_load h
  obtain ⟨hm, kk⟩ := hk self hs p e R s m args below meth c X (v :: st) L S o h
  refine ⟨hm, fun c0 n0 M0 ad0 hc hn cells slots ad H locs ls U => ?_⟩
  obtain ⟨u1, u2, uI, ua, ud, uS, uL, us, ul⟩ := U
  exact hrow p e R s m args below meth c X ad v H locs cells slots _ ls _ h2 (fxL_at uL h1 (by omega)) (kk c0 n0 M0 ad0 hc hn cells slots ad H locs ls ⟨u1, u2, uI, ua, ud, uS, uL, fx_oks_cons (fx_oks_get ul h1) us, ul⟩)
theorem fb_iload_n {i : Nat} {j : Fin 4} (hdg : decode Y.2.1 pc = .ok (.iload_n j, 1)) (hj : (j : Nat) = i) (hk : fxB G Y lab (pc + 1) k) : fxB G Y lab pc (fx_load 0 i k) :=
  fb_load (by decide) (fun _ _ _ _ _ _ _ _ _ X ad v _ _ _ _ _ _ _ hv hl w => by
    obtain ⟨x, hx⟩ := fx_int (G := G) (ad := ad) hv
    rw [hx] at hl w
    exact lv_iload_n X.1 X.2.1 hdg hj hl w) hk
theorem fb_iload {i : Nat} (hdg : decode Y.2.1 pc = .ok (.iload i, 2)) (hk : fxB G Y lab (pc + 2) k) : fxB G Y lab pc (fx_load 0 i k) :=
  fb_load (by decide) (fun _ _ _ _ _ _ _ _ _ X ad v _ _ _ _ _ _ _ hv hl w => by
    obtain ⟨x, hx⟩ := fx_int (G := G) (ad := ad) hv
    rw [hx] at hl w
    exact lv_iload X.1 X.2.1 hdg hl w) hk
/-- a reference or null in a local: by a row of its own for null -/
theorem fl_aload_n {p : Program} {l : Launch} {e : Env} {R : Room} {s : State} {m : MethodId} {args : Array Value} {below : List Frame} {meth : Method} {c : Code} {H : Heap} {locs : List Loc} {cells slots : Nat} {Q : State → Prop} {cc : ByteArray} {ls : Array Slot} {rest : List Value}
    (hexec : p.tables.exec = Jvm.exec) (hb : c.code = cc) {j : Fin 4} {i : Nat} (hdg : decode cc pc = .ok (.aload_n j, 1)) (hi : (j : Nat) = i) (hl : ls[i]? = some (.val .null))
    (k : W p l e R s m args below meth c H locs cells slots Q (F0 m (pc + 1) ls (.null :: rest))) : W p l e R s m args below meth c H locs cells slots Q (F0 m pc ls (rest)) := by
  subst hi
  intro T hT X
  obtain ⟨t, a, b⟩ := k T hT X
  refine ⟨t, ?_, b⟩
  jvm_step X.here [X.here.top, hexec, hb, hdg, hl]
  exact ⟨rfl, a⟩
theorem fl_aload {p : Program} {l : Launch} {e : Env} {R : Room} {s : State} {m : MethodId} {args : Array Value} {below : List Frame} {meth : Method} {c : Code} {H : Heap} {locs : List Loc} {cells slots : Nat} {Q : State → Prop} {cc : ByteArray} {ls : Array Slot} {rest : List Value}
    (hexec : p.tables.exec = Jvm.exec) (hb : c.code = cc) {i : Nat} (hdg : decode cc pc = .ok (.aload i, 2)) (hl : ls[i]? = some (.val .null))
    (k : W p l e R s m args below meth c H locs cells slots Q (F0 m (pc + 2) ls (.null :: rest))) : W p l e R s m args below meth c H locs cells slots Q (F0 m pc ls (rest)) := by
  intro T hT X
  obtain ⟨t, a, b⟩ := k T hT X
  refine ⟨t, ?_, b⟩
  jvm_step X.here [X.here.top, hexec, hb, hdg, hl]
  exact ⟨rfl, a⟩
theorem fb_aload_n {i : Nat} {j : Fin 4} (hdg : decode Y.2.1 pc = .ok (.aload_n j, 1)) (hj : (j : Nat) = i) (hk : fxB G Y lab (pc + 1) k) : fxB G Y lab pc (fx_load 1 i k) :=
  fb_load (by decide) (fun _ _ _ _ _ _ _ _ _ X ad v _ _ _ _ _ _ _ hv hl w => by
    rcases fx_ref (G := G) (ad := ad) hv with hx | ⟨x, hx⟩
    · rw [hx] at hl w
      exact fl_aload_n X.1 X.2.1 hdg hj hl w
    · rw [hx] at hl w
      exact lv_aload_n X.1 X.2.1 hdg hj hl w) hk
theorem fb_aload {i : Nat} (hdg : decode Y.2.1 pc = .ok (.aload i, 2)) (hk : fxB G Y lab (pc + 2) k) : fxB G Y lab pc (fx_load 1 i k) :=
  fb_load (by decide) (fun _ _ _ _ _ _ _ _ _ X ad v _ _ _ _ _ _ _ hv hl w => by
    rcases fx_ref (G := G) (ad := ad) hv with hx | ⟨x, hx⟩
    · rw [hx] at hl w
      exact fl_aload X.1 X.2.1 hdg hl w
    · rw [hx] at hl w
      exact lv_aload X.1 X.2.1 hdg hl w) hk
/-- a local is set -/
theorem fb_store {d i len : Nat} (hd : d < 2) (hi : i < Y.2.2.1) (hrow : ∀ (p : Program) (e : Env) (R : Room) (s : State) (m : MethodId) (args : Array Value) (below : List Frame) (meth : Method) (c : Code), fxX G Y p R s m args meth c →
    ∀ (ad : List Bool → Nat) (v : fxV) (H : Heap) (locs : List Loc) (cells slots : Nat) (Q : State → Prop) (ls : Array Slot) (lv : List (Nat × Value)) (rest : List Value), fx_kd v = d → lv_has ls Y.2.2.1 lv →
      (∀ ls' : Array Slot, lv_has ls' Y.2.2.1 ((i, fx_den G ad v) :: lv.filter (fun q => !(q.1 == i) && !(q.1 + 1 == i && q.2.category == 2))) → W p (fg_l G) e R s m args below meth c H locs cells slots Q (F0 m (pc + len) ls' rest)) →
      W p (fg_l G) e R s m args below meth c H locs cells slots Q (F0 m pc ls (fx_den G ad v :: rest)))
    (hk : fxB G Y lab (pc + len) k) : fxB G Y lab pc (fx_store d i k) := by
  intro self hs p e R s m args below meth c X st L S o h
  obtain ⟨v, r, h1, h2, hz⟩ := fo_store h
  subst h1
  obtain ⟨hm, kk⟩ := hk self hs p e R s m args below meth c X r (fx_upd L i v) S o hz
  refine ⟨hm, fun c0 n0 M0 ad0 hc hn cells slots ad H locs ls U => ?_⟩
  obtain ⟨u1, u2, uI, ua, ud, uS, uL, us, ul⟩ := U
  exact hrow p e R s m args below meth c X ad v H locs cells slots _ ls _ _ h2 uL.1 (fun ls' h' => kk c0 n0 M0 ad0 hc hn cells slots ad H locs ls' ⟨u1, u2, uI, ua, ud, uS, fxL_set (Or.inr trivial) uL.2.1 uL.2.2 (by omega) rfl h', fx_oks_tl us, fx_oks_upd ul (fx_oks_hd us)⟩)
theorem fb_istore_n {i : Nat} {j : Fin 4} (hdg : decode Y.2.1 pc = .ok (.istore_n j, 1)) (hj : (j : Nat) = i) (hi : i < Y.2.2.1) (hk : fxB G Y lab (pc + 1) k) : fxB G Y lab pc (fx_store 0 i k) :=
  fb_store (by decide) hi (fun _ _ _ _ _ _ _ _ _ X ad v _ _ _ _ _ _ _ _ hv hl w => by
    obtain ⟨x, hx⟩ := fx_int (G := G) (ad := ad) hv
    rw [hx] at w ⊢
    exact lv_istore_n X.1 X.2.1 hdg hj hl hi rfl w) hk
theorem fb_istore {i : Nat} (hdg : decode Y.2.1 pc = .ok (.istore i, 2)) (hi : i < Y.2.2.1) (hk : fxB G Y lab (pc + 2) k) : fxB G Y lab pc (fx_store 0 i k) :=
  fb_store (by decide) hi (fun _ _ _ _ _ _ _ _ _ X ad v _ _ _ _ _ _ _ _ hv hl w => by
    obtain ⟨x, hx⟩ := fx_int (G := G) (ad := ad) hv
    rw [hx] at w ⊢
    exact lv_istore X.1 X.2.1 hdg hl hi rfl w) hk
theorem fl_astore_n {p : Program} {l : Launch} {e : Env} {R : Room} {s : State} {m : MethodId} {args : Array Value} {below : List Frame} {meth : Method} {c : Code} {H : Heap} {locs : List Loc} {cells slots : Nat} {Q : State → Prop} {cc : ByteArray} {ls : Array Slot} {rest : List Value}
    (hexec : p.tables.exec = Jvm.exec) (hb : c.code = cc) {j : Fin 4} {i nL : Nat} {lv : List (Nat × Value)} (hdg : decode cc pc = .ok (.astore_n j, 1)) (hi : (j : Nat) = i) (h : lv_has ls nL lv) (hn : i < nL)
    (kk : ∀ ls' : Array Slot, lv_has ls' nL ((i, Value.null) :: lv.filter (fun q => !(q.1 == i) && !(q.1 + 1 == i && q.2.category == 2))) → W p l e R s m args below meth c H locs cells slots Q (F0 m (pc + 1) ls' rest)) : W p l e R s m args below meth c H locs cells slots Q (F0 m pc ls (.null :: rest)) := by
  subst hi
  obtain ⟨ls', e', h'⟩ := lv_store1 (v := .null) h hn rfl
  intro T hT X
  obtain ⟨t, a, b⟩ := kk ls' h' T hT X
  refine ⟨t, ?_, b⟩
  jvm_step X.here [X.here.top, ↓top_set X.here.top, hexec, hb, hdg, e']
  exact ⟨rfl, a⟩
theorem fl_astore {p : Program} {l : Launch} {e : Env} {R : Room} {s : State} {m : MethodId} {args : Array Value} {below : List Frame} {meth : Method} {c : Code} {H : Heap} {locs : List Loc} {cells slots : Nat} {Q : State → Prop} {cc : ByteArray} {ls : Array Slot} {rest : List Value}
    (hexec : p.tables.exec = Jvm.exec) (hb : c.code = cc) {i nL : Nat} {lv : List (Nat × Value)} (hdg : decode cc pc = .ok (.astore i, 2)) (h : lv_has ls nL lv) (hn : i < nL)
    (kk : ∀ ls' : Array Slot, lv_has ls' nL ((i, Value.null) :: lv.filter (fun q => !(q.1 == i) && !(q.1 + 1 == i && q.2.category == 2))) → W p l e R s m args below meth c H locs cells slots Q (F0 m (pc + 2) ls' rest)) : W p l e R s m args below meth c H locs cells slots Q (F0 m pc ls (.null :: rest)) := by
  obtain ⟨ls', e', h'⟩ := lv_store1 (v := .null) h hn rfl
  intro T hT X
  obtain ⟨t, a, b⟩ := kk ls' h' T hT X
  refine ⟨t, ?_, b⟩
  jvm_step X.here [X.here.top, ↓top_set X.here.top, hexec, hb, hdg, e']
  exact ⟨rfl, a⟩
theorem fb_astore_n {i : Nat} {j : Fin 4} (hdg : decode Y.2.1 pc = .ok (.astore_n j, 1)) (hj : (j : Nat) = i) (hi : i < Y.2.2.1) (hk : fxB G Y lab (pc + 1) k) : fxB G Y lab pc (fx_store 1 i k) :=
  fb_store (by decide) hi (fun _ _ _ _ _ _ _ _ _ X ad v _ _ _ _ _ _ _ _ hv hl w => by
    rcases fx_ref (G := G) (ad := ad) hv with hx | ⟨x, hx⟩
    · rw [hx] at w ⊢
      exact fl_astore_n X.1 X.2.1 hdg hj hl hi w
    · rw [hx] at w ⊢
      exact lv_astore_n X.1 X.2.1 hdg hj hl hi rfl w) hk
theorem fb_astore {i : Nat} (hdg : decode Y.2.1 pc = .ok (.astore i, 2)) (hi : i < Y.2.2.1) (hk : fxB G Y lab (pc + 2) k) : fxB G Y lab pc (fx_store 1 i k) :=
  fb_store (by decide) hi (fun _ _ _ _ _ _ _ _ _ X ad v _ _ _ _ _ _ _ _ hv hl w => by
    rcases fx_ref (G := G) (ad := ad) hv with hx | ⟨x, hx⟩
    · rw [hx] at w ⊢
      exact fl_astore X.1 X.2.1 hdg hl hi w
    · rw [hx] at w ⊢
      exact lv_astore X.1 X.2.1 hdg hl hi rfl w) hk
/-- a jump -/
theorem fb_goto {b tgt : Nat} {off : Int} (hdg : decode Y.2.1 pc = .ok (.goto off, 3)) (ht : (pc : Int) + off = (tgt : Int)) (hb : lab[b]? = some tgt) : fxB G Y lab pc (fx_goto b) := by
  intro self hs p e R s m args below meth c X st L S o h
  obtain ⟨hm, kk⟩ := hs b tgt hb p e R s m args below meth c X st L S o h
  refine ⟨hm, fun c0 n0 M0 ad0 hc hn cells slots ad H locs ls U => ?_⟩
  exact lv_goto X.1 X.2.1 hdg ht (kk c0 n0 M0 ad0 hc hn cells slots ad H locs ls U)
/-- .. taken at once: what stands at the target comes next -/
theorem fb_gotoN {tgt : Nat} {off : Int} (hdg : decode Y.2.1 pc = .ok (.goto off, 3)) (ht : (pc : Int) + off = (tgt : Int)) (hk : fxB G Y lab tgt k) : fxB G Y lab pc k := by
  intro self hs p e R s m args below meth c X st L S o h
  obtain ⟨hm, kk⟩ := hk self hs p e R s m args below meth c X st L S o h
  refine ⟨hm, fun c0 n0 M0 ad0 hc hn cells slots ad H locs ls U => ?_⟩
  exact lv_goto X.1 X.2.1 hdg ht (kk c0 n0 M0 ad0 hc hn cells slots ad H locs ls U)
/-- the code runs on into a place to which others jump -/
theorem fb_into {b : Nat} (hb : lab[b]? = some pc) : fxB G Y lab pc (fx_goto b) := fun _ hs => hs b pc hb
end LOC
