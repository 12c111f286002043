/-! OPERATIONS, COMPARISONS, THE STACK ARE RIGHT. -/
section OPS
variable {G : fxG} {Y : fxY} {lab : List Nat} {pc : Nat} {k kt kf : fxK}
theorem fb_bin {f : fxV → fxV → Option fxV} {len : Nat} (hrow : ∀ (p : Program) (e : Env) (R : Room) (s : State) (m : MethodId) (args : Array Value) (below : List Frame) (meth : Method) (c : Code), fxX G Y p R s m args meth c →
    ∀ (ad : List Bool → Nat) (x y v : fxV) (H : Heap) (locs : List Loc) (cells slots : Nat) (Q : State → Prop) (ls : Array Slot) (rest : List Value), f x y = some v → fx_kd v ≠ 1 ∧ (W p (fg_l G) e R s m args below meth c H locs cells slots Q (F0 m (pc + len) ls (fx_den G ad v :: rest)) →
      W p (fg_l G) e R s m args below meth c H locs cells slots Q (F0 m pc ls (fx_den G ad y :: fx_den G ad x :: rest))))
    (hk : fxB G Y lab (pc + len) k) : fxB G Y lab pc (fx_bin f k) := by
  intro self hs p e R s m args below meth c X st L S o h
  obtain ⟨x, y, r, v, h1, h2, hz⟩ := fo_bin h
  subst h1
  obtain ⟨hm, kk⟩ := hk self hs p e R s m args below meth c X (v :: r) L S o hz
  refine ⟨hm, fun c0 n0 M0 ad0 hc hn cells slots ad H locs ls U => ?_⟩
  obtain ⟨u1, u2, uI, ua, ud, uS, uL, us, ul⟩ := U
  obtain ⟨hv, hw⟩ := hrow p e R s m args below meth c X ad x y v H locs cells slots (fxQ Y.1 below (fxQc G ad0 M0 o) (fxXC G ad0 M0 o) args s R.cells R.slots (fxA G)) ls (r.map (fx_den G ad)) h2
  exact hw (kk c0 n0 M0 ad0 hc hn cells slots ad H locs ls ⟨u1, u2, uI, ua, ud, uS, uL, fx_oks_cons (fx_ok_kd hv) (fx_oks_tl (fx_oks_tl us)), ul⟩)
/-- by what the operation says, and its row -/
theorem fb_bin2 {f : fxV → fxV → Option fxV} {op : Int32 → Int32 → Int32} (hf : fxS2 G f op) (hrow : ∀ (p : Program) (e : Env) (R : Room) (s : State) (m : MethodId) (args : Array Value) (below : List Frame) (meth : Method) (c : Code), p.tables.exec = Jvm.exec → c.code = Y.2.1 →
    ∀ (x y : Int32) (H : Heap) (locs : List Loc) (cells slots : Nat) (Q : State → Prop) (ls : Array Slot) (rest : List Value), W p (fg_l G) e R s m args below meth c H locs cells slots Q (F0 m (pc + 1) ls (.int (op x y) :: rest)) →
      W p (fg_l G) e R s m args below meth c H locs cells slots Q (F0 m pc ls (.int y :: .int x :: rest)))
    (hk : fxB G Y lab (pc + 1) k) : fxB G Y lab pc (fx_bin f k) :=
  fb_bin (fun p e R s m args below meth c X ad x y v H locs cells slots Q ls rest h => by
    obtain ⟨h1, a, b, h2, h3, h4⟩ := hf X.2.2.2.2.2.2.2.2.2.2.2.2.2 ad x y v h
    refine ⟨h1, fun w => ?_⟩
    rw [h4] at w
    rw [h2, h3]
    exact hrow p e R s m args below meth c X.1 X.2.1 a b H locs cells slots Q ls rest w) hk
theorem fb_iadd (hdg : decode Y.2.1 pc = .ok (.iadd, 1)) (hk : fxB G Y lab (pc + 1) k) : fxB G Y lab pc (fx_bin fx_add k) := fb_bin2 fs_add (fun _ _ _ _ _ _ _ _ _ hx hb _ _ _ _ _ _ _ _ _ w => lv_iadd hx hb hdg w) hk
theorem fb_isub (hdg : decode Y.2.1 pc = .ok (.isub, 1)) (hk : fxB G Y lab (pc + 1) k) : fxB G Y lab pc (fx_bin fx_sub k) := fb_bin2 fs_sub (fun _ _ _ _ _ _ _ _ _ hx hb _ _ _ _ _ _ _ _ _ w => lv_isub hx hb hdg w) hk
theorem fb_imul (hdg : decode Y.2.1 pc = .ok (.imul, 1)) (hk : fxB G Y lab (pc + 1) k) : fxB G Y lab pc (fx_bin fx_mul k) := fb_bin2 fs_mul (fun _ _ _ _ _ _ _ _ _ hx hb _ _ _ _ _ _ _ _ _ w => lv_imul hx hb hdg w) hk
theorem fb_iand (hdg : decode Y.2.1 pc = .ok (.iand, 1)) (hk : fxB G Y lab (pc + 1) k) : fxB G Y lab pc (fx_bin fx_and k) := fb_bin2 fs_and (fun _ _ _ _ _ _ _ _ _ hx hb _ _ _ _ _ _ _ _ _ w => lv_iand hx hb hdg w) hk
theorem fb_ior (hdg : decode Y.2.1 pc = .ok (.ior, 1)) (hk : fxB G Y lab (pc + 1) k) : fxB G Y lab pc (fx_bin fx_or k) := fb_bin2 fs_or (fun _ _ _ _ _ _ _ _ _ hx hb _ _ _ _ _ _ _ _ _ w => lv_ior hx hb hdg w) hk
theorem fb_ixor (hdg : decode Y.2.1 pc = .ok (.ixor, 1)) (hk : fxB G Y lab (pc + 1) k) : fxB G Y lab pc (fx_bin (fx_c2 (· ^^^ ·)) k) := fb_bin2 (fs_c2 _) (fun _ _ _ _ _ _ _ _ _ hx hb _ _ _ _ _ _ _ _ _ w => lv_ixor hx hb hdg w) hk
theorem fb_ishl (hdg : decode Y.2.1 pc = .ok (.ishl, 1)) (hk : fxB G Y lab (pc + 1) k) : fxB G Y lab pc (fx_bin fx_shl k) := fb_bin2 fs_shl (fun _ _ _ _ _ _ _ _ _ hx hb _ _ _ _ _ _ _ _ _ w => lv_ishl hx hb hdg w) hk
theorem fb_ishr (hdg : decode Y.2.1 pc = .ok (.ishr, 1)) (hk : fxB G Y lab (pc + 1) k) : fxB G Y lab pc (fx_bin fx_shr k) := fb_bin2 fs_shr (fun _ _ _ _ _ _ _ _ _ hx hb _ _ _ _ _ _ _ _ _ w => lv_ishr hx hb hdg w) hk
theorem fb_iushr (hdg : decode Y.2.1 pc = .ok (.iushr, 1)) (hk : fxB G Y lab (pc + 1) k) : fxB G Y lab pc (fx_bin fx_ushr k) := fb_bin2 fs_ushr (fun _ _ _ _ _ _ _ _ _ hx hb _ _ _ _ _ _ _ _ _ w => lv_iushr hx hb hdg rfl w) hk
theorem fb_binl {f : fxV → fxV → Option fxV} {op : Int64 → Int64 → Int64} (hf : fxSl G f op) (hrow : ∀ (p : Program) (e : Env) (R : Room) (s : State) (m : MethodId) (args : Array Value) (below : List Frame) (meth : Method) (c : Code), p.tables.exec = Jvm.exec → c.code = Y.2.1 →
    ∀ (x y : Int64) (H : Heap) (locs : List Loc) (cells slots : Nat) (Q : State → Prop) (ls : Array Slot) (rest : List Value), W p (fg_l G) e R s m args below meth c H locs cells slots Q (F0 m (pc + 1) ls (.long (op x y) :: rest)) →
      W p (fg_l G) e R s m args below meth c H locs cells slots Q (F0 m pc ls (.long y :: .long x :: rest)))
    (hk : fxB G Y lab (pc + 1) k) : fxB G Y lab pc (fx_bin f k) :=
  fb_bin (fun p e R s m args below meth c X ad x y v H locs cells slots Q ls rest h => by
    obtain ⟨h1, a, b, h2, h3, h4⟩ := hf ad x y v h
    refine ⟨by omega, fun w => ?_⟩
    rw [h4] at w
    rw [h2, h3]
    exact hrow p e R s m args below meth c X.1 X.2.1 a b H locs cells slots Q ls rest w) hk
theorem fb_land (hdg : decode Y.2.1 pc = .ok (.land, 1)) (hk : fxB G Y lab (pc + 1) k) : fxB G Y lab pc (fx_bin (fx_l2 (· &&& ·)) k) := fb_binl (fs_l2 _) (fun _ _ _ _ _ _ _ _ _ hx hb _ _ _ _ _ _ _ _ _ w => lv_land hx hb hdg w) hk
theorem fb_lor (hdg : decode Y.2.1 pc = .ok (.lor, 1)) (hk : fxB G Y lab (pc + 1) k) : fxB G Y lab pc (fx_bin (fx_l2 (· ||| ·)) k) := fb_binl (fs_l2 _) (fun _ _ _ _ _ _ _ _ _ hx hb _ _ _ _ _ _ _ _ _ w => lv_lor hx hb hdg w) hk
theorem fb_lxor (hdg : decode Y.2.1 pc = .ok (.lxor, 1)) (hk : fxB G Y lab (pc + 1) k) : fxB G Y lab pc (fx_bin (fx_l2 (· ^^^ ·)) k) := fb_binl (fs_l2 _) (fun _ _ _ _ _ _ _ _ _ hx hb _ _ _ _ _ _ _ _ _ w => lv_lxor hx hb hdg w) hk
/-- long and int: shifts -/
theorem fb_binh {op : Int64 → Int32 → Int64} (hrow : ∀ (p : Program) (e : Env) (R : Room) (s : State) (m : MethodId) (args : Array Value) (below : List Frame) (meth : Method) (c : Code), p.tables.exec = Jvm.exec → c.code = Y.2.1 →
    ∀ (x : Int64) (y : Int32) (H : Heap) (locs : List Loc) (cells slots : Nat) (Q : State → Prop) (ls : Array Slot) (rest : List Value), W p (fg_l G) e R s m args below meth c H locs cells slots Q (F0 m (pc + 1) ls (.long (op x y) :: rest)) →
      W p (fg_l G) e R s m args below meth c H locs cells slots Q (F0 m pc ls (.int y :: .long x :: rest)))
    (hk : fxB G Y lab (pc + 1) k) : fxB G Y lab pc (fx_bin (fx_li op) k) :=
  fb_bin (fun p e R s m args below meth c X ad x y v H locs cells slots Q ls rest h => by
    obtain ⟨h1, a, b, h2, h3, h4⟩ := fs_li (G := G) op ad x y v h
    refine ⟨by omega, fun w => ?_⟩
    rw [h4] at w
    rw [h2, h3]
    exact hrow p e R s m args below meth c X.1 X.2.1 a b H locs cells slots Q ls rest w) hk
abbrev fx_lushr : Int64 → Int32 → Int64 := fun x y => (x.toUInt64 >>> (y.toInt64.toUInt64 &&& Int64.toUInt64 63)).toInt64
abbrev fx_lshl : Int64 → Int32 → Int64 := fun x y => x <<< (y.toInt64 &&& 63)
theorem fb_lushr (hdg : decode Y.2.1 pc = .ok (.lushr, 1)) (hk : fxB G Y lab (pc + 1) k) : fxB G Y lab pc (fx_bin (fx_li fx_lushr) k) := fb_binh (fun _ _ _ _ _ _ _ _ _ hx hb _ _ _ _ _ _ _ _ _ w => lv_lushr hx hb hdg rfl w) hk
theorem fb_lshl (hdg : decode Y.2.1 pc = .ok (.lshl, 1)) (hk : fxB G Y lab (pc + 1) k) : fxB G Y lab pc (fx_bin (fx_li fx_lshl) k) := fb_binh (fun _ _ _ _ _ _ _ _ _ hx hb _ _ _ _ _ _ _ _ _ w => lv_lshl hx hb hdg rfl w) hk
theorem fb_un1 {f : fxV → Option fxV} {op : Int32 → Int32} (hf : fxS1 G f op) (hrow : ∀ (p : Program) (e : Env) (R : Room) (s : State) (m : MethodId) (args : Array Value) (below : List Frame) (meth : Method) (c : Code), p.tables.exec = Jvm.exec → c.code = Y.2.1 →
    ∀ (x : Int32) (H : Heap) (locs : List Loc) (cells slots : Nat) (Q : State → Prop) (ls : Array Slot) (rest : List Value), W p (fg_l G) e R s m args below meth c H locs cells slots Q (F0 m (pc + 1) ls (.int (op x) :: rest)) →
      W p (fg_l G) e R s m args below meth c H locs cells slots Q (F0 m pc ls (.int x :: rest)))
    (hk : fxB G Y lab (pc + 1) k) : fxB G Y lab pc (fx_un f k) := by
  intro self hs p e R s m args below meth c X st L S o h
  obtain ⟨x, r, v, h1, h2, hz⟩ := fo_un h
  subst h1
  obtain ⟨hm, kk⟩ := hk self hs p e R s m args below meth c X (v :: r) L S o hz
  refine ⟨hm, fun c0 n0 M0 ad0 hc hn cells slots ad H locs ls U => ?_⟩
  obtain ⟨u1, u2, uI, ua, ud, uS, uL, us, ul⟩ := U
  obtain ⟨hv, a, h3, h4⟩ := hf X.2.2.2.2.2.2.2.2.2.2.2.2.2 ad x v h2
  have w := kk c0 n0 M0 ad0 hc hn cells slots ad H locs ls ⟨u1, u2, uI, ua, ud, uS, uL, fx_oks_cons (fx_ok_kd hv) (fx_oks_tl us), ul⟩
  rw [List.map_cons, h4] at w
  rw [List.map_cons, h3]
  exact hrow p e R s m args below meth c X.1 X.2.1 a H locs cells slots _ ls _ w
theorem fb_i2c (hdg : decode Y.2.1 pc = .ok (.i2c, 1)) (hk : fxB G Y lab (pc + 1) k) : fxB G Y lab pc (fx_un fx_i2c k) := fb_un1 fs_i2c (fun _ _ _ _ _ _ _ _ _ hx hb _ _ _ _ _ _ _ _ w => lv_i2c hx hb hdg rfl w) hk
theorem fb_i2b (hdg : decode Y.2.1 pc = .ok (.i2b, 1)) (hk : fxB G Y lab (pc + 1) k) : fxB G Y lab pc (fx_un fx_i2b k) := fb_un1 fs_i2b (fun _ _ _ _ _ _ _ _ _ hx hb _ _ _ _ _ _ _ _ w => lv_i2b hx hb hdg rfl w) hk
theorem fb_ineg (hdg : decode Y.2.1 pc = .ok (.ineg, 1)) (hk : fxB G Y lab (pc + 1) k) : fxB G Y lab pc (fx_un fx_neg k) := fb_un1 fs_neg (fun _ _ _ _ _ _ _ _ _ hx hb _ _ _ _ _ _ _ _ w => lv_ineg hx hb hdg w) hk
/-- iinc -/
theorem fb_iinc {i n : Nat} {z : Int} (hdg : decode Y.2.1 pc = .ok (.iinc i z, 3)) (hz : Int32.ofInt z = nI n) (hi : i < Y.2.2.1) (hk : fxB G Y lab (pc + 3) k) : fxB G Y lab pc (fx_iinc i (.inl n) fx_add k) := by
  intro self hs p e R s m args below meth c X st L S o h
  obtain ⟨v, w, h1, h2, hz2⟩ := fo_iinc h
  obtain ⟨hm, kk⟩ := hk self hs p e R s m args below meth c X st (fx_upd L i w) S o hz2
  refine ⟨hm, fun c0 n0 M0 ad0 hc hn cells slots ad H locs ls U => ?_⟩
  obtain ⟨u1, u2, uI, ua, ud, uS, uL, us, ul⟩ := U
  obtain ⟨hv, a, b, h3, h4, h5⟩ := fs_add (G := G) X.2.2.2.2.2.2.2.2.2.2.2.2.2 ad v (.inl n) w h2
  have hb : b = nI n := (Value.int.inj h4).symm
  have hkv : fx_kd v ≠ 3 ∨ True := Or.inr trivial
  by_cases h3v : fx_kd v = 3
  · -- a value that isn't to be used: the symbolic rows of kind 7; it isn't in the locals' list
    exfalso
    rcases v with q | p | q | ⟨kk2, oo, ss⟩
    · exact nomatch (show (0 : Nat) = 3 from h3v)
    · exact nomatch (show (1 : Nat) = 3 from h3v)
    · exact nomatch (show (2 : Nat) = 3 from h3v)
    · have e7 : kk2 = 7 := by
        have h' : Bool.rec (motive := fun _ => Nat) 0 3 (Nat.beq kk2 7) = 3 := h3v
        cases hb7 : Nat.beq kk2 7 with
        | true => exact Nat.eq_of_beq_eq_true hb7
        | false => rw [hb7] at h'; exact nomatch h'
      sorry
  · have hm2 : (i, fx_den G ad v) ∈ fx_ll G ad 0 L := (fx_ll_mem L 0 _).mpr ⟨i, v, h1, h3v, by rw [Nat.zero_add]⟩
    obtain ⟨j, hj⟩ := List.getElem?_of_mem hm2
    rw [h3] at hj
    have hw : fx_kd w ≠ 2 := by
      intro hc2
      rcases w with q | p | q | q
      · exact nomatch (show (0 : Nat) = 2 from hc2)
      · exact nomatch (show (1 : Nat) = 2 from hc2)
      · exact nomatch h5
      · have h' : Bool.rec (motive := fun _ => Nat) 0 3 (Nat.beq q.1 7) = 2 := hc2
        cases hb7 : Nat.beq q.1 7 <;> rw [hb7] at h' <;> exact nomatch h'
    exact lv_iinc X.1 X.2.1 hdg uL.1 hj (by rw [hz, ← hb]) hi rfl (fun ls' h' => kk c0 n0 M0 ad0 hc hn cells slots ad H locs ls' ⟨u1, u2, uI, ua, ud, uS, fxL_set (Or.inr trivial) uL.2.1 uL.2.2 hw (by rw [h5]) h', us, fx_oks_upd ul (fx_ok_kd hv)⟩)
end OPS
