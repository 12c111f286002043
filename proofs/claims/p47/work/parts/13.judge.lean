/-! THE JUDGEMENT: from a place of a method's code, a step chain that comes to an end does what the bytecode does. -/
/-- the locals -/
noncomputable def fx_ll (G : fxG) (ad : List Bool → Nat) : Nat → List fxV → List (Nat × Value)
  | _, [] => []
  | i, v :: t => if fx_kd v = 3 then fx_ll G ad (i + 1) t else (i, fx_den G ad v) :: fx_ll G ad (i + 1) t
theorem fx_ll_mem {G : fxG} {ad : List Bool → Nat} : ∀ (L : List fxV) (i : Nat) (q : Nat × Value), q ∈ fx_ll G ad i L ↔ ∃ j v, L[j]? = some v ∧ fx_kd v ≠ 3 ∧ q = (i + j, fx_den G ad v) := by
  intro L
  induction L with
  | nil => intro i q; simp [fx_ll]
  | cons a t ih =>
    intro i q
    have key : (∃ j v, (a :: t)[j]? = some v ∧ fx_kd v ≠ 3 ∧ q = (i + j, fx_den G ad v)) ↔ (fx_kd a ≠ 3 ∧ q = (i, fx_den G ad a)) ∨ ∃ j v, t[j]? = some v ∧ fx_kd v ≠ 3 ∧ q = (i + 1 + j, fx_den G ad v) := by
      constructor
      · rintro ⟨j, v, h1, h2, h3⟩
        cases j with
        | zero => left; obtain rfl : a = v := by simpa using h1
                  exact ⟨h2, by simpa using h3⟩
        | succ j => right; exact ⟨j, v, by simpa using h1, h2, by rw [h3]; congr 1; omega⟩
      · rintro (⟨h1, h2⟩ | ⟨j, v, h1, h2, h3⟩)
        · exact ⟨0, a, by simp, h1, by simpa using h2⟩
        · exact ⟨j + 1, v, by simpa using h1, h2, by rw [h3]; congr 1; omega⟩
    rw [key, fx_ll]
    by_cases h : fx_kd a = 3
    · rw [if_pos h, ih]
      simp [h]
    · rw [if_neg h, List.mem_cons, ih]
      simp [h]
def fxL (G : fxG) (ad : List Bool → Nat) (nL : Nat) (ls : Array Slot) (L : List fxV) : Prop := lv_has ls nL (fx_ll G ad 0 L) ∧ L.length = nL ∧ ∀ v ∈ L, fx_kd v ≠ 2
theorem fxL_at {G : fxG} {ad : List Bool → Nat} {nL : Nat} {ls : Array Slot} {L : List fxV} (h : fxL G ad nL ls L) {i : Nat} {v : fxV} (hi : L[i]? = some v) (hk : fx_kd v ≠ 3) : ls[i]? = some (.val (fx_den G ad v)) :=
  h.1.2.2 (i, fx_den G ad v) ((fx_ll_mem L 0 _).mpr ⟨i, v, hi, hk, by rw [Nat.zero_add]⟩)
theorem fx_cat1 {G : fxG} {ad : List Bool → Nat} {v : fxV} (h : fx_kd v ≠ 2) : (fx_den G ad v).category = 1 := by
  rcases v with n | (_ | ⟨b, p⟩) | n | ⟨k, o, s⟩
  · rfl
  · rfl
  · rfl
  · exact absurd rfl h
  · rfl
theorem fxL_set {G : fxG} {ad : List Bool → Nat} {nL : Nat} {ls' : Array Slot} {L : List fxV} {i : Nat} {v : fxV} {w : Value} (h : fxL G ad nL ls' L ∨ True) (hl : L.length = nL) (h2 : ∀ v ∈ L, fx_kd v ≠ 2) (hv : fx_kd v ≠ 2) (hw : w = fx_den G ad v)
    (h' : lv_has ls' nL ((i, w) :: (fx_ll G ad 0 L).filter (fun q => !(q.1 == i) && !(q.1 + 1 == i && q.2.category == 2)))) : fxL G ad nL ls' (fx_upd L i v) := by
  subst hw
  rw [fx_upd_eq]
  refine ⟨⟨h'.1, h'.2.1, fun q hq => ?_⟩, by rw [List.length_set]; exact hl, fun x hx => ?_⟩
  · obtain ⟨j, x, h3, h4, rfl⟩ := (fx_ll_mem _ _ _).mp hq
    refine h'.2.2 (0 + j, fx_den G ad x) ?_
    rw [List.getElem?_set] at h3
    by_cases hj : i = j
    · rw [if_pos hj] at h3
      subst hj
      split at h3
      · obtain rfl := Option.some.inj h3
        rw [Nat.zero_add]
        exact List.mem_cons_self
      · exact nomatch h3
    · rw [if_neg hj] at h3
      refine List.mem_cons_of_mem _ (List.mem_filter.mpr ⟨(fx_ll_mem L 0 _).mpr ⟨j, x, h3, h4, rfl⟩, ?_⟩)
      have hc := fx_cat1 (G := G) (ad := ad) (h2 x (List.mem_of_getElem? h3))
      simp [hc]
      omega
  · rcases List.mem_or_eq_of_mem_set hx with h | h
    · exact h2 x h
    · rw [h]; exact hv
theorem fxL_agr {G : fxG} {M : fxT 9} {ad ad' : List Bool → Nat} {nL : Nat} {ls : Array Slot} {L : List fxV} (h : fxL G ad nL ls L) (ho : fx_oks M L) (ha : fx_agr M ad ad') : fxL G ad' nL ls L := by
  refine ⟨⟨h.1.1, h.1.2.1, fun q hq => ?_⟩, h.2⟩
  obtain ⟨j, x, h3, h4, rfl⟩ := (fx_ll_mem _ _ _).mp hq
  rw [fx_den_agr (ho x (List.mem_of_getElem? h3)) ha]
  exact h.1.2.2 _ ((fx_ll_mem L 0 _).mpr ⟨j, x, h3, h4, rfl⟩)
/-- the cells that a method may write: the law's own -/
abbrev fxA (G : fxG) : Nat → Prop := fun q => fg_lo G ≤ q
/-- a method's start, its end by an answer, its end by a throw -/
def fxPc (G : fxG) (ad : List Bool → Nat) (vs : List fxV) (S : fxS) : Array Value → State → Prop := fun a U => a = (vs.map (fx_den G ad)).toArray ∧ (fg_s G).WarmedH U.vm ∧ fxI G ad S U.heap ∧ fx_oks S.1 vs
def fxQc (G : fxG) (ad : List Bool → Nat) (M : fxT 9) (o : fxO) : Array Value → State → Outcome → State → Prop := fun _ st oc t =>
  ∃ (ad' : List Bool → Nat) (v : Option fxV), o.1 = .inl v ∧ oc = .returned (v.map (fx_den G ad')) ∧ fx_agr M ad ad' ∧ fx_dom M o.2.1 ∧ fxI G ad' o.2 t.heap ∧ (∀ w, v = some w → fx_ok o.2.1 w ∧ fx_kd w ≠ 3) ∧ va_F (fxA G) st t
def fxXC (G : fxG) (ad : List Bool → Nat) (M : fxT 9) (o : fxO) : String → State → State → Prop := fun E st t =>
  ∃ ad' : List Bool → Nat, o.1 = .inr 0 ∧ E = "java/lang/UnsupportedOperationException" ∧ fx_agr M ad ad' ∧ fx_dom M o.2.1 ∧ fxI G ad' o.2 t.heap ∧ va_F (fxA G) st t
/-- what a method is, for its code: does it throw, its bytes, its locals, what it answers, its class, its words, the frames and locals that it needs -/
abbrev fxY : Type := Bool × (ByteArray × (Nat × (Option FieldType × (String × (List Cond × (Nat × Nat))))))
def fxQ (X : Bool) (below : List Frame) (Qc : Array Value → State → Outcome → State → Prop) (XC : String → State → State → Prop) (a : Array Value) (s : State) (mc ms : Nat) (A : Nat → Prop) : State → Prop := match X with
  | true => vx_MQ below Qc XC a s mc ms A
  | false => MQ below Qc a s mc ms A
/-- the draws' values lie in their ranges -/
def fxDk (G : fxG) : Prop := ∀ (k : Nat) (q : Int × Int), fx_rk k = some q → q.1 ≤ (fg_dk G k : Int) ∧ (fg_dk G k : Int) ≤ q.2
/-- what stands through a whole body -/
def fxX (G : fxG) (Y : fxY) (p : Program) (R : Room) (s : State) (m : MethodId) (args : Array Value) (meth : Method) (c : Code) : Prop :=
  p.tables.exec = Jvm.exec ∧ c.code = Y.2.1 ∧ c.maxLocals = Y.2.2.1 ∧ meth.sig.returnType = Y.2.2.2.1 ∧ s.vm.findClass Y.2.2.2.2.1 = some m.cls ∧ (∀ w ∈ Y.2.2.2.2.2.1, w.before args s = true) ∧ meth.locks = false ∧ (fg_s G).WarmedH s.vm ∧ va_K (fg_D G) (fg_cl G) (fx_tys G) s ∧
  (fg_lo G ≤ s.heap.size ∧ ∀ q : Nat, q < fg_lo G → s.heap[q]? = (fg_s G).heap[q]?) ∧ Y.2.2.2.2.2.2.1 ≤ R.frames ∧ Y.2.2.2.2.2.2.2 ≤ R.locals ∧ (∀ x ∈ c.exceptionTable.toList, False) ∧ fxDk G
/-- what stands at a place -/
def fxU (G : fxG) (s : State) (nL : Nat) (c0 n0 : Nat) (M0 : fxT 9) (ad0 : List Bool → Nat) (st L : List fxV) (S : fxS) (cells slots : Nat) (ad : List Bool → Nat) (H : Heap) (locs : List Loc) (ls : Array Slot) : Prop :=
  cells + c0 = S.2.2.1 ∧ slots + n0 = S.2.2.2.1 ∧ fxI G ad S H ∧ fx_agr M0 ad0 ad ∧ fx_dom M0 S.1 ∧ va_S (fxA G) s.heap H locs ∧ fxL G ad nL ls L ∧ fx_oks S.1 st ∧ fx_oks S.1 L
def fxJ (G : fxG) (Y : fxY) (pc : Nat) (k : fxK0) : Prop :=
  ∀ (p : Program) (e : Env) (R : Room) (s : State) (m : MethodId) (args : Array Value) (below : List Frame) (meth : Method) (c : Code), fxX G Y p R s m args meth c →
  ∀ (st L : List fxV) (S : fxS) (o : fxO), k st L S = some o →
    (S.2.2.1 ≤ o.2.2.2.1 ∧ S.2.2.2.1 ≤ o.2.2.2.2.1) ∧
    ∀ (c0 n0 : Nat) (M0 : fxT 9) (ad0 : List Bool → Nat), R.cells + c0 = o.2.2.2.1 → R.slots + n0 = o.2.2.2.2.1 →
    ∀ (cells slots : Nat) (ad : List Bool → Nat) (H : Heap) (locs : List Loc) (ls : Array Slot), fxU G s Y.2.2.1 c0 n0 M0 ad0 st L S cells slots ad H locs ls →
      W p (fg_l G) e R s m args below meth c H locs cells slots (fxQ Y.1 below (fxQc G ad0 M0 o) (fxXC G ad0 M0 o) args s R.cells R.slots (fxA G)) (F0 m pc ls (st.map (fx_den G ad)))
/-- a chain of steps at a place, wherever the jumps' targets are right -/
def fxB (G : fxG) (Y : fxY) (lab : List Nat) (pc : Nat) (k : fxK) : Prop := ∀ self : Nat → fxK0, (∀ b q, lab[b]? = some q → fxJ G Y q (self b)) → fxJ G Y pc (k self)
/-- .. of a method: when its function answers, its contract holds -/
def fxM (G : fxG) (Y : fxY) (y : MethodName) (f : fxF) : Prop := ∀ (vs : List fxV) (S : fxS) (o : fxO), f vs S = some o →
  (S.2.2.1 ≤ o.2.2.2.1 ∧ S.2.2.2.1 ≤ o.2.2.2.2.1) ∧ ∀ ad : List Bool → Nat, 
    (match Y.1 with
    | true => vx_Met (fg_l G) y Y.2.2.2.2.2.1 { frames := Y.2.2.2.2.2.2.1, cells := o.2.2.2.1 - S.2.2.1, slots := o.2.2.2.2.1 - S.2.2.2.1, locals := Y.2.2.2.2.2.2.2 } (fxPc G ad vs S) (fxQc G ad S.1 o) (fxXC G ad S.1 o) (o.2.2.2.1 - S.2.2.1) (o.2.2.2.2.1 - S.2.2.2.1) (fxA G)
    | false => Met (fg_l G) y Y.2.2.2.2.2.1 { frames := Y.2.2.2.2.2.2.1, cells := o.2.2.2.1 - S.2.2.1, slots := o.2.2.2.2.1 - S.2.2.2.1, locals := Y.2.2.2.2.2.2.2 } (fxPc G ad vs S) (fxQc G ad S.1 o) (o.2.2.2.1 - S.2.2.1) (o.2.2.2.2.1 - S.2.2.2.1) (fxA G))
