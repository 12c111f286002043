/-! THE JUDGEMENT: from a place of a method's code, a run of the small machine that comes to an end does what the bytecode does. -/
/-- the locals -/
noncomputable def gx_ll (dk ad : Nat → Nat) : Nat → List gxV → List (Nat × Value)
  | _, [] => []
  | i, v :: t => match v with
    | .inr (.inr (.inr _)) => gx_ll dk ad (i + 1) t
    | v => (i, gx_den dk ad v) :: gx_ll dk ad (i + 1) t
def gx_bl0 : gxV → Bool
  | .inr (.inr (.inr _)) => true
  | _ => false
def gx_lg : gxV → Bool
  | .inr (.inl _) => true
  | _ => false
theorem gx_ll_mem {dk ad : Nat → Nat} : ∀ (L : List gxV) (i : Nat) (q : Nat × Value), q ∈ gx_ll dk ad i L ↔ ∃ j v, L[j]? = some v ∧ gx_bl0 v = false ∧ q = (i + j, gx_den dk ad v) := by
  intro L
  induction L with
  | nil => intro i q; simp [gx_ll]
  | cons a t ih =>
    intro i q
    have key : (∃ j v, (a :: t)[j]? = some v ∧ gx_bl0 v = false ∧ q = (i + j, gx_den dk ad v)) ↔ (gx_bl0 a = false ∧ q = (i, gx_den dk ad a)) ∨ ∃ j v, t[j]? = some v ∧ gx_bl0 v = false ∧ q = (i + 1 + j, gx_den dk ad v) := by
      constructor
      · rintro ⟨j, v, h1, h2, h3⟩
        cases j with
        | zero => left; obtain rfl : a = v := by simpa using h1
                  exact ⟨h2, by simpa using h3⟩
        | succ j => right; exact ⟨j, v, by simpa using h1, h2, by rw [h3]; congr 1; omega⟩
      · rintro (⟨h1, h2⟩ | ⟨j, v, h1, h2, h3⟩)
        · exact ⟨0, a, by simp, h1, by simpa using h2⟩
        · exact ⟨j + 1, v, by simpa using h1, h2, by rw [h3]; congr 1; omega⟩
    rw [key]
    rcases a with x | x | x | x
    · show q ∈ (i, gx_den dk ad (.inl x)) :: gx_ll dk ad (i + 1) t ↔ _
      rw [List.mem_cons, ih]; simp [gx_bl0]
    · show q ∈ (i, gx_den dk ad (.inr (.inl x))) :: gx_ll dk ad (i + 1) t ↔ _
      rw [List.mem_cons, ih]; simp [gx_bl0]
    · show q ∈ (i, gx_den dk ad (.inr (.inr (.inl x)))) :: gx_ll dk ad (i + 1) t ↔ _
      rw [List.mem_cons, ih]; simp [gx_bl0]
    · show q ∈ gx_ll dk ad (i + 1) t ↔ _
      rw [ih]; simp [gx_bl0]
def gx_lc (dk ad : Nat → Nat) (nL : Nat) (ls : Array Slot) (L : List gxV) : Prop := lv_has ls nL (gx_ll dk ad 0 L)
theorem gx_lc_at {dk ad : Nat → Nat} {nL : Nat} {ls : Array Slot} {L : List gxV} (h : gx_lc dk ad nL ls L) {i : Nat} {v : gxV} (hi : L[i]? = some v) (hk : gx_bl0 v = false) : ls[i]? = some (.val (gx_den dk ad v)) :=
  h.2.2 (i, gx_den dk ad v) ((gx_ll_mem L 0 _).mpr ⟨i, v, hi, hk, by rw [Nat.zero_add]⟩)
/-- no long right ahead of the place i -/
def gx_pl (L : List gxV) (i : Nat) : Bool := match i with
  | 0 => true
  | j + 1 => match L[j]? with
    | some v => !gx_lg v
    | none => true
theorem gx_cat {dk ad : Nat → Nat} {v : gxV} (h : gx_lg v = false) : (gx_den dk ad v).category = 1 := by
  rcases v with x | x | x | x
  · rfl
  · exact nomatch h
  · show (gx_rf ad x.2).category = 1
    unfold gx_rf
    split <;> rfl
  · rfl
theorem gx_lc_set {dk ad : Nat → Nat} {nL : Nat} {ls' : Array Slot} {L : List gxV} {i : Nat} {v : gxV} (hp : gx_pl L i = true)
    (h' : lv_has ls' nL ((i, gx_den dk ad v) :: (gx_ll dk ad 0 L).filter (fun q => !(q.1 == i) && !(q.1 + 1 == i && q.2.category == 2)))) : gx_lc dk ad nL ls' (L.set i v) := by
  refine ⟨h'.1, h'.2.1, fun q hq => ?_⟩
  obtain ⟨j, x, h3, h4, rfl⟩ := (gx_ll_mem _ _ _).mp hq
  refine h'.2.2 (0 + j, gx_den dk ad x) ?_
  rw [List.getElem?_set] at h3
  by_cases hj : i = j
  · rw [if_pos hj] at h3
    subst hj
    split at h3
    · obtain rfl := Option.some.inj h3
      rw [Nat.zero_add]
      exact List.mem_cons_self
    · exact nomatch h3
  · rw [if_neg hj] at h3
    refine List.mem_cons_of_mem _ (List.mem_filter.mpr ⟨(gx_ll_mem L 0 _).mpr ⟨j, x, h3, h4, rfl⟩, ?_⟩)
    by_cases hj1 : j + 1 = i
    · subst hj1
      have hp : (match L[j]? with | some v => !gx_lg v | none => true) = true := hp
      rw [h3] at hp
      have hp : (!gx_lg x) = true := hp
      have hc := gx_cat (dk := dk) (ad := ad) (v := x) (by cases hx : gx_lg x; rfl; rw [hx] at hp; exact nomatch hp)
      simp [hc]
    · simp
      omega
theorem gx_lc_setl {dk ad : Nat → Nat} {nL : Nat} {ls' : Array Slot} {L : List gxV} {i : Nat} {x : Nat} (hp : gx_pl L i = true)
    (h' : lv_has ls' nL ((i, gx_den dk ad (gL x)) :: (gx_ll dk ad 0 L).filter (fun q => !(q.1 == i) && (!(q.1 == i + 1) && !(q.1 + 1 == i && q.2.category == 2))))) : gx_lc dk ad nL ls' ((L.set i (gL x)).set (i + 1) gB) := by
  refine ⟨h'.1, h'.2.1, fun q hq => ?_⟩
  obtain ⟨j, y, h3, h4, rfl⟩ := (gx_ll_mem _ _ _).mp hq
  refine h'.2.2 (0 + j, gx_den dk ad y) ?_
  rw [List.getElem?_set] at h3
  by_cases hj : i + 1 = j
  · rw [if_pos hj] at h3
    split at h3
    · obtain rfl := Option.some.inj h3
      exact nomatch h4
    · exact nomatch h3
  · rw [if_neg hj, List.getElem?_set] at h3
    by_cases hj0 : i = j
    · rw [if_pos hj0] at h3
      subst hj0
      split at h3
      · obtain rfl := Option.some.inj h3
        rw [Nat.zero_add]
        exact List.mem_cons_self
      · exact nomatch h3
    · rw [if_neg hj0] at h3
      refine List.mem_cons_of_mem _ (List.mem_filter.mpr ⟨(gx_ll_mem L 0 _).mpr ⟨j, y, h3, h4, rfl⟩, ?_⟩)
      by_cases hj1 : j + 1 = i
      · subst hj1
        have hp : (match L[j]? with | some v => !gx_lg v | none => true) = true := hp
        rw [h3] at hp
        have hp : (!gx_lg y) = true := hp
        have hc := gx_cat (dk := dk) (ad := ad) (v := y) (by cases hx : gx_lg y; rfl; rw [hx] at hp; exact nomatch hp)
        simp [hc]
        omega
      · simp
        omega
theorem gx_lc_agr {dk : Nat → Nat} {cs : List gxq} {ad ad' : Nat → Nat} {nL : Nat} {ls : Array Slot} {L : List gxV} (h : gx_lc dk ad nL ls L) (ho : gv_oks cs L) (ha : gx_agr cs ad ad') : gx_lc dk ad' nL ls L := by
  refine ⟨h.1, h.2.1, fun q hq => ?_⟩
  obtain ⟨j, x, h3, h4, rfl⟩ := (gx_ll_mem _ _ _).mp hq
  rw [gx_den_agr (ho x (List.mem_of_getElem? h3)) ha]
  exact h.2.2 _ ((gx_ll_mem L 0 _).mpr ⟨j, x, h3, h4, rfl⟩)
/-- the words of every contract -/
def gx_xs : List Cond := [.selects RJ4 yJ5_ensureCapacityInternal_d00df yJ5_ensureCapacityInternal_d00df, .selects RJ4 yJ5_putStringAt_47b60 yJ5_putStringAt_47b60, .selects RJ4 yJ5_inflateIfNeededFor_a7421 yJ5_inflateIfNeededFor_a7421]
def gx_tb : List Cond := gx_xs ++ lw_tbl
/-- words that are carried by hand: links into a nest mate, classes of arrays of objects; and what the face and the casts say -/
def gx_crn : Cond → Bool
  | .fieldLinkNest .. => true
  | .methodLinkNest .. => true
  | .arrayOver (.object _) => true
  | _ => false
def gx_crw (w : Cond) : Bool := gx_crn w || (w.keepsCast && w.onTables)
def gx_okw (w : Cond) : Bool := goodWord w || gx_crw w
def gx_gs : List Cond := gx_tb.filter goodWord
def gx_ws : List Cond := gx_tb.filter gx_okw
theorem gx_gsub {w : Cond} (h : w ∈ gx_gs) : w ∈ gx_ws := by
  obtain ⟨h1, h2⟩ := List.mem_filter.mp h
  exact List.mem_filter.mpr ⟨h1, by unfold gx_okw; rw [h2]; rfl⟩
theorem gx_goodc {w : Cond} (h : w ∈ gx_ws) (hg : goodWord w = true) : GoodIn gx_ws (w :: gx_gs) := fun x hx => by
  rcases List.mem_cons.mp hx with e | e
  · rw [e]; exact ⟨h, good_of_word hg⟩
  · exact ⟨gx_gsub e, good_of_word (List.mem_filter.mp e).2⟩
theorem gx_car0 {w : Cond} (h : gx_crn w = true) {s U : State} (hW : s.WarmedH U.vm) (hZ : va_Nw w s) (A : Array Value) : w.before A U = true := by
  cases w with
  | fieldLinkNest a i b n d h => exact va_Nw.use rfl (va_Nw.warmF hW hZ)
  | methodLinkNest a i x h => exact va_Nw.use rfl (va_Nw.warmM hW hZ)
  | arrayOver ty =>
    cases ty with
    | object C => exact va_AO.use (va_AO.moved hW.alike (show va_AO C s from hZ))
    | _ => exact nomatch h
  | _ => exact nomatch h
theorem gx_car {w : Cond} (h : gx_crw w = true) {s U : State} (hW : s.WarmedH U.vm) (hZ : va_Nw w s) (A : Array Value) : w.before A U = true := by
  unfold gx_crw at h
  cases hn : gx_crn w with
  | true => exact gx_car0 hn hW hZ A
  | false =>
    rw [hn, Bool.false_or, Bool.and_eq_true] at h
    exact va_tabs h.2 (rfl : (s.setVm U.vm).vm = U.vm) (Cond.before_shiftedCast (.of_warmed hW) w h.1 hZ)
/-- what is thrown: the number by which a run tells it -/
abbrev gx_T : Nat := 18446744073709551616
/-- a method, for its code: may it throw; its bytes; its locals; what it answers; its class; the frames, the locals that it needs; the slot's kind of its answer (5: none); its handlers; its name -/
abbrev gxY : Type := Bool × (ByteArray × (Nat × (Option FieldType × (String × (Nat × (Nat × (Nat × (List (Nat × Nat × Nat × Nat) × String))))))))
abbrev gy_x (Y : gxY) : Bool := Y.1
abbrev gy_b (Y : gxY) : ByteArray := Y.2.1
abbrev gy_l (Y : gxY) : Nat := Y.2.2.1
abbrev gy_r (Y : gxY) : Option FieldType := Y.2.2.2.1
abbrev gy_o (Y : gxY) : String := Y.2.2.2.2.1
abbrev gy_f (Y : gxY) : Nat := Y.2.2.2.2.2.1
abbrev gy_k (Y : gxY) : Nat := Y.2.2.2.2.2.2.1
abbrev gy_s (Y : gxY) : Nat := Y.2.2.2.2.2.2.2.1
abbrev gy_h (Y : gxY) : List (Nat × Nat × Nat × Nat) := Y.2.2.2.2.2.2.2.2.1
abbrev gy_n (Y : gxY) : String := Y.2.2.2.2.2.2.2.2.2
/-- the word that says a method's code -/
def gy_w (Y : gxY) (y : MethodName) : Cond := match gy_h Y with
  | [] => .code y (gy_b Y) (gy_l Y) (gy_r Y)
  | h :: t => .codeWith y (gy_b Y) (gy_l Y) (gy_r Y) (h :: t)
theorem gy_wg (Y : gxY) (y : MethodName) : goodWord (gy_w Y y) = true := by
  unfold gy_w
  split <;> rfl
def gx_ret (dk ad : Nat → Nat) (σ v : Nat) : Option Value := if σ = 5 then none else some (gx_den dk ad (gx_sl σ v))
abbrev gxA (G : gxG) : Nat → Prop := fun q => gg_lo G ≤ q
def gxPc (G : gxG) (ad : Nat → Nat) (cw : List gxq) (vs : List gxV) (M n : Nat) : Array Value → State → Prop := fun a U => a = (vs.map (gx_den (gg_dk G) ad)).toArray ∧ (gg_s G).WarmedH U.vm ∧ gxI G ad cw M n U.heap ∧ gv_oks (gg_cr G ++ cw) vs
def gxQc (G : gxG) (σ : Nat) (ad : Nat → Nat) (cw : List gxq) (v M n : Nat) : Array Value → State → Outcome → State → Prop := fun _ st oc t =>
  v ≠ gx_T ∧ ∃ (ad' : Nat → Nat) (cw' : List gxq), oc = .returned (gx_ret (gg_dk G) ad' σ v) ∧ gx_agr cw ad ad' ∧ gx_sb cw cw' ∧ gxI G ad' cw' M n t.heap ∧ gv_ok (gg_cr G ++ cw') (gx_sl σ v) ∧ va_F (gxA G) st t
def gxXC (G : gxG) (ad : Nat → Nat) (cw : List gxq) (v M n : Nat) : String → State → State → Prop := fun E st t =>
  v = gx_T ∧ ∃ (ad' : Nat → Nat) (cw' : List gxq), E = "java/lang/UnsupportedOperationException" ∧ gx_agr cw ad ad' ∧ gx_sb cw cw' ∧ gxI G ad' cw' M n t.heap ∧ va_F (gxA G) st t
def gxQ (X : Bool) (below : List Frame) (Qc : Array Value → State → Outcome → State → Prop) (XC : String → State → State → Prop) (a : Array Value) (s : State) (mc ms : Nat) (A : Nat → Prop) : State → Prop := match X with
  | true => vx_MQ below Qc XC a s mc ms A
  | false => MQ below Qc a s mc ms A
/-! the cells that nobody writes: the script (1), NO_SIGNS (2), the JDK's tables of digits (3, 4), a formatter (5), the law's String constants and their bytes -/
def gx_cr : List gxq := [(1, (99, 0)), (2, (65, 0)), (3, (97, 0)), (4, (96, 0)), (5, (98, 0)), (6, (8, 2)), (8, (67, 0)), (9, (8, 2)), (11, (67, 1)), (13, (8, 2)), (15, (67, 2)), (18, (8, 2)), (20, (67, 2)), (23, (8, 2)), (25, (67, 1)), (27, (8, 2)), (29, (67, 1)), (31, (8, 2)), (33, (67, 2)), (36, (8, 2)), (38, (67, 3)), (42, (8, 2)), (44, (67, 1)), (46, (8, 2)), (48, (67, 2)), (51, (8, 2)), (53, (67, 2))]
def gx_M0 : Nat := 63383165233342737186722325530888008375289747367562816322913920516930968490157895816961139704711667133536196048376453110669973597559397054716503877215791119130332010661755551886211700616770813922236311649997455092642962110170756981925434458647589561726020352203329618022020707284504856862044670503695158520632840711201644874831104866162134442941297861921672062712664937559898771374038276227477978280111816406388799151660123699372323098136788938283365531741030269317712484861640716940855345704823837617855617053869470288682364424512611546338233605603518640428760888075553345445891134541450373051715346441276494840714017464973312366071255546306267742467715050491079434813912959274467727224217133644009372509859557173471723642549554011933171308380264014640480124510695010639503744257890890819880091648
def gx_str : List (Nat × (String × Nat)) := [(65, ("", 6)), (146, ("=", 9)), (166, ("=1", 13)), (168, ("=2", 18)), (176, ("1", 23)), (178, ("2", 27)), (189, ("/f", 31)), (191, ("/f=", 36)), (202, (" ", 42)), (204, ("/x", 46)), (218, ("/y", 51))]
def gxZ (G : gxG) (s : State) : Prop :=
  va_Z "Farfiles" "NO_SIGNS" "[C" (.ref (gg_ad G 2)) (fun q => gg_lo G ≤ q) s s.heap ∧ va_Z "java/lang/String" "COMPACT_STRINGS" "Z" (.int 1) (fun q => gg_lo G ≤ q) s s.heap ∧
  (va_Z "jdk/internal/util/Preconditions" "SIOOBE_FORMATTER" "Ljava/util/function/BiFunction;" .null (fun q => gg_lo G ≤ q) s s.heap ∨ va_Z "jdk/internal/util/Preconditions" "SIOOBE_FORMATTER" "Ljava/util/function/BiFunction;" (.ref (gg_ad G 5)) (fun q => gg_lo G ≤ q) s s.heap) ∧
  (va_Z "java/lang/Integer" "DigitOnes" "[B" (.ref (gg_ad G 3)) (fun q => gg_lo G ≤ q) s s.heap ∧ va_Z "java/lang/Integer" "DigitTens" "[B" (.ref (gg_ad G 4)) (fun q => gg_lo G ≤ q) s s.heap ∧ va_T .byte (gg_ad G 3) 100 (fun j => .int (nI (48 + j % 10))) (fun q => gg_lo G ≤ q) s s.heap ∧ va_T .byte (gg_ad G 4) 100 (fun j => .int (nI (48 + j / 10))) (fun q => gg_lo G ≤ q) s s.heap) ∧
  (vx_Zq Bundle.tN "UNASSIGNED_STACK" Bundle.steD (fun q => gg_lo G ≤ q) s s.heap ∧ vx_Zq Bundle.tN "SUPPRESSED_SENTINEL" Bundle.listD (fun q => gg_lo G ≤ q) s s.heap) ∧
  (∀ q ∈ gx_str, vk_R "FarfilesLaw" q.1 q.2.1 (gg_ad G q.2.2) s) ∧ (∃ sa, vk_R "Farfiles" 171 "refused" sa s) ∧ gg_cr G = gx_cr ∧ gg_M G = gx_M0
/-- what stands through a whole body -/
def gxX (G : gxG) (Y : gxY) (p : Program) (R : Room) (s : State) (m : MethodId) (args : Array Value) (meth : Method) (c : Code) : Prop :=
  p.tables.exec = Jvm.exec ∧ c.code = gy_b Y ∧ c.maxLocals = gy_l Y ∧ meth.sig.returnType = gy_r Y ∧ s.vm.findClass (gy_o Y) = some m.cls ∧ (∀ w ∈ gx_ws, w.before args s = true) ∧ meth.locks = false ∧ ((gg_s G).WarmedH s.vm ∧ gxR G s ∧ gx_D (gg_dk G) ∧ gxZ G s) ∧ va_K (gg_D G) gx_cl (gx_tys (gg_cT G)) s ∧
  (gg_lo G ≤ s.heap.size ∧ ∀ q : Nat, q < gg_lo G → s.heap[q]? = (gg_s G).heap[q]?) ∧ gy_f Y ≤ R.frames ∧ gy_k Y ≤ R.locals ∧ (gg_l G).flags = flags0 ∧ c.exceptionTable.toList = tableOf (gy_h Y) ∧ meth.name = gy_n Y
/-- what stands at a place -/
def gxU (G : gxG) (s : State) (nL : Nat) (c0 n0 : Nat) (cw0 : List gxq) (ad0 : Nat → Nat) (st L : List gxV) (M n c cells slots : Nat) (cw : List gxq) (ad : Nat → Nat) (H : Heap) (locs : List Loc) (ls : Array Slot) : Prop :=
  cells + c0 = c ∧ slots + n0 = n ∧ gxI G ad cw M n H ∧ gx_agr cw0 ad0 ad ∧ gx_sb cw0 cw ∧ va_S (gxA G) s.heap H locs ∧ gx_lc (gg_dk G) ad nL ls L ∧ gv_oks (gg_cr G ++ cw) st ∧ gv_oks (gg_cr G ++ cw) L
def gxJ (G : gxG) (Y : gxY) (K : Nat → Nat → Nat → Nat → Bool) (pc : Nat) (st L : List gxV) (M n c : Nat) (e : Bool) : Prop := e = true → ∃ v M' n' c' : Nat, K v M' n' c' = true ∧ n ≤ n' ∧ c ≤ c' ∧ (Y.1 = false → v ≠ gx_T) ∧
  ∀ (p : Program) (e : Env) (R : Room) (s : State) (m : MethodId) (args : Array Value) (below : List Frame) (meth : Method) (cd : Code), gxX G Y p R s m args meth cd →
  ∀ (c0 n0 : Nat) (cw0 : List gxq) (ad0 : Nat → Nat), R.cells + c0 = c' → R.slots + n0 = n' →
  ∀ (cells slots : Nat) (cw : List gxq) (ad : Nat → Nat) (H : Heap) (locs : List Loc) (ls : Array Slot), gxU G s (gy_l Y) c0 n0 cw0 ad0 st L M n c cells slots cw ad H locs ls →
    W p (gg_l G) e R s m args below meth cd H locs cells slots (gxQ Y.1 below (gxQc G (gy_s Y) ad0 cw0 v M' n') (gxXC G ad0 cw0 v M' n') args s R.cells R.slots (gxA G)) (F0 m pc ls (st.map (gx_den (gg_dk G) ad)))
/-- a method's contract: when its function comes to an end -/
def gxC (G : gxG) (Y : gxY) (y : MethodName) (vs : List gxV) (cw : List gxq) (ad : Nat → Nat) (M n c v M' n' c' : Nat) : Prop := match Y.1 with
  | true => vx_Met (gg_l G) y (gy_w Y y :: gx_gs) { frames := gy_f Y, cells := c' - c, slots := n' - n, locals := gy_k Y } (gxPc G ad cw vs M n) (gxQc G (gy_s Y) ad cw v M' n') (gxXC G ad cw v M' n') (c' - c) (n' - n) (gxA G)
  | false => Met (gg_l G) y (gy_w Y y :: gx_gs) { frames := gy_f Y, cells := c' - c, slots := n' - n, locals := gy_k Y } (gxPc G ad cw vs M n) (gxQc G (gy_s Y) ad cw v M' n') (c' - c) (n' - n) (gxA G)
def gxM (G : gxG) (Y : gxY) (y : MethodName) (vs : List gxV) (f : Nat → Nat → Nat → (Nat → Nat → Nat → Nat → Bool) → Bool) : Prop := ∀ (M n c : Nat) (K : Nat → Nat → Nat → Nat → Bool), f M n c K = true →
  ∃ v M' n' c' : Nat, K v M' n' c' = true ∧ n ≤ n' ∧ c ≤ c' ∧ (Y.1 = false → v ≠ gx_T) ∧ ∀ (cw : List gxq) (ad : Nat → Nat), gxC G Y y vs cw ad M n c v M' n' c'
