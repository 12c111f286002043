/-! WHAT THE SMALL MACHINE'S STATES STAND FOR. -/
/-- a value with its kind: a whole number, a long, a reference (its type's number, the cell's base: 0 null), nothing -/
abbrev gxV : Type := Nat ⊕ (Nat ⊕ ((Nat × Nat) ⊕ Unit))
abbrev gI (x : Nat) : gxV := .inl x
abbrev gL (x : Nat) : gxV := .inr (.inl x)
abbrev gR (t x : Nat) : gxV := .inr (.inr (.inl (t, x)))
abbrev gB : gxV := .inr (.inr (.inr ()))
/-- a cell: its base in the memory, its type's number (an object of class i: i; an array of kind k: 64 + k; 99: nothing is said of it), how many fields or elements -/
abbrev gxq : Type := Nat × (Nat × Nat)
/-- the launch, the law's own start, the classes' numbers, the array classes, the numbers drawn, the memory at the start, the cells that nobody writes, their addresses -/
abbrev gxG : Type := Launch × (State × (va_G × ((Nat → ClassId) × ((Nat → Nat) × (Nat × (List gxq × (Nat → Nat)))))))
abbrev gg_l (G : gxG) : Launch := G.1
abbrev gg_s (G : gxG) : State := G.2.1
abbrev gg_D (G : gxG) : va_G := G.2.2.1
abbrev gg_cT (G : gxG) : Nat → ClassId := G.2.2.2.1
abbrev gg_dk (G : gxG) : Nat → Nat := G.2.2.2.2.1
abbrev gg_M (G : gxG) : Nat := G.2.2.2.2.2.1
abbrev gg_cr (G : gxG) : List gxq := G.2.2.2.2.2.2.1
abbrev gg_ad (G : gxG) : Nat → Nat := G.2.2.2.2.2.2.2
abbrev gg_lo (G : gxG) : Nat := (gg_s G).heap.size
def gx_cl : List vw_C := [(RX0, TX0, 8), (RX1, TX1, 1), (RX2, TX2, 4), (RX3, TX3, 12), (RX4, TX4, 2), (RX5, TX5, 5), (RX6, TX6, 5), (RX7, TX7, 16), (RJ0, TJ0, 4), (RJ4, TJ4, 4), (RL, TL, 5)]
/-- the kinds of slots: 0 int, 1 char, 2 boolean, 3 byte, 4 long, 8 + t a reference to the type t -/
def gx_F : Nat → List Nat
  | 0 => [0, 0, 1, 0, 0, 73, 9, 9]
  | 1 => [76]
  | 2 => [77, 72, 72, 0]
  | 3 => [0, 74, 74, 72, 72, 9, 9, 0, 0, 0, 0, 2]
  | 4 => [73, 0]
  | 5 => [77, 8, 9, 9, 0]
  | 6 => [72, 72, 72, 0, 0]
  | 7 => [12, 13, 10, 79, 78, 74, 74, 74, 14, 14, 9, 74, 74, 74, 74, 1]
  | 8 => [75, 3, 0, 2]
  | 9 => [75, 3, 2, 0]
  | 10 => [107, 0, 0, 15, 0]
  | _ => []
def gx_ks : Nat → Nat
  | 0 => 0
  | 1 => 1
  | 2 => 2
  | 3 => 3
  | 4 => 4
  | 5 => 8
  | 6 => 9
  | 7 => 11
  | _ => 0
def gx_ty : Nat → FieldType
  | 0 => .int
  | 1 => .char
  | 2 => .boolean
  | 3 => .byte
  | 4 => .long
  | 5 => .object "Farfiles$Act"
  | 6 => .object "Farfiles$ActSet"
  | _ => .object "Farfiles$Client"
def gx_tys (cT : Nat → ClassId) : List (ClassId × FieldType) := [(cT 0, .int), (cT 1, .char), (cT 2, .boolean), (cT 3, .byte), (cT 4, .long), (cT 5, .object "Farfiles$Act"), (cT 6, .object "Farfiles$ActSet"), (cT 7, .object "Farfiles$Client")]
/-- the value of a slot -/
def gx_sl (σ v : Nat) : gxV := if σ < 4 then gI v else if σ = 4 then gL v else gR (σ - 8) v
def gx_rf (ad : Nat → Nat) (x : Nat) : Value := if x = 0 then .null else .ref (ad x)
def gx_den (dk : Nat → Nat) (ad : Nat → Nat) : gxV → Value
  | .inl x => .int (gx_N dk x)
  | .inr (.inl x) => .long (lN x)
  | .inr (.inr (.inl q)) => gx_rf ad q.2
  | .inr (.inr (.inr _)) => .null
def gx_sa (q : gxq) (j : Nat) : Nat := if q.2.1 < 64 then q.1 + j else q.1 + 1 + j
def gx_ss (q : gxq) (j : Nat) : Nat := if q.2.1 < 64 then (gx_F q.2.1).getD j 0 else gx_ks (q.2.1 - 64)
def gx_ex (q : gxq) : Nat := if q.2.1 < 64 then q.2.2 else q.2.2 + 1
noncomputable def gx_sv (M : Nat) (q : gxq) (j : Nat) : gxV := gx_sl (gx_ss q j) (gx_rd M (gx_sa q j))
noncomputable def gx_elm (dk ad : Nat → Nat) (M : Nat) (q : gxq) : vp_A :=
  (q.2.2, if gx_ks (q.2.1 - 64) < 4 then .inl (fun j => if j < q.2.2 then gx_N dk (gx_rd M (gx_sa q j)) else 0) else if gx_ks (q.2.1 - 64) = 4 then .inr (.inl (fun j => if j < q.2.2 then lN (gx_rd M (gx_sa q j)) else 0))
    else .inr (.inr (.inr (.inr (fun j => if j < q.2.2 then (if gx_rd M (gx_sa q j) = 0 then none else some (ad (gx_rd M (gx_sa q j)))) else none)))))
noncomputable def gx_cel (G : gxG) (ad : Nat → Nat) (M : Nat) (q : gxq) : va_E := if q.2.1 < 64 then .inr (q.2.1, (List.range q.2.2).map (fun j => gx_den (gg_dk G) ad (gx_sv M q j))) else .inl (gg_cT G (q.2.1 - 64), gx_elm (gg_dk G) ad M q)
/-- a reference is null, or to a cell of its type -/
def gv_ok (cs : List gxq) : gxV → Prop
  | .inr (.inr (.inl q)) => q.2 = 0 ∨ ∃ z ∈ cs, z.1 = q.2 ∧ z.2.1 = q.1
  | _ => True
def gv_oks (cs : List gxq) (L : List gxV) : Prop := ∀ v ∈ L, gv_ok cs v
def gx_agr (cw : List gxq) (ad ad' : Nat → Nat) : Prop := ∀ q ∈ cw, ad' q.1 = ad q.1
def gx_sb (cw cw' : List gxq) : Prop := ∀ q ∈ cw, q ∈ cw'
/-- the heap holds the state's cells -/
def gxI (G : gxG) (ad : Nat → Nat) (cw : List gxq) (M n : Nat) (H : Heap) : Prop :=
  (gg_lo G ≤ H.size ∧ ∀ q : Nat, q < gg_lo G → H[q]? = (gg_s G).heap[q]?) ∧
  va_P (gg_D G) gx_cl (cw.map fun q => (ad q.1, gx_cel G ad M q)) H ∧
  va_D (fun q => gg_lo G ≤ q) (cw.map fun q => (ad q.1, gx_cel G ad M q)) ∧
  (∀ q ∈ cw, ∀ z ∈ cw, q = z ∨ q.1 + gx_ex q ≤ z.1 ∨ z.1 + gx_ex z ≤ q.1) ∧
  (∀ q ∈ cw, 128 ≤ q.1 ∧ q.1 + gx_ex q ≤ n ∧ (q.2.1 < 64 → q.2.2 = (gx_F q.2.1).length) ∧ (64 ≤ q.2.1 → gx_rd M q.1 = q.2.2 ∧ q.2.1 < 72)) ∧
  (∀ q ∈ cw, ∀ j, j < q.2.2 → gv_ok (gg_cr G ++ cw) (gx_sv M q j)) ∧
  (∀ a, n ≤ a → gx_rd M a = 0) ∧ (∀ a, a < 128 → gx_rd M a = gx_rd (gg_M G) a) ∧ ((128 ≤ n ∧ n < 2000000) ∧ ∀ q ∈ cw, 0 < gx_ex q) ∧ (∀ q ∈ gg_cr G, ad q.1 = gg_ad G q.1)
/-- what stands of the cells that nobody writes -/
def gxR (G : gxG) (s : State) : Prop := ∀ q ∈ gg_cr G, 0 < q.1 ∧ q.1 + gx_ex q ≤ 128 ∧
  (q.2.1 < 64 → (q.2.1 = 8 ∧ q.2.2 = 2) ∧ va_O "java/lang/String" (gg_ad G q.1) (fun q => gg_lo G ≤ q) s s.heap ∧ ∀ j, j < 2 → va_OF (TJ0 j).1 (TJ0 j).2.1 (TJ0 j).2.2.1 (gx_den (gg_dk G) (gg_ad G) (gx_sv (gg_M G) q j)) (gg_ad G q.1) (fun q => gg_lo G ≤ q) s s.heap ∧ gv_ok (gg_cr G) (gx_sv (gg_M G) q j)) ∧
  (64 ≤ q.2.1 → q.2.1 < 96 → q.2.1 < 68 ∧ q.2.2 < 128 ∧ gx_rd (gg_M G) q.1 = q.2.2 ∧ va_T (gx_ty (q.2.1 - 64)) (gg_ad G q.1) q.2.2 (fun j => gx_den (gg_dk G) (gg_ad G) (gx_sv (gg_M G) q j)) (fun q => gg_lo G ≤ q) s s.heap)
theorem gv_ok_sub {cs cs' : List gxq} {v : gxV} (h : gv_ok cs v) (hs : gx_sb cs cs') : gv_ok cs' v := by
  rcases v with x | x | q | x
  · trivial
  · trivial
  · rcases h with h | ⟨z, h1, h2⟩
    · exact Or.inl h
    · exact Or.inr ⟨z, hs z h1, h2⟩
  · trivial
theorem gv_oks_sub {cs cs' : List gxq} {L : List gxV} (h : gv_oks cs L) (hs : gx_sb cs cs') : gv_oks cs' L := fun v hv => gv_ok_sub (h v hv) hs
theorem gx_sb_rf {cs : List gxq} : gx_sb cs cs := fun _ h => h
theorem gx_sb_tr {a b c : List gxq} (h : gx_sb a b) (h2 : gx_sb b c) : gx_sb a c := fun q hq => h2 q (h q hq)
theorem gx_sb_app {a b c : List gxq} (h : gx_sb a b) : gx_sb (c ++ a) (c ++ b) := fun q hq => (List.mem_append.mp hq).elim (fun e => List.mem_append_left _ e) (fun e => List.mem_append_right _ (h q e))
theorem gx_agr_rf {cw : List gxq} {ad : Nat → Nat} : gx_agr cw ad ad := fun _ _ => rfl
theorem gx_agr_tr {a b : List gxq} {x y z : Nat → Nat} (hs : gx_sb a b) (h : gx_agr a x y) (h2 : gx_agr b y z) : gx_agr a x z := fun q hq => (h2 q (hs q hq)).trans (h q hq)
theorem gx_den_agr {dk : Nat → Nat} {cs : List gxq} {ad ad' : Nat → Nat} {v : gxV} (h : gv_ok cs v) (ha : gx_agr cs ad ad') : gx_den dk ad' v = gx_den dk ad v := by
  rcases v with x | x | q | x
  · rfl
  · rfl
  · show gx_rf ad' q.2 = gx_rf ad q.2
    unfold gx_rf
    rcases h with h | ⟨z, h1, h2, h3⟩
    · rw [if_pos h, if_pos h]
    · rw [← h2, ha z h1]
  · rfl
theorem gx_sv_at (M : Nat) (q : gxq) (j : Nat) : gx_sv M q j = gx_sl (gx_ss q j) (gx_rd M (gx_sa q j)) := rfl
theorem gx_sv_eq {M M' : Nat} {q : gxq} {j : Nat} (h : gx_rd M' (gx_sa q j) = gx_rd M (gx_sa q j)) : gx_sv M' q j = gx_sv M q j := by rw [gx_sv_at, h, gx_sv_at]
theorem gx_sa_in {q : gxq} {j : Nat} (h : j < q.2.2) : q.1 ≤ gx_sa q j ∧ gx_sa q j < q.1 + gx_ex q := by
  unfold gx_sa gx_ex
  split <;> omega
theorem gx_cel_eq {G : gxG} {ad : Nat → Nat} {M M' : Nat} {q : gxq} (h : ∀ j, j < q.2.2 → gx_rd M' (gx_sa q j) = gx_rd M (gx_sa q j)) : gx_cel G ad M' q = gx_cel G ad M q := by
  unfold gx_cel
  split
  · exact congrArg (fun z => Sum.inr (q.2.1, z)) (List.map_congr_left fun j hj => congrArg (gx_den (gg_dk G) ad) (gx_sv_eq (h j (List.mem_range.mp hj))))
  · refine congrArg (fun z => Sum.inl (_, z)) ?_
    unfold gx_elm
    refine congrArg (fun z => (q.2.2, z)) ?_
    split
    · exact congrArg Sum.inl (funext fun j => by split <;> simp_all)
    · split
      · exact congrArg (fun z => Sum.inr (Sum.inl z)) (funext fun j => by split <;> simp_all)
      · exact congrArg (fun z => Sum.inr (Sum.inr (Sum.inr (Sum.inr z)))) (funext fun j => by
          by_cases hj : j < q.2.2
          · simp only [if_pos hj, h j hj]
          · simp only [if_neg hj])
theorem gx_cel_agr {G : gxG} {cs : List gxq} {ad ad' : Nat → Nat} {M : Nat} {q : gxq} (h : ∀ j, j < q.2.2 → gv_ok cs (gx_sv M q j)) (ha : gx_agr cs ad ad') : gx_cel G ad' M q = gx_cel G ad M q := by
  unfold gx_cel
  split
  · exact congrArg (fun z => Sum.inr (q.2.1, z)) (List.map_congr_left fun j hj => gx_den_agr (h j (List.mem_range.mp hj)) ha)
  · next hc =>
    unfold gx_elm
    refine congrArg (fun z => Sum.inl (gg_cT G (q.2.1 - 64), (q.2.2, z))) ?_
    split
    · rfl
    · split
      · rfl
      · next h1 h2 =>
        refine congrArg (fun z => Sum.inr (Sum.inr (Sum.inr (Sum.inr z)))) (funext fun j => ?_)
        by_cases hj : j < q.2.2
        · simp only [if_pos hj]
          by_cases h0 : gx_rd M (gx_sa q j) = 0
          · simp only [if_pos h0]
          · simp only [if_neg h0]
            have ho := h j hj
            rw [gx_sv_at, gx_ss, if_neg hc, gx_sl, if_neg h1, if_neg h2] at ho
            rcases ho with ho | ⟨z, z1, z2, z3⟩
            · exact absurd ho h0
            · have z2 : z.1 = gx_rd M (gx_sa q j) := z2
              rw [← z2, ha z z1]
        · simp only [if_neg hj]
