/-! WHAT THE SMALL MACHINE'S STATES STAND FOR. -/
/-- the launch, the law's own start, where its new cells begin, the classes' numbers, the classes, the array classes, the draws' values, the draws -/
abbrev fxG : Type := Launch × (State × (Nat × (va_G × (List vw_C × ((Nat → ClassId) × ((Nat → Nat) × (Nat → Nat)))))))
abbrev fg_l (G : fxG) : Launch := G.1
abbrev fg_s (G : fxG) : State := G.2.1
abbrev fg_lo (G : fxG) : Nat := G.2.2.1
abbrev fg_D (G : fxG) : va_G := G.2.2.2.1
abbrev fg_cl (G : fxG) : List vw_C := G.2.2.2.2.1
abbrev fg_cT (G : fxG) : Nat → ClassId := G.2.2.2.2.2.1
abbrev fg_dk (G : fxG) : Nat → Nat := G.2.2.2.2.2.2.1
abbrev fg_R (G : fxG) : Nat → Nat := G.2.2.2.2.2.2.2
def fx_den (G : fxG) (ad : List Bool → Nat) : fxV → Value
  | .inl n => .int (nI n)
  | .inr (.inl []) => .null
  | .inr (.inl (b :: p)) => .ref (ad (b :: p))
  | .inr (.inr (.inl n)) => .long (lN n)
  | .inr (.inr (.inr (k, o, s))) => .int (Int32.ofInt (o + s * (fg_dk G k : Int)))
def fx_dI (G : fxG) (ad : List Bool → Nat) (v : fxV) : Int32 := match fx_den G ad v with
  | .int x => x
  | _ => 0
def fx_dL (G : fxG) (ad : List Bool → Nat) (v : fxV) : Int64 := match fx_den G ad v with
  | .long x => x
  | _ => 0
def fx_dR (G : fxG) (ad : List Bool → Nat) (v : fxV) : Option Nat := match fx_den G ad v with
  | .ref x => some x
  | _ => none
def fx_elm (G : fxG) (ad : List Bool → Nat) (t : Nat) (xs : List fxV) : vp_A :=
  (xs.length, if t < 4 then .inl (fun j => fx_dI G ad (xs.getD j (.inl 0))) else if t = 4 then .inr (.inl (fun j => fx_dL G ad (xs.getD j (.inl 0)))) else .inr (.inr (.inr (.inr (fun j => fx_dR G ad (xs.getD j (.inl 0)))))))
def fx_cel (G : fxG) (ad : List Bool → Nat) : fxE → va_E
  | .inl (ci, fs) => .inr (ci, fs.map (fx_den G ad))
  | .inr (t, xs) => .inl (fg_cT G t, fx_elm G ad t xs)
noncomputable def fx_ce (G : fxG) (ad : List Bool → Nat) (M : fxT 9) (p : List Bool) : va_E := match fx_get 9 M p with
  | some c => fx_cel G ad c.2
  | none => .inr (0, [])
/-- the kinds of arrays -/
def fx_ty : Nat → FieldType
  | 0 => .int
  | 1 => .char
  | 2 => .boolean
  | 3 => .byte
  | 4 => .long
  | 5 => .object "Farfiles$Act"
  | 6 => .object "Farfiles$ActSet"
  | _ => .object "Farfiles$Client"
def fx_tys (G : fxG) : List (ClassId × FieldType) := [(fg_cT G 0, .int), (fg_cT G 1, .char), (fg_cT G 2, .boolean), (fg_cT G 3, .byte), (fg_cT G 4, .long), (fg_cT G 5, .object "Farfiles$Act"), (fg_cT G 6, .object "Farfiles$ActSet"), (fg_cT G 7, .object "Farfiles$Client")]
/-- a reference is one of a cell -/
def fx_ok (M : fxT 9) (v : fxV) : Prop := ∀ b p, v = .inr (.inl (b :: p)) → fx_get 9 M (b :: p) ≠ none
def fx_oks (M : fxT 9) (L : List fxV) : Prop := ∀ v ∈ L, fx_ok M v
def fx_dom (M M' : fxT 9) : Prop := ∀ p, fx_get 9 M p ≠ none → fx_get 9 M' p ≠ none
def fx_agr (M : fxT 9) (ad ad' : List Bool → Nat) : Prop := ∀ p, fx_get 9 M p ≠ none → ad' p = ad p
def fx_vals : fxE → List fxV
  | .inl o => o.2
  | .inr o => o.2
/-- a cell that stands for one of the heap's (kind 99: nothing is said of it) -/
def fx_says : fxE → Prop
  | .inl _ => True
  | .inr o => o.1 ≠ 99
theorem fx_ok_dom {M M' : fxT 9} {v : fxV} (h : fx_ok M v) (hd : fx_dom M M') : fx_ok M' v := fun b p e => hd _ (h b p e)
theorem fx_oks_dom {M M' : fxT 9} {L : List fxV} (h : fx_oks M L) (hd : fx_dom M M') : fx_oks M' L := fun v hv => fx_ok_dom (h v hv) hd
theorem fx_dom_rf {M : fxT 9} : fx_dom M M := fun _ h => h
theorem fx_dom_tr {M M' M2 : fxT 9} (h : fx_dom M M') (h2 : fx_dom M' M2) : fx_dom M M2 := fun p q => h2 p (h p q)
theorem fx_agr_rf {M : fxT 9} {ad : List Bool → Nat} : fx_agr M ad ad := fun _ _ => rfl
theorem fx_agr_tr {M M' : fxT 9} {ad ad' ad2 : List Bool → Nat} (hd : fx_dom M M') (h : fx_agr M ad ad') (h2 : fx_agr M' ad' ad2) : fx_agr M ad ad2 := fun p q => (h2 p (hd p q)).trans (h p q)
theorem fx_den_agr {G : fxG} {M : fxT 9} {ad ad' : List Bool → Nat} {v : fxV} (h : fx_ok M v) (ha : fx_agr M ad ad') : fx_den G ad' v = fx_den G ad v := by
  rcases v with n | (_ | ⟨b, p⟩) | n | ⟨k, o, s⟩
  · rfl
  · rfl
  · exact congrArg Value.ref (ha _ (h b p rfl))
  · rfl
  · rfl
theorem fx_dens_agr {G : fxG} {M : fxT 9} {ad ad' : List Bool → Nat} {L : List fxV} (h : fx_oks M L) (ha : fx_agr M ad ad') : L.map (fx_den G ad') = L.map (fx_den G ad) :=
  List.map_congr_left fun v hv => fx_den_agr (h v hv) ha
theorem fx_cel_agr {G : fxG} {M : fxT 9} {ad ad' : List Bool → Nat} {e : fxE} (h : fx_oks M (fx_vals e)) (ha : fx_agr M ad ad') : fx_cel G ad' e = fx_cel G ad e := by
  have hg : ∀ xs : List fxV, fx_oks M xs → ∀ j, fx_den G ad' (xs.getD j (.inl 0)) = fx_den G ad (xs.getD j (.inl 0)) := by
    intro xs hx j
    rw [List.getD_eq_getElem?_getD]
    cases hj : xs[j]? with
    | none => rfl
    | some v => exact fx_den_agr (hx v (List.mem_of_getElem? hj)) ha
  rcases e with ⟨ci, fs⟩ | ⟨t, xs⟩
  · exact congrArg (fun z => Sum.inr (ci, z)) (fx_dens_agr h ha)
  · have hx : fx_oks M xs := h
    have e1 : fx_elm G ad' t xs = fx_elm G ad t xs := by
      simp only [fx_elm, fx_dI, fx_dL, fx_dR, hg xs hx]
    exact congrArg (fun z => Sum.inl (fg_cT G t, z)) e1
/-- the heap holds the state's cells -/
def fxI (G : fxG) (ad : List Bool → Nat) (S : fxS) (H : Heap) : Prop :=
  (fg_lo G ≤ H.size ∧ ∀ q : Nat, q < fg_lo G → H[q]? = (fg_s G).heap[q]?) ∧
  (∀ p c, fx_get 9 S.1 p = some c → (fx_says c.2 → va_at (fg_D G) (fg_cl G) (ad p, fx_cel G ad c.2) H) ∧ (c.1 = false → ad p < fg_lo G) ∧ fx_oks S.1 (fx_vals c.2) ∧ (c.1 = true → fx_says c.2)) ∧
  (∃ ps : List (List Bool), va_D (fun q => fg_lo G ≤ q) (ps.map fun p => (ad p, fx_ce G ad S.1 p)) ∧ (∀ p c, fx_get 9 S.1 p = some c → c.1 = true → p ∈ ps) ∧ ∀ p ∈ ps, ∃ c, fx_get 9 S.1 p = some (true, c)) ∧
  (∀ i, S.2.1 ≤ i → i < 512 → fx_get 9 S.1 (fx_bits 9 i) = none) ∧
  (∀ (j m : Nat) (v : fxV), S.2.2.2.2[j]? = some (m, v) → fx_den G ad v = .int (nI (fg_R G j % m)) ∧ fx_kd v = 0)
theorem fx_map_set {α β : Type} {ps : List α} {g g' : α → β} {q0 : Nat} {p : α} (hq : ps[q0]? = some p) (hne : ∀ i, i ≠ q0 → ps[i]? ≠ some p) (hg : ∀ q, q ≠ p → g' q = g q) : (ps.map g).set q0 (g' p) = ps.map g' := by
  apply List.ext_getElem?
  intro i
  rw [List.getElem?_set, List.getElem?_map, List.getElem?_map]
  by_cases h : q0 = i
  · subst h
    obtain ⟨hl, he⟩ := List.getElem?_eq_some_iff.mp hq
    simp [hl, he]
  · rw [if_neg h]
    cases hi : ps[i]? with
    | none => rfl
    | some x => exact congrArg some (hg x (fun e => hne i (fun e2 => h e2.symm) (by rw [hi, e]))).symm
