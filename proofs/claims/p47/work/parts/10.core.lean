/-! THE SMALL MACHINE: cells in a tree, values that may be numbers not known but in a range; a method's code as a chain of steps (each step a function of what comes behind it). It is run by the kernel; that it does what the bytecode does stands in 11. -/
/-- a value: a whole number (as 32 bits), a cell's path ([]: null), a long (as 64 bits), or a number o + s * d of a drawn d -/
abbrev fxV : Type := Nat ⊕ (List Bool ⊕ (Nat ⊕ (Nat × Int × Int)))
/-- a cell: may it be written?; an object (its class's number, its fields), or an array (its kind, its elements) -/
abbrev fxE : Type := (Nat × List fxV) ⊕ (Nat × List fxV)
abbrev fxC : Type := Bool × fxE
def fxT : Nat → Type
  | 0 => Option fxC
  | n + 1 => fxT n × fxT n
noncomputable def fx_get : (n : Nat) → fxT n → List Bool → Option fxC :=
  fun n => Nat.rec (motive := fun n => fxT n → List Bool → Option fxC) (fun t p => List.rec (motive := fun _ => Option fxC) t (fun _ _ _ => none) p)
    (fun _ ih t p => List.rec (motive := fun _ => Option fxC) none (fun b q _ => Bool.rec (motive := fun _ => Option fxC) (ih t.1 q) (ih t.2 q) b) p) n
noncomputable def fx_set : (n : Nat) → fxT n → List Bool → fxC → fxT n :=
  fun n => Nat.rec (motive := fun n => fxT n → List Bool → fxC → fxT n) (fun t p c => List.rec (motive := fun _ => Option fxC) (some c) (fun _ _ _ => t) p)
    (fun n ih t p c => List.rec (motive := fun _ => fxT n × fxT n) t (fun b q _ => Bool.rec (motive := fun _ => fxT n × fxT n) (ih t.1 q c, t.2) (t.1, ih t.2 q c) b) p) n
noncomputable def fx_blank : (n : Nat) → fxT n := fun n => Nat.rec (motive := fun n => fxT n) none (fun _ t => (t, t)) n
theorem fx_get_len : ∀ (n : Nat) (t : fxT n) (p : List Bool) (c : fxC), fx_get n t p = some c → p.length = n := by
  intro n
  induction n with
  | zero => intro t p c h; cases p with
    | nil => rfl
    | cons b q => exact nomatch h
  | succ n ih => intro t p c h; cases p with
    | nil => exact nomatch h
    | cons b q => cases b with
      | false => exact congrArg (· + 1) (ih t.1 q c h)
      | true => exact congrArg (· + 1) (ih t.2 q c h)
theorem fx_get_set : ∀ (n : Nat) (t : fxT n) (p : List Bool) (c : fxC), p.length = n → fx_get n (fx_set n t p c) p = some c := by
  intro n
  induction n with
  | zero => intro t p c h; cases p with
    | nil => rfl
    | cons b q => exact nomatch h
  | succ n ih => intro t p c h; cases p with
    | nil => exact nomatch h
    | cons b q => cases b with
      | false => exact ih t.1 q c (Nat.succ.inj h)
      | true => exact ih t.2 q c (Nat.succ.inj h)
theorem fx_get_ne : ∀ (n : Nat) (t : fxT n) (p q : List Bool) (c : fxC), p.length = n → p ≠ q → fx_get n (fx_set n t p c) q = fx_get n t q := by
  intro n
  induction n with
  | zero => intro t p q c h hn; cases p with
    | nil => cases q with
      | nil => exact absurd rfl hn
      | cons b r => rfl
    | cons b r => exact nomatch h
  | succ n ih => intro t p q c h hn; cases p with
    | nil => exact nomatch h
    | cons b r => cases q with
      | nil => cases b <;> rfl
      | cons b2 r2 => cases b with
        | false => cases b2 with
          | false => exact ih t.1 r r2 c (Nat.succ.inj h) (fun e => hn (by rw [e]))
          | true => rfl
        | true => cases b2 with
          | false => rfl
          | true => exact ih t.2 r r2 c (Nat.succ.inj h) (fun e => hn (by rw [e]))
/-- the path of the i-th cell -/
noncomputable def fx_bits : Nat → Nat → List Bool := fun n => Nat.rec (motive := fun _ => Nat → List Bool) (fun _ => []) (fun n ih i => Nat.testBit i n :: ih i) n
theorem fx_bits_len : ∀ (n i : Nat), (fx_bits n i).length = n := by
  intro n
  induction n with
  | zero => intro i; rfl
  | succ n ih => intro i; exact congrArg (· + 1) (ih i)
theorem fx_bits_test : ∀ (n i j : Nat), fx_bits n i = fx_bits n j → ∀ k, k < n → i.testBit k = j.testBit k := by
  intro n
  induction n with
  | zero => intro i j _ k hk; exact absurd hk (Nat.not_lt_zero k)
  | succ n ih =>
    intro i j h k hk
    have h' : Nat.testBit i n :: fx_bits n i = Nat.testBit j n :: fx_bits n j := h
    rcases Nat.lt_or_ge k n with q | q
    · exact ih i j (List.cons.inj h').2 k q
    · have : k = n := by omega
      subst this
      exact (List.cons.inj h').1
theorem fx_bits_inj {n i j : Nat} (hi : i < 2 ^ n) (hj : j < 2 ^ n) (h : fx_bits n i = fx_bits n j) : i = j := by
  refine Nat.eq_of_testBit_eq (fun k => ?_)
  rcases Nat.lt_or_ge k n with q | q
  · exact fx_bits_test n i j h k q
  · rw [Nat.testBit_lt_two_pow (Nat.lt_of_lt_of_le hi (Nat.pow_le_pow_right (by decide) q)), Nat.testBit_lt_two_pow (Nat.lt_of_lt_of_le hj (Nat.pow_le_pow_right (by decide) q))]
/-- lists: the i-th, and another in its place -/
noncomputable def fx_nth {α : Type} : List α → Nat → Option α := fun L => List.rec (motive := fun _ => Nat → Option α) (fun _ => none) (fun a _ ih i => Nat.rec (motive := fun _ => Option α) (some a) (fun j _ => ih j) i) L
noncomputable def fx_upd {α : Type} : List α → Nat → α → List α := fun L => List.rec (motive := fun _ => Nat → α → List α) (fun _ _ => []) (fun a t ih i v => Nat.rec (motive := fun _ => List α) (v :: t) (fun j _ => a :: ih j v) i) L
theorem fx_nth_eq {α : Type} : ∀ (L : List α) (i : Nat), fx_nth L i = L[i]? := by
  intro L
  induction L with
  | nil => intro i; rfl
  | cons a t ih => intro i; cases i with
    | zero => rfl
    | succ j => exact ih j
theorem fx_upd_eq {α : Type} : ∀ (L : List α) (i : Nat) (v : α), fx_upd L i v = L.set i v := by
  intro L
  induction L with
  | nil => intro i v; rfl
  | cons a t ih => intro i v; cases i with
    | zero => rfl
    | succ j => exact congrArg (a :: ·) (ih j v)
/-- the machine's state: cells, how many places of the tree are taken, cells and slots made, what will be drawn -/
abbrev fxS : Type := fxT 9 × (Nat × (Nat × (Nat × List (Nat × fxV))))
/-- a method's end: what it answers, or what it throws -/
abbrev fxO : Type := (Option fxV ⊕ Nat) × fxS
abbrev fxK0 : Type := List fxV → List fxV → fxS → Option fxO
abbrev fxK : Type := (Nat → fxK0) → fxK0
abbrev fxF : Type := List fxV → fxS → Option fxO
/-! ranges -/
def fx_rk (k : Nat) : Option (Int × Int) := match k % 8 with
  | 0 => some (0, 25)
  | 1 => some (0, 9)
  | 2 => some (10, 99)
  | 3 => some (48, 57)
  | 4 => some (48, 57)
  | _ => none
def fx_con (n : Nat) : Int := if n < 2147483648 then (n : Int) else (n : Int) - 4294967296
def fx_rng : fxV → Option (Int × Int)
  | .inl n => if n < 4294967296 then some (fx_con n, fx_con n) else none
  | .inr (.inr (.inr (k, o, s))) => match fx_rk k with
    | some (a, b) => if 0 ≤ s then some (o + s * a, o + s * b) else some (o + s * b, o + s * a)
    | none => none
  | _ => none
def fx_in32 (q : Int × Int) : Bool := decide (-2147483648 ≤ q.1) && decide (q.2 < 2147483648)
def fx_ltS (x y : fxV) : Option Bool := match fx_rng x, fx_rng y with
  | some a, some b => if fx_in32 a && fx_in32 b then (if a.2 < b.1 then some true else if b.2 ≤ a.1 then some false else none) else none
  | _, _ => none
noncomputable def fx_lt (x y : fxV) : Option Bool := Sum.rec (motive := fun _ => Option Bool)
  (fun a => Sum.rec (motive := fun _ => Option Bool) (fun b => Bool.rec (motive := fun _ => Option Bool) (fx_ltS (.inl a) (.inl b)) (some (Nat.blt a b)) (Bool.and (Nat.blt a 2147483648) (Nat.blt b 2147483648))) (fun b => fx_ltS (.inl a) (.inr b)) y)
  (fun a => fx_ltS (.inr a) y) x
def fx_isI : fxV → Bool
  | .inl _ => true
  | .inr (.inr (.inr _)) => true
  | _ => false
def fx_eqS (x y : fxV) : Option Bool := if x = y ∧ fx_isI x = true then some true else match fx_rng x, fx_rng y with
  | some a, some b => if fx_in32 a && fx_in32 b then (if a.2 < b.1 then some false else if b.2 < a.1 then some false else none) else none
  | _, _ => none
noncomputable def fx_eq (x y : fxV) : Option Bool := Sum.rec (motive := fun _ => Option Bool)
  (fun a => Sum.rec (motive := fun _ => Option Bool) (fun b => Bool.rec (motive := fun _ => Option Bool) (fx_eqS (.inl a) (.inl b)) (some (Nat.beq a b)) (Bool.and (Nat.blt a 4294967296) (Nat.blt b 4294967296))) (fun b => fx_eqS (.inl a) (.inr b)) y)
  (fun a => fx_eqS (.inr a) y) x
