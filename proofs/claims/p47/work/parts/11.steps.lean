/-! THE STEPS. st: the operand stack; L: the locals; S: the state. self: where a jump goes. -/
noncomputable def fx_stuck : fxK := fun _ _ _ _ => none
/-- a number, or null, or a constant cell, is pushed -/
noncomputable def fx_push (v : fxV) (k : fxK) : fxK := fun self st L S => k self (v :: st) L S
/-- what kind a value is: 0 a whole number, 1 a reference, 2 a long, 3 not to be used -/
noncomputable def fx_kd (v : fxV) : Nat := Sum.rec (motive := fun _ => Nat) (fun _ => 0) (fun w => Sum.rec (motive := fun _ => Nat) (fun _ => 1) (fun z => Sum.rec (motive := fun _ => Nat) (fun _ => 2) (fun q => Bool.rec (motive := fun _ => Nat) 0 3 (Nat.beq q.1 7)) z) w) v
noncomputable def fx_load (d i : Nat) (k : fxK) : fxK := fun self st L S => Option.rec (motive := fun _ => Option fxO) none (fun v => Bool.rec (motive := fun _ => Option fxO) none (k self (v :: st) L S) (Nat.beq (fx_kd v) d)) (fx_nth L i)
noncomputable def fx_store (d i : Nat) (k : fxK) : fxK := fun self st L S => List.rec (motive := fun _ => Option fxO) none (fun v r _ => Bool.rec (motive := fun _ => Option fxO) none (k self r (fx_upd L i v) S) (Nat.beq (fx_kd v) d)) st
noncomputable def fx_goto (b : Nat) : fxK := fun self st L S => self b st L S
/-- two values become one -/
noncomputable def fx_bin (f : fxV → fxV → Option fxV) (k : fxK) : fxK := fun self st L S => List.rec (motive := fun _ => Option fxO) none (fun y r _ => List.rec (motive := fun _ => Option fxO) none (fun x r2 _ => Option.rec (motive := fun _ => Option fxO) none (fun v => k self (v :: r2) L S) (f x y)) r) st
noncomputable def fx_un (f : fxV → Option fxV) (k : fxK) : fxK := fun self st L S => List.rec (motive := fun _ => Option fxO) none (fun x r _ => Option.rec (motive := fun _ => Option fxO) none (fun v => k self (v :: r) L S) (f x)) st
noncomputable def fx_iinc (i : Nat) (c : fxV) (f : fxV → fxV → Option fxV) (k : fxK) : fxK := fun self st L S => Option.rec (motive := fun _ => Option fxO) none (fun v => Option.rec (motive := fun _ => Option fxO) none (fun w => k self st (fx_upd L i w) S) (f v c)) (fx_nth L i)
/-- two values are compared -/
noncomputable def fx_if2 (f : fxV → fxV → Option Bool) (kt kf : fxK) : fxK := fun self st L S => List.rec (motive := fun _ => Option fxO) none (fun y r _ => List.rec (motive := fun _ => Option fxO) none (fun x r2 _ => Option.rec (motive := fun _ => Option fxO) none (fun b => Bool.rec (motive := fun _ => Option fxO) (kf self r2 L S) (kt self r2 L S) b) (f x y)) r) st
noncomputable def fx_if1 (f : fxV → Option Bool) (kt kf : fxK) : fxK := fun self st L S => List.rec (motive := fun _ => Option fxO) none (fun x r _ => Option.rec (motive := fun _ => Option fxO) none (fun b => Bool.rec (motive := fun _ => Option fxO) (kf self r L S) (kt self r L S) b) (f x)) st
noncomputable def fx_dup (k : fxK) : fxK := fun self st L S => List.rec (motive := fun _ => Option fxO) none (fun x r _ => Bool.rec (motive := fun _ => Option fxO) (k self (x :: x :: r) L S) none (Nat.beq (fx_kd x) 2)) st
noncomputable def fx_pop (k : fxK) : fxK := fun self st L S => List.rec (motive := fun _ => Option fxO) none (fun x r _ => Bool.rec (motive := fun _ => Option fxO) (k self r L S) none (Nat.beq (fx_kd x) 2)) st
noncomputable def fx_dupx1 (k : fxK) : fxK := fun self st L S => List.rec (motive := fun _ => Option fxO) none (fun x r _ => List.rec (motive := fun _ => Option fxO) none (fun y r2 _ => Bool.rec (motive := fun _ => Option fxO) (Bool.rec (motive := fun _ => Option fxO) (k self (x :: y :: x :: r2) L S) none (Nat.beq (fx_kd y) 2)) none (Nat.beq (fx_kd x) 2)) r) st
noncomputable def fx_dup2 (k : fxK) : fxK := fun self st L S => List.rec (motive := fun _ => Option fxO) none (fun x r _ => List.rec (motive := fun _ => Option fxO) none (fun y r2 _ => Bool.rec (motive := fun _ => Option fxO) (Bool.rec (motive := fun _ => Option fxO) (k self (x :: y :: x :: y :: r2) L S) none (Nat.beq (fx_kd y) 2)) none (Nat.beq (fx_kd x) 2)) r) st
/-- the cell at a value -/
noncomputable def fx_at (v : fxV) (S : fxS) : Option fxC := Sum.rec (motive := fun _ => Option fxC) (fun _ => none) (fun w => Sum.rec (motive := fun _ => Option fxC) (fun p => fx_get 9 S.1 p) (fun _ => none) w) v
noncomputable def fx_path (v : fxV) : List Bool := Sum.rec (motive := fun _ => List Bool) (fun _ => []) (fun w => Sum.rec (motive := fun _ => List Bool) (fun p => p) (fun _ => []) w) v
/-- an object of class ci: its fields; an array of kind t: its elements -/
noncomputable def fx_obj (ci : Nat) (c : fxE) : Option (List fxV) := Sum.rec (motive := fun _ => Option (List fxV)) (fun o => Bool.rec (motive := fun _ => Option (List fxV)) none (some o.2) (Nat.beq o.1 ci)) (fun _ => none) c
noncomputable def fx_arr (t : Nat) (c : fxE) : Option (List fxV) := Sum.rec (motive := fun _ => Option (List fxV)) (fun _ => none) (fun o => Bool.rec (motive := fun _ => Option (List fxV)) none (some o.2) (Nat.beq o.1 t)) c
noncomputable def fx_getf (ci j : Nat) (k : fxK) : fxK := fun self st L S => List.rec (motive := fun _ => Option fxO) none (fun x r _ =>
  Option.rec (motive := fun _ => Option fxO) none (fun c => Option.rec (motive := fun _ => Option fxO) none (fun fs => Option.rec (motive := fun _ => Option fxO) none (fun v => k self (v :: r) L S) (fx_nth fs j)) (fx_obj ci c.2)) (fx_at x S)) st
/-- does a value fit a field or array of kind d: 0 int, 1 char, 2 boolean, 3 byte, 4 long, 5 and on references -/
noncomputable def fx_fit (d : Nat) (v : fxV) : Bool := match d with
  | 0 => Nat.beq (fx_kd v) 0
  | 1 => match fx_rng v with
    | some q => decide (0 ≤ q.1) && decide (q.2 ≤ 65535)
    | none => false
  | 2 => match v with
    | .inl n => Nat.ble n 1
    | _ => false
  | 3 => match fx_rng v with
    | some q => decide (-128 ≤ q.1) && decide (q.2 ≤ 127)
    | none => false
  | 4 => Nat.beq (fx_kd v) 2
  | _ => Nat.beq (fx_kd v) 1
noncomputable def fx_putf (ci j d : Nat) (k : fxK) : fxK := fun self st L S => List.rec (motive := fun _ => Option fxO) none (fun v r _ => List.rec (motive := fun _ => Option fxO) none (fun x r2 _ =>
  Option.rec (motive := fun _ => Option fxO) none (fun c => Bool.rec (motive := fun _ => Option fxO) none (Option.rec (motive := fun _ => Option fxO) none (fun fs => Bool.rec (motive := fun _ => Option fxO) none
    (k self r2 L (fx_set 9 S.1 (fx_path x) (true, .inl (ci, fx_upd fs j v)), S.2)) (Bool.and (fx_fit d v) (Nat.blt j fs.length))) (fx_obj ci c.2)) c.1) (fx_at x S)) r) st
noncomputable def fx_ald (t : Nat) (k : fxK) : fxK := fun self st L S => List.rec (motive := fun _ => Option fxO) none (fun i r _ => List.rec (motive := fun _ => Option fxO) none (fun x r2 _ =>
  Option.rec (motive := fun _ => Option fxO) none (fun c => Option.rec (motive := fun _ => Option fxO) none (fun xs => Sum.rec (motive := fun _ => Option fxO) (fun n => Option.rec (motive := fun _ => Option fxO) none (fun v => k self (v :: r2) L S) (fx_nth xs n)) (fun _ => none) i) (fx_arr t c.2)) (fx_at x S)) r) st
noncomputable def fx_ast (t : Nat) (k : fxK) : fxK := fun self st L S => List.rec (motive := fun _ => Option fxO) none (fun v r _ => List.rec (motive := fun _ => Option fxO) none (fun i r2 _ => List.rec (motive := fun _ => Option fxO) none (fun x r3 _ =>
  Option.rec (motive := fun _ => Option fxO) none (fun c => Bool.rec (motive := fun _ => Option fxO) none (Option.rec (motive := fun _ => Option fxO) none (fun xs => Sum.rec (motive := fun _ => Option fxO) (fun n => Bool.rec (motive := fun _ => Option fxO) none
    (k self r3 L (fx_set 9 S.1 (fx_path x) (true, .inr (t, fx_upd xs n v)), S.2)) (Bool.and (fx_fit t v) (Nat.blt n xs.length))) (fun _ => none) i) (fx_arr t c.2)) c.1) (fx_at x S)) r2) r) st
noncomputable def fx_alen (k : fxK) : fxK := fun self st L S => List.rec (motive := fun _ => Option fxO) none (fun x r _ =>
  Option.rec (motive := fun _ => Option fxO) none (fun c => Sum.rec (motive := fun _ => Option fxO) (fun _ => none) (fun a => k self (.inl a.2.length :: r) L S) c.2) (fx_at x S)) st
/-- a new cell with n slots -/
noncomputable def fx_mk (S : fxS) (e : fxE) (n : Nat) : fxS := (fx_set 9 S.1 (fx_bits 9 S.2.1) (true, e), (Nat.succ S.2.1, (Nat.succ S.2.2.1, (Nat.add S.2.2.2.1 n, S.2.2.2.2))))
noncomputable def fx_new (ci n : Nat) (fs : List fxV) (k : fxK) : fxK := fun self st L S => Bool.rec (motive := fun _ => Option fxO) none (k self (.inr (.inl (fx_bits 9 S.2.1)) :: st) L (fx_mk S (.inl (ci, fs)) n)) (Nat.blt S.2.1 512)
def fx_def (t : Nat) : fxV := if t < 4 then .inl 0 else if t = 4 then .inr (.inr (.inl 0)) else .inr (.inl [])
noncomputable def fx_newa (t : Nat) (k : fxK) : fxK := fun self st L S => List.rec (motive := fun _ => Option fxO) none (fun x r _ => Sum.rec (motive := fun _ => Option fxO) (fun n => Bool.rec (motive := fun _ => Option fxO) none
  (k self (.inr (.inl (fx_bits 9 S.2.1)) :: r) L (fx_mk S (.inr (t, List.replicate n (fx_def t))) n)) (Bool.and (Nat.blt n 65536) (Nat.blt S.2.1 512))) (fun _ => none) x) st
/-- the first n of the stack, turned round, and what is behind them -/
noncomputable def fx_args : Nat → List fxV → List fxV → Option (List fxV × List fxV) := fun n => Nat.rec (motive := fun _ => List fxV → List fxV → Option (List fxV × List fxV)) (fun a st => some (a, st))
  (fun _ ih a st => List.rec (motive := fun _ => Option (List fxV × List fxV)) none (fun v r _ => ih (v :: a) r) st) n
/-- at most four are left below -/
noncomputable def fx_few (st : List fxV) : Bool := Nat.ble st.length 4
/-- a call of n arguments (the receiver among them) that doesn't throw -/
noncomputable def fx_call (f : fxF) (n : Nat) (k : fxK) : fxK := fun self st L S => Option.rec (motive := fun _ => Option fxO) none (fun q => Bool.rec (motive := fun _ => Option fxO) none
  (Option.rec (motive := fun _ => Option fxO) none (fun o => Sum.rec (motive := fun _ => Option fxO) (fun v => Option.rec (motive := fun _ => Option fxO) (k self q.2 L o.2) (fun w => k self (w :: q.2) L o.2) v) (fun _ => none) o.1) (f q.1 S)) (fx_few q.2)) (fx_args n [] st)
/-- .. that may throw: then so does the caller -/
noncomputable def fx_callX (f : fxF) (n : Nat) (k : fxK) : fxK := fun self st L S => Option.rec (motive := fun _ => Option fxO) none (fun q => Bool.rec (motive := fun _ => Option fxO) none
  (Option.rec (motive := fun _ => Option fxO) none (fun o => Sum.rec (motive := fun _ => Option fxO) (fun v => Option.rec (motive := fun _ => Option fxO) (k self q.2 L o.2) (fun w => k self (w :: q.2) L o.2) v) (fun e => some (.inr e, o.2)) o.1) (f q.1 S)) (fx_few q.2)) (fx_args n [] st)
noncomputable def fx_ret (d : Nat) : fxK := fun _ st _ S => List.rec (motive := fun _ => Option fxO) none (fun v _ _ => Bool.rec (motive := fun _ => Option fxO) none (some (.inl (some v), S)) (fx_fit d v)) st
noncomputable def fx_retv : fxK := fun _ _ _ S => some (.inl none, S)
/-- a method: its code by the numbers of the places to which it jumps; the locals behind the arguments are blank -/
noncomputable def fx_run (tb : List fxK) (fuel : Nat) : Nat → fxK0 := Nat.rec (motive := fun _ => Nat → fxK0) (fun _ _ _ _ => none) (fun _ ih b st L S => Option.rec (motive := fun _ => Option fxO) none (fun k => k ih st L S) (fx_nth tb b)) fuel
def fx_no : fxV := .inr (.inr (.inr (7, 0, 0)))
noncomputable def fx_fn (tb : List fxK) (fuel nL : Nat) : fxF := fun vs S => fx_run tb fuel 0 [] (vs ++ List.replicate (nL - vs.length) fx_no) S
/-! numbers -/
def fx_norm (z : Int) : Nat := (z % 4294967296).toNat
/-- on known numbers, by the machine's own words -/
def fx_i2 (f : Int32 → Int32 → Int32) (a b : Nat) : fxV := .inl (f (nI a) (nI b)).toBitVec.toNat
def fx_inq (q : Option (Int × Int)) (a b : Int) : Bool := match q with
  | some q => decide (a ≤ q.1) && decide (q.2 ≤ b)
  | none => false
def fx_addS : fxV → fxV → Option fxV
  | .inl a, .inl b => some (fx_i2 (· + ·) a b)
  | .inl a, .inr (.inr (.inr (k, o, s))) => some (.inr (.inr (.inr (k, fx_con (a % 4294967296) + o, s))))
  | .inr (.inr (.inr (k, o, s))), .inl a => some (.inr (.inr (.inr (k, o + fx_con (a % 4294967296), s))))
  | _, _ => none
noncomputable def fx_add (x y : fxV) : Option fxV := Sum.rec (motive := fun _ => Option fxV)
  (fun a => Sum.rec (motive := fun _ => Option fxV) (fun b => some (.inl (Nat.mod (Nat.add a b) 4294967296))) (fun b => fx_addS (.inl a) (.inr b)) y)
  (fun a => fx_addS (.inr a) y) x

def fx_c2 (f : Int32 → Int32 → Int32) : fxV → fxV → Option fxV
  | .inl a, .inl b => some (fx_i2 f a b)
  | _, _ => none
def fx_c1 (f : Int32 → Int32) : fxV → Option fxV
  | .inl a => some (.inl (f (nI a)).toBitVec.toNat)
  | _ => none
def fx_sub : fxV → fxV → Option fxV
  | .inl a, .inl b => some (fx_i2 (· - ·) a b)
  | .inr (.inr (.inr (k, o, s))), .inl a => some (.inr (.inr (.inr (k, o - fx_con (a % 4294967296), s))))
  | _, _ => none
def fx_mul : fxV → fxV → Option fxV
  | .inl a, .inl b => some (.inl (Nat.mod (Nat.mul a b) 4294967296))
  | _, _ => none
def fx_and : fxV → fxV → Option fxV
  | .inl a, .inl b => some (.inl (Nat.land a b))
  | .inr a, .inl b => if b = 255 ∧ fx_inq (fx_rng (.inr a)) 0 255 = true then some (.inr a) else none
  | _, _ => none
def fx_or : fxV → fxV → Option fxV
  | .inl a, .inl b => some (.inl (Nat.lor a b))
  | .inl a, .inr (.inr (.inr (k, o, s))) => if a % 65536 = 0 ∧ a < 2147483648 ∧ fx_inq (fx_rng (.inr (.inr (.inr (k, o, s))))) 0 65535 = true then some (.inr (.inr (.inr (k, (a : Int) + o, s)))) else none
  | .inr (.inr (.inr q)), .inl b => if b = 0 then some (.inr (.inr (.inr q))) else none
  | _, _ => none
def fx_shl : fxV → fxV → Option fxV
  | .inl a, .inl b => some (fx_i2 (fun x y => x <<< (y &&& 31)) a b)
  | .inr (.inr (.inr (k, o, s))), .inl b => if b = 8 then some (.inr (.inr (.inr (k, o * 256, s * 256)))) else none
  | _, _ => none
def fx_shr : fxV → fxV → Option fxV
  | .inl a, .inl b => some (fx_i2 (fun x y => x >>> (y &&& 31)) a b)
  | .inr a, .inl b => match fx_rng (.inr a) with
    | some q => if b = 16 ∧ 0 ≤ q.1 ∧ q.2 < 2147483648 ∧ q.1 / 65536 = q.2 / 65536 then some (.inl (q.1 / 65536).toNat) else none
    | none => none
  | _, _ => none
def fx_ushr : fxV → fxV → Option fxV
  | .inl a, .inl b => some (fx_i2 (fun x y => (x.toUInt32 >>> (y.toUInt32 &&& Int32.toUInt32 31)).toInt32) a b)
  | .inr a, .inl b => if b = 8 ∧ fx_inq (fx_rng (.inr a)) 0 255 = true then some (.inl 0) else none
  | _, _ => none
def fx_i2c : fxV → Option fxV
  | .inl a => some (.inl (Nat.mod a 65536))
  | .inr a => if fx_inq (fx_rng (.inr a)) 0 65535 = true then some (.inr a) else none
def fx_i2b : fxV → Option fxV
  | .inl a => some (.inl (nI a).toInt8.toInt32.toBitVec.toNat)
  | .inr a => if fx_inq (fx_rng (.inr a)) 0 127 = true then some (.inr a) else none
def fx_neg : fxV → Option fxV
  | .inl a => some (.inl (- nI a).toBitVec.toNat)
  | .inr (.inr (.inr (k, o, s))) => some (.inr (.inr (.inr (k, -o, -s))))
  | _ => none
/-! longs -/
def fx_l2 (f : Int64 → Int64 → Int64) : fxV → fxV → Option fxV
  | .inr (.inr (.inl a)), .inr (.inr (.inl b)) => some (.inr (.inr (.inl (f (lN a) (lN b)).toBitVec.toNat)))
  | _, _ => none
def fx_li (f : Int64 → Int32 → Int64) : fxV → fxV → Option fxV
  | .inr (.inr (.inl a)), .inl b => some (.inr (.inr (.inl (f (lN a) (nI b)).toBitVec.toNat)))
  | _, _ => none
def fx_l2i : fxV → Option fxV
  | .inr (.inr (.inl a)) => some (.inl (lN a).toInt32.toBitVec.toNat)
  | _ => none
def fx_i2l : fxV → Option fxV
  | .inl a => some (.inr (.inr (.inl (nI a).toInt64.toBitVec.toNat)))
  | _ => none
/-- against null -/
def fx_isNull : fxV → Option Bool
  | .inr (.inl []) => some true
  | .inr (.inl (_ :: _)) => some false
  | _ => none
