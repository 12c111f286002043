/-! WHAT A STEP THAT COMES TO AN END HAS DONE. -/
section INV
variable {k kt kf : fxK} {self : Nat → fxK0} {st L : List fxV} {S : fxS} {o : fxO}
theorem fo_some {α β : Type} {x : Option α} {g : α → Option β} {o : β} (h : Option.rec (motive := fun _ => Option β) none g x = some o) : ∃ v, x = some v ∧ g v = some o := by
  cases x with
  | none => exact nomatch h
  | some v => exact ⟨v, rfl, h⟩
theorem fo_cons {α β : Type} {x : List α} {g : α → List α → Option β} {o : β} (h : List.rec (motive := fun _ => Option β) none (fun v r _ => g v r) x = some o) : ∃ v r, x = v :: r ∧ g v r = some o := by
  cases x with
  | nil => exact nomatch h
  | cons v r => exact ⟨v, r, rfl, h⟩
theorem fo_true {β : Type} {x : Bool} {y : Option β} {o : β} (h : Bool.rec (motive := fun _ => Option β) none y x = some o) : x = true ∧ y = some o := by
  cases x with
  | false => exact nomatch h
  | true => exact ⟨rfl, h⟩
theorem fo_false {β : Type} {x : Bool} {y : Option β} {o : β} (h : Bool.rec (motive := fun _ => Option β) y none x = some o) : x = false ∧ y = some o := by
  cases x with
  | false => exact ⟨rfl, h⟩
  | true => exact nomatch h
theorem fo_inl {α γ β : Type} {x : α ⊕ γ} {g : α → Option β} {o : β} (h : Sum.rec (motive := fun _ => Option β) g (fun _ => none) x = some o) : ∃ v, x = .inl v ∧ g v = some o := by
  cases x with
  | inl v => exact ⟨v, rfl, h⟩
  | inr v => exact nomatch h
theorem fo_inr {α γ β : Type} {x : α ⊕ γ} {g : γ → Option β} {o : β} (h : Sum.rec (motive := fun _ => Option β) (fun _ => none) g x = some o) : ∃ v, x = .inr v ∧ g v = some o := by
  cases x with
  | inr v => exact ⟨v, rfl, h⟩
  | inl v => exact nomatch h
theorem fo_load {d i : Nat} (h : fx_load d i k self st L S = some o) : ∃ v, L[i]? = some v ∧ fx_kd v = d ∧ k self (v :: st) L S = some o := by
  obtain ⟨v, h1, h⟩ := fo_some h
  obtain ⟨h2, h⟩ := fo_true h
  exact ⟨v, by rw [← fx_nth_eq]; exact h1, Nat.eq_of_beq_eq_true h2, h⟩
theorem fo_store {d i : Nat} (h : fx_store d i k self st L S = some o) : ∃ v r, st = v :: r ∧ fx_kd v = d ∧ k self r (fx_upd L i v) S = some o := by
  obtain ⟨v, r, h1, h⟩ := fo_cons h
  obtain ⟨h2, h⟩ := fo_true h
  exact ⟨v, r, h1, Nat.eq_of_beq_eq_true h2, h⟩
theorem fo_bin {f : fxV → fxV → Option fxV} (h : fx_bin f k self st L S = some o) : ∃ x y r v, st = y :: x :: r ∧ f x y = some v ∧ k self (v :: r) L S = some o := by
  obtain ⟨y, r, h1, h⟩ := fo_cons h
  obtain ⟨x, r2, h2, h⟩ := fo_cons h
  obtain ⟨v, h3, h⟩ := fo_some h
  exact ⟨x, y, r2, v, by rw [h1, h2], h3, h⟩
theorem fo_un {f : fxV → Option fxV} (h : fx_un f k self st L S = some o) : ∃ x r v, st = x :: r ∧ f x = some v ∧ k self (v :: r) L S = some o := by
  obtain ⟨x, r, h1, h⟩ := fo_cons h
  obtain ⟨v, h3, h⟩ := fo_some h
  exact ⟨x, r, v, h1, h3, h⟩
theorem fo_iinc {i : Nat} {z : fxV} {f : fxV → fxV → Option fxV} (h : fx_iinc i z f k self st L S = some o) : ∃ v w, L[i]? = some v ∧ f v z = some w ∧ k self st (fx_upd L i w) S = some o := by
  obtain ⟨v, h1, h⟩ := fo_some h
  obtain ⟨w, h2, h⟩ := fo_some h
  exact ⟨v, w, by rw [← fx_nth_eq]; exact h1, h2, h⟩
theorem fo_if2 {f : fxV → fxV → Option Bool} (h : fx_if2 f kt kf self st L S = some o) : ∃ x y r b, st = y :: x :: r ∧ f x y = some b ∧ (b = true → kt self r L S = some o) ∧ (b = false → kf self r L S = some o) := by
  obtain ⟨y, r, h1, h⟩ := fo_cons h
  obtain ⟨x, r2, h2, h⟩ := fo_cons h
  obtain ⟨b, h3, h⟩ := fo_some h
  refine ⟨x, y, r2, b, by rw [h1, h2], h3, ?_⟩
  cases b with
  | false => exact ⟨fun e => (nomatch e), fun _ => h⟩
  | true => exact ⟨fun _ => h, fun e => (nomatch e)⟩
theorem fo_if1 {f : fxV → Option Bool} (h : fx_if1 f kt kf self st L S = some o) : ∃ x r b, st = x :: r ∧ f x = some b ∧ (b = true → kt self r L S = some o) ∧ (b = false → kf self r L S = some o) := by
  obtain ⟨x, r, h1, h⟩ := fo_cons h
  obtain ⟨b, h3, h⟩ := fo_some h
  refine ⟨x, r, b, h1, h3, ?_⟩
  cases b with
  | false => exact ⟨fun e => (nomatch e), fun _ => h⟩
  | true => exact ⟨fun _ => h, fun e => (nomatch e)⟩
theorem fo_ne {a b : Nat} (h : Nat.beq a b = false) : a ≠ b := fun e => by rw [e] at h; exact absurd h (by simp)
theorem fo_dup (h : fx_dup k self st L S = some o) : ∃ x r, st = x :: r ∧ fx_kd x ≠ 2 ∧ k self (x :: x :: r) L S = some o := by
  obtain ⟨x, r, h1, h⟩ := fo_cons h
  obtain ⟨h2, h⟩ := fo_false h
  exact ⟨x, r, h1, fo_ne h2, h⟩
theorem fo_pop (h : fx_pop k self st L S = some o) : ∃ x r, st = x :: r ∧ fx_kd x ≠ 2 ∧ k self r L S = some o := by
  obtain ⟨x, r, h1, h⟩ := fo_cons h
  obtain ⟨h2, h⟩ := fo_false h
  exact ⟨x, r, h1, fo_ne h2, h⟩
theorem fo_dupx1 (h : fx_dupx1 k self st L S = some o) : ∃ x y r, st = x :: y :: r ∧ fx_kd x ≠ 2 ∧ fx_kd y ≠ 2 ∧ k self (x :: y :: x :: r) L S = some o := by
  obtain ⟨x, r, h1, h⟩ := fo_cons h
  obtain ⟨y, r2, h2, h⟩ := fo_cons h
  obtain ⟨h3, h⟩ := fo_false h
  obtain ⟨h4, h⟩ := fo_false h
  exact ⟨x, y, r2, by rw [h1, h2], fo_ne h3, fo_ne h4, h⟩
theorem fo_dup2 (h : fx_dup2 k self st L S = some o) : ∃ x y r, st = x :: y :: r ∧ fx_kd x ≠ 2 ∧ fx_kd y ≠ 2 ∧ k self (x :: y :: x :: y :: r) L S = some o := by
  obtain ⟨x, r, h1, h⟩ := fo_cons h
  obtain ⟨y, r2, h2, h⟩ := fo_cons h
  obtain ⟨h3, h⟩ := fo_false h
  obtain ⟨h4, h⟩ := fo_false h
  exact ⟨x, y, r2, by rw [h1, h2], fo_ne h3, fo_ne h4, h⟩
theorem fo_at {v : fxV} {c : fxC} (h : fx_at v S = some c) : v = .inr (.inl (fx_path v)) ∧ fx_get 9 S.1 (fx_path v) = some c := by
  rcases v with n | p | n | q
  · exact nomatch h
  · exact ⟨rfl, h⟩
  · exact nomatch h
  · exact nomatch h
theorem fo_obj {ci : Nat} {e : fxE} {fs : List fxV} (h : fx_obj ci e = some fs) : e = .inl (ci, fs) := by
  rcases e with ⟨c, f⟩ | e
  · have h' : Bool.rec (motive := fun _ => Option (List fxV)) none (some f) (Nat.beq c ci) = some fs := h
    obtain ⟨h1, h2⟩ := fo_true h'
    rw [Nat.eq_of_beq_eq_true h1, Option.some.inj h2]
  · exact nomatch h
theorem fo_arr {t : Nat} {e : fxE} {xs : List fxV} (h : fx_arr t e = some xs) : e = .inr (t, xs) := by
  rcases e with e | ⟨c, f⟩
  · exact nomatch h
  · have h' : Bool.rec (motive := fun _ => Option (List fxV)) none (some f) (Nat.beq c t) = some xs := h
    obtain ⟨h1, h2⟩ := fo_true h'
    rw [Nat.eq_of_beq_eq_true h1, Option.some.inj h2]
theorem fo_getf {ci j : Nat} (h : fx_getf ci j k self st L S = some o) : ∃ p r w fs v, st = .inr (.inl p) :: r ∧ fx_get 9 S.1 p = some (w, .inl (ci, fs)) ∧ fs[j]? = some v ∧ k self (v :: r) L S = some o := by
  obtain ⟨x, r, h1, h⟩ := fo_cons h
  obtain ⟨c, h2, h⟩ := fo_some h
  obtain ⟨fs, h3, h⟩ := fo_some h
  obtain ⟨v, h4, hz⟩ := fo_some h
  obtain ⟨h5, h6⟩ := fo_at h2
  obtain ⟨w, e⟩ := c
  have h3 := fo_obj h3
  subst h3
  exact ⟨fx_path x, r, w, fs, v, by rw [h1, ← h5], h6, by rw [← fx_nth_eq]; exact h4, hz⟩
theorem fo_and {a b : Bool} (h : Bool.and a b = true) : a = true ∧ b = true := by cases a <;> cases b <;> simp_all
theorem fo_lt {a b : Nat} (h : Nat.blt a b = true) : a < b := by simpa [Nat.blt_eq] using h
theorem fo_putf {ci j d : Nat} (h : fx_putf ci j d k self st L S = some o) : ∃ v p r fs, st = v :: .inr (.inl p) :: r ∧ fx_get 9 S.1 p = some (true, .inl (ci, fs)) ∧ fx_fit d v = true ∧ j < fs.length ∧ k self r L (fx_set 9 S.1 p (true, .inl (ci, fx_upd fs j v)), S.2) = some o := by
  obtain ⟨v, r, h1, h⟩ := fo_cons h
  obtain ⟨x, r2, h2, h⟩ := fo_cons h
  obtain ⟨c, h3, h⟩ := fo_some h
  obtain ⟨h4, h⟩ := fo_true h
  obtain ⟨fs, h5, h⟩ := fo_some h
  obtain ⟨h6, hz⟩ := fo_true h
  obtain ⟨h7, h8⟩ := fo_and h6
  obtain ⟨h9, h10⟩ := fo_at h3
  obtain ⟨w, e⟩ := c
  have h4 : w = true := h4
  have h5 := fo_obj h5
  subst h4
  subst h5
  exact ⟨v, fx_path x, r2, fs, by rw [h1, h2, ← h9], h10, h7, fo_lt h8, hz⟩
theorem fo_ald {t : Nat} (h : fx_ald t k self st L S = some o) : ∃ n p r w xs v, st = .inl n :: .inr (.inl p) :: r ∧ fx_get 9 S.1 p = some (w, .inr (t, xs)) ∧ xs[n]? = some v ∧ k self (v :: r) L S = some o := by
  obtain ⟨i, r, h1, h⟩ := fo_cons h
  obtain ⟨x, r2, h2, h⟩ := fo_cons h
  obtain ⟨c, h3, h⟩ := fo_some h
  obtain ⟨xs, h4, h⟩ := fo_some h
  obtain ⟨n, h5, h⟩ := fo_inl h
  obtain ⟨v, h6, hz⟩ := fo_some h
  obtain ⟨h9, h10⟩ := fo_at h3
  obtain ⟨w, e⟩ := c
  have h4 := fo_arr h4
  subst h4
  exact ⟨n, fx_path x, r2, w, xs, v, by rw [h1, h2, h5, ← h9], h10, by rw [← fx_nth_eq]; exact h6, hz⟩
theorem fo_ast {t : Nat} (h : fx_ast t k self st L S = some o) : ∃ v n p r xs, st = v :: .inl n :: .inr (.inl p) :: r ∧ fx_get 9 S.1 p = some (true, .inr (t, xs)) ∧ fx_fit t v = true ∧ n < xs.length ∧ k self r L (fx_set 9 S.1 p (true, .inr (t, fx_upd xs n v)), S.2) = some o := by
  obtain ⟨v, r, h1, h⟩ := fo_cons h
  obtain ⟨i, r2, h2, h⟩ := fo_cons h
  obtain ⟨x, r3, h3, h⟩ := fo_cons h
  obtain ⟨c, h4, h⟩ := fo_some h
  obtain ⟨h5, h⟩ := fo_true h
  obtain ⟨xs, h6, h⟩ := fo_some h
  obtain ⟨n, h7, h⟩ := fo_inl h
  obtain ⟨h8, hz⟩ := fo_true h
  obtain ⟨h9, h10⟩ := fo_and h8
  obtain ⟨h11, h12⟩ := fo_at h4
  obtain ⟨w, e⟩ := c
  have h5 : w = true := h5
  have h6 := fo_arr h6
  subst h5
  subst h6
  exact ⟨v, n, fx_path x, r3, xs, by rw [h1, h2, h3, h7, ← h11], h12, h9, fo_lt h10, hz⟩
theorem fo_alen (h : fx_alen k self st L S = some o) : ∃ p r w t xs, st = .inr (.inl p) :: r ∧ fx_get 9 S.1 p = some (w, .inr (t, xs)) ∧ k self (.inl xs.length :: r) L S = some o := by
  obtain ⟨x, r, h1, h⟩ := fo_cons h
  obtain ⟨c, h2, h⟩ := fo_some h
  obtain ⟨a, h3, h⟩ := fo_inr h
  obtain ⟨h5, h6⟩ := fo_at h2
  obtain ⟨w, e⟩ := c
  obtain ⟨t, xs⟩ := a
  have h3 : e = .inr (t, xs) := h3
  subst h3
  exact ⟨fx_path x, r, w, t, xs, by rw [h1, ← h5], h6, h⟩
theorem fo_new {ci n : Nat} {fs : List fxV} (h : fx_new ci n fs k self st L S = some o) : S.2.1 < 512 ∧ k self (.inr (.inl (fx_bits 9 S.2.1)) :: st) L (fx_mk S (.inl (ci, fs)) n) = some o := by
  obtain ⟨h1, h⟩ := fo_true h
  exact ⟨fo_lt h1, h⟩
theorem fo_newa {t : Nat} (h : fx_newa t k self st L S = some o) : ∃ n r, st = .inl n :: r ∧ n < 65536 ∧ S.2.1 < 512 ∧ k self (.inr (.inl (fx_bits 9 S.2.1)) :: r) L (fx_mk S (.inr (t, List.replicate n (fx_def t))) n) = some o := by
  obtain ⟨x, r, h1, h⟩ := fo_cons h
  obtain ⟨n, h2, h⟩ := fo_inl h
  obtain ⟨h3, h⟩ := fo_true h
  obtain ⟨h4, h5⟩ := fo_and h3
  exact ⟨n, r, by rw [h1, h2], fo_lt h4, fo_lt h5, h⟩
theorem fo_args : ∀ (n : Nat) (a st : List fxV) (q : List fxV × List fxV), fx_args n a st = some q → ∃ vs, vs.length = n ∧ q.1 = vs ++ a ∧ st = vs.reverse ++ q.2 := by
  intro n
  induction n with
  | zero => intro a st q h; cases h; exact ⟨[], rfl, rfl, rfl⟩
  | succ n ih =>
    intro a st q h
    cases st with
    | nil => exact nomatch h
    | cons v r =>
      obtain ⟨vs, h1, h2, h3⟩ := ih (v :: a) r q h
      refine ⟨vs ++ [v], by rw [List.length_append, h1]; rfl, by rw [h2, List.append_assoc]; rfl, ?_⟩
      rw [List.reverse_append, h3]
      rfl
theorem fo_call {f : fxF} {n : Nat} (h : fx_call f n k self st L S = some o) : ∃ vs r v S', vs.length = n ∧ st = vs.reverse ++ r ∧ r.length ≤ 4 ∧ f vs S = some (.inl v, S') ∧ k self (v.toList ++ r) L S' = some o := by
  obtain ⟨q, h1, h⟩ := fo_some h
  obtain ⟨h2, h⟩ := fo_true h
  obtain ⟨o1, h3, h⟩ := fo_some h
  obtain ⟨v, h4, h⟩ := fo_inl h
  obtain ⟨vs, h5, h6, h7⟩ := fo_args n [] st q h1
  rw [List.append_nil] at h6
  obtain ⟨x, S'⟩ := o1
  have h4 : x = .inl v := h4
  subst h4
  refine ⟨vs, q.2, v, S', h5, h7, Nat.le_of_ble_eq_true h2, by rw [← h6]; exact h3, ?_⟩
  cases v with
  | none => exact h
  | some w => exact h
theorem fo_callX {f : fxF} {n : Nat} (h : fx_callX f n k self st L S = some o) : ∃ vs r x S', vs.length = n ∧ st = vs.reverse ++ r ∧ r.length ≤ 4 ∧ f vs S = some (x, S') ∧ (∀ v, x = .inl v → k self (v.toList ++ r) L S' = some o) ∧ ∀ e, x = .inr e → o = (.inr e, S') := by
  obtain ⟨q, h1, h⟩ := fo_some h
  obtain ⟨h2, h⟩ := fo_true h
  obtain ⟨o1, h3, h⟩ := fo_some h
  obtain ⟨vs, h5, h6, h7⟩ := fo_args n [] st q h1
  rw [List.append_nil] at h6
  obtain ⟨x, S'⟩ := o1
  refine ⟨vs, q.2, x, S', h5, h7, Nat.le_of_ble_eq_true h2, by rw [← h6]; exact h3, ?_, ?_⟩
  · intro v hv
    subst hv
    cases v with
    | none => exact h
    | some w => exact h
  · intro e he
    subst he
    exact (Option.some.inj h).symm
theorem fo_ret {d : Nat} (h : fx_ret d self st L S = some o) : ∃ v r, st = v :: r ∧ fx_fit d v = true ∧ o = (.inl (some v), S) := by
  obtain ⟨v, r, h1, h⟩ := fo_cons h
  obtain ⟨h2, h⟩ := fo_true h
  exact ⟨v, r, h1, h2, (Option.some.inj h).symm⟩
end INV
