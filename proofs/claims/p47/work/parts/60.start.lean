/-! THE START: all that stands once for all, out of what the law's entry gives. -/
theorem k3_sel {C : String} {y x0 y0 : MethodName} {s : State} {args : Array Value} {n : Nat} (hy : y.cls ≠ "java/lang/invoke/MethodHandle" ∧ y.cls ≠ "java/lang/invoke/VarHandle")
    (hins : (Cond.instantiable C n).before args s = true) (hpriv : (Cond.privateMethod y).before args s = true) (hinst : (Cond.instanceMethod y).before args s = true) (hsl : (Cond.selects C x0 y0).before args s = true) (hcl : y0.cls = y.cls) :
    (Cond.selects C y y).before args s = true := by
  obtain ⟨c, k, hc, hk, -, -, -, -⟩ := Cond.instantiable_spec hins
  obtain ⟨mk, methM, hnamed, hmethM, -, -⟩ := Cond.instanceMethod_spec hinst
  have hfound : s.methodFound? y.cls y.name y.desc = some mk := State.methodFound?_of_named hnamed hy
  obtain ⟨c1, r1, m1, -, -, hn1, -, k1, hk1, hi1⟩ := Cond.selects_spec hsl
  have e : m1.cls = mk.cls := by
    have e1 := findClass_of_methodNamed hn1
    rw [hcl, findClass_of_methodNamed hnamed] at e1
    exact (Option.some.inj e1).symm
  rw [e] at hk1
  have hsel : selectMethod {} s.vm c mk = .method mk := selectMethod_private hmethM (Cond.privateMethod_at hpriv mk methM hnamed hmethM)
  simp only [Cond.before, Cond.holds, Cond.value, hc, hfound, hnamed, hsel, hk1]
  simp; exact hi1
theorem gz_hts {args : Array Value} {s : State} (hts : ∀ w ∈ lw_tbl, w.before args s = true) : ∀ w ∈ gx_tb, w.before args s = true := by
  have ht : ∀ w ∈ gx_tb, w ∈ gx_xs ∨ w.before args s = true := fun w hw => (List.mem_append.mp hw).elim Or.inl (fun h => Or.inr (hts w h))
  have t0 : ∀ w ∈ tables_1, w.before args s = true := fun w hw => hts w (List.mem_append_right _ hw)
  have key : ∀ y : MethodName, y.cls = RJ5 → Cond.privateMethod y ∈ tables_1 → Cond.instanceMethod y ∈ tables_1 → (Cond.selects RJ4 y y).before args s = true := fun y hy h1 h2 =>
    k3_sel (n := 4) (x0 := ⟨"java/lang/AbstractStringBuilder", "getValue", "()[B"⟩) (y0 := ⟨"java/lang/AbstractStringBuilder", "getValue", "()[B"⟩) (by rw [hy]; decide) (t0 _ (List.mem_of_getElem? (i := 341) (by decide +kernel))) (t0 _ h1) (t0 _ h2)
      (t0 _ (List.mem_append_right _ (List.mem_append_right _ (List.mem_append_left _ (List.mem_of_getElem? (i := 51) rfl))))) hy.symm
  intro w hw
  rcases ht w hw with h | h
  · simp only [gx_xs, List.mem_cons, List.not_mem_nil, or_false] at h
    rcases h with rfl | rfl | rfl
    · exact key _ rfl (List.mem_of_getElem? (i := 385) (by decide +kernel)) (List.mem_of_getElem? (i := 386) (by decide +kernel))
    · exact key _ rfl (List.mem_of_getElem? (i := 460) (by decide +kernel)) (List.mem_of_getElem? (i := 461) (by decide +kernel))
    · exact key _ rfl (List.mem_of_getElem? (i := 464) (by decide +kernel)) (List.mem_of_getElem? (i := 465) (by decide +kernel))
  · exact h
theorem gz_car {args : Array Value} {s : State} (hts : ∀ w ∈ gx_tb, w.before args s = true) : ∀ w ∈ gx_tb, gx_crw w = true → va_Nw w s := fun w hw h => by
  have hb := hts w hw
  unfold gx_crw at h
  cases hn : gx_crn w with
  | true =>
    cases w with
    | fieldLinkNest a i b n d h => exact va_Nw.of rfl hb
    | methodLinkNest a i x h => exact va_Nw.of rfl hb
    | arrayOver ty => exact hb
    | _ => exact nomatch hn
  | false =>
    rw [hn, Bool.false_or, Bool.and_eq_true] at h
    exact va_Nw.of h.2 hb
/-! the numbers drawn, by their names -/
def gd_n (Ln : Nat) (xs : Nat → Int32) (j : Nat) : Nat := if gq_m Ln xs j % 100 < 10 then 10 else gq_m Ln xs j % 100
def gd_k (Ln : Nat) (xs : Nat → Int32) (k : Nat) : Nat := if k % 8 = 0 then gq_m Ln xs (k / 8) % 26 else if k % 8 = 1 then (if gq_m Ln xs (k / 8) % 100 < 10 then gq_m Ln xs (k / 8) % 100 else 0) else if k % 8 = 2 then gd_n Ln xs (k / 8) else if k % 8 = 3 then gd_n Ln xs (k / 8) / 10 else if k % 8 = 4 then gd_n Ln xs (k / 8) % 10 else if k = 5 then gk_c (gq_S Ln xs) else 0
theorem gd_nb (Ln : Nat) (xs : Nat → Int32) (j : Nat) : 10 ≤ gd_n Ln xs j ∧ gd_n Ln xs j ≤ 99 := by
  unfold gd_n
  split <;> omega
theorem gd_b : ∀ k : Nat, (k % 8 = 0 → gx_lo k = 0 ∧ gx_hi k = 25) ∧ (k % 8 = 1 → gx_lo k = 0 ∧ gx_hi k = 9) ∧ (k % 8 = 2 → gx_lo k = 10 ∧ gx_hi k = 99) ∧ (k % 8 = 3 → gx_lo k = 1 ∧ gx_hi k = 9) ∧ (k % 8 = 4 → gx_lo k = 0 ∧ gx_hi k = 9) := fun k => by
  have e1 : gx_lo k = (17432576 >>> (8 * (k % 8))) &&& 255 := rfl
  have e2 : gx_hi k = (38812191001 >>> (8 * (k % 8))) &&& 255 := rfl
  refine ⟨fun h => ?_, fun h => ?_, fun h => ?_, fun h => ?_, fun h => ?_⟩ <;> rw [e1, e2, h] <;> exact ⟨rfl, rfl⟩
theorem gd_D (Ln : Nat) (xs : Nat → Int32) : gx_D (gd_k Ln xs) := by
  refine ⟨fun k hk => ?_, fun k hk => ?_⟩
  · obtain ⟨b0, b1, b2, b3, b4⟩ := gd_b k
    have hn := gd_nb Ln xs (k / 8)
    have h5 : k % 8 = 0 ∨ k % 8 = 1 ∨ k % 8 = 2 ∨ k % 8 = 3 ∨ k % 8 = 4 := by omega
    unfold gd_k
    rcases h5 with h | h | h | h | h
    · obtain ⟨c1, c2⟩ := b0 h
      rw [if_pos h, c1, c2]; omega
    · obtain ⟨c1, c2⟩ := b1 h
      rw [if_neg (by omega), if_pos h, c1, c2]
      split <;> omega
    · obtain ⟨c1, c2⟩ := b2 h
      rw [if_neg (by omega), if_neg (by omega), if_pos h, c1, c2]; omega
    · obtain ⟨c1, c2⟩ := b3 h
      rw [if_neg (by omega), if_neg (by omega), if_neg (by omega), if_pos h, c1, c2]; omega
    · obtain ⟨c1, c2⟩ := b4 h
      rw [if_neg (by omega), if_neg (by omega), if_neg (by omega), if_neg (by omega), if_pos h, c1, c2]; omega
  · unfold gd_k
    rw [if_neg (show ¬ (k + 1) % 8 = 0 by omega), if_neg (show ¬ (k + 1) % 8 = 1 by omega), if_neg (show ¬ (k + 1) % 8 = 2 by omega), if_pos (show (k + 1) % 8 = 3 by omega), if_neg (show ¬ (k + 2) % 8 = 0 by omega), if_neg (show ¬ (k + 2) % 8 = 1 by omega), if_neg (show ¬ (k + 2) % 8 = 2 by omega), if_neg (show ¬ (k + 2) % 8 = 3 by omega), if_pos (show (k + 2) % 8 = 4 by omega), if_neg (show ¬ k % 8 = 0 by omega), if_neg (show ¬ k % 8 = 1 by omega), if_pos hk, show (k + 1) / 8 = k / 8 by omega, show (k + 2) / 8 = k / 8 by omega]
    exact ⟨rfl, rfl⟩
theorem gd_5 (Ln : Nat) (xs : Nat → Int32) : gd_k Ln xs 5 = gk_c (gq_S Ln xs) := rfl
/-! the classes -/
theorem gz_in : ∀ c, c < 11 → ∀ q, gx_cl[c]? = some q → ∃ n, Cond.instantiable q.1 n ∈ tables_1 := by
  intro c hc q hq
  match c, hc, hq with
  | 0, _, hq => cases hq; exact ⟨8, List.mem_of_getElem? (i := 67) (by decide +kernel)⟩
  | 1, _, hq => cases hq; exact ⟨1, List.mem_of_getElem? (i := 75) (by decide +kernel)⟩
  | 2, _, hq => cases hq; exact ⟨4, List.mem_of_getElem? (i := 144) (by decide +kernel)⟩
  | 3, _, hq => cases hq; exact ⟨12, List.mem_of_getElem? (i := 195) (by decide +kernel)⟩
  | 4, _, hq => cases hq; exact ⟨2, List.mem_of_getElem? (i := 45) (by decide +kernel)⟩
  | 5, _, hq => cases hq; exact ⟨5, List.mem_of_getElem? (i := 60) (by decide +kernel)⟩
  | 6, _, hq => cases hq; exact ⟨5, List.mem_of_getElem? (i := 171) (by decide +kernel)⟩
  | 7, _, hq => cases hq; exact ⟨16, List.mem_of_getElem? (i := 39) (by decide +kernel)⟩
  | 8, _, hq => cases hq; exact ⟨4, List.mem_of_getElem? (i := 520) (by decide +kernel)⟩
  | 9, _, hq => cases hq; exact ⟨4, List.mem_of_getElem? (i := 341) (by decide +kernel)⟩
  | 10, _, hq => cases hq; exact ⟨5, List.mem_of_getElem? (i := 31) (by decide +kernel)⟩
theorem gz_K {args : Array Value} {s : State} (hts : ∀ w ∈ gx_tb, w.before args s = true) : ∃ (D : va_G) (cT : Nat → ClassId), va_K D gx_cl (gx_tys cT) s := by
  have t0 : ∀ w ∈ tables_1, w.before args s = true := fun w hw => hts w (gw_0 w hw)
  have h0 : ∀ c : Nat, ∃ d : ClassId × (Nat → Nat), ∀ q, gx_cl[c]? = some q → u_Kn s q.1 q.2.1 q.2.2 d.1 d.2 := by
    intro c
    by_cases hc : c < 11
    · cases hq : gx_cl[c]? with
      | none => exact ⟨(0, fun _ => 0), fun q h => nomatch h⟩
      | some q =>
        obtain ⟨n, hn⟩ := gz_in c hc q hq
        obtain ⟨C, T, N⟩ := q
        obtain ⟨cC, iS, hk⟩ := u_known (ws := gx_tb) hts (fun w hw => (List.mem_filter.mp ((gk hq).1 w hw)).1) (t0 _ hn)
        exact ⟨(cC, iS), fun q h => by cases h; exact hk⟩
    · refine ⟨(0, fun _ => 0), fun q h => ?_⟩
      rw [List.getElem?_eq_none (by show 11 ≤ c; omega)] at h
      cases h
  obtain ⟨d, hd⟩ := Classical.axiomOfChoice h0
  have pr : ∀ ty : FieldType, Cond.arrayClass ty ∈ tables_1 → refKind ty = false → ∃ cA : ClassId, ArrOfT s cA ty ∧ s.vm.findClass ("[" ++ ty.toString) = some cA := fun ty h _ => by
    obtain ⟨cA, kA, comp, h1, h2, h3⟩ := Cond.arrayClass_spec (t0 _ h)
    exact ⟨cA, fun n z => ⟨(fun k h => by cases h), kA, h2, comp, h3⟩, h1⟩
  have pq : ∀ C : String, Cond.arrayOver (.object C) ∈ tables_1 → ∃ cA : ClassId, ArrOfT s cA (.object C) ∧ va_RA s cA (.object C) := fun C h => by
    obtain ⟨comp, c, k, h1, -, h3, h4, h5⟩ := Cond.arrayOver_spec (t0 _ h)
    exact ⟨c, fun n z => ⟨(fun k h => by cases h), k, h3, comp, h4⟩, k, comp, h3, h4, h1, h5⟩
  obtain ⟨c0, a0, b0⟩ := pr .int (List.mem_of_getElem? (i := 165) (by decide +kernel)) rfl
  obtain ⟨c1, a1, b1⟩ := pr .char (List.mem_of_getElem? (i := 58) (by decide +kernel)) rfl
  obtain ⟨c2, a2, b2⟩ := pr .boolean (List.mem_of_getElem? (i := 193) (by decide +kernel)) rfl
  obtain ⟨c3, a3, b3⟩ := pr .byte (List.mem_of_getElem? (i := 371) (by decide +kernel)) rfl
  obtain ⟨c4, a4, b4⟩ := pr .long (List.mem_of_getElem? (i := 84) (by decide +kernel)) rfl
  obtain ⟨c5, a5, b5⟩ := pq "Farfiles$Act" (List.mem_of_getElem? (i := 66) (by decide +kernel))
  obtain ⟨c6, a6, b6⟩ := pq "Farfiles$ActSet" (List.mem_of_getElem? (i := 169) (by decide +kernel))
  obtain ⟨c7, a7, b7⟩ := pq "Farfiles$Client" (List.mem_of_getElem? (i := 167) (by decide +kernel))
  refine ⟨(fun c => (d c).1, fun c => (d c).2), (fun k => match k with | 0 => c0 | 1 => c1 | 2 => c2 | 3 => c3 | 4 => c4 | 5 => c5 | 6 => c6 | _ => c7), fun c q hq => hd c q hq, fun k q hk => ?_⟩
  match k, hk with
  | 0, hk => cases hk; exact ⟨a0, b0⟩
  | 1, hk => cases hk; exact ⟨a1, b1⟩
  | 2, hk => cases hk; exact ⟨a2, b2⟩
  | 3, hk => cases hk; exact ⟨a3, b3⟩
  | 4, hk => cases hk; exact ⟨a4, b4⟩
  | 5, hk => cases hk; exact ⟨a5, b5⟩
  | 6, hk => cases hk; exact ⟨a6, b6⟩
  | 7, hk => cases hk; exact ⟨a7, b7⟩
  | k + 8, hk => simp [gx_tys] at hk
