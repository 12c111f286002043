/-! THE PATHS: what is drawn, as tables. -/
def gp_c (j k : Nat) : Nat := if k < 1000 then k else 17179869184 * (8 * j + (k - 1000))
noncomputable def gp_tab : Nat → List (Nat × Nat) → Nat
  | _, [] => 0
  | j, q :: t => gx_wr (gx_wr (gp_tab (j + 1) t) j (gp_c j q.2)) (j + 64) q.1
def gp_sc : List (List (Nat × Nat)) := [[(3, 0), (4, 0), (3, 0), (26, 1000), (26, 1000), (26, 1000), (100, 1001)], [(3, 0), (4, 0), (3, 1), (26, 1000), (26, 1000), (26, 1000), (100, 1001)], [(3, 0), (4, 0), (3, 2), (26, 1000), (26, 1000), (26, 1000), (100, 1001)], [(3, 0), (4, 1), (3, 0), (26, 1000), (26, 1000), (26, 1000), (100, 1001)], [(3, 0), (4, 1), (3, 1), (26, 1000), (26, 1000), (26, 1000), (100, 1001)], [(3, 0), (4, 1), (3, 2), (26, 1000), (26, 1000), (26, 1000), (100, 1001)], [(3, 0), (4, 2), (3, 0), (26, 1000), (26, 1000), (26, 1000), (100, 1001)], [(3, 0), (4, 2), (3, 1), (26, 1000), (26, 1000), (26, 1000), (100, 1001)], [(3, 0), (4, 2), (3, 2), (26, 1000), (26, 1000), (26, 1000), (100, 1001)], [(3, 0), (4, 3), (3, 0), (26, 1000), (26, 1000), (26, 1000), (100, 1001)], [(3, 0), (4, 3), (3, 1), (26, 1000), (26, 1000), (26, 1000), (100, 1001)], [(3, 0), (4, 3), (3, 2), (26, 1000), (26, 1000), (26, 1000), (100, 1001)], [(3, 0), (4, 0), (3, 0), (26, 1000), (26, 1000), (26, 1000), (100, 1002)], [(3, 0), (4, 0), (3, 1), (26, 1000), (26, 1000), (26, 1000), (100, 1002)], [(3, 0), (4, 0), (3, 2), (26, 1000), (26, 1000), (26, 1000), (100, 1002)], [(3, 0), (4, 1), (3, 0), (26, 1000), (26, 1000), (26, 1000), (100, 1002)], [(3, 0), (4, 1), (3, 1), (26, 1000), (26, 1000), (26, 1000), (100, 1002)], [(3, 0), (4, 1), (3, 2), (26, 1000), (26, 1000), (26, 1000), (100, 1002)], [(3, 0), (4, 2), (3, 0), (26, 1000), (26, 1000), (26, 1000), (100, 1002)], [(3, 0), (4, 2), (3, 1), (26, 1000), (26, 1000), (26, 1000), (100, 1002)], [(3, 0), (4, 2), (3, 2), (26, 1000), (26, 1000), (26, 1000), (100, 1002)], [(3, 0), (4, 3), (3, 0), (26, 1000), (26, 1000), (26, 1000), (100, 1002)], [(3, 0), (4, 3), (3, 1), (26, 1000), (26, 1000), (26, 1000), (100, 1002)], [(3, 0), (4, 3), (3, 2), (26, 1000), (26, 1000), (26, 1000), (100, 1002)], [(3, 1), (4, 0), (3, 0), (26, 1000), (26, 1000), (26, 1000)], [(3, 1), (4, 0), (3, 1), (26, 1000), (26, 1000), (26, 1000)], [(3, 1), (4, 0), (3, 2), (26, 1000), (26, 1000), (26, 1000)], [(3, 1), (4, 1), (3, 0), (26, 1000), (26, 1000), (26, 1000)], [(3, 1), (4, 1), (3, 1), (26, 1000), (26, 1000), (26, 1000)], [(3, 1), (4, 1), (3, 2), (26, 1000), (26, 1000), (26, 1000)], [(3, 1), (4, 2), (3, 0), (26, 1000), (26, 1000), (26, 1000)], [(3, 1), (4, 2), (3, 1), (26, 1000), (26, 1000), (26, 1000)], [(3, 1), (4, 2), (3, 2), (26, 1000), (26, 1000), (26, 1000)], [(3, 1), (4, 3), (3, 0), (26, 1000), (26, 1000), (26, 1000)], [(3, 1), (4, 3), (3, 1), (26, 1000), (26, 1000), (26, 1000)], [(3, 1), (4, 3), (3, 2), (26, 1000), (26, 1000), (26, 1000)], [(3, 2), (4, 0), (26, 1000), (26, 1000)], [(3, 2), (4, 1), (26, 1000), (26, 1000)], [(3, 2), (4, 2), (26, 1000), (26, 1000)], [(3, 2), (4, 3), (26, 1000), (26, 1000)]]
theorem gp_rd : ∀ (ds : List (Nat × Nat)) (j : Nat), j + ds.length ≤ 64 → (∀ q ∈ ds, q.1 < 1000 ∧ q.2 ≤ 1002) → ∀ a, gx_rd (gp_tab j ds) (a + 64) = (if j ≤ a ∧ a < j + ds.length then (ds.getD (a - j) (0, 0)).1 else 0) ∧ (a < 64 → gx_rd (gp_tab j ds) a = if j ≤ a ∧ a < j + ds.length then gp_c a (ds.getD (a - j) (0, 0)).2 else 0) := by
  intro ds
  induction ds with
  | nil =>
    intro j _ _ a
    have e : ∀ b, gx_rd (gp_tab j []) b = 0 := fun b => gh_zero b
    refine ⟨?_, fun _ => ?_⟩ <;> rw [e, if_neg (by simp)]
  | cons q t ih =>
    intro j hj hq a
    have hlen : (q :: t).length = t.length + 1 := rfl
    obtain ⟨q1, q2⟩ := hq q List.mem_cons_self
    have hb : gp_c j q.2 < 281474976710656 := by
      unfold gp_c
      split <;> omega
    obtain ⟨i1, i2⟩ := ih (j + 1) (by omega) (fun z hz => hq z (List.mem_cons_of_mem _ hz)) a
    have e : gp_tab j (q :: t) = gx_wr (gx_wr (gp_tab (j + 1) t) j (gp_c j q.2)) (j + 64) q.1 := rfl
    rw [e]
    refine ⟨?_, fun ha => ?_⟩
    · rw [gh_wr (by omega)]
      by_cases h : j = a
      · subst h
        rw [if_pos rfl, if_pos (by omega), Nat.sub_self]; rfl
      · rw [if_neg (by omega), gh_wr hb, if_neg (by omega), i1]
        by_cases h2 : j + 1 ≤ a ∧ a < j + 1 + t.length
        · rw [if_pos h2, if_pos (by omega), show a - j = (a - (j + 1)) + 1 by omega]; rfl
        · rw [if_neg h2, if_neg (by omega)]
    · rw [gh_wr (by omega), if_neg (by omega), gh_wr hb]
      by_cases h : j = a
      · subst h
        rw [if_pos rfl, if_pos (by omega), Nat.sub_self]; rfl
      · rw [if_neg h, i2 ha]
        by_cases h2 : j + 1 ≤ a ∧ a < j + 1 + t.length
        · rw [if_pos h2, if_pos (by omega), show a - j = (a - (j + 1)) + 1 by omega]; rfl
        · rw [if_neg h2, if_neg (by omega)]
section PTH
variable {Ln : Nat} {xs : Nat → Int32}
def gp_fact (Ln : Nat) (xs : Nat → Int32) (j : Nat) (ds : List (Nat × Nat)) : Prop := ∀ i q, ds[i]? = some q → gx_N (gd_k Ln xs) (gp_c (j + i) q.2) = nI (gq_m Ln xs (j + i) % q.1)
theorem gp_n {a k n : Nat} (hk : k < 1000) (h : gq_m Ln xs a % n = k) : gx_N (gd_k Ln xs) (gp_c a k) = nI (gq_m Ln xs a % n) := by
  unfold gp_c
  rw [if_pos hk, gn_c (by omega), h]
theorem gp_s {m : Nat} (hm : 1 ≤ m) (dk : Nat → Nat) : gx_N dk (17179869184 * m) = nI (dk m) := by
  rw [gn_eta dk (by omega), show 17179869184 * m % 4294967296 = 0 by omega, show 17179869184 * m / 4294967296 = 4 * m by omega, show 4 * m % 4 = 0 by omega, show 4 * m / 4 = m by omega, show Int32.ofInt (gx_sc 0) = 1 from rfl, Int32.one_mul, nI_0, Int32.zero_add]
theorem gp_l {a : Nat} (ha : 1 ≤ a) : gx_N (gd_k Ln xs) (gp_c a 1000) = nI (gq_m Ln xs a % 26) := by
  unfold gp_c
  rw [if_neg (by decide), gp_s (by omega)]
  unfold gd_k
  rw [if_pos (by omega), show (8 * a + (1000 - 1000)) / 8 = a by omega]
theorem gp_d {a : Nat} (h : gq_m Ln xs a % 100 < 10) : gx_N (gd_k Ln xs) (gp_c a 1001) = nI (gq_m Ln xs a % 100) := by
  unfold gp_c
  rw [if_neg (by decide), gp_s (by omega)]
  unfold gd_k
  rw [if_neg (by omega), if_pos (by omega), show (8 * a + (1001 - 1000)) / 8 = a by omega, if_pos h]
theorem gp_N {a : Nat} (h : ¬ gq_m Ln xs a % 100 < 10) : gx_N (gd_k Ln xs) (gp_c a 1002) = nI (gq_m Ln xs a % 100) := by
  unfold gp_c
  rw [if_neg (by decide), gp_s (by omega)]
  unfold gd_k gd_n
  rw [if_neg (by omega), if_neg (by omega), if_pos (by omega), show (8 * a + (1002 - 1000)) / 8 = a by omega, if_neg h]
theorem gp_s0 : ∀ d, d < 2 → ∀ o, o < 4 → ∀ t, t < 3 → gp_sc.getD (12 * d + 3 * o + t) [] = [(3, 0), (4, o), (3, t), (26, 1000), (26, 1000), (26, 1000), (100, 1001 + d)] := by decide +kernel
theorem gp_s1 : ∀ o, o < 4 → ∀ t, t < 3 → gp_sc.getD (24 + 3 * o + t) [] = [(3, 1), (4, o), (3, t), (26, 1000), (26, 1000), (26, 1000)] := by decide +kernel
theorem gp_s2 : ∀ o, o < 4 → gp_sc.getD (36 + o) [] = [(3, 2), (4, o), (26, 1000), (26, 1000)] := by decide +kernel
theorem gp_pick (Ln : Nat) (xs : Nat → Int32) (j : Nat) : ∃ i, i < 40 ∧ gp_fact Ln xs j (gp_sc.getD i []) := by
  have ho : gq_m Ln xs (j + 1) % 4 < 4 := Nat.mod_lt _ (by decide)
  have ht : gq_m Ln xs (j + 2) % 3 < 3 := Nat.mod_lt _ (by decide)
  have hh : gq_m Ln xs (j + 0) % 3 = 0 ∨ gq_m Ln xs (j + 0) % 3 = 1 ∨ gq_m Ln xs (j + 0) % 3 = 2 := by omega
  rcases hh with h | h | h
  · by_cases hd : gq_m Ln xs (j + 6) % 100 < 10
    · refine ⟨12 * 0 + 3 * (gq_m Ln xs (j + 1) % 4) + gq_m Ln xs (j + 2) % 3, by omega, ?_⟩
      rw [gp_s0 0 (by decide) _ ho _ ht]
      intro i q hq
      match i, hq with
      | 0, hq => cases hq; exact gp_n (by decide) h
      | 1, hq => cases hq; exact gp_n (by omega) rfl
      | 2, hq => cases hq; exact gp_n (by omega) rfl
      | 3, hq => cases hq; exact gp_l (by omega)
      | 4, hq => cases hq; exact gp_l (by omega)
      | 5, hq => cases hq; exact gp_l (by omega)
      | 6, hq => cases hq; exact gp_d hd
      | i + 7, hq => simp at hq
    · refine ⟨12 * 1 + 3 * (gq_m Ln xs (j + 1) % 4) + gq_m Ln xs (j + 2) % 3, by omega, ?_⟩
      rw [gp_s0 1 (by decide) _ ho _ ht]
      intro i q hq
      match i, hq with
      | 0, hq => cases hq; exact gp_n (by decide) h
      | 1, hq => cases hq; exact gp_n (by omega) rfl
      | 2, hq => cases hq; exact gp_n (by omega) rfl
      | 3, hq => cases hq; exact gp_l (by omega)
      | 4, hq => cases hq; exact gp_l (by omega)
      | 5, hq => cases hq; exact gp_l (by omega)
      | 6, hq => cases hq; exact gp_N hd
      | i + 7, hq => simp at hq
  · refine ⟨24 + 3 * (gq_m Ln xs (j + 1) % 4) + gq_m Ln xs (j + 2) % 3, by omega, ?_⟩
    rw [gp_s1 _ ho _ ht]
    intro i q hq
    match i, hq with
    | 0, hq => cases hq; exact gp_n (by decide) h
    | 1, hq => cases hq; exact gp_n (by omega) rfl
    | 2, hq => cases hq; exact gp_n (by omega) rfl
    | 3, hq => cases hq; exact gp_l (by omega)
    | 4, hq => cases hq; exact gp_l (by omega)
    | 5, hq => cases hq; exact gp_l (by omega)
    | i + 6, hq => simp at hq
  · refine ⟨36 + gq_m Ln xs (j + 1) % 4, by omega, ?_⟩
    rw [gp_s2 _ ho]
    intro i q hq
    match i, hq with
    | 0, hq => cases hq; exact gp_n (by decide) h
    | 1, hq => cases hq; exact gp_n (by omega) rfl
    | 2, hq => cases hq; exact gp_l (by omega)
    | 3, hq => cases hq; exact gp_l (by omega)
    | i + 4, hq => simp at hq
theorem gp_bd : ∀ i, i < 40 → (gp_sc.getD i []).length ≤ 7 ∧ ∀ q ∈ gp_sc.getD i [], q.1 < 1000 ∧ q.2 ≤ 1002 := by decide +kernel
theorem gp_hT {j : Nat} {ds : List (Nat × Nat)} (hf : gp_fact Ln xs j ds) (hj : j ≤ 7) (hl : ds.length ≤ 7) (hb : ∀ q ∈ ds, q.1 < 1000 ∧ q.2 ≤ 1002) : ∀ a nn, 1 ≤ nn → gx_rd (gp_tab j ds) (a + 64) = nn → gx_N (gd_k Ln xs) (gx_rd (gp_tab j ds) a) = nI (gq_m Ln xs a % nn) := fun a nn h1 hn => by
  obtain ⟨r1, r2⟩ := gp_rd ds j (by omega) hb a
  rw [hn] at r1
  by_cases hin : j ≤ a ∧ a < j + ds.length
  · rw [if_pos hin] at r1
    have r2 := r2 (by omega)
    rw [if_pos hin] at r2
    obtain ⟨q, hq⟩ : ∃ q, ds[a - j]? = some q := ⟨_, List.getElem?_eq_getElem (by omega)⟩
    have hg : ds.getD (a - j) (0, 0) = q := by rw [List.getD_eq_getElem?_getD, hq]; rfl
    rw [hg] at r1 r2
    rw [r2, r1]
    have := hf (a - j) q hq
    rw [show j + (a - j) = a by omega] at this
    exact this
  · rw [if_neg hin] at r1
    omega
end PTH
