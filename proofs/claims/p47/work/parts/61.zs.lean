/-! THE START: the constants. -/
abbrev gz_L : List Cond := flatC (Cond.and given_1 narrow_1)
theorem gz_d1 : ∀ j, j < 100 → gz_L[15 + j]? = some (Cond.eq (.elem (.static "java/lang/Integer" "DigitOnes" "[B") (.int (Int32.ofNat j))) (.int (nI (48 + j % 10)))) := by decide +kernel
theorem gz_d2 : ∀ j, j < 100 → gz_L[118 + j]? = some (Cond.eq (.elem (.static "java/lang/Integer" "DigitTens" "[B") (.int (Int32.ofNat j))) (.int (nI (48 + j / 10)))) := by decide +kernel
def gz_i : List Nat := [65, 146, 166, 168, 176, 178, 189, 191, 202, 204, 218]
def gz_b : List Nat := [6, 9, 13, 18, 23, 27, 31, 36, 42, 46, 51]
def gz_x : List String := ["", "=", "=1", "=2", "1", "2", "/f", "/f=", " ", "/x", "/y"]
def gz_len : List Nat := [0, 1, 2, 2, 1, 1, 2, 3, 1, 2, 2]
def gz_byt : List (List Int32) := [[], [61], [61, 49], [61, 50], [49], [50], [47, 102], [47, 102, 61], [32], [47, 120], [47, 121]]
def gz_tm (i : Nat) : Term := .string "FarfilesLaw" (gz_i.getD i 0)
def gz_p : List Nat := [283, 406, 612, 632, 653, 674, 732, 757, 784, 810, 881]
def gz_ne : List (List Nat) := [[0, 411, 618, 638, 658, 679, 738, 764, 789, 816, 887], [0, 0, 625, 645, 665, 686, 745, 771, 796, 823, 894], [0, 0, 0, 652, 672, 693, 752, 778, 803, 830, 901], [0, 0, 0, 0, 673, 694, 753, 779, 804, 831, 902], [0, 0, 0, 0, 0, 695, 754, 780, 805, 832, 903], [0, 0, 0, 0, 0, 0, 755, 781, 806, 833, 904], [0, 0, 0, 0, 0, 0, 0, 783, 808, 835, 906], [0, 0, 0, 0, 0, 0, 0, 0, 809, 836, 907], [0, 0, 0, 0, 0, 0, 0, 0, 0, 837, 908], [0, 0, 0, 0, 0, 0, 0, 0, 0, 0, 909], [0, 0, 0, 0, 0, 0, 0, 0, 0, 0, 0]]
theorem gz_s1 : ∀ i, i < 11 → gz_L[gz_p.getD i 0]? = some (Cond.exactly (gz_tm i) "java/lang/String") := by decide +kernel
theorem gz_s2 : ∀ i, i < 11 → gz_L[gz_p.getD i 0 + 1]? = some (Cond.eq (.field (gz_tm i) "java/lang/String" "coder" "B") (.int 0)) := by decide +kernel
theorem gz_s3 : ∀ i, i < 11 → gz_L[gz_p.getD i 0 + 2]? = some (Cond.arrayOf (.field (gz_tm i) "java/lang/String" "value" "[B") .byte) := by decide +kernel
theorem gz_s4 : ∀ i, i < 11 → gz_L[gz_p.getD i 0 + 3]? = some (Cond.eq (.length (.field (gz_tm i) "java/lang/String" "value" "[B")) (.int (Int32.ofNat (gz_len.getD i 0)))) := by decide +kernel
theorem gz_s5 : ∀ i, i < 11 → ∀ j, j < gz_len.getD i 0 → gz_L[gz_p.getD i 0 + 4 + j]? = some (Cond.eq (.elem (.field (gz_tm i) "java/lang/String" "value" "[B") (.int (Int32.ofNat j))) (.int ((gz_byt.getD i []).getD j 0))) := by decide +kernel
theorem gz_s6 : ∀ i, i < 11 → ∀ j, j < 11 → i < j → gz_L[(gz_ne.getD i []).getD j 0]? = some (Cond.not (Cond.eq (gz_tm i) (gz_tm j))) := by decide +kernel
theorem gz_s7 : ∀ i, i < 11 → gz_len.getD i 0 < 2 ^ 31 := by decide
theorem gz_S {args : Array Value} {s : State} (hs : ∀ w ∈ gz_L, w.before args s = true) {A : Nat → Prop} (hA : ∀ a : Nat, a < s.heap.size → ¬ A a) : ∃ adK adV : Nat → Nat, vk_S 11 gz_len gz_byt adK adV A s s.heap ∧ ∀ i : Nat, i < 11 → (gz_tm i).eval args s none [] s = some (.ref (adK i)) :=
  vk_Sof gz_s7 (fun i hi => hs _ (List.mem_of_getElem? (gz_s1 i hi))) (fun i hi => hs _ (List.mem_of_getElem? (gz_s2 i hi))) (fun i hi => hs _ (List.mem_of_getElem? (gz_s3 i hi))) (fun i hi => hs _ (List.mem_of_getElem? (gz_s4 i hi))) (fun i hi j hj => hs _ (List.mem_of_getElem? (gz_s5 i hi j hj))) (fun i j hi hj hij => by
    rcases Nat.lt_or_gt_of_ne hij with h | h
    · exact Or.inl (hs _ (List.mem_of_getElem? (gz_s6 i hi j hj h)))
    · exact Or.inr (hs _ (List.mem_of_getElem? (gz_s6 j hj i hi h)))) hA
theorem va_Tcg {ty : FieldType} {t N : Nat} {f g : Nat → Value} {A : Nat → Prop} {U : State} {H : Heap} (h : va_T ty t N f A U H) (hfg : ∀ j, j < N → f j = g j) : va_T ty t N g A U H := by
  obtain ⟨cell, h1, h2, h3, h4, h5, h6, h7⟩ := h
  exact ⟨cell, h1, h2, h3, h4, h5, fun j hj => by rw [h6 j hj, hfg j hj], h7⟩
def gz_ad (b a2 a3 a4 a5 : Nat) (aK aV : Nat → Nat) : Nat → Nat := fun q => match q with
  | 1 => b | 2 => a2 | 3 => a3 | 4 => a4 | 5 => a5
  | 6 => aK 0 | 8 => aV 0 | 9 => aK 1 | 11 => aV 1 | 13 => aK 2 | 15 => aV 2 | 18 => aK 3 | 20 => aV 3 | 23 => aK 4 | 25 => aV 4 | 27 => aK 5 | 29 => aV 5 | 31 => aK 6 | 33 => aV 6 | 36 => aK 7 | 38 => aV 7 | 42 => aK 8 | 44 => aV 8 | 46 => aK 9 | 48 => aV 9 | 51 => aK 10 | 53 => aV 10
  | _ => 0
/-- the facts of the layout -/
theorem gz_lay : ∀ i, i < 11 → gx_rd gx_M0 (gz_b.getD i 0) = gz_b.getD i 0 + 2 ∧ gx_rd gx_M0 (gz_b.getD i 0 + 1) = 0 ∧ gx_rd gx_M0 (gz_b.getD i 0 + 2) = gz_len.getD i 0 ∧ (gz_b.getD i 0 + 2, ((67, gz_len.getD i 0) : Nat × Nat)) ∈ gx_cr ∧ 0 < gz_b.getD i 0 ∧ gz_b.getD i 0 + 6 < 128 ∧ gz_len.getD i 0 < 4 := by decide +kernel
theorem gz_layb : ∀ i, i < 11 → ∀ j, j < gz_len.getD i 0 → gx_rd gx_M0 (gz_b.getD i 0 + 3 + j) < 4294967296 ∧ nI (gx_rd gx_M0 (gz_b.getD i 0 + 3 + j)) = (gz_byt.getD i []).getD j 0 := by decide +kernel
theorem gz_str {G : gxG} {s : State} {aK aV : Nat → Nat} (hM : gg_M G = gx_M0) (hc : gg_cr G = gx_cr) (hV : vk_S 11 gz_len gz_byt aK aV (gxA G) s s.heap) (i : Nat) (hi : i < 11) (hK : gg_ad G (gz_b.getD i 0) = aK i) (hW : gg_ad G (gz_b.getD i 0 + 2) = aV i) :
    (va_O "java/lang/String" (gg_ad G (gz_b.getD i 0)) (fun q => gg_lo G ≤ q) s s.heap ∧ ∀ j, j < 2 → va_OF (TJ0 j).1 (TJ0 j).2.1 (TJ0 j).2.2.1 (gx_den (gg_dk G) (gg_ad G) (gx_sv (gg_M G) (gz_b.getD i 0, (8, 2)) j)) (gg_ad G (gz_b.getD i 0)) (fun q => gg_lo G ≤ q) s s.heap ∧ gv_ok (gg_cr G) (gx_sv (gg_M G) (gz_b.getD i 0, (8, 2)) j)) ∧
    va_T (gx_ty 3) (gg_ad G (gz_b.getD i 0 + 2)) (gz_len.getD i 0) (fun j => gx_den (gg_dk G) (gg_ad G) (gx_sv (gg_M G) (gz_b.getD i 0 + 2, (67, gz_len.getD i 0)) j)) (fun q => gg_lo G ≤ q) s s.heap := by
  obtain ⟨v1, v2, v3, v4⟩ := hV.1 i hi
  obtain ⟨l1, l2, l3, l4, l5, l6, l7⟩ := gz_lay i hi
  have lb := gz_layb i hi
  rw [hM, hK, hW]
  generalize gz_b.getD i 0 = b at *
  refine ⟨⟨v1, fun j hj => ?_⟩, va_Tcg v4 fun j hj => ?_⟩
  · match j, hj with
    | 0, _ =>
      have e : gx_sv gx_M0 (b, (8, 2)) 0 = gR 67 (b + 2) := by
        show gx_sl 75 (gx_rd gx_M0 (b + 0)) = _
        rw [Nat.add_zero, l1]; rfl
      rw [e, gs_ref (by omega), hW]
      exact ⟨v3, Or.inr ⟨_, by rw [hc]; exact l4, rfl, rfl⟩⟩
    | 1, _ =>
      have e : gx_sv gx_M0 (b, (8, 2)) 1 = gI 0 := by
        show gx_sl 3 (gx_rd gx_M0 (b + 1)) = _
        rw [l2]; rfl
      rw [e, show gx_den (gg_dk G) (gg_ad G) (gI 0) = .int 0 from congrArg Value.int (gr_z _)]
      exact ⟨v2, trivial⟩
  · obtain ⟨m1, m2⟩ := lb j hj
    rw [gs_svk (κ := 3) rfl]
    show Value.int _ = Value.int (gx_N (gg_dk G) (gx_rd gx_M0 (b + 2 + (j + 1))))
    rw [show b + 2 + (j + 1) = b + 3 + j by omega, gn_c m1, m2]
