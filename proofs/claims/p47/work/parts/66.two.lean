/-! TWO TURNS: the second from a literal state. -/
noncomputable def gp_t (x Mi ni ci : Nat) : Nat → Nat → Nat → Nat → Nat → Nat → Bool := fun l0 l2 l3 M n c => Bool.and (Nat.beq l0 x) (Bool.and (Nat.beq l2 1) (Bool.and (Nat.beq l3 1) (Bool.and (Nat.beq M Mi) (Bool.and (Nat.beq n ni) (Nat.beq c ci)))))
noncomputable def fh (Ma na ca Mi ni ci T2 : Nat) (v M n c : Nat) (K : Nat → Nat → Nat → Nat → Bool) : Bool := gx_g (Bool.and (Nat.beq v 128) (Bool.and (Nat.beq M Ma) (Bool.and (Nat.beq n na) (Nat.beq c ca)))) (fi_166_W9 T2 K 65535 128 1 1 Mi ni ci)
theorem gp_teq {x Mi ni ci l0 l2 l3 M n c : Nat} (h : gp_t x Mi ni ci l0 l2 l3 M n c = true) : x = l0 ∧ 1 = l2 ∧ 1 = l3 ∧ Mi = M ∧ ni = n ∧ ci = c := by
  unfold gp_t at h
  obtain ⟨h1, h⟩ := go_and h
  obtain ⟨h2, h⟩ := go_and h
  obtain ⟨h3, h⟩ := go_and h
  obtain ⟨h4, h⟩ := go_and h
  obtain ⟨h5, h6⟩ := go_and h
  exact ⟨(gb_beq h1).symm, (gb_beq h2).symm, (gb_beq h3).symm, (gb_beq h4).symm, (gb_beq h5).symm, (gb_beq h6).symm⟩
theorem hm_fh {G : gxG} (hG : gxG0 G) {Ma na ca Mi ni ci : Nat} (T1 T2 : Nat) (hdr1 : ∀ x nn : Nat, gxM G gY_draw yL_draw [gR 10 x, gI nn] (fd_draw T1 x nn)) (hdr2 : ∀ x nn : Nat, gxM G gY_draw yL_draw [gR 10 x, gI nn] (fd_draw T2 x nn)) (r1 : fj_0 T1 (gp_t 128 Mi ni ci) 128 1 Ma na ca = true) (v : Nat) : gxM G gY_166 yL_holdsAll [gR 10 v, gR 99 1] (fh Ma na ca Mi ni ci T2 v) :=
  gxM_of (L := [gR 10 v, gR 99 1, gB, gB, gB]) hG 3 (by decide +kernel) rfl rfl rfl rfl (List.forall_mem_cons.mpr ⟨rfl, List.forall_mem_cons.mpr ⟨rfl, fun _ h => nomatch h⟩⟩) (fun M n c K => gj_g (fun hg => by
    obtain ⟨g1, g2⟩ := go_and hg
    obtain ⟨g2, g3⟩ := go_and g2
    obtain ⟨g3, g4⟩ := go_and g3
    obtain rfl : v = 128 := gb_beq g1
    obtain rfl : M = Ma := gb_beq g2
    obtain rfl : n = na := gb_beq g3
    obtain rfl : c = ca := gb_beq g4
    intro he
    exact hj_0 hG T1 hdr1 (ih_9 := gp_t 128 Mi ni ci) (fun l0 l2 l3 M n c ht => by
      obtain ⟨rfl, rfl, rfl, rfl, rfl, rfl⟩ := gp_teq ht
      exact hw_166_9 hG T2 hdr2 65535 128 1 1 Mi ni ci he) 128 1 M n c r1))
