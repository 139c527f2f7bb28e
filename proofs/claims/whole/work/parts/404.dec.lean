/-! methods walked by program (wip/whole/dec.py) -/
def nr_Pile_leastRepaired (v0 : Nat) (v1 : Int) (v2 : Int) (M : mm_M) (R : Int → mm_M → Prop) : Prop := ∀ n, nn_L M → M.1 = n → nn_C 6 v0 n → mm_run 2 mi_Pile_leastRepaired [.inr (.inr v0), .inl v1, .inl v2] M (nw_I n R)
def nk_Pile_leastRepaired_5 (v0 : Nat) (v1 : Int) (v2 : Int) (v3 : Int) (v4 : Int) (M : mm_M) (R : Int → mm_M → Prop) : Prop := ∀ n, nn_L M → M.1 = n → nn_C 6 v0 n → mm_Go (mm_run 1) mc_Pile_leastRepaired (nw_I n R) (5, [(0, .inr (.inr v0)), (1, .inl v1), (2, .inl v2), (3, .inl v3), (4, .inl v4)], [], M)
set_option maxRecDepth 20000 in
theorem ng_Pile_leastRepaired (v0 : Nat) (v1 : Int) (v2 : Int) (M : mm_M) (R : Int → mm_M → Prop) (h : nk_Pile_leastRepaired_5 v0 v1 v2 (-1) v1 M R) : nr_Pile_leastRepaired v0 v1 v2 M R := by
  intro n L N C0
  have NN := nn_L_n L N
  show mm_Go (mm_run 1) mc_Pile_leastRepaired _ (0, [(0, .inr (.inr v0)), (1, .inl v1), (2, .inl v2)], [], M)
  refine mm_s1 rfl ?_
  refine mm_s1 rfl ?_
  show mm_Go (mm_run 1) mc_Pile_leastRepaired _ (2, [(0, .inr (.inr v0)), (1, .inl v1), (2, .inl v2), (3, .inl (-1))], [], M)
  refine mm_s1 rfl ?_
  refine mm_s1 rfl ?_
  show mm_Go (mm_run 1) mc_Pile_leastRepaired _ (5, [(0, .inr (.inr v0)), (1, .inl v1), (2, .inl v2), (3, .inl (-1)), (4, .inl v1)], [], M)
  exact nn_go_ext (nn_xc rfl (nn_xc rfl (nn_xc rfl (nn_xc rfl (nn_xc rfl nn_xn))))) (h n L N C0)
set_option maxRecDepth 20000 in
theorem ng_Pile_leastRepaired_5 (v0 : Nat) (v1 : Int) (v2 : Int) (v3 : Int) (v4 : Int) (M : mm_M) (R : Int → mm_M → Prop) (h : (((mm_w (v1 + v2)) ≤ v4 → R v3 M) ∧ (v4 < (mm_w (v1 + v2)) → (((0 : Int) ≤ v4 ∧ v4 < (24 : Int)) ∧ (∀ x3_24 : Int, x3_24 = nf_LI_lesser v3 (nn_ri M (v0 + 4) v4) → nk_Pile_leastRepaired_5 v0 v1 v2 x3_24 (mm_w (v4 + 1)) M R))))) : nk_Pile_leastRepaired_5 v0 v1 v2 v3 v4 M R := by
  intro n L N C0
  have NN := nn_L_n L N
  show mm_Go (mm_run 1) mc_Pile_leastRepaired _ (5, [(0, .inr (.inr v0)), (1, .inl v1), (2, .inl v2), (3, .inl v3), (4, .inl v4)], [], M)
  refine mm_s1 rfl ?_
  refine mm_s1 rfl ?_
  refine mm_s1 rfl ?_
  refine mm_s1 rfl ?_
  refine mm_s1 rfl ⟨fun c10 => ?_, fun c10 => ?_⟩
  · show mm_Go (mm_run 1) mc_Pile_leastRepaired _ (31, [(0, .inr (.inr v0)), (1, .inl v1), (2, .inl v2), (3, .inl v3), (4, .inl v4)], [], M)
    replace h := h.1 c10
    refine mm_s1 rfl ?_
    exact mm_s1 rfl ⟨_, rfl, L, N, h⟩
  · show mm_Go (mm_run 1) mc_Pile_leastRepaired _ (13, [(0, .inr (.inr v0)), (1, .inl v1), (2, .inl v2), (3, .inl v3), (4, .inl v4)], [], M)
    replace c10 := Int.not_le.mp c10
    replace h := h.2 c10
    refine mm_s1 rfl ?_
    refine mm_s1 rfl ?_
    refine nn_getr rfl C0.1 (lf_6_3 L N C0) ?_
    refine mm_s1 rfl ?_
    obtain ⟨b20, h⟩ := h
    refine mm_s1 rfl ⟨nn_bd (na_6_3 NN C0) b20, ?_⟩
    show mm_Go (mm_run 1) mc_Pile_leastRepaired _ (21, [(0, .inr (.inr v0)), (1, .inl v1), (2, .inl v2), (3, .inl v3), (4, .inl v4)], [.inl (nn_ri M (v0 + 4) v4), .inl v3], M)
    refine mm_s1 rfl ⟨trivial, ?_⟩
    refine np_LI_lesser (by decide) L N ?_
    show mm_Go (mm_run 1) mc_Pile_leastRepaired _ (24, [(0, .inr (.inr v0)), (1, .inl v1), (2, .inl v2), (3, .inl v3), (4, .inl v4)], [.inl (nf_LI_lesser v3 (nn_ri M (v0 + 4) v4))], M)
    refine mm_s1 rfl ?_
    show mm_Go (mm_run 1) mc_Pile_leastRepaired _ (25, [(0, .inr (.inr v0)), (1, .inl v1), (2, .inl v2), (3, .inl (nf_LI_lesser v3 (nn_ri M (v0 + 4) v4))), (4, .inl v4)], [], M)
    generalize e_x3_24 : (nf_LI_lesser v3 (nn_ri M (v0 + 4) v4)) = x3_24
    replace h := h _ e_x3_24.symm
    show mm_Go (mm_run 1) mc_Pile_leastRepaired _ (25, [(0, .inr (.inr v0)), (1, .inl v1), (2, .inl v2), (3, .inl x3_24), (4, .inl v4)], [], M)
    refine mm_s1 rfl ?_
    show mm_Go (mm_run 1) mc_Pile_leastRepaired _ (28, [(0, .inr (.inr v0)), (1, .inl v1), (2, .inl v2), (3, .inl x3_24), (4, .inl (mm_w (v4 + 1)))], [], M)
    refine mm_s1 rfl ?_
    show mm_Go (mm_run 1) mc_Pile_leastRepaired _ (5, [(0, .inr (.inr v0)), (1, .inl v1), (2, .inl v2), (3, .inl x3_24), (4, .inl (mm_w (v4 + 1)))], [], M)
    exact nn_go_ext (nn_xc rfl (nn_xc rfl (nn_xc rfl (nn_xc rfl (nn_xc rfl nn_xn))))) (h n L N C0)
def nr_Pile_keptFresh (v0 : Nat) (v1 : Int) (v2 : Nat) (M : mm_M) (R : Int → mm_M → Prop) : Prop := ∀ n, nn_L M → M.1 = n → nn_C 6 v0 n → nn_C 12 v2 n → mm_run 2 mi_Pile_keptFresh [.inr (.inr v0), .inl v1, .inr (.inr v2)] M (nw_I n R)
def nk_Pile_keptFresh_10 (v0 : Nat) (v1 : Int) (v2 : Nat) (v3 : Int) (v4 : Int) (M : mm_M) (R : Int → mm_M → Prop) : Prop := ∀ n, nn_L M → M.1 = n → nn_C 6 v0 n → nn_C 12 v2 n → mm_Go (mm_run 1) mc_Pile_keptFresh (nw_I n R) (10, [(0, .inr (.inr v0)), (1, .inl v1), (2, .inr (.inr v2)), (3, .inl v3), (4, .inl v4)], [], M)
set_option maxRecDepth 20000 in
theorem ng_Pile_keptFresh (v0 : Nat) (v1 : Int) (v2 : Nat) (M : mm_M) (R : Int → mm_M → Prop) (h : (((0 : Int) ≤ v1 ∧ v1 < (25 : Int)) ∧ nk_Pile_keptFresh_10 v0 v1 v2 (nn_ri M (v0 + 2) v1) (nn_ri M (v0 + 2) v1) M R)) : nr_Pile_keptFresh v0 v1 v2 M R := by
  intro n L N C0 C2
  have NN := nn_L_n L N
  show mm_Go (mm_run 1) mc_Pile_keptFresh _ (0, [(0, .inr (.inr v0)), (1, .inl v1), (2, .inr (.inr v2))], [], M)
  refine mm_s1 rfl ?_
  refine nn_getr rfl C0.1 (lf_6_1 L N C0) ?_
  refine mm_s1 rfl ?_
  obtain ⟨b5, h⟩ := h
  refine mm_s1 rfl ⟨nn_bd (na_6_1 NN C0) b5, ?_⟩
  show mm_Go (mm_run 1) mc_Pile_keptFresh _ (6, [(0, .inr (.inr v0)), (1, .inl v1), (2, .inr (.inr v2))], [.inl (nn_ri M (v0 + 2) v1)], M)
  refine mm_s1 rfl ?_
  show mm_Go (mm_run 1) mc_Pile_keptFresh _ (7, [(0, .inr (.inr v0)), (1, .inl v1), (2, .inr (.inr v2)), (3, .inl (nn_ri M (v0 + 2) v1))], [], M)
  refine mm_s1 rfl ?_
  refine mm_s1 rfl ?_
  show mm_Go (mm_run 1) mc_Pile_keptFresh _ (10, [(0, .inr (.inr v0)), (1, .inl v1), (2, .inr (.inr v2)), (3, .inl (nn_ri M (v0 + 2) v1)), (4, .inl (nn_ri M (v0 + 2) v1))], [], M)
  exact nn_go_ext (nn_xc rfl (nn_xc rfl (nn_xc rfl (nn_xc rfl (nn_xc rfl nn_xn))))) (h n L N C0 C2)
set_option maxRecDepth 20000 in
theorem ng_Pile_keptFresh_10 (v0 : Nat) (v1 : Int) (v2 : Nat) (v3 : Int) (v4 : Int) (M : mm_M) (R : Int → mm_M → Prop) (h : (((0 : Int) ≤ (mm_w (v1 + 1)) ∧ (mm_w (v1 + 1)) < (25 : Int)) ∧ (((nn_ri M (v0 + 2) (mm_w (v1 + 1))) ≤ v4 → R v3 M) ∧ (v4 < (nn_ri M (v0 + 2) (mm_w (v1 + 1))) → (((0 : Int) ≤ v4 ∧ v4 < (144 : Int)) ∧ ((nc_LI_isStale (nn_ri M (v0 + 1) v4) v2 M) ∧ (((nf_LI_isStale (nn_ri M (v0 + 1) v4) v2 M) ≠ 0 → nk_Pile_keptFresh_10 v0 v1 v2 v3 (mm_w (v4 + 1)) M R) ∧ ((nf_LI_isStale (nn_ri M (v0 + 1) v4) v2 M) = 0 → (((0 : Int) ≤ v4 ∧ v4 < (144 : Int)) ∧ (((0 : Int) ≤ v3 ∧ v3 < (144 : Int)) ∧ (∀ M49 : mm_M, M49 = nn_ui M (v0 + 1) v3 (nn_ri M (v0 + 1) v4) → nk_Pile_keptFresh_10 v0 v1 v2 (mm_w (v3 + 1)) (mm_w (v4 + 1)) M49 R))))))))))) : nk_Pile_keptFresh_10 v0 v1 v2 v3 v4 M R := by
  intro n L N C0 C2
  have NN := nn_L_n L N
  show mm_Go (mm_run 1) mc_Pile_keptFresh _ (10, [(0, .inr (.inr v0)), (1, .inl v1), (2, .inr (.inr v2)), (3, .inl v3), (4, .inl v4)], [], M)
  refine mm_s1 rfl ?_
  refine mm_s1 rfl ?_
  refine nn_getr rfl C0.1 (lf_6_1 L N C0) ?_
  refine mm_s1 rfl ?_
  refine mm_s1 rfl ?_
  show mm_Go (mm_run 1) mc_Pile_keptFresh _ (18, [(0, .inr (.inr v0)), (1, .inl v1), (2, .inr (.inr v2)), (3, .inl v3), (4, .inl v4)], [.inl 1, .inl v1, .inr (.inr (v0 + 2)), .inl v4], M)
  refine mm_s1 rfl ?_
  obtain ⟨b19, h⟩ := h
  refine mm_s1 rfl ⟨nn_bd (na_6_1 NN C0) b19, ?_⟩
  show mm_Go (mm_run 1) mc_Pile_keptFresh _ (20, [(0, .inr (.inr v0)), (1, .inl v1), (2, .inr (.inr v2)), (3, .inl v3), (4, .inl v4)], [.inl (nn_ri M (v0 + 2) (mm_w (v1 + 1))), .inl v4], M)
  refine mm_s1 rfl ⟨fun c20 => ?_, fun c20 => ?_⟩
  · show mm_Go (mm_run 1) mc_Pile_keptFresh _ (59, [(0, .inr (.inr v0)), (1, .inl v1), (2, .inr (.inr v2)), (3, .inl v3), (4, .inl v4)], [], M)
    replace h := h.1 c20
    refine mm_s1 rfl ?_
    exact mm_s1 rfl ⟨_, rfl, L, N, h⟩
  · show mm_Go (mm_run 1) mc_Pile_keptFresh _ (23, [(0, .inr (.inr v0)), (1, .inl v1), (2, .inr (.inr v2)), (3, .inl v3), (4, .inl v4)], [], M)
    replace c20 := Int.not_le.mp c20
    replace h := h.2 c20
    refine mm_s1 rfl ?_
    refine nn_getr rfl C0.1 (lf_6_0 L N C0) ?_
    refine mm_s1 rfl ?_
    obtain ⟨b29, h⟩ := h
    refine mm_s1 rfl ⟨nn_bd (na_6_0 NN C0) b29, ?_⟩
    show mm_Go (mm_run 1) mc_Pile_keptFresh _ (30, [(0, .inr (.inr v0)), (1, .inl v1), (2, .inr (.inr v2)), (3, .inl v3), (4, .inl v4)], [.inr (.inl (nn_ri M (v0 + 1) v4))], M)
    refine mm_s1 rfl ?_
    obtain ⟨b31, h⟩ := h
    refine mm_s1 rfl ⟨trivial, ?_⟩
    refine np_LI_isStale (by decide) L N C2 b31 ?_
    show mm_Go (mm_run 1) mc_Pile_keptFresh _ (34, [(0, .inr (.inr v0)), (1, .inl v1), (2, .inr (.inr v2)), (3, .inl v3), (4, .inl v4)], [.inl (nf_LI_isStale (nn_ri M (v0 + 1) v4) v2 M)], M)
    refine mm_s1 rfl ⟨fun c34 => ?_, fun c34 => ?_⟩
    · show mm_Go (mm_run 1) mc_Pile_keptFresh _ (53, [(0, .inr (.inr v0)), (1, .inl v1), (2, .inr (.inr v2)), (3, .inl v3), (4, .inl v4)], [], M)
      replace h := h.1 c34
      refine mm_s1 rfl ?_
      show mm_Go (mm_run 1) mc_Pile_keptFresh _ (56, [(0, .inr (.inr v0)), (1, .inl v1), (2, .inr (.inr v2)), (3, .inl v3), (4, .inl (mm_w (v4 + 1)))], [], M)
      refine mm_s1 rfl ?_
      show mm_Go (mm_run 1) mc_Pile_keptFresh _ (10, [(0, .inr (.inr v0)), (1, .inl v1), (2, .inr (.inr v2)), (3, .inl v3), (4, .inl (mm_w (v4 + 1)))], [], M)
      exact nn_go_ext (nn_xc rfl (nn_xc rfl (nn_xc rfl (nn_xc rfl (nn_xc rfl nn_xn))))) (h n L N C0 C2)
    · show mm_Go (mm_run 1) mc_Pile_keptFresh _ (37, [(0, .inr (.inr v0)), (1, .inl v1), (2, .inr (.inr v2)), (3, .inl v3), (4, .inl v4)], [], M)
      replace c34 := Decidable.not_not.mp c34
      replace h := h.2 c34
      refine mm_s1 rfl ?_
      refine nn_getr rfl C0.1 (lf_6_0 L N C0) ?_
      refine mm_s1 rfl ?_
      refine mm_s1 rfl ?_
      refine nn_getr rfl C0.1 (lf_6_0 L N C0) ?_
      show mm_Go (mm_run 1) mc_Pile_keptFresh _ (46, [(0, .inr (.inr v0)), (1, .inl v1), (2, .inr (.inr v2)), (3, .inl v3), (4, .inl v4)], [.inr (.inr (v0 + 1)), .inl v3, .inr (.inr (v0 + 1))], M)
      refine mm_s1 rfl ?_
      obtain ⟨b48, h⟩ := h
      refine mm_s1 rfl ⟨nn_bd (na_6_0 NN C0) b48, ?_⟩
      show mm_Go (mm_run 1) mc_Pile_keptFresh _ (49, [(0, .inr (.inr v0)), (1, .inl v1), (2, .inr (.inr v2)), (3, .inl v3), (4, .inl v4)], [.inr (.inl (nn_ri M (v0 + 1) v4)), .inl v3, .inr (.inr (v0 + 1))], M)
      obtain ⟨b49, h⟩ := h
      refine mm_s1 rfl ⟨nn_bd (na_6_0 NN C0) b49, ?_⟩
      show mm_Go (mm_run 1) mc_Pile_keptFresh _ (50, [(0, .inr (.inr v0)), (1, .inl v1), (2, .inr (.inr v2)), (3, .inl v3), (4, .inl v4)], [], (nn_ui M (v0 + 1) v3 (nn_ri M (v0 + 1) v4)))
      have L : nn_L (nn_ui M (v0 + 1) v3 (nn_ri M (v0 + 1) v4)) := nn_L_ua L (congrArg Prod.fst (na_6_0 NN C0)) (by decide)
      have N : (nn_ui M (v0 + 1) v3 (nn_ri M (v0 + 1) v4)).1 = n := N
      generalize e_M49 : (nn_ui M (v0 + 1) v3 (nn_ri M (v0 + 1) v4)) = M49 at L N ⊢
      replace h := h _ e_M49.symm
      show mm_Go (mm_run 1) mc_Pile_keptFresh _ (50, [(0, .inr (.inr v0)), (1, .inl v1), (2, .inr (.inr v2)), (3, .inl v3), (4, .inl v4)], [], M49)
      refine mm_s1 rfl ?_
      show mm_Go (mm_run 1) mc_Pile_keptFresh _ (53, [(0, .inr (.inr v0)), (1, .inl v1), (2, .inr (.inr v2)), (3, .inl (mm_w (v3 + 1))), (4, .inl v4)], [], M49)
      refine mm_s1 rfl ?_
      show mm_Go (mm_run 1) mc_Pile_keptFresh _ (56, [(0, .inr (.inr v0)), (1, .inl v1), (2, .inr (.inr v2)), (3, .inl (mm_w (v3 + 1))), (4, .inl (mm_w (v4 + 1)))], [], M49)
      refine mm_s1 rfl ?_
      show mm_Go (mm_run 1) mc_Pile_keptFresh _ (10, [(0, .inr (.inr v0)), (1, .inl v1), (2, .inr (.inr v2)), (3, .inl (mm_w (v3 + 1))), (4, .inl (mm_w (v4 + 1)))], [], M49)
      exact nn_go_ext (nn_xc rfl (nn_xc rfl (nn_xc rfl (nn_xc rfl (nn_xc rfl nn_xn))))) (h n L N C0 C2)
def nr_Pile_dropEmpty (v0 : Nat) (v1 : Int) (M : mm_M) (R : mm_M → Prop) : Prop := ∀ n, nn_L M → M.1 = n → nn_C 6 v0 n → mm_run 2 mi_Pile_dropEmpty [.inr (.inr v0), .inl v1] M (nw_V n R)
set_option maxRecDepth 20000 in
theorem ng_Pile_dropEmpty (v0 : Nat) (v1 : Int) (M : mm_M) (R : mm_M → Prop) (h : (((0 : Int) ≤ v1 ∧ v1 < (25 : Int)) ∧ (((0 : Int) ≤ (mm_w (v1 + 1)) ∧ (mm_w (v1 + 1)) < (25 : Int)) ∧ (((nn_ri M (v0 + 2) v1) ≠ (nn_ri M (v0 + 2) (mm_w (v1 + 1))) → R M) ∧ ((nn_ri M (v0 + 2) v1) = (nn_ri M (v0 + 2) (mm_w (v1 + 1))) → (nr_Pile_takeOut v0 v1 1 M (fun M20 => R M20))))))) : nr_Pile_dropEmpty v0 v1 M R := by
  intro n L N C0
  have NN := nn_L_n L N
  show mm_Go (mm_run 1) mc_Pile_dropEmpty _ (0, [(0, .inr (.inr v0)), (1, .inl v1)], [], M)
  refine mm_s1 rfl ?_
  refine nn_getr rfl C0.1 (lf_6_1 L N C0) ?_
  refine mm_s1 rfl ?_
  obtain ⟨b5, h⟩ := h
  refine mm_s1 rfl ⟨nn_bd (na_6_1 NN C0) b5, ?_⟩
  show mm_Go (mm_run 1) mc_Pile_dropEmpty _ (6, [(0, .inr (.inr v0)), (1, .inl v1)], [.inl (nn_ri M (v0 + 2) v1)], M)
  refine mm_s1 rfl ?_
  refine nn_getr rfl C0.1 (lf_6_1 L N C0) ?_
  refine mm_s1 rfl ?_
  refine mm_s1 rfl ?_
  refine mm_s1 rfl ?_
  show mm_Go (mm_run 1) mc_Pile_dropEmpty _ (13, [(0, .inr (.inr v0)), (1, .inl v1)], [.inl (mm_w (v1 + 1)), .inr (.inr (v0 + 2)), .inl (nn_ri M (v0 + 2) v1)], M)
  obtain ⟨b13, h⟩ := h
  refine mm_s1 rfl ⟨nn_bd (na_6_1 NN C0) b13, ?_⟩
  show mm_Go (mm_run 1) mc_Pile_dropEmpty _ (14, [(0, .inr (.inr v0)), (1, .inl v1)], [.inl (nn_ri M (v0 + 2) (mm_w (v1 + 1))), .inl (nn_ri M (v0 + 2) v1)], M)
  refine mm_s1 rfl ⟨fun c14 => ?_, fun c14 => ?_⟩
  · show mm_Go (mm_run 1) mc_Pile_dropEmpty _ (23, [(0, .inr (.inr v0)), (1, .inl v1)], [], M)
    replace h := h.1 c14
    exact mm_s1 rfl ⟨rfl, L, N, h⟩
  · show mm_Go (mm_run 1) mc_Pile_dropEmpty _ (17, [(0, .inr (.inr v0)), (1, .inl v1)], [], M)
    replace c14 := Decidable.not_not.mp c14
    replace h := h.2 c14
    refine mm_s1 rfl ?_
    refine mm_s1 rfl ?_
    refine mm_s1 rfl ?_
    refine mm_s1 rfl ⟨C0.1, ?_⟩
    refine nn_call (D := 1) (by decide) (h n L N C0) ?_
    intro v M20 q; clear L N h
    obtain ⟨rfl, L, N, h⟩ := q
    show mm_Go (mm_run 1) mc_Pile_dropEmpty _ (23, [(0, .inr (.inr v0)), (1, .inl v1)], [], M20)
    exact mm_s1 rfl ⟨rfl, L, N, h⟩
def nf_Pile_hasRuns (v0 : Nat) (v1 : Int) (v2 : Int) (M : mm_M) : Int := nf_LI_areRuns v1 v2 (nn_rf M v0 5)
theorem nz_Pile_hasRuns (v0 : Nat) (v1 : Int) (v2 : Int) (M : mm_M) : nf_Pile_hasRuns v0 v1 v2 M = 0 ∨ nf_Pile_hasRuns v0 v1 v2 M = 1 := by
  unfold nf_Pile_hasRuns
  repeat' split
  all_goals first | exact Or.inl rfl | exact Or.inr rfl | apply nz_LI_areRuns
set_option maxRecDepth 20000 in
theorem np_Pile_hasRuns {v0 : Nat} {v1 : Int} {v2 : Int} {M : mm_M} {n d : Nat} {P : mm_P} (hd : 2 ≤ d) (L : nn_L M) (N : M.1 = n) (C0 : nn_C 6 v0 n) (h : P (some (.inl (nf_Pile_hasRuns v0 v1 v2 M))) M) : mm_run d mi_Pile_hasRuns [.inr (.inr v0), .inl v1, .inl v2] M P := by
  have NN := nn_L_n L N
  unfold nf_Pile_hasRuns at h
  refine nn_run_le hd ?_
  show mm_Go (mm_run 1) mc_Pile_hasRuns _ (0, [(0, .inr (.inr v0)), (1, .inl v1), (2, .inl v2)], [], M)
  refine mm_s1 rfl ?_
  refine mm_s1 rfl ?_
  refine mm_s1 rfl ?_
  refine mm_s1 rfl ⟨C0.1, ?_⟩
  show mm_Go (mm_run 1) mc_Pile_hasRuns _ (6, [(0, .inr (.inr v0)), (1, .inl v1), (2, .inl v2)], [.inl (nn_rf M v0 5), .inl v2, .inl v1], M)
  refine mm_s1 rfl ⟨trivial, ?_⟩
  refine np_LI_areRuns (by decide) L N ?_
  show mm_Go (mm_run 1) mc_Pile_hasRuns _ (9, [(0, .inr (.inr v0)), (1, .inl v1), (2, .inl v2)], [.inl (nf_LI_areRuns v1 v2 (nn_rf M v0 5))], M)
  exact mm_s1 rfl ⟨(nz_LI_areRuns v1 v2 (nn_rf M v0 5)), h⟩
def nr_Pile_told (v0 : Nat) (v1 : Int) (M : mm_M) (R : Int → mm_M → Prop) : Prop := ∀ n, nn_L M → M.1 = n → nn_C 6 v0 n → mm_run 2 mi_Pile_told [.inr (.inr v0), .inl v1] M (nw_I n R)
def nk_Pile_told_32 (v0 : Nat) (v1 : Int) (M : mm_M) (R : Int → mm_M → Prop) : Prop := ∀ n, nn_L M → M.1 = n → nn_C 6 v0 n → mm_Go (mm_run 1) mc_Pile_told (nw_I n R) (32, [(0, .inr (.inr v0)), (1, .inl v1)], [], M)
def nk_Pile_told_65 (v0 : Nat) (v1 : Int) (M : mm_M) (R : Int → mm_M → Prop) : Prop := ∀ n, nn_L M → M.1 = n → nn_C 6 v0 n → mm_Go (mm_run 1) mc_Pile_told (nw_I n R) (65, [(0, .inr (.inr v0)), (1, .inl v1)], [], M)
set_option maxRecDepth 20000 in
theorem ng_Pile_told (v0 : Nat) (v1 : Int) (M : mm_M) (R : Int → mm_M → Prop) (h : (((20 ≤ v1) ∧ (v1 < 60) ∧ ((mm_w (v1 - 20)) < (nn_rf M v0 5)) → (nc_Pile_sizeOf v0 (mm_w (v1 - 20)) M)) ∧ ((v1 < 20 ∨ (60 ≤ v1 ∨ ((nn_rf M v0 5) ≤ (mm_w (v1 - 20))))) → nk_Pile_told_32 v0 v1 M R) ∧ ((20 ≤ v1 ∧ (v1 < 60 ∧ ((mm_w (v1 - 20)) < (nn_rf M v0 5)))) → R (nf_Pile_sizeOf v0 (mm_w (v1 - 20)) M) M))) : nr_Pile_told v0 v1 M R := by
  intro n L N C0
  have NN := nn_L_n L N
  show mm_Go (mm_run 1) mc_Pile_told _ (0, [(0, .inr (.inr v0)), (1, .inl v1)], [], M)
  refine mm_s1 rfl ?_
  refine mm_s1 rfl ?_
  refine mm_s1 rfl ⟨fun c3 => ?_, fun c3 => ?_⟩
  · show mm_Go (mm_run 1) mc_Pile_told _ (32, [(0, .inr (.inr v0)), (1, .inl v1)], [], M)
    replace h := h.2.1 (Or.inl c3)
    exact nn_go_ext (nn_xc rfl (nn_xc rfl nn_xn)) (h n L N C0)
  · show mm_Go (mm_run 1) mc_Pile_told _ (6, [(0, .inr (.inr v0)), (1, .inl v1)], [], M)
    replace c3 := Int.not_lt.mp c3
    refine mm_s1 rfl ?_
    refine mm_s1 rfl ?_
    refine mm_s1 rfl ⟨fun c9 => ?_, fun c9 => ?_⟩
    · show mm_Go (mm_run 1) mc_Pile_told _ (32, [(0, .inr (.inr v0)), (1, .inl v1)], [], M)
      replace h := h.2.1 (Or.inr (Or.inl c9))
      exact nn_go_ext (nn_xc rfl (nn_xc rfl nn_xn)) (h n L N C0)
    · show mm_Go (mm_run 1) mc_Pile_told _ (12, [(0, .inr (.inr v0)), (1, .inl v1)], [], M)
      replace c9 := Int.not_le.mp c9
      refine mm_s1 rfl ?_
      refine mm_s1 rfl ?_
      refine mm_s1 rfl ?_
      refine mm_s1 rfl ?_
      refine mm_s1 rfl ⟨C0.1, ?_⟩
      show mm_Go (mm_run 1) mc_Pile_told _ (20, [(0, .inr (.inr v0)), (1, .inl v1)], [.inl (nn_rf M v0 5), .inl (mm_w (v1 - 20))], M)
      refine mm_s1 rfl ⟨fun c20 => ?_, fun c20 => ?_⟩
      · show mm_Go (mm_run 1) mc_Pile_told _ (32, [(0, .inr (.inr v0)), (1, .inl v1)], [], M)
        replace h := h.2.1 (Or.inr (Or.inr c20))
        exact nn_go_ext (nn_xc rfl (nn_xc rfl nn_xn)) (h n L N C0)
      · show mm_Go (mm_run 1) mc_Pile_told _ (23, [(0, .inr (.inr v0)), (1, .inl v1)], [], M)
        replace c20 := Int.not_le.mp c20
        refine mm_s1 rfl ?_
        refine mm_s1 rfl ?_
        refine mm_s1 rfl ?_
        refine mm_s1 rfl ?_
        have b28 := h.1 ⟨c3, c9, c20⟩
        refine mm_s1 rfl ⟨C0.1, ?_⟩
        refine np_Pile_sizeOf (by decide) L N C0 b28 ?_
        show mm_Go (mm_run 1) mc_Pile_told _ (31, [(0, .inr (.inr v0)), (1, .inl v1)], [.inl (nf_Pile_sizeOf v0 (mm_w (v1 - 20)) M)], M)
        replace h := h.2.2 ⟨c3, ⟨c9, c20⟩⟩
        exact mm_s1 rfl ⟨_, rfl, L, N, h⟩
set_option maxRecDepth 20000 in
theorem ng_Pile_told_32 (v0 : Nat) (v1 : Int) (M : mm_M) (R : Int → mm_M → Prop) (h : (((60 ≤ v1) ∧ (v1 < 100) ∧ ((mm_w (v1 - 60)) < (nn_rf M v0 5)) → ((0 : Int) ≤ (mm_w (v1 - 60)) ∧ (mm_w (v1 - 60)) < (24 : Int))) ∧ ((v1 < 60 ∨ (100 ≤ v1 ∨ ((nn_rf M v0 5) ≤ (mm_w (v1 - 60))))) → nk_Pile_told_65 v0 v1 M R) ∧ ((60 ≤ v1 ∧ (v1 < 100 ∧ ((mm_w (v1 - 60)) < (nn_rf M v0 5)))) → R (nn_ri M (v0 + 3) (mm_w (v1 - 60))) M))) : nk_Pile_told_32 v0 v1 M R := by
  intro n L N C0
  have NN := nn_L_n L N
  show mm_Go (mm_run 1) mc_Pile_told _ (32, [(0, .inr (.inr v0)), (1, .inl v1)], [], M)
  refine mm_s1 rfl ?_
  refine mm_s1 rfl ?_
  refine mm_s1 rfl ⟨fun c35 => ?_, fun c35 => ?_⟩
  · show mm_Go (mm_run 1) mc_Pile_told _ (65, [(0, .inr (.inr v0)), (1, .inl v1)], [], M)
    replace h := h.2.1 (Or.inl c35)
    exact nn_go_ext (nn_xc rfl (nn_xc rfl nn_xn)) (h n L N C0)
  · show mm_Go (mm_run 1) mc_Pile_told _ (38, [(0, .inr (.inr v0)), (1, .inl v1)], [], M)
    replace c35 := Int.not_lt.mp c35
    refine mm_s1 rfl ?_
    refine mm_s1 rfl ?_
    refine mm_s1 rfl ⟨fun c41 => ?_, fun c41 => ?_⟩
    · show mm_Go (mm_run 1) mc_Pile_told _ (65, [(0, .inr (.inr v0)), (1, .inl v1)], [], M)
      replace h := h.2.1 (Or.inr (Or.inl c41))
      exact nn_go_ext (nn_xc rfl (nn_xc rfl nn_xn)) (h n L N C0)
    · show mm_Go (mm_run 1) mc_Pile_told _ (44, [(0, .inr (.inr v0)), (1, .inl v1)], [], M)
      replace c41 := Int.not_le.mp c41
      refine mm_s1 rfl ?_
      refine mm_s1 rfl ?_
      refine mm_s1 rfl ?_
      refine mm_s1 rfl ?_
      refine mm_s1 rfl ⟨C0.1, ?_⟩
      show mm_Go (mm_run 1) mc_Pile_told _ (52, [(0, .inr (.inr v0)), (1, .inl v1)], [.inl (nn_rf M v0 5), .inl (mm_w (v1 - 60))], M)
      refine mm_s1 rfl ⟨fun c52 => ?_, fun c52 => ?_⟩
      · show mm_Go (mm_run 1) mc_Pile_told _ (65, [(0, .inr (.inr v0)), (1, .inl v1)], [], M)
        replace h := h.2.1 (Or.inr (Or.inr c52))
        exact nn_go_ext (nn_xc rfl (nn_xc rfl nn_xn)) (h n L N C0)
      · show mm_Go (mm_run 1) mc_Pile_told _ (55, [(0, .inr (.inr v0)), (1, .inl v1)], [], M)
        replace c52 := Int.not_le.mp c52
        refine mm_s1 rfl ?_
        refine nn_getr rfl C0.1 (lf_6_2 L N C0) ?_
        refine mm_s1 rfl ?_
        refine mm_s1 rfl ?_
        refine mm_s1 rfl ?_
        show mm_Go (mm_run 1) mc_Pile_told _ (63, [(0, .inr (.inr v0)), (1, .inl v1)], [.inl (mm_w (v1 - 60)), .inr (.inr (v0 + 3))], M)
        have b63 := h.1 ⟨c35, c41, c52⟩
        refine mm_s1 rfl ⟨nn_bd (na_6_2 NN C0) b63, ?_⟩
        show mm_Go (mm_run 1) mc_Pile_told _ (64, [(0, .inr (.inr v0)), (1, .inl v1)], [.inl (nn_ri M (v0 + 3) (mm_w (v1 - 60)))], M)
        replace h := h.2.2 ⟨c35, ⟨c41, c52⟩⟩
        exact mm_s1 rfl ⟨_, rfl, L, N, h⟩
set_option maxRecDepth 20000 in
theorem ng_Pile_told_65 (v0 : Nat) (v1 : Int) (M : mm_M) (R : Int → mm_M → Prop) (h : (((100 ≤ v1) ∧ ((mm_w (v1 - 100)) < (nn_rf M v0 5)) → ((0 : Int) ≤ (mm_w (v1 - 100)) ∧ (mm_w (v1 - 100)) < (24 : Int))) ∧ ((v1 < 100 ∨ ((nn_rf M v0 5) ≤ (mm_w (v1 - 100)))) → R (-2) M) ∧ ((100 ≤ v1 ∧ ((mm_w (v1 - 100)) < (nn_rf M v0 5))) → R (nn_ri M (v0 + 4) (mm_w (v1 - 100))) M))) : nk_Pile_told_65 v0 v1 M R := by
  intro n L N C0
  have NN := nn_L_n L N
  show mm_Go (mm_run 1) mc_Pile_told _ (65, [(0, .inr (.inr v0)), (1, .inl v1)], [], M)
  refine mm_s1 rfl ?_
  refine mm_s1 rfl ?_
  refine mm_s1 rfl ⟨fun c68 => ?_, fun c68 => ?_⟩
  · show mm_Go (mm_run 1) mc_Pile_told _ (94, [(0, .inr (.inr v0)), (1, .inl v1)], [], M)
    refine mm_s1 rfl ?_
    replace h := h.2.1 (Or.inl c68)
    exact mm_s1 rfl ⟨_, rfl, L, N, h⟩
  · show mm_Go (mm_run 1) mc_Pile_told _ (71, [(0, .inr (.inr v0)), (1, .inl v1)], [], M)
    replace c68 := Int.not_lt.mp c68
    refine mm_s1 rfl ?_
    refine mm_s1 rfl ?_
    refine mm_s1 rfl ?_
    refine mm_s1 rfl ?_
    refine mm_s1 rfl ⟨C0.1, ?_⟩
    show mm_Go (mm_run 1) mc_Pile_told _ (79, [(0, .inr (.inr v0)), (1, .inl v1)], [.inl (nn_rf M v0 5), .inl (mm_w (v1 - 100))], M)
    refine mm_s1 rfl ⟨fun c79 => ?_, fun c79 => ?_⟩
    · show mm_Go (mm_run 1) mc_Pile_told _ (94, [(0, .inr (.inr v0)), (1, .inl v1)], [], M)
      refine mm_s1 rfl ?_
      replace h := h.2.1 (Or.inr c79)
      exact mm_s1 rfl ⟨_, rfl, L, N, h⟩
    · show mm_Go (mm_run 1) mc_Pile_told _ (82, [(0, .inr (.inr v0)), (1, .inl v1)], [], M)
      replace c79 := Int.not_le.mp c79
      refine mm_s1 rfl ?_
      refine nn_getr rfl C0.1 (lf_6_3 L N C0) ?_
      refine mm_s1 rfl ?_
      refine mm_s1 rfl ?_
      refine mm_s1 rfl ?_
      show mm_Go (mm_run 1) mc_Pile_told _ (90, [(0, .inr (.inr v0)), (1, .inl v1)], [.inl (mm_w (v1 - 100)), .inr (.inr (v0 + 4))], M)
      have b90 := h.1 ⟨c68, c79⟩
      refine mm_s1 rfl ⟨nn_bd (na_6_3 NN C0) b90, ?_⟩
      show mm_Go (mm_run 1) mc_Pile_told _ (91, [(0, .inr (.inr v0)), (1, .inl v1)], [.inl (nn_ri M (v0 + 4) (mm_w (v1 - 100)))], M)
      refine mm_s1 rfl ?_
      show mm_Go (mm_run 1) mc_Pile_told _ (96, [(0, .inr (.inr v0)), (1, .inl v1)], [.inl (nn_ri M (v0 + 4) (mm_w (v1 - 100)))], M)
      replace h := h.2.2 ⟨c68, c79⟩
      exact mm_s1 rfl ⟨_, rfl, L, N, h⟩
def nr_Pile_staleIn (v0 : Nat) (v1 : Int) (v2 : Nat) (M : mm_M) (R : Int → mm_M → Prop) : Prop := ∀ n, nn_L M → M.1 = n → nn_C 6 v0 n → nn_C 12 v2 n → mm_run 2 mi_Pile_staleIn [.inr (.inr v0), .inl v1, .inr (.inr v2)] M (nw_I n R)
def nk_Pile_staleIn_10 (v0 : Nat) (v1 : Int) (v2 : Nat) (v3 : Int) (v4 : Int) (M : mm_M) (R : Int → mm_M → Prop) : Prop := ∀ n, nn_L M → M.1 = n → nn_C 6 v0 n → nn_C 12 v2 n → mm_Go (mm_run 1) mc_Pile_staleIn (nw_I n R) (10, [(0, .inr (.inr v0)), (1, .inl v1), (2, .inr (.inr v2)), (3, .inl v3), (4, .inl v4)], [], M)
set_option maxRecDepth 20000 in
theorem ng_Pile_staleIn (v0 : Nat) (v1 : Int) (v2 : Nat) (M : mm_M) (R : Int → mm_M → Prop) (h : (((0 : Int) ≤ v1 ∧ v1 < (25 : Int)) ∧ nk_Pile_staleIn_10 v0 v1 v2 0 (nn_ri M (v0 + 2) v1) M R)) : nr_Pile_staleIn v0 v1 v2 M R := by
  intro n L N C0 C2
  have NN := nn_L_n L N
  show mm_Go (mm_run 1) mc_Pile_staleIn _ (0, [(0, .inr (.inr v0)), (1, .inl v1), (2, .inr (.inr v2))], [], M)
  refine mm_s1 rfl ?_
  refine mm_s1 rfl ?_
  show mm_Go (mm_run 1) mc_Pile_staleIn _ (2, [(0, .inr (.inr v0)), (1, .inl v1), (2, .inr (.inr v2)), (3, .inl 0)], [], M)
  refine mm_s1 rfl ?_
  refine nn_getr rfl C0.1 (lf_6_1 L N C0) ?_
  refine mm_s1 rfl ?_
  obtain ⟨b7, h⟩ := h
  refine mm_s1 rfl ⟨nn_bd (na_6_1 NN C0) b7, ?_⟩
  show mm_Go (mm_run 1) mc_Pile_staleIn _ (8, [(0, .inr (.inr v0)), (1, .inl v1), (2, .inr (.inr v2)), (3, .inl 0)], [.inl (nn_ri M (v0 + 2) v1)], M)
  refine mm_s1 rfl ?_
  show mm_Go (mm_run 1) mc_Pile_staleIn _ (10, [(0, .inr (.inr v0)), (1, .inl v1), (2, .inr (.inr v2)), (3, .inl 0), (4, .inl (nn_ri M (v0 + 2) v1))], [], M)
  exact nn_go_ext (nn_xc rfl (nn_xc rfl (nn_xc rfl (nn_xc rfl (nn_xc rfl nn_xn))))) (h n L N C0 C2)
set_option maxRecDepth 20000 in
theorem ng_Pile_staleIn_10 (v0 : Nat) (v1 : Int) (v2 : Nat) (v3 : Int) (v4 : Int) (M : mm_M) (R : Int → mm_M → Prop) (h : (((0 : Int) ≤ (mm_w (v1 + 1)) ∧ (mm_w (v1 + 1)) < (25 : Int)) ∧ (((nn_ri M (v0 + 2) (mm_w (v1 + 1))) ≤ v4 → R v3 M) ∧ (v4 < (nn_ri M (v0 + 2) (mm_w (v1 + 1))) → (((0 : Int) ≤ v4 ∧ v4 < (144 : Int)) ∧ ((nc_LI_isStale (nn_ri M (v0 + 1) v4) v2 M) ∧ (((nf_LI_isStale (nn_ri M (v0 + 1) v4) v2 M) = 0 → nk_Pile_staleIn_10 v0 v1 v2 (mm_w (v3 + 0)) (mm_w (v4 + 1)) M R) ∧ ((nf_LI_isStale (nn_ri M (v0 + 1) v4) v2 M) ≠ 0 → nk_Pile_staleIn_10 v0 v1 v2 (mm_w (v3 + 1)) (mm_w (v4 + 1)) M R)))))))) : nk_Pile_staleIn_10 v0 v1 v2 v3 v4 M R := by
  intro n L N C0 C2
  have NN := nn_L_n L N
  show mm_Go (mm_run 1) mc_Pile_staleIn _ (10, [(0, .inr (.inr v0)), (1, .inl v1), (2, .inr (.inr v2)), (3, .inl v3), (4, .inl v4)], [], M)
  refine mm_s1 rfl ?_
  refine mm_s1 rfl ?_
  refine nn_getr rfl C0.1 (lf_6_1 L N C0) ?_
  refine mm_s1 rfl ?_
  refine mm_s1 rfl ?_
  show mm_Go (mm_run 1) mc_Pile_staleIn _ (18, [(0, .inr (.inr v0)), (1, .inl v1), (2, .inr (.inr v2)), (3, .inl v3), (4, .inl v4)], [.inl 1, .inl v1, .inr (.inr (v0 + 2)), .inl v4], M)
  refine mm_s1 rfl ?_
  obtain ⟨b19, h⟩ := h
  refine mm_s1 rfl ⟨nn_bd (na_6_1 NN C0) b19, ?_⟩
  show mm_Go (mm_run 1) mc_Pile_staleIn _ (20, [(0, .inr (.inr v0)), (1, .inl v1), (2, .inr (.inr v2)), (3, .inl v3), (4, .inl v4)], [.inl (nn_ri M (v0 + 2) (mm_w (v1 + 1))), .inl v4], M)
  refine mm_s1 rfl ⟨fun c20 => ?_, fun c20 => ?_⟩
  · show mm_Go (mm_run 1) mc_Pile_staleIn _ (51, [(0, .inr (.inr v0)), (1, .inl v1), (2, .inr (.inr v2)), (3, .inl v3), (4, .inl v4)], [], M)
    replace h := h.1 c20
    refine mm_s1 rfl ?_
    exact mm_s1 rfl ⟨_, rfl, L, N, h⟩
  · show mm_Go (mm_run 1) mc_Pile_staleIn _ (23, [(0, .inr (.inr v0)), (1, .inl v1), (2, .inr (.inr v2)), (3, .inl v3), (4, .inl v4)], [], M)
    replace c20 := Int.not_le.mp c20
    replace h := h.2 c20
    refine mm_s1 rfl ?_
    refine mm_s1 rfl ?_
    refine nn_getr rfl C0.1 (lf_6_0 L N C0) ?_
    refine mm_s1 rfl ?_
    obtain ⟨b30, h⟩ := h
    refine mm_s1 rfl ⟨nn_bd (na_6_0 NN C0) b30, ?_⟩
    show mm_Go (mm_run 1) mc_Pile_staleIn _ (31, [(0, .inr (.inr v0)), (1, .inl v1), (2, .inr (.inr v2)), (3, .inl v3), (4, .inl v4)], [.inr (.inl (nn_ri M (v0 + 1) v4)), .inl v3], M)
    refine mm_s1 rfl ?_
    obtain ⟨b32, h⟩ := h
    refine mm_s1 rfl ⟨trivial, ?_⟩
    refine np_LI_isStale (by decide) L N C2 b32 ?_
    show mm_Go (mm_run 1) mc_Pile_staleIn _ (35, [(0, .inr (.inr v0)), (1, .inl v1), (2, .inr (.inr v2)), (3, .inl v3), (4, .inl v4)], [.inl (nf_LI_isStale (nn_ri M (v0 + 1) v4) v2 M), .inl v3], M)
    refine mm_s1 rfl ⟨fun c35 => ?_, fun c35 => ?_⟩
    · show mm_Go (mm_run 1) mc_Pile_staleIn _ (42, [(0, .inr (.inr v0)), (1, .inl v1), (2, .inr (.inr v2)), (3, .inl v3), (4, .inl v4)], [.inl v3], M)
      replace h := h.1 c35
      refine mm_s1 rfl ?_
      refine mm_s1 rfl ?_
      refine mm_s1 rfl ?_
      show mm_Go (mm_run 1) mc_Pile_staleIn _ (45, [(0, .inr (.inr v0)), (1, .inl v1), (2, .inr (.inr v2)), (3, .inl (mm_w (v3 + 0))), (4, .inl v4)], [], M)
      refine mm_s1 rfl ?_
      show mm_Go (mm_run 1) mc_Pile_staleIn _ (48, [(0, .inr (.inr v0)), (1, .inl v1), (2, .inr (.inr v2)), (3, .inl (mm_w (v3 + 0))), (4, .inl (mm_w (v4 + 1)))], [], M)
      refine mm_s1 rfl ?_
      show mm_Go (mm_run 1) mc_Pile_staleIn _ (10, [(0, .inr (.inr v0)), (1, .inl v1), (2, .inr (.inr v2)), (3, .inl (mm_w (v3 + 0))), (4, .inl (mm_w (v4 + 1)))], [], M)
      exact nn_go_ext (nn_xc rfl (nn_xc rfl (nn_xc rfl (nn_xc rfl (nn_xc rfl nn_xn))))) (h n L N C0 C2)
    · show mm_Go (mm_run 1) mc_Pile_staleIn _ (38, [(0, .inr (.inr v0)), (1, .inl v1), (2, .inr (.inr v2)), (3, .inl v3), (4, .inl v4)], [.inl v3], M)
      replace h := h.2 c35
      refine mm_s1 rfl ?_
      refine mm_s1 rfl ?_
      show mm_Go (mm_run 1) mc_Pile_staleIn _ (43, [(0, .inr (.inr v0)), (1, .inl v1), (2, .inr (.inr v2)), (3, .inl v3), (4, .inl v4)], [.inl 1, .inl v3], M)
      refine mm_s1 rfl ?_
      refine mm_s1 rfl ?_
      show mm_Go (mm_run 1) mc_Pile_staleIn _ (45, [(0, .inr (.inr v0)), (1, .inl v1), (2, .inr (.inr v2)), (3, .inl (mm_w (v3 + 1))), (4, .inl v4)], [], M)
      refine mm_s1 rfl ?_
      show mm_Go (mm_run 1) mc_Pile_staleIn _ (48, [(0, .inr (.inr v0)), (1, .inl v1), (2, .inr (.inr v2)), (3, .inl (mm_w (v3 + 1))), (4, .inl (mm_w (v4 + 1)))], [], M)
      refine mm_s1 rfl ?_
      show mm_Go (mm_run 1) mc_Pile_staleIn _ (10, [(0, .inr (.inr v0)), (1, .inl v1), (2, .inr (.inr v2)), (3, .inl (mm_w (v3 + 1))), (4, .inl (mm_w (v4 + 1)))], [], M)
      exact nn_go_ext (nn_xc rfl (nn_xc rfl (nn_xc rfl (nn_xc rfl (nn_xc rfl nn_xn))))) (h n L N C0 C2)
def nr_Pile_wouldHave (v0 : Nat) (v1 : Int) (v2 : Int) (v3 : Int) (v4 : Nat) (M : mm_M) (R : Int → mm_M → Prop) : Prop := ∀ n, nn_L M → M.1 = n → nn_C 6 v0 n → nn_C 12 v4 n → mm_run 2 mi_Pile_wouldHave [.inr (.inr v0), .inl v1, .inl v2, .inl v3, .inr (.inr v4)] M (nw_I n R)
def nk_Pile_wouldHave_25 (v0 : Nat) (v3 : Int) (v4 : Nat) (v5 : Int) (v6 : Int) (v7 : Int) (v8 : Int) (M : mm_M) (R : Int → mm_M → Prop) : Prop := ∀ n, nn_L M → M.1 = n → nn_C 6 v0 n → nn_C 12 v4 n → mm_Go (mm_run 1) mc_Pile_wouldHave (nw_I n R) (25, [(0, .inr (.inr v0)), (3, .inl v3), (4, .inr (.inr v4)), (5, .inl v5), (6, .inl v6), (7, .inl v7), (8, .inl v8)], [], M)
def nk_Pile_wouldHave_62 (v0 : Nat) (v3 : Int) (v4 : Nat) (v5 : Int) (v6 : Int) (v7 : Int) (v8 : Int) (v9 : Int) (v10 : Int) (M : mm_M) (R : Int → mm_M → Prop) : Prop := ∀ n, nn_L M → M.1 = n → nn_C 6 v0 n → nn_C 12 v4 n → mm_Go (mm_run 1) mc_Pile_wouldHave (nw_I n R) (62, [(0, .inr (.inr v0)), (3, .inl v3), (4, .inr (.inr v4)), (5, .inl v5), (6, .inl v6), (7, .inl v7), (8, .inl v8), (9, .inl v9), (10, .inl v10)], [], M)
def nk_Pile_wouldHave_178 (v0 : Nat) (v3 : Int) (v4 : Nat) (v5 : Int) (v6 : Int) (v7 : Int) (v8 : Int) (v9 : Int) (M : mm_M) (R : Int → mm_M → Prop) : Prop := ∀ n, nn_L M → M.1 = n → nn_C 6 v0 n → nn_C 12 v4 n → mm_Go (mm_run 1) mc_Pile_wouldHave (nw_I n R) (178, [(0, .inr (.inr v0)), (3, .inl v3), (4, .inr (.inr v4)), (5, .inl v5), (6, .inl v6), (7, .inl v7), (8, .inl v8), (9, .inl v9)], [], M)
def nk_Pile_wouldHave_152 (v0 : Nat) (v3 : Int) (v4 : Nat) (v5 : Int) (v6 : Int) (v7 : Int) (v8 : Int) (v10 : Int) (v11 : Int) (M : mm_M) (R : Int → mm_M → Prop) : Prop := ∀ n, nn_L M → M.1 = n → nn_C 6 v0 n → nn_C 12 v4 n → mm_Go (mm_run 1) mc_Pile_wouldHave (nw_I n R) (152, [(0, .inr (.inr v0)), (3, .inl v3), (4, .inr (.inr v4)), (5, .inl v5), (6, .inl v6), (7, .inl v7), (8, .inl v8), (10, .inl v10), (11, .inl v11)], [], M)
set_option maxRecDepth 20000 in
theorem ng_Pile_wouldHave (v0 : Nat) (v1 : Int) (v2 : Int) (v3 : Int) (v4 : Nat) (M : mm_M) (R : Int → mm_M → Prop) (h : (((0 : Int) ≤ v1 ∧ v1 < (25 : Int)) ∧ (((0 : Int) ≤ (mm_w (v1 + v2)) ∧ (mm_w (v1 + v2)) < (25 : Int)) ∧ (∀ x6_16 : Int, x6_16 = nn_ri M (v0 + 2) (mm_w (v1 + v2)) → nk_Pile_wouldHave_25 v0 v3 v4 (nn_ri M (v0 + 2) v1) x6_16 0 (nn_ri M (v0 + 2) v1) M R)))) : nr_Pile_wouldHave v0 v1 v2 v3 v4 M R := by
  intro n L N C0 C4
  have NN := nn_L_n L N
  show mm_Go (mm_run 1) mc_Pile_wouldHave _ (0, [(0, .inr (.inr v0)), (1, .inl v1), (2, .inl v2), (3, .inl v3), (4, .inr (.inr v4))], [], M)
  refine mm_s1 rfl ?_
  refine nn_getr rfl C0.1 (lf_6_1 L N C0) ?_
  refine mm_s1 rfl ?_
  obtain ⟨b5, h⟩ := h
  refine mm_s1 rfl ⟨nn_bd (na_6_1 NN C0) b5, ?_⟩
  show mm_Go (mm_run 1) mc_Pile_wouldHave _ (6, [(0, .inr (.inr v0)), (1, .inl v1), (2, .inl v2), (3, .inl v3), (4, .inr (.inr v4))], [.inl (nn_ri M (v0 + 2) v1)], M)
  refine mm_s1 rfl ?_
  show mm_Go (mm_run 1) mc_Pile_wouldHave _ (8, [(0, .inr (.inr v0)), (1, .inl v1), (2, .inl v2), (3, .inl v3), (4, .inr (.inr v4)), (5, .inl (nn_ri M (v0 + 2) v1))], [], M)
  refine mm_s1 rfl ?_
  refine nn_getr rfl C0.1 (lf_6_1 L N C0) ?_
  refine mm_s1 rfl ?_
  refine mm_s1 rfl ?_
  refine mm_s1 rfl ?_
  show mm_Go (mm_run 1) mc_Pile_wouldHave _ (15, [(0, .inr (.inr v0)), (1, .inl v1), (2, .inl v2), (3, .inl v3), (4, .inr (.inr v4)), (5, .inl (nn_ri M (v0 + 2) v1))], [.inl (mm_w (v1 + v2)), .inr (.inr (v0 + 2))], M)
  obtain ⟨b15, h⟩ := h
  refine mm_s1 rfl ⟨nn_bd (na_6_1 NN C0) b15, ?_⟩
  show mm_Go (mm_run 1) mc_Pile_wouldHave _ (16, [(0, .inr (.inr v0)), (1, .inl v1), (2, .inl v2), (3, .inl v3), (4, .inr (.inr v4)), (5, .inl (nn_ri M (v0 + 2) v1))], [.inl (nn_ri M (v0 + 2) (mm_w (v1 + v2)))], M)
  refine mm_s1 rfl ?_
  show mm_Go (mm_run 1) mc_Pile_wouldHave _ (18, [(0, .inr (.inr v0)), (1, .inl v1), (2, .inl v2), (3, .inl v3), (4, .inr (.inr v4)), (5, .inl (nn_ri M (v0 + 2) v1)), (6, .inl (nn_ri M (v0 + 2) (mm_w (v1 + v2))))], [], M)
  generalize e_x6_16 : (nn_ri M (v0 + 2) (mm_w (v1 + v2))) = x6_16
  replace h := h _ e_x6_16.symm
  show mm_Go (mm_run 1) mc_Pile_wouldHave _ (18, [(0, .inr (.inr v0)), (1, .inl v1), (2, .inl v2), (3, .inl v3), (4, .inr (.inr v4)), (5, .inl (nn_ri M (v0 + 2) v1)), (6, .inl x6_16)], [], M)
  refine mm_s1 rfl ?_
  refine mm_s1 rfl ?_
  show mm_Go (mm_run 1) mc_Pile_wouldHave _ (21, [(0, .inr (.inr v0)), (1, .inl v1), (2, .inl v2), (3, .inl v3), (4, .inr (.inr v4)), (5, .inl (nn_ri M (v0 + 2) v1)), (6, .inl x6_16), (7, .inl 0)], [], M)
  refine mm_s1 rfl ?_
  refine mm_s1 rfl ?_
  show mm_Go (mm_run 1) mc_Pile_wouldHave _ (25, [(0, .inr (.inr v0)), (1, .inl v1), (2, .inl v2), (3, .inl v3), (4, .inr (.inr v4)), (5, .inl (nn_ri M (v0 + 2) v1)), (6, .inl x6_16), (7, .inl 0), (8, .inl (nn_ri M (v0 + 2) v1))], [], M)
  exact nn_go_ext (nn_xc rfl (nn_xc rfl (nn_xc rfl (nn_xc rfl (nn_xc rfl (nn_xc rfl (nn_xc rfl nn_xn))))))) (h n L N C0 C4)
set_option maxRecDepth 20000 in
theorem ng_Pile_wouldHave_25 (v0 : Nat) (v3 : Int) (v4 : Nat) (v5 : Int) (v6 : Int) (v7 : Int) (v8 : Int) (M : mm_M) (R : Int → mm_M → Prop) (h : ((v6 ≤ v8 → R v7 M) ∧ (v8 < v6 → (((v3 ≠ 0) → ((0 : Int) ≤ v8 ∧ v8 < (144 : Int))) ∧ ((v3 ≠ 0) → (nc_LI_isStale (nn_ri M (v0 + 1) v8) v4 M)) ∧ ((v3 = 0 ∨ ((nf_LI_isStale (nn_ri M (v0 + 1) v8) v4 M) = 0)) → nk_Pile_wouldHave_62 v0 v3 v4 v5 v6 v7 v8 1 v5 M R) ∧ ((v3 ≠ 0 ∧ ((nf_LI_isStale (nn_ri M (v0 + 1) v8) v4 M) ≠ 0)) → nk_Pile_wouldHave_62 v0 v3 v4 v5 v6 v7 v8 0 v5 M R))))) : nk_Pile_wouldHave_25 v0 v3 v4 v5 v6 v7 v8 M R := by
  intro n L N C0 C4
  have NN := nn_L_n L N
  show mm_Go (mm_run 1) mc_Pile_wouldHave _ (25, [(0, .inr (.inr v0)), (3, .inl v3), (4, .inr (.inr v4)), (5, .inl v5), (6, .inl v6), (7, .inl v7), (8, .inl v8)], [], M)
  refine mm_s1 rfl ?_
  refine mm_s1 rfl ?_
  refine mm_s1 rfl ⟨fun c29 => ?_, fun c29 => ?_⟩
  · show mm_Go (mm_run 1) mc_Pile_wouldHave _ (199, [(0, .inr (.inr v0)), (3, .inl v3), (4, .inr (.inr v4)), (5, .inl v5), (6, .inl v6), (7, .inl v7), (8, .inl v8)], [], M)
    replace h := h.1 c29
    refine mm_s1 rfl ?_
    exact mm_s1 rfl ⟨_, rfl, L, N, h⟩
  · show mm_Go (mm_run 1) mc_Pile_wouldHave _ (32, [(0, .inr (.inr v0)), (3, .inl v3), (4, .inr (.inr v4)), (5, .inl v5), (6, .inl v6), (7, .inl v7), (8, .inl v8)], [], M)
    replace c29 := Int.not_le.mp c29
    replace h := h.2 c29
    refine mm_s1 rfl ?_
    refine mm_s1 rfl ⟨fun c33 => ?_, fun c33 => ?_⟩
    · show mm_Go (mm_run 1) mc_Pile_wouldHave _ (51, [(0, .inr (.inr v0)), (3, .inl v3), (4, .inr (.inr v4)), (5, .inl v5), (6, .inl v6), (7, .inl v7), (8, .inl v8)], [], M)
      refine mm_s1 rfl ?_
      refine mm_s1 rfl ?_
      show mm_Go (mm_run 1) mc_Pile_wouldHave _ (56, [(0, .inr (.inr v0)), (3, .inl v3), (4, .inr (.inr v4)), (5, .inl v5), (6, .inl v6), (7, .inl v7), (8, .inl v8)], [.inl 1], M)
      refine mm_s1 rfl ?_
      show mm_Go (mm_run 1) mc_Pile_wouldHave _ (58, [(0, .inr (.inr v0)), (3, .inl v3), (4, .inr (.inr v4)), (5, .inl v5), (6, .inl v6), (7, .inl v7), (8, .inl v8), (9, .inl 1)], [], M)
      refine mm_s1 rfl ?_
      refine mm_s1 rfl ?_
      show mm_Go (mm_run 1) mc_Pile_wouldHave _ (62, [(0, .inr (.inr v0)), (3, .inl v3), (4, .inr (.inr v4)), (5, .inl v5), (6, .inl v6), (7, .inl v7), (8, .inl v8), (9, .inl 1), (10, .inl v5)], [], M)
      replace h := h.2.2.1 (Or.inl c33)
      exact nn_go_ext (nn_xc rfl (nn_xc rfl (nn_xc rfl (nn_xc rfl (nn_xc rfl (nn_xc rfl (nn_xc rfl (nn_xc rfl (nn_xc rfl nn_xn))))))))) (h n L N C0 C4)
    · show mm_Go (mm_run 1) mc_Pile_wouldHave _ (36, [(0, .inr (.inr v0)), (3, .inl v3), (4, .inr (.inr v4)), (5, .inl v5), (6, .inl v6), (7, .inl v7), (8, .inl v8)], [], M)
      refine mm_s1 rfl ?_
      refine nn_getr rfl C0.1 (lf_6_0 L N C0) ?_
      refine mm_s1 rfl ?_
      have b42 := h.1 c33
      refine mm_s1 rfl ⟨nn_bd (na_6_0 NN C0) b42, ?_⟩
      show mm_Go (mm_run 1) mc_Pile_wouldHave _ (43, [(0, .inr (.inr v0)), (3, .inl v3), (4, .inr (.inr v4)), (5, .inl v5), (6, .inl v6), (7, .inl v7), (8, .inl v8)], [.inr (.inl (nn_ri M (v0 + 1) v8))], M)
      refine mm_s1 rfl ?_
      have b45 := h.2.1 c33
      refine mm_s1 rfl ⟨trivial, ?_⟩
      refine np_LI_isStale (by decide) L N C4 b45 ?_
      show mm_Go (mm_run 1) mc_Pile_wouldHave _ (48, [(0, .inr (.inr v0)), (3, .inl v3), (4, .inr (.inr v4)), (5, .inl v5), (6, .inl v6), (7, .inl v7), (8, .inl v8)], [.inl (nf_LI_isStale (nn_ri M (v0 + 1) v8) v4 M)], M)
      refine mm_s1 rfl ⟨fun c48 => ?_, fun c48 => ?_⟩
      · show mm_Go (mm_run 1) mc_Pile_wouldHave _ (55, [(0, .inr (.inr v0)), (3, .inl v3), (4, .inr (.inr v4)), (5, .inl v5), (6, .inl v6), (7, .inl v7), (8, .inl v8)], [], M)
        refine mm_s1 rfl ?_
        refine mm_s1 rfl ?_
        show mm_Go (mm_run 1) mc_Pile_wouldHave _ (58, [(0, .inr (.inr v0)), (3, .inl v3), (4, .inr (.inr v4)), (5, .inl v5), (6, .inl v6), (7, .inl v7), (8, .inl v8), (9, .inl 0)], [], M)
        refine mm_s1 rfl ?_
        refine mm_s1 rfl ?_
        show mm_Go (mm_run 1) mc_Pile_wouldHave _ (62, [(0, .inr (.inr v0)), (3, .inl v3), (4, .inr (.inr v4)), (5, .inl v5), (6, .inl v6), (7, .inl v7), (8, .inl v8), (9, .inl 0), (10, .inl v5)], [], M)
        replace h := h.2.2.2 ⟨c33, c48⟩
        exact nn_go_ext (nn_xc rfl (nn_xc rfl (nn_xc rfl (nn_xc rfl (nn_xc rfl (nn_xc rfl (nn_xc rfl (nn_xc rfl (nn_xc rfl nn_xn))))))))) (h n L N C0 C4)
      · show mm_Go (mm_run 1) mc_Pile_wouldHave _ (51, [(0, .inr (.inr v0)), (3, .inl v3), (4, .inr (.inr v4)), (5, .inl v5), (6, .inl v6), (7, .inl v7), (8, .inl v8)], [], M)
        replace c48 := Decidable.not_not.mp c48
        refine mm_s1 rfl ?_
        refine mm_s1 rfl ?_
        show mm_Go (mm_run 1) mc_Pile_wouldHave _ (56, [(0, .inr (.inr v0)), (3, .inl v3), (4, .inr (.inr v4)), (5, .inl v5), (6, .inl v6), (7, .inl v7), (8, .inl v8)], [.inl 1], M)
        refine mm_s1 rfl ?_
        show mm_Go (mm_run 1) mc_Pile_wouldHave _ (58, [(0, .inr (.inr v0)), (3, .inl v3), (4, .inr (.inr v4)), (5, .inl v5), (6, .inl v6), (7, .inl v7), (8, .inl v8), (9, .inl 1)], [], M)
        refine mm_s1 rfl ?_
        refine mm_s1 rfl ?_
        show mm_Go (mm_run 1) mc_Pile_wouldHave _ (62, [(0, .inr (.inr v0)), (3, .inl v3), (4, .inr (.inr v4)), (5, .inl v5), (6, .inl v6), (7, .inl v7), (8, .inl v8), (9, .inl 1), (10, .inl v5)], [], M)
        replace h := h.2.2.1 (Or.inr c48)
        exact nn_go_ext (nn_xc rfl (nn_xc rfl (nn_xc rfl (nn_xc rfl (nn_xc rfl (nn_xc rfl (nn_xc rfl (nn_xc rfl (nn_xc rfl nn_xn))))))))) (h n L N C0 C4)
set_option maxRecDepth 20000 in
theorem ng_Pile_wouldHave_62 (v0 : Nat) (v3 : Int) (v4 : Nat) (v5 : Int) (v6 : Int) (v7 : Int) (v8 : Int) (v9 : Int) (v10 : Int) (M : mm_M) (R : Int → mm_M → Prop) (h : ((v6 ≤ v10 → nk_Pile_wouldHave_178 v0 v3 v4 v5 v6 v7 v8 v9 M R) ∧ (v10 < v6 → ((v9 = 0 → nk_Pile_wouldHave_178 v0 v3 v4 v5 v6 v7 v8 v9 M R) ∧ (v9 ≠ 0 → (((0 : Int) ≤ v8 ∧ v8 < (144 : Int)) ∧ (((0 : Int) ≤ v10 ∧ v10 < (144 : Int)) ∧ (((mm_lcmp (mm_lushr (nn_ri M (v0 + 1) v8) 32) (mm_lushr (nn_ri M (v0 + 1) v10) 32)) ≠ 0 → (((0 : Int) ≤ v10 ∧ v10 < (144 : Int)) ∧ (((0 : Int) ≤ v8 ∧ v8 < (144 : Int)) ∧ ((((mm_lcmp (nn_ri M (v0 + 1) v10) (nn_ri M (v0 + 1) v8)) ≤ 0) → ((0 : Int) ≤ v10 ∧ v10 < (144 : Int))) ∧ (((mm_lcmp (nn_ri M (v0 + 1) v10) (nn_ri M (v0 + 1) v8)) ≤ 0) → ((0 : Int) ≤ v8 ∧ v8 < (144 : Int))) ∧ ((0 < (mm_lcmp (nn_ri M (v0 + 1) v10) (nn_ri M (v0 + 1) v8)) ∨ ((mm_lcmp (nn_ri M (v0 + 1) v10) (nn_ri M (v0 + 1) v8)) = 0 ∧ (v10 < v8))) → nk_Pile_wouldHave_62 v0 v3 v4 v5 v6 v7 v8 1 (mm_w (v10 + 1)) M R) ∧ (((mm_lcmp (nn_ri M (v0 + 1) v10) (nn_ri M (v0 + 1) v8)) ≤ 0 ∧ ((mm_lcmp (nn_ri M (v0 + 1) v10) (nn_ri M (v0 + 1) v8)) ≠ 0 ∨ (v8 ≤ v10))) → nk_Pile_wouldHave_152 v0 v3 v4 v5 v6 v7 v8 v10 0 M R))))) ∧ ((mm_lcmp (mm_lushr (nn_ri M (v0 + 1) v8) 32) (mm_lushr (nn_ri M (v0 + 1) v10) 32)) = 0 → (((0 : Int) ≤ v10 ∧ v10 < (144 : Int)) ∧ (((0 : Int) ≤ v8 ∧ v8 < (144 : Int)) ∧ ((((mm_lcmp (nn_ri M (v0 + 1) v10) (nn_ri M (v0 + 1) v8)) ≤ 0) → ((0 : Int) ≤ v10 ∧ v10 < (144 : Int))) ∧ (((mm_lcmp (nn_ri M (v0 + 1) v10) (nn_ri M (v0 + 1) v8)) ≤ 0) → ((0 : Int) ≤ v8 ∧ v8 < (144 : Int))) ∧ ((0 < (mm_lcmp (nn_ri M (v0 + 1) v10) (nn_ri M (v0 + 1) v8)) ∨ ((mm_lcmp (nn_ri M (v0 + 1) v10) (nn_ri M (v0 + 1) v8)) = 0 ∧ (v10 < v8))) → nk_Pile_wouldHave_62 v0 v3 v4 v5 v6 v7 v8 0 (mm_w (v10 + 1)) M R) ∧ (((mm_lcmp (nn_ri M (v0 + 1) v10) (nn_ri M (v0 + 1) v8)) ≤ 0 ∧ ((mm_lcmp (nn_ri M (v0 + 1) v10) (nn_ri M (v0 + 1) v8)) ≠ 0 ∨ (v8 ≤ v10))) → nk_Pile_wouldHave_152 v0 v3 v4 v5 v6 v7 v8 v10 1 M R))))))))))))) : nk_Pile_wouldHave_62 v0 v3 v4 v5 v6 v7 v8 v9 v10 M R := by
  intro n L N C0 C4
  have NN := nn_L_n L N
  show mm_Go (mm_run 1) mc_Pile_wouldHave _ (62, [(0, .inr (.inr v0)), (3, .inl v3), (4, .inr (.inr v4)), (5, .inl v5), (6, .inl v6), (7, .inl v7), (8, .inl v8), (9, .inl v9), (10, .inl v10)], [], M)
  refine mm_s1 rfl ?_
  refine mm_s1 rfl ?_
  refine mm_s1 rfl ⟨fun c66 => ?_, fun c66 => ?_⟩
  · show mm_Go (mm_run 1) mc_Pile_wouldHave _ (178, [(0, .inr (.inr v0)), (3, .inl v3), (4, .inr (.inr v4)), (5, .inl v5), (6, .inl v6), (7, .inl v7), (8, .inl v8), (9, .inl v9), (10, .inl v10)], [], M)
    replace h := h.1 c66
    exact nn_go_ext (nn_xc rfl (nn_xc rfl (nn_xc rfl (nn_xc rfl (nn_xc rfl (nn_xc rfl (nn_xc rfl (nn_xc rfl nn_xn)))))))) (h n L N C0 C4)
  · show mm_Go (mm_run 1) mc_Pile_wouldHave _ (69, [(0, .inr (.inr v0)), (3, .inl v3), (4, .inr (.inr v4)), (5, .inl v5), (6, .inl v6), (7, .inl v7), (8, .inl v8), (9, .inl v9), (10, .inl v10)], [], M)
    replace c66 := Int.not_le.mp c66
    replace h := h.2 c66
    refine mm_s1 rfl ?_
    refine mm_s1 rfl ⟨fun c71 => ?_, fun c71 => ?_⟩
    · show mm_Go (mm_run 1) mc_Pile_wouldHave _ (178, [(0, .inr (.inr v0)), (3, .inl v3), (4, .inr (.inr v4)), (5, .inl v5), (6, .inl v6), (7, .inl v7), (8, .inl v8), (9, .inl v9), (10, .inl v10)], [], M)
      replace h := h.1 c71
      exact nn_go_ext (nn_xc rfl (nn_xc rfl (nn_xc rfl (nn_xc rfl (nn_xc rfl (nn_xc rfl (nn_xc rfl (nn_xc rfl nn_xn)))))))) (h n L N C0 C4)
    · show mm_Go (mm_run 1) mc_Pile_wouldHave _ (74, [(0, .inr (.inr v0)), (3, .inl v3), (4, .inr (.inr v4)), (5, .inl v5), (6, .inl v6), (7, .inl v7), (8, .inl v8), (9, .inl v9), (10, .inl v10)], [], M)
      replace h := h.2 c71
      refine mm_s1 rfl ?_
      refine nn_getr rfl C0.1 (lf_6_0 L N C0) ?_
      refine mm_s1 rfl ?_
      obtain ⟨b80, h⟩ := h
      refine mm_s1 rfl ⟨nn_bd (na_6_0 NN C0) b80, ?_⟩
      show mm_Go (mm_run 1) mc_Pile_wouldHave _ (81, [(0, .inr (.inr v0)), (3, .inl v3), (4, .inr (.inr v4)), (5, .inl v5), (6, .inl v6), (7, .inl v7), (8, .inl v8), (9, .inl v9), (10, .inl v10)], [.inr (.inl (nn_ri M (v0 + 1) v8))], M)
      refine mm_s1 rfl ?_
      refine mm_s1 rfl ?_
      refine mm_s1 rfl ?_
      refine nn_getr rfl C0.1 (lf_6_0 L N C0) ?_
      refine mm_s1 rfl ?_
      show mm_Go (mm_run 1) mc_Pile_wouldHave _ (90, [(0, .inr (.inr v0)), (3, .inl v3), (4, .inr (.inr v4)), (5, .inl v5), (6, .inl v6), (7, .inl v7), (8, .inl v8), (9, .inl v9), (10, .inl v10)], [.inl v10, .inr (.inr (v0 + 1)), .inr (.inl (mm_lushr (nn_ri M (v0 + 1) v8) 32))], M)
      obtain ⟨b90, h⟩ := h
      refine mm_s1 rfl ⟨nn_bd (na_6_0 NN C0) b90, ?_⟩
      show mm_Go (mm_run 1) mc_Pile_wouldHave _ (91, [(0, .inr (.inr v0)), (3, .inl v3), (4, .inr (.inr v4)), (5, .inl v5), (6, .inl v6), (7, .inl v7), (8, .inl v8), (9, .inl v9), (10, .inl v10)], [.inr (.inl (nn_ri M (v0 + 1) v10)), .inr (.inl (mm_lushr (nn_ri M (v0 + 1) v8) 32))], M)
      refine mm_s1 rfl ?_
      refine mm_s1 rfl ?_
      refine mm_s1 rfl ?_
      refine mm_s1 rfl ⟨fun c95 => ?_, fun c95 => ?_⟩
      · show mm_Go (mm_run 1) mc_Pile_wouldHave _ (102, [(0, .inr (.inr v0)), (3, .inl v3), (4, .inr (.inr v4)), (5, .inl v5), (6, .inl v6), (7, .inl v7), (8, .inl v8), (9, .inl v9), (10, .inl v10)], [], M)
        replace h := h.1 c95
        refine mm_s1 rfl ?_
        refine mm_s1 rfl ?_
        show mm_Go (mm_run 1) mc_Pile_wouldHave _ (105, [(0, .inr (.inr v0)), (3, .inl v3), (4, .inr (.inr v4)), (5, .inl v5), (6, .inl v6), (7, .inl v7), (8, .inl v8), (9, .inl v9), (10, .inl v10), (11, .inl 0)], [], M)
        refine mm_s1 rfl ?_
        refine nn_getr rfl C0.1 (lf_6_0 L N C0) ?_
        refine mm_s1 rfl ?_
        obtain ⟨b111, h⟩ := h
        refine mm_s1 rfl ⟨nn_bd (na_6_0 NN C0) b111, ?_⟩
        show mm_Go (mm_run 1) mc_Pile_wouldHave _ (112, [(0, .inr (.inr v0)), (3, .inl v3), (4, .inr (.inr v4)), (5, .inl v5), (6, .inl v6), (7, .inl v7), (8, .inl v8), (9, .inl v9), (10, .inl v10), (11, .inl 0)], [.inr (.inl (nn_ri M (v0 + 1) v10))], M)
        refine mm_s1 rfl ?_
        refine nn_getr rfl C0.1 (lf_6_0 L N C0) ?_
        refine mm_s1 rfl ?_
        obtain ⟨b118, h⟩ := h
        refine mm_s1 rfl ⟨nn_bd (na_6_0 NN C0) b118, ?_⟩
        show mm_Go (mm_run 1) mc_Pile_wouldHave _ (119, [(0, .inr (.inr v0)), (3, .inl v3), (4, .inr (.inr v4)), (5, .inl v5), (6, .inl v6), (7, .inl v7), (8, .inl v8), (9, .inl v9), (10, .inl v10), (11, .inl 0)], [.inr (.inl (nn_ri M (v0 + 1) v8)), .inr (.inl (nn_ri M (v0 + 1) v10))], M)
        refine mm_s1 rfl ?_
        refine mm_s1 rfl ⟨fun c120 => ?_, fun c120 => ?_⟩
        · show mm_Go (mm_run 1) mc_Pile_wouldHave _ (148, [(0, .inr (.inr v0)), (3, .inl v3), (4, .inr (.inr v4)), (5, .inl v5), (6, .inl v6), (7, .inl v7), (8, .inl v8), (9, .inl v9), (10, .inl v10), (11, .inl 0)], [], M)
          refine mm_s1 rfl ?_
          refine mm_s1 rfl ?_
          show mm_Go (mm_run 1) mc_Pile_wouldHave _ (153, [(0, .inr (.inr v0)), (3, .inl v3), (4, .inr (.inr v4)), (5, .inl v5), (6, .inl v6), (7, .inl v7), (8, .inl v8), (9, .inl v9), (10, .inl v10), (11, .inl 0)], [.inl 1], M)
          refine mm_s1 rfl ?_
          show mm_Go (mm_run 1) mc_Pile_wouldHave _ (155, [(0, .inr (.inr v0)), (3, .inl v3), (4, .inr (.inr v4)), (5, .inl v5), (6, .inl v6), (7, .inl v7), (8, .inl v8), (9, .inl v9), (10, .inl v10), (11, .inl 0), (12, .inl 1)], [], M)
          refine mm_s1 rfl ?_
          refine mm_s1 rfl ⟨fun _ => ?_, fun c => absurd (show (0 : Int) = 0 by decide) c⟩
          show mm_Go (mm_run 1) mc_Pile_wouldHave _ (165, [(0, .inr (.inr v0)), (3, .inl v3), (4, .inr (.inr v4)), (5, .inl v5), (6, .inl v6), (7, .inl v7), (8, .inl v8), (9, .inl v9), (10, .inl v10), (11, .inl 0), (12, .inl 1)], [], M)
          refine mm_s1 rfl ?_
          refine mm_s1 rfl ?_
          show mm_Go (mm_run 1) mc_Pile_wouldHave _ (170, [(0, .inr (.inr v0)), (3, .inl v3), (4, .inr (.inr v4)), (5, .inl v5), (6, .inl v6), (7, .inl v7), (8, .inl v8), (9, .inl v9), (10, .inl v10), (11, .inl 0), (12, .inl 1)], [.inl 1], M)
          refine mm_s1 rfl ?_
          show mm_Go (mm_run 1) mc_Pile_wouldHave _ (172, [(0, .inr (.inr v0)), (3, .inl v3), (4, .inr (.inr v4)), (5, .inl v5), (6, .inl v6), (7, .inl v7), (8, .inl v8), (9, .inl 1), (10, .inl v10), (11, .inl 0), (12, .inl 1)], [], M)
          refine mm_s1 rfl ?_
          show mm_Go (mm_run 1) mc_Pile_wouldHave _ (175, [(0, .inr (.inr v0)), (3, .inl v3), (4, .inr (.inr v4)), (5, .inl v5), (6, .inl v6), (7, .inl v7), (8, .inl v8), (9, .inl 1), (10, .inl (mm_w (v10 + 1))), (11, .inl 0), (12, .inl 1)], [], M)
          refine mm_s1 rfl ?_
          show mm_Go (mm_run 1) mc_Pile_wouldHave _ (62, [(0, .inr (.inr v0)), (3, .inl v3), (4, .inr (.inr v4)), (5, .inl v5), (6, .inl v6), (7, .inl v7), (8, .inl v8), (9, .inl 1), (10, .inl (mm_w (v10 + 1))), (11, .inl 0), (12, .inl 1)], [], M)
          replace h := h.2.2.1 (Or.inl c120)
          exact nn_go_ext (nn_xc rfl (nn_xc rfl (nn_xc rfl (nn_xc rfl (nn_xc rfl (nn_xc rfl (nn_xc rfl (nn_xc rfl (nn_xc rfl nn_xn))))))))) (h n L N C0 C4)
        · show mm_Go (mm_run 1) mc_Pile_wouldHave _ (123, [(0, .inr (.inr v0)), (3, .inl v3), (4, .inr (.inr v4)), (5, .inl v5), (6, .inl v6), (7, .inl v7), (8, .inl v8), (9, .inl v9), (10, .inl v10), (11, .inl 0)], [], M)
          replace c120 := Int.not_lt.mp c120
          refine mm_s1 rfl ?_
          refine nn_getr rfl C0.1 (lf_6_0 L N C0) ?_
          refine mm_s1 rfl ?_
          have b129 := h.1 c120
          refine mm_s1 rfl ⟨nn_bd (na_6_0 NN C0) b129, ?_⟩
          show mm_Go (mm_run 1) mc_Pile_wouldHave _ (130, [(0, .inr (.inr v0)), (3, .inl v3), (4, .inr (.inr v4)), (5, .inl v5), (6, .inl v6), (7, .inl v7), (8, .inl v8), (9, .inl v9), (10, .inl v10), (11, .inl 0)], [.inr (.inl (nn_ri M (v0 + 1) v10))], M)
          refine mm_s1 rfl ?_
          refine nn_getr rfl C0.1 (lf_6_0 L N C0) ?_
          refine mm_s1 rfl ?_
          have b136 := h.2.1 c120
          refine mm_s1 rfl ⟨nn_bd (na_6_0 NN C0) b136, ?_⟩
          show mm_Go (mm_run 1) mc_Pile_wouldHave _ (137, [(0, .inr (.inr v0)), (3, .inl v3), (4, .inr (.inr v4)), (5, .inl v5), (6, .inl v6), (7, .inl v7), (8, .inl v8), (9, .inl v9), (10, .inl v10), (11, .inl 0)], [.inr (.inl (nn_ri M (v0 + 1) v8)), .inr (.inl (nn_ri M (v0 + 1) v10))], M)
          refine mm_s1 rfl ?_
          refine mm_s1 rfl ⟨fun c138 => ?_, fun c138 => ?_⟩
          · show mm_Go (mm_run 1) mc_Pile_wouldHave _ (152, [(0, .inr (.inr v0)), (3, .inl v3), (4, .inr (.inr v4)), (5, .inl v5), (6, .inl v6), (7, .inl v7), (8, .inl v8), (9, .inl v9), (10, .inl v10), (11, .inl 0)], [], M)
            replace h := h.2.2.2 ⟨c120, (Or.inl c138)⟩
            exact nn_go_ext (nn_xc rfl (nn_xc rfl (nn_xc rfl (nn_xc rfl (nn_xc rfl (nn_xc rfl (nn_xc rfl (nn_xc rfl (nn_xc rfl nn_xn))))))))) (h n L N C0 C4)
          · show mm_Go (mm_run 1) mc_Pile_wouldHave _ (141, [(0, .inr (.inr v0)), (3, .inl v3), (4, .inr (.inr v4)), (5, .inl v5), (6, .inl v6), (7, .inl v7), (8, .inl v8), (9, .inl v9), (10, .inl v10), (11, .inl 0)], [], M)
            replace c138 := Decidable.not_not.mp c138
            refine mm_s1 rfl ?_
            refine mm_s1 rfl ?_
            refine mm_s1 rfl ⟨fun c145 => ?_, fun c145 => ?_⟩
            · show mm_Go (mm_run 1) mc_Pile_wouldHave _ (152, [(0, .inr (.inr v0)), (3, .inl v3), (4, .inr (.inr v4)), (5, .inl v5), (6, .inl v6), (7, .inl v7), (8, .inl v8), (9, .inl v9), (10, .inl v10), (11, .inl 0)], [], M)
              replace h := h.2.2.2 ⟨c120, (Or.inr c145)⟩
              exact nn_go_ext (nn_xc rfl (nn_xc rfl (nn_xc rfl (nn_xc rfl (nn_xc rfl (nn_xc rfl (nn_xc rfl (nn_xc rfl (nn_xc rfl nn_xn))))))))) (h n L N C0 C4)
            · show mm_Go (mm_run 1) mc_Pile_wouldHave _ (148, [(0, .inr (.inr v0)), (3, .inl v3), (4, .inr (.inr v4)), (5, .inl v5), (6, .inl v6), (7, .inl v7), (8, .inl v8), (9, .inl v9), (10, .inl v10), (11, .inl 0)], [], M)
              replace c145 := Int.not_le.mp c145
              refine mm_s1 rfl ?_
              refine mm_s1 rfl ?_
              show mm_Go (mm_run 1) mc_Pile_wouldHave _ (153, [(0, .inr (.inr v0)), (3, .inl v3), (4, .inr (.inr v4)), (5, .inl v5), (6, .inl v6), (7, .inl v7), (8, .inl v8), (9, .inl v9), (10, .inl v10), (11, .inl 0)], [.inl 1], M)
              refine mm_s1 rfl ?_
              show mm_Go (mm_run 1) mc_Pile_wouldHave _ (155, [(0, .inr (.inr v0)), (3, .inl v3), (4, .inr (.inr v4)), (5, .inl v5), (6, .inl v6), (7, .inl v7), (8, .inl v8), (9, .inl v9), (10, .inl v10), (11, .inl 0), (12, .inl 1)], [], M)
              refine mm_s1 rfl ?_
              refine mm_s1 rfl ⟨fun _ => ?_, fun c => absurd (show (0 : Int) = 0 by decide) c⟩
              show mm_Go (mm_run 1) mc_Pile_wouldHave _ (165, [(0, .inr (.inr v0)), (3, .inl v3), (4, .inr (.inr v4)), (5, .inl v5), (6, .inl v6), (7, .inl v7), (8, .inl v8), (9, .inl v9), (10, .inl v10), (11, .inl 0), (12, .inl 1)], [], M)
              refine mm_s1 rfl ?_
              refine mm_s1 rfl ?_
              show mm_Go (mm_run 1) mc_Pile_wouldHave _ (170, [(0, .inr (.inr v0)), (3, .inl v3), (4, .inr (.inr v4)), (5, .inl v5), (6, .inl v6), (7, .inl v7), (8, .inl v8), (9, .inl v9), (10, .inl v10), (11, .inl 0), (12, .inl 1)], [.inl 1], M)
              refine mm_s1 rfl ?_
              show mm_Go (mm_run 1) mc_Pile_wouldHave _ (172, [(0, .inr (.inr v0)), (3, .inl v3), (4, .inr (.inr v4)), (5, .inl v5), (6, .inl v6), (7, .inl v7), (8, .inl v8), (9, .inl 1), (10, .inl v10), (11, .inl 0), (12, .inl 1)], [], M)
              refine mm_s1 rfl ?_
              show mm_Go (mm_run 1) mc_Pile_wouldHave _ (175, [(0, .inr (.inr v0)), (3, .inl v3), (4, .inr (.inr v4)), (5, .inl v5), (6, .inl v6), (7, .inl v7), (8, .inl v8), (9, .inl 1), (10, .inl (mm_w (v10 + 1))), (11, .inl 0), (12, .inl 1)], [], M)
              refine mm_s1 rfl ?_
              show mm_Go (mm_run 1) mc_Pile_wouldHave _ (62, [(0, .inr (.inr v0)), (3, .inl v3), (4, .inr (.inr v4)), (5, .inl v5), (6, .inl v6), (7, .inl v7), (8, .inl v8), (9, .inl 1), (10, .inl (mm_w (v10 + 1))), (11, .inl 0), (12, .inl 1)], [], M)
              replace h := h.2.2.1 (Or.inr ⟨c138, c145⟩)
              exact nn_go_ext (nn_xc rfl (nn_xc rfl (nn_xc rfl (nn_xc rfl (nn_xc rfl (nn_xc rfl (nn_xc rfl (nn_xc rfl (nn_xc rfl nn_xn))))))))) (h n L N C0 C4)
      · show mm_Go (mm_run 1) mc_Pile_wouldHave _ (98, [(0, .inr (.inr v0)), (3, .inl v3), (4, .inr (.inr v4)), (5, .inl v5), (6, .inl v6), (7, .inl v7), (8, .inl v8), (9, .inl v9), (10, .inl v10)], [], M)
        replace c95 := Decidable.not_not.mp c95
        replace h := h.2 c95
        refine mm_s1 rfl ?_
        refine mm_s1 rfl ?_
        show mm_Go (mm_run 1) mc_Pile_wouldHave _ (103, [(0, .inr (.inr v0)), (3, .inl v3), (4, .inr (.inr v4)), (5, .inl v5), (6, .inl v6), (7, .inl v7), (8, .inl v8), (9, .inl v9), (10, .inl v10)], [.inl 1], M)
        refine mm_s1 rfl ?_
        show mm_Go (mm_run 1) mc_Pile_wouldHave _ (105, [(0, .inr (.inr v0)), (3, .inl v3), (4, .inr (.inr v4)), (5, .inl v5), (6, .inl v6), (7, .inl v7), (8, .inl v8), (9, .inl v9), (10, .inl v10), (11, .inl 1)], [], M)
        refine mm_s1 rfl ?_
        refine nn_getr rfl C0.1 (lf_6_0 L N C0) ?_
        refine mm_s1 rfl ?_
        obtain ⟨b111, h⟩ := h
        refine mm_s1 rfl ⟨nn_bd (na_6_0 NN C0) b111, ?_⟩
        show mm_Go (mm_run 1) mc_Pile_wouldHave _ (112, [(0, .inr (.inr v0)), (3, .inl v3), (4, .inr (.inr v4)), (5, .inl v5), (6, .inl v6), (7, .inl v7), (8, .inl v8), (9, .inl v9), (10, .inl v10), (11, .inl 1)], [.inr (.inl (nn_ri M (v0 + 1) v10))], M)
        refine mm_s1 rfl ?_
        refine nn_getr rfl C0.1 (lf_6_0 L N C0) ?_
        refine mm_s1 rfl ?_
        obtain ⟨b118, h⟩ := h
        refine mm_s1 rfl ⟨nn_bd (na_6_0 NN C0) b118, ?_⟩
        show mm_Go (mm_run 1) mc_Pile_wouldHave _ (119, [(0, .inr (.inr v0)), (3, .inl v3), (4, .inr (.inr v4)), (5, .inl v5), (6, .inl v6), (7, .inl v7), (8, .inl v8), (9, .inl v9), (10, .inl v10), (11, .inl 1)], [.inr (.inl (nn_ri M (v0 + 1) v8)), .inr (.inl (nn_ri M (v0 + 1) v10))], M)
        refine mm_s1 rfl ?_
        refine mm_s1 rfl ⟨fun c120 => ?_, fun c120 => ?_⟩
        · show mm_Go (mm_run 1) mc_Pile_wouldHave _ (148, [(0, .inr (.inr v0)), (3, .inl v3), (4, .inr (.inr v4)), (5, .inl v5), (6, .inl v6), (7, .inl v7), (8, .inl v8), (9, .inl v9), (10, .inl v10), (11, .inl 1)], [], M)
          refine mm_s1 rfl ?_
          refine mm_s1 rfl ?_
          show mm_Go (mm_run 1) mc_Pile_wouldHave _ (153, [(0, .inr (.inr v0)), (3, .inl v3), (4, .inr (.inr v4)), (5, .inl v5), (6, .inl v6), (7, .inl v7), (8, .inl v8), (9, .inl v9), (10, .inl v10), (11, .inl 1)], [.inl 1], M)
          refine mm_s1 rfl ?_
          show mm_Go (mm_run 1) mc_Pile_wouldHave _ (155, [(0, .inr (.inr v0)), (3, .inl v3), (4, .inr (.inr v4)), (5, .inl v5), (6, .inl v6), (7, .inl v7), (8, .inl v8), (9, .inl v9), (10, .inl v10), (11, .inl 1), (12, .inl 1)], [], M)
          refine mm_s1 rfl ?_
          refine mm_s1 rfl ⟨fun c => absurd c (show ¬ ((1 : Int) = 0) by decide), fun _ => ?_⟩
          show mm_Go (mm_run 1) mc_Pile_wouldHave _ (160, [(0, .inr (.inr v0)), (3, .inl v3), (4, .inr (.inr v4)), (5, .inl v5), (6, .inl v6), (7, .inl v7), (8, .inl v8), (9, .inl v9), (10, .inl v10), (11, .inl 1), (12, .inl 1)], [], M)
          refine mm_s1 rfl ?_
          refine mm_s1 rfl ⟨fun _ => ?_, fun c => absurd (show (1 : Int) ≠ 0 by decide) c⟩
          show mm_Go (mm_run 1) mc_Pile_wouldHave _ (169, [(0, .inr (.inr v0)), (3, .inl v3), (4, .inr (.inr v4)), (5, .inl v5), (6, .inl v6), (7, .inl v7), (8, .inl v8), (9, .inl v9), (10, .inl v10), (11, .inl 1), (12, .inl 1)], [], M)
          refine mm_s1 rfl ?_
          refine mm_s1 rfl ?_
          show mm_Go (mm_run 1) mc_Pile_wouldHave _ (172, [(0, .inr (.inr v0)), (3, .inl v3), (4, .inr (.inr v4)), (5, .inl v5), (6, .inl v6), (7, .inl v7), (8, .inl v8), (9, .inl 0), (10, .inl v10), (11, .inl 1), (12, .inl 1)], [], M)
          refine mm_s1 rfl ?_
          show mm_Go (mm_run 1) mc_Pile_wouldHave _ (175, [(0, .inr (.inr v0)), (3, .inl v3), (4, .inr (.inr v4)), (5, .inl v5), (6, .inl v6), (7, .inl v7), (8, .inl v8), (9, .inl 0), (10, .inl (mm_w (v10 + 1))), (11, .inl 1), (12, .inl 1)], [], M)
          refine mm_s1 rfl ?_
          show mm_Go (mm_run 1) mc_Pile_wouldHave _ (62, [(0, .inr (.inr v0)), (3, .inl v3), (4, .inr (.inr v4)), (5, .inl v5), (6, .inl v6), (7, .inl v7), (8, .inl v8), (9, .inl 0), (10, .inl (mm_w (v10 + 1))), (11, .inl 1), (12, .inl 1)], [], M)
          replace h := h.2.2.1 (Or.inl c120)
          exact nn_go_ext (nn_xc rfl (nn_xc rfl (nn_xc rfl (nn_xc rfl (nn_xc rfl (nn_xc rfl (nn_xc rfl (nn_xc rfl (nn_xc rfl nn_xn))))))))) (h n L N C0 C4)
        · show mm_Go (mm_run 1) mc_Pile_wouldHave _ (123, [(0, .inr (.inr v0)), (3, .inl v3), (4, .inr (.inr v4)), (5, .inl v5), (6, .inl v6), (7, .inl v7), (8, .inl v8), (9, .inl v9), (10, .inl v10), (11, .inl 1)], [], M)
          replace c120 := Int.not_lt.mp c120
          refine mm_s1 rfl ?_
          refine nn_getr rfl C0.1 (lf_6_0 L N C0) ?_
          refine mm_s1 rfl ?_
          have b129 := h.1 c120
          refine mm_s1 rfl ⟨nn_bd (na_6_0 NN C0) b129, ?_⟩
          show mm_Go (mm_run 1) mc_Pile_wouldHave _ (130, [(0, .inr (.inr v0)), (3, .inl v3), (4, .inr (.inr v4)), (5, .inl v5), (6, .inl v6), (7, .inl v7), (8, .inl v8), (9, .inl v9), (10, .inl v10), (11, .inl 1)], [.inr (.inl (nn_ri M (v0 + 1) v10))], M)
          refine mm_s1 rfl ?_
          refine nn_getr rfl C0.1 (lf_6_0 L N C0) ?_
          refine mm_s1 rfl ?_
          have b136 := h.2.1 c120
          refine mm_s1 rfl ⟨nn_bd (na_6_0 NN C0) b136, ?_⟩
          show mm_Go (mm_run 1) mc_Pile_wouldHave _ (137, [(0, .inr (.inr v0)), (3, .inl v3), (4, .inr (.inr v4)), (5, .inl v5), (6, .inl v6), (7, .inl v7), (8, .inl v8), (9, .inl v9), (10, .inl v10), (11, .inl 1)], [.inr (.inl (nn_ri M (v0 + 1) v8)), .inr (.inl (nn_ri M (v0 + 1) v10))], M)
          refine mm_s1 rfl ?_
          refine mm_s1 rfl ⟨fun c138 => ?_, fun c138 => ?_⟩
          · show mm_Go (mm_run 1) mc_Pile_wouldHave _ (152, [(0, .inr (.inr v0)), (3, .inl v3), (4, .inr (.inr v4)), (5, .inl v5), (6, .inl v6), (7, .inl v7), (8, .inl v8), (9, .inl v9), (10, .inl v10), (11, .inl 1)], [], M)
            replace h := h.2.2.2 ⟨c120, (Or.inl c138)⟩
            exact nn_go_ext (nn_xc rfl (nn_xc rfl (nn_xc rfl (nn_xc rfl (nn_xc rfl (nn_xc rfl (nn_xc rfl (nn_xc rfl (nn_xc rfl nn_xn))))))))) (h n L N C0 C4)
          · show mm_Go (mm_run 1) mc_Pile_wouldHave _ (141, [(0, .inr (.inr v0)), (3, .inl v3), (4, .inr (.inr v4)), (5, .inl v5), (6, .inl v6), (7, .inl v7), (8, .inl v8), (9, .inl v9), (10, .inl v10), (11, .inl 1)], [], M)
            replace c138 := Decidable.not_not.mp c138
            refine mm_s1 rfl ?_
            refine mm_s1 rfl ?_
            refine mm_s1 rfl ⟨fun c145 => ?_, fun c145 => ?_⟩
            · show mm_Go (mm_run 1) mc_Pile_wouldHave _ (152, [(0, .inr (.inr v0)), (3, .inl v3), (4, .inr (.inr v4)), (5, .inl v5), (6, .inl v6), (7, .inl v7), (8, .inl v8), (9, .inl v9), (10, .inl v10), (11, .inl 1)], [], M)
              replace h := h.2.2.2 ⟨c120, (Or.inr c145)⟩
              exact nn_go_ext (nn_xc rfl (nn_xc rfl (nn_xc rfl (nn_xc rfl (nn_xc rfl (nn_xc rfl (nn_xc rfl (nn_xc rfl (nn_xc rfl nn_xn))))))))) (h n L N C0 C4)
            · show mm_Go (mm_run 1) mc_Pile_wouldHave _ (148, [(0, .inr (.inr v0)), (3, .inl v3), (4, .inr (.inr v4)), (5, .inl v5), (6, .inl v6), (7, .inl v7), (8, .inl v8), (9, .inl v9), (10, .inl v10), (11, .inl 1)], [], M)
              replace c145 := Int.not_le.mp c145
              refine mm_s1 rfl ?_
              refine mm_s1 rfl ?_
              show mm_Go (mm_run 1) mc_Pile_wouldHave _ (153, [(0, .inr (.inr v0)), (3, .inl v3), (4, .inr (.inr v4)), (5, .inl v5), (6, .inl v6), (7, .inl v7), (8, .inl v8), (9, .inl v9), (10, .inl v10), (11, .inl 1)], [.inl 1], M)
              refine mm_s1 rfl ?_
              show mm_Go (mm_run 1) mc_Pile_wouldHave _ (155, [(0, .inr (.inr v0)), (3, .inl v3), (4, .inr (.inr v4)), (5, .inl v5), (6, .inl v6), (7, .inl v7), (8, .inl v8), (9, .inl v9), (10, .inl v10), (11, .inl 1), (12, .inl 1)], [], M)
              refine mm_s1 rfl ?_
              refine mm_s1 rfl ⟨fun c => absurd c (show ¬ ((1 : Int) = 0) by decide), fun _ => ?_⟩
              show mm_Go (mm_run 1) mc_Pile_wouldHave _ (160, [(0, .inr (.inr v0)), (3, .inl v3), (4, .inr (.inr v4)), (5, .inl v5), (6, .inl v6), (7, .inl v7), (8, .inl v8), (9, .inl v9), (10, .inl v10), (11, .inl 1), (12, .inl 1)], [], M)
              refine mm_s1 rfl ?_
              refine mm_s1 rfl ⟨fun _ => ?_, fun c => absurd (show (1 : Int) ≠ 0 by decide) c⟩
              show mm_Go (mm_run 1) mc_Pile_wouldHave _ (169, [(0, .inr (.inr v0)), (3, .inl v3), (4, .inr (.inr v4)), (5, .inl v5), (6, .inl v6), (7, .inl v7), (8, .inl v8), (9, .inl v9), (10, .inl v10), (11, .inl 1), (12, .inl 1)], [], M)
              refine mm_s1 rfl ?_
              refine mm_s1 rfl ?_
              show mm_Go (mm_run 1) mc_Pile_wouldHave _ (172, [(0, .inr (.inr v0)), (3, .inl v3), (4, .inr (.inr v4)), (5, .inl v5), (6, .inl v6), (7, .inl v7), (8, .inl v8), (9, .inl 0), (10, .inl v10), (11, .inl 1), (12, .inl 1)], [], M)
              refine mm_s1 rfl ?_
              show mm_Go (mm_run 1) mc_Pile_wouldHave _ (175, [(0, .inr (.inr v0)), (3, .inl v3), (4, .inr (.inr v4)), (5, .inl v5), (6, .inl v6), (7, .inl v7), (8, .inl v8), (9, .inl 0), (10, .inl (mm_w (v10 + 1))), (11, .inl 1), (12, .inl 1)], [], M)
              refine mm_s1 rfl ?_
              show mm_Go (mm_run 1) mc_Pile_wouldHave _ (62, [(0, .inr (.inr v0)), (3, .inl v3), (4, .inr (.inr v4)), (5, .inl v5), (6, .inl v6), (7, .inl v7), (8, .inl v8), (9, .inl 0), (10, .inl (mm_w (v10 + 1))), (11, .inl 1), (12, .inl 1)], [], M)
              replace h := h.2.2.1 (Or.inr ⟨c138, c145⟩)
              exact nn_go_ext (nn_xc rfl (nn_xc rfl (nn_xc rfl (nn_xc rfl (nn_xc rfl (nn_xc rfl (nn_xc rfl (nn_xc rfl (nn_xc rfl nn_xn))))))))) (h n L N C0 C4)
set_option maxRecDepth 20000 in
theorem ng_Pile_wouldHave_178 (v0 : Nat) (v3 : Int) (v4 : Nat) (v5 : Int) (v6 : Int) (v7 : Int) (v8 : Int) (v9 : Int) (M : mm_M) (R : Int → mm_M → Prop) (h : ((v9 = 0 → nk_Pile_wouldHave_25 v0 v3 v4 v5 v6 (mm_w (v7 + 0)) (mm_w (v8 + 1)) M R) ∧ (v9 ≠ 0 → nk_Pile_wouldHave_25 v0 v3 v4 v5 v6 (mm_w (v7 + 1)) (mm_w (v8 + 1)) M R))) : nk_Pile_wouldHave_178 v0 v3 v4 v5 v6 v7 v8 v9 M R := by
  intro n L N C0 C4
  have NN := nn_L_n L N
  show mm_Go (mm_run 1) mc_Pile_wouldHave _ (178, [(0, .inr (.inr v0)), (3, .inl v3), (4, .inr (.inr v4)), (5, .inl v5), (6, .inl v6), (7, .inl v7), (8, .inl v8), (9, .inl v9)], [], M)
  refine mm_s1 rfl ?_
  refine mm_s1 rfl ?_
  refine mm_s1 rfl ⟨fun c182 => ?_, fun c182 => ?_⟩
  · show mm_Go (mm_run 1) mc_Pile_wouldHave _ (189, [(0, .inr (.inr v0)), (3, .inl v3), (4, .inr (.inr v4)), (5, .inl v5), (6, .inl v6), (7, .inl v7), (8, .inl v8), (9, .inl v9)], [.inl v7], M)
    replace h := h.1 c182
    refine mm_s1 rfl ?_
    refine mm_s1 rfl ?_
    refine mm_s1 rfl ?_
    show mm_Go (mm_run 1) mc_Pile_wouldHave _ (193, [(0, .inr (.inr v0)), (3, .inl v3), (4, .inr (.inr v4)), (5, .inl v5), (6, .inl v6), (7, .inl (mm_w (v7 + 0))), (8, .inl v8), (9, .inl v9)], [], M)
    refine mm_s1 rfl ?_
    show mm_Go (mm_run 1) mc_Pile_wouldHave _ (196, [(0, .inr (.inr v0)), (3, .inl v3), (4, .inr (.inr v4)), (5, .inl v5), (6, .inl v6), (7, .inl (mm_w (v7 + 0))), (8, .inl (mm_w (v8 + 1))), (9, .inl v9)], [], M)
    refine mm_s1 rfl ?_
    show mm_Go (mm_run 1) mc_Pile_wouldHave _ (25, [(0, .inr (.inr v0)), (3, .inl v3), (4, .inr (.inr v4)), (5, .inl v5), (6, .inl v6), (7, .inl (mm_w (v7 + 0))), (8, .inl (mm_w (v8 + 1))), (9, .inl v9)], [], M)
    exact nn_go_ext (nn_xc rfl (nn_xc rfl (nn_xc rfl (nn_xc rfl (nn_xc rfl (nn_xc rfl (nn_xc rfl nn_xn))))))) (h n L N C0 C4)
  · show mm_Go (mm_run 1) mc_Pile_wouldHave _ (185, [(0, .inr (.inr v0)), (3, .inl v3), (4, .inr (.inr v4)), (5, .inl v5), (6, .inl v6), (7, .inl v7), (8, .inl v8), (9, .inl v9)], [.inl v7], M)
    replace h := h.2 c182
    refine mm_s1 rfl ?_
    refine mm_s1 rfl ?_
    show mm_Go (mm_run 1) mc_Pile_wouldHave _ (190, [(0, .inr (.inr v0)), (3, .inl v3), (4, .inr (.inr v4)), (5, .inl v5), (6, .inl v6), (7, .inl v7), (8, .inl v8), (9, .inl v9)], [.inl 1, .inl v7], M)
    refine mm_s1 rfl ?_
    refine mm_s1 rfl ?_
    show mm_Go (mm_run 1) mc_Pile_wouldHave _ (193, [(0, .inr (.inr v0)), (3, .inl v3), (4, .inr (.inr v4)), (5, .inl v5), (6, .inl v6), (7, .inl (mm_w (v7 + 1))), (8, .inl v8), (9, .inl v9)], [], M)
    refine mm_s1 rfl ?_
    show mm_Go (mm_run 1) mc_Pile_wouldHave _ (196, [(0, .inr (.inr v0)), (3, .inl v3), (4, .inr (.inr v4)), (5, .inl v5), (6, .inl v6), (7, .inl (mm_w (v7 + 1))), (8, .inl (mm_w (v8 + 1))), (9, .inl v9)], [], M)
    refine mm_s1 rfl ?_
    show mm_Go (mm_run 1) mc_Pile_wouldHave _ (25, [(0, .inr (.inr v0)), (3, .inl v3), (4, .inr (.inr v4)), (5, .inl v5), (6, .inl v6), (7, .inl (mm_w (v7 + 1))), (8, .inl (mm_w (v8 + 1))), (9, .inl v9)], [], M)
    exact nn_go_ext (nn_xc rfl (nn_xc rfl (nn_xc rfl (nn_xc rfl (nn_xc rfl (nn_xc rfl (nn_xc rfl nn_xn))))))) (h n L N C0 C4)
set_option maxRecDepth 20000 in
theorem ng_Pile_wouldHave_152 (v0 : Nat) (v3 : Int) (v4 : Nat) (v5 : Int) (v6 : Int) (v7 : Int) (v8 : Int) (v10 : Int) (v11 : Int) (M : mm_M) (R : Int → mm_M → Prop) (h : nk_Pile_wouldHave_62 v0 v3 v4 v5 v6 v7 v8 1 (mm_w (v10 + 1)) M R) : nk_Pile_wouldHave_152 v0 v3 v4 v5 v6 v7 v8 v10 v11 M R := by
  intro n L N C0 C4
  have NN := nn_L_n L N
  show mm_Go (mm_run 1) mc_Pile_wouldHave _ (152, [(0, .inr (.inr v0)), (3, .inl v3), (4, .inr (.inr v4)), (5, .inl v5), (6, .inl v6), (7, .inl v7), (8, .inl v8), (10, .inl v10), (11, .inl v11)], [], M)
  refine mm_s1 rfl ?_
  refine mm_s1 rfl ?_
  show mm_Go (mm_run 1) mc_Pile_wouldHave _ (155, [(0, .inr (.inr v0)), (3, .inl v3), (4, .inr (.inr v4)), (5, .inl v5), (6, .inl v6), (7, .inl v7), (8, .inl v8), (10, .inl v10), (11, .inl v11), (12, .inl 0)], [], M)
  refine mm_s1 rfl ?_
  refine mm_s1 rfl ⟨fun c157 => ?_, fun c157 => ?_⟩
  · show mm_Go (mm_run 1) mc_Pile_wouldHave _ (165, [(0, .inr (.inr v0)), (3, .inl v3), (4, .inr (.inr v4)), (5, .inl v5), (6, .inl v6), (7, .inl v7), (8, .inl v8), (10, .inl v10), (11, .inl v11), (12, .inl 0)], [], M)
    refine mm_s1 rfl ?_
    refine mm_s1 rfl ?_
    show mm_Go (mm_run 1) mc_Pile_wouldHave _ (170, [(0, .inr (.inr v0)), (3, .inl v3), (4, .inr (.inr v4)), (5, .inl v5), (6, .inl v6), (7, .inl v7), (8, .inl v8), (10, .inl v10), (11, .inl v11), (12, .inl 0)], [.inl 1], M)
    refine mm_s1 rfl ?_
    show mm_Go (mm_run 1) mc_Pile_wouldHave _ (172, [(0, .inr (.inr v0)), (3, .inl v3), (4, .inr (.inr v4)), (5, .inl v5), (6, .inl v6), (7, .inl v7), (8, .inl v8), (10, .inl v10), (11, .inl v11), (12, .inl 0), (9, .inl 1)], [], M)
    refine mm_s1 rfl ?_
    show mm_Go (mm_run 1) mc_Pile_wouldHave _ (175, [(0, .inr (.inr v0)), (3, .inl v3), (4, .inr (.inr v4)), (5, .inl v5), (6, .inl v6), (7, .inl v7), (8, .inl v8), (10, .inl (mm_w (v10 + 1))), (11, .inl v11), (12, .inl 0), (9, .inl 1)], [], M)
    refine mm_s1 rfl ?_
    show mm_Go (mm_run 1) mc_Pile_wouldHave _ (62, [(0, .inr (.inr v0)), (3, .inl v3), (4, .inr (.inr v4)), (5, .inl v5), (6, .inl v6), (7, .inl v7), (8, .inl v8), (10, .inl (mm_w (v10 + 1))), (11, .inl v11), (12, .inl 0), (9, .inl 1)], [], M)
    exact nn_go_ext (nn_xc rfl (nn_xc rfl (nn_xc rfl (nn_xc rfl (nn_xc rfl (nn_xc rfl (nn_xc rfl (nn_xc rfl (nn_xc rfl nn_xn))))))))) (h n L N C0 C4)
  · show mm_Go (mm_run 1) mc_Pile_wouldHave _ (160, [(0, .inr (.inr v0)), (3, .inl v3), (4, .inr (.inr v4)), (5, .inl v5), (6, .inl v6), (7, .inl v7), (8, .inl v8), (10, .inl v10), (11, .inl v11), (12, .inl 0)], [], M)
    refine mm_s1 rfl ?_
    refine mm_s1 rfl ⟨fun c => absurd c (show ¬ ((0 : Int) ≠ 0) by decide), fun _ => ?_⟩
    show mm_Go (mm_run 1) mc_Pile_wouldHave _ (165, [(0, .inr (.inr v0)), (3, .inl v3), (4, .inr (.inr v4)), (5, .inl v5), (6, .inl v6), (7, .inl v7), (8, .inl v8), (10, .inl v10), (11, .inl v11), (12, .inl 0)], [], M)
    refine mm_s1 rfl ?_
    refine mm_s1 rfl ?_
    show mm_Go (mm_run 1) mc_Pile_wouldHave _ (170, [(0, .inr (.inr v0)), (3, .inl v3), (4, .inr (.inr v4)), (5, .inl v5), (6, .inl v6), (7, .inl v7), (8, .inl v8), (10, .inl v10), (11, .inl v11), (12, .inl 0)], [.inl 1], M)
    refine mm_s1 rfl ?_
    show mm_Go (mm_run 1) mc_Pile_wouldHave _ (172, [(0, .inr (.inr v0)), (3, .inl v3), (4, .inr (.inr v4)), (5, .inl v5), (6, .inl v6), (7, .inl v7), (8, .inl v8), (10, .inl v10), (11, .inl v11), (12, .inl 0), (9, .inl 1)], [], M)
    refine mm_s1 rfl ?_
    show mm_Go (mm_run 1) mc_Pile_wouldHave _ (175, [(0, .inr (.inr v0)), (3, .inl v3), (4, .inr (.inr v4)), (5, .inl v5), (6, .inl v6), (7, .inl v7), (8, .inl v8), (10, .inl (mm_w (v10 + 1))), (11, .inl v11), (12, .inl 0), (9, .inl 1)], [], M)
    refine mm_s1 rfl ?_
    show mm_Go (mm_run 1) mc_Pile_wouldHave _ (62, [(0, .inr (.inr v0)), (3, .inl v3), (4, .inr (.inr v4)), (5, .inl v5), (6, .inl v6), (7, .inl v7), (8, .inl v8), (10, .inl (mm_w (v10 + 1))), (11, .inl v11), (12, .inl 0), (9, .inl 1)], [], M)
    exact nn_go_ext (nn_xc rfl (nn_xc rfl (nn_xc rfl (nn_xc rfl (nn_xc rfl (nn_xc rfl (nn_xc rfl (nn_xc rfl (nn_xc rfl nn_xn))))))))) (h n L N C0 C4)
def nr_Pile_copy (v0 : Nat) (v1 : Nat) (M : mm_M) (R : mm_M → Prop) : Prop := ∀ n, nn_L M → M.1 = n → nn_C 6 v0 n → nn_C 6 v1 n → mm_run 2 mi_Pile_copy [.inr (.inr v0), .inr (.inr v1)] M (nw_V n R)
set_option maxRecDepth 20000 in
theorem ng_Pile_copy (v0 : Nat) (v1 : Nat) (M : mm_M) (R : mm_M → Prop) (h : (∀ M5 : mm_M, M5 = nn_uf M v0 5 (nn_rf M v1 5) → ((nc_Pile_size v1 M5) ∧ (((0 : Int) ≤ 0 ∧ (0 : Int) ≤ 0 ∧ (0 : Int) ≤ (nf_Pile_size v1 M5) ∧ (0 : Int) + (nf_Pile_size v1 M5) ≤ 144 ∧ (0 : Int) + (nf_Pile_size v1 M5) ≤ 144) ∧ (∀ M22 : mm_M, M22 = mm_cp M5 (v1 + 1) 0 (v0 + 1) 0 (nf_Pile_size v1 M5) → (((0 : Int) ≤ 0 ∧ (0 : Int) ≤ 0 ∧ (0 : Int) ≤ (mm_w ((nn_rf M22 v0 5) + 1)) ∧ (0 : Int) + (mm_w ((nn_rf M22 v0 5) + 1)) ≤ 25 ∧ (0 : Int) + (mm_w ((nn_rf M22 v0 5) + 1)) ≤ 25) ∧ (∀ M41 : mm_M, M41 = mm_cp M22 (v1 + 2) 0 (v0 + 2) 0 (mm_w ((nn_rf M22 v0 5) + 1)) → (((0 : Int) ≤ 0 ∧ (0 : Int) ≤ 0 ∧ (0 : Int) ≤ (nn_rf M41 v0 5) ∧ (0 : Int) + (nn_rf M41 v0 5) ≤ 24 ∧ (0 : Int) + (nn_rf M41 v0 5) ≤ 24) ∧ (∀ M58 : mm_M, M58 = mm_cp M41 (v1 + 3) 0 (v0 + 3) 0 (nn_rf M41 v0 5) → (((0 : Int) ≤ 0 ∧ (0 : Int) ≤ 0 ∧ (0 : Int) ≤ (nn_rf M58 v0 5) ∧ (0 : Int) + (nn_rf M58 v0 5) ≤ 24 ∧ (0 : Int) + (nn_rf M58 v0 5) ≤ 24) ∧ (∀ M75 : mm_M, M75 = mm_cp M58 (v1 + 4) 0 (v0 + 4) 0 (nn_rf M58 v0 5) → (((0 : Int) ≤ 0 ∧ (0 : Int) ≤ 0 ∧ (0 : Int) ≤ (nn_rf M75 v0 5) ∧ (0 : Int) + (nn_rf M75 v0 5) ≤ 24 ∧ (0 : Int) + (nn_rf M75 v0 5) ≤ 24) ∧ (∀ M92 : mm_M, M92 = mm_cp M75 (v1 + 5) 0 (v0 + 5) 0 (nn_rf M75 v0 5) → R M92))))))))))))) : nr_Pile_copy v0 v1 M R := by
  intro n L N C0 C1
  have NN := nn_L_n L N
  show mm_Go (mm_run 1) mc_Pile_copy _ (0, [(0, .inr (.inr v0)), (1, .inr (.inr v1))], [], M)
  refine mm_s1 rfl ?_
  refine mm_s1 rfl ?_
  refine mm_s1 rfl ⟨C1.1, ?_⟩
  show mm_Go (mm_run 1) mc_Pile_copy _ (5, [(0, .inr (.inr v0)), (1, .inr (.inr v1))], [.inl (nn_rf M v1 5), .inr (.inr v0)], M)
  refine mm_s1 rfl ⟨C0.1, ?_⟩
  show mm_Go (mm_run 1) mc_Pile_copy _ (8, [(0, .inr (.inr v0)), (1, .inr (.inr v1))], [], (nn_uf M v0 5 (nn_rf M v1 5)))
  have L : nn_L (nn_uf M v0 5 (nn_rf M v1 5)) := nn_L_up L C0.1 rfl
  have N : (nn_uf M v0 5 (nn_rf M v1 5)).1 = n := N
  generalize e_M5 : (nn_uf M v0 5 (nn_rf M v1 5)) = M5 at L N ⊢
  replace h := h _ e_M5.symm
  show mm_Go (mm_run 1) mc_Pile_copy _ (8, [(0, .inr (.inr v0)), (1, .inr (.inr v1))], [], M5)
  refine mm_s1 rfl ?_
  refine nn_getr rfl C1.1 (lf_6_0 L N C1) ?_
  refine mm_s1 rfl ?_
  refine mm_s1 rfl ?_
  refine nn_getr rfl C0.1 (lf_6_0 L N C0) ?_
  show mm_Go (mm_run 1) mc_Pile_copy _ (17, [(0, .inr (.inr v0)), (1, .inr (.inr v1))], [.inr (.inr (v0 + 1)), .inl 0, .inr (.inr (v1 + 1))], M5)
  refine mm_s1 rfl ?_
  refine mm_s1 rfl ?_
  obtain ⟨b19, h⟩ := h
  refine mm_s1 rfl ⟨C1.1, ?_⟩
  refine np_Pile_size (by decide) L N C1 b19 ?_
  show mm_Go (mm_run 1) mc_Pile_copy _ (22, [(0, .inr (.inr v0)), (1, .inr (.inr v1))], [.inl (nf_Pile_size v1 M5), .inl 0, .inr (.inr (v0 + 1)), .inl 0, .inr (.inr (v1 + 1))], M5)
  obtain ⟨b22, h⟩ := h
  refine mm_s1 rfl ⟨nn_ac (nc_6_0 NN C1).1 (nc_6_0 NN C0).1 (by decide) (congrArg (fun q : Nat × Nat => ((q.2 : Nat) : Int)) (na_6_0 NN C1)) (congrArg (fun q : Nat × Nat => ((q.2 : Nat) : Int)) (na_6_0 NN C0)) b22, ?_⟩
  show mm_Go (mm_run 1) mc_Pile_copy _ (25, [(0, .inr (.inr v0)), (1, .inr (.inr v1))], [], (mm_cp M5 (v1 + 1) 0 (v0 + 1) 0 (nf_Pile_size v1 M5)))
  have L : nn_L (mm_cp M5 (v1 + 1) 0 (v0 + 1) 0 (nf_Pile_size v1 M5)) := nn_L_cp L (nc_6_0 NN C0).1 (by decide)
  have N : (mm_cp M5 (v1 + 1) 0 (v0 + 1) 0 (nf_Pile_size v1 M5)).1 = n := N
  generalize e_M22 : (mm_cp M5 (v1 + 1) 0 (v0 + 1) 0 (nf_Pile_size v1 M5)) = M22 at L N ⊢
  replace h := h _ e_M22.symm
  show mm_Go (mm_run 1) mc_Pile_copy _ (25, [(0, .inr (.inr v0)), (1, .inr (.inr v1))], [], M22)
  refine mm_s1 rfl ?_
  refine nn_getr rfl C1.1 (lf_6_1 L N C1) ?_
  refine mm_s1 rfl ?_
  refine mm_s1 rfl ?_
  refine nn_getr rfl C0.1 (lf_6_1 L N C0) ?_
  show mm_Go (mm_run 1) mc_Pile_copy _ (34, [(0, .inr (.inr v0)), (1, .inr (.inr v1))], [.inr (.inr (v0 + 2)), .inl 0, .inr (.inr (v1 + 2))], M22)
  refine mm_s1 rfl ?_
  refine mm_s1 rfl ?_
  refine mm_s1 rfl ⟨C0.1, ?_⟩
  show mm_Go (mm_run 1) mc_Pile_copy _ (39, [(0, .inr (.inr v0)), (1, .inr (.inr v1))], [.inl (nn_rf M22 v0 5), .inl 0, .inr (.inr (v0 + 2)), .inl 0, .inr (.inr (v1 + 2))], M22)
  refine mm_s1 rfl ?_
  refine mm_s1 rfl ?_
  obtain ⟨b41, h⟩ := h
  refine mm_s1 rfl ⟨nn_ac (nc_6_1 NN C1).1 (nc_6_1 NN C0).1 (by decide) (congrArg (fun q : Nat × Nat => ((q.2 : Nat) : Int)) (na_6_1 NN C1)) (congrArg (fun q : Nat × Nat => ((q.2 : Nat) : Int)) (na_6_1 NN C0)) b41, ?_⟩
  show mm_Go (mm_run 1) mc_Pile_copy _ (44, [(0, .inr (.inr v0)), (1, .inr (.inr v1))], [], (mm_cp M22 (v1 + 2) 0 (v0 + 2) 0 (mm_w ((nn_rf M22 v0 5) + 1))))
  have L : nn_L (mm_cp M22 (v1 + 2) 0 (v0 + 2) 0 (mm_w ((nn_rf M22 v0 5) + 1))) := nn_L_cp L (nc_6_1 NN C0).1 (by decide)
  have N : (mm_cp M22 (v1 + 2) 0 (v0 + 2) 0 (mm_w ((nn_rf M22 v0 5) + 1))).1 = n := N
  generalize e_M41 : (mm_cp M22 (v1 + 2) 0 (v0 + 2) 0 (mm_w ((nn_rf M22 v0 5) + 1))) = M41 at L N ⊢
  replace h := h _ e_M41.symm
  show mm_Go (mm_run 1) mc_Pile_copy _ (44, [(0, .inr (.inr v0)), (1, .inr (.inr v1))], [], M41)
  refine mm_s1 rfl ?_
  refine nn_getr rfl C1.1 (lf_6_2 L N C1) ?_
  refine mm_s1 rfl ?_
  refine mm_s1 rfl ?_
  refine nn_getr rfl C0.1 (lf_6_2 L N C0) ?_
  show mm_Go (mm_run 1) mc_Pile_copy _ (53, [(0, .inr (.inr v0)), (1, .inr (.inr v1))], [.inr (.inr (v0 + 3)), .inl 0, .inr (.inr (v1 + 3))], M41)
  refine mm_s1 rfl ?_
  refine mm_s1 rfl ?_
  refine mm_s1 rfl ⟨C0.1, ?_⟩
  show mm_Go (mm_run 1) mc_Pile_copy _ (58, [(0, .inr (.inr v0)), (1, .inr (.inr v1))], [.inl (nn_rf M41 v0 5), .inl 0, .inr (.inr (v0 + 3)), .inl 0, .inr (.inr (v1 + 3))], M41)
  obtain ⟨b58, h⟩ := h
  refine mm_s1 rfl ⟨nn_ac (nc_6_2 NN C1).1 (nc_6_2 NN C0).1 (by decide) (congrArg (fun q : Nat × Nat => ((q.2 : Nat) : Int)) (na_6_2 NN C1)) (congrArg (fun q : Nat × Nat => ((q.2 : Nat) : Int)) (na_6_2 NN C0)) b58, ?_⟩
  show mm_Go (mm_run 1) mc_Pile_copy _ (61, [(0, .inr (.inr v0)), (1, .inr (.inr v1))], [], (mm_cp M41 (v1 + 3) 0 (v0 + 3) 0 (nn_rf M41 v0 5)))
  have L : nn_L (mm_cp M41 (v1 + 3) 0 (v0 + 3) 0 (nn_rf M41 v0 5)) := nn_L_cp L (nc_6_2 NN C0).1 (by decide)
  have N : (mm_cp M41 (v1 + 3) 0 (v0 + 3) 0 (nn_rf M41 v0 5)).1 = n := N
  generalize e_M58 : (mm_cp M41 (v1 + 3) 0 (v0 + 3) 0 (nn_rf M41 v0 5)) = M58 at L N ⊢
  replace h := h _ e_M58.symm
  show mm_Go (mm_run 1) mc_Pile_copy _ (61, [(0, .inr (.inr v0)), (1, .inr (.inr v1))], [], M58)
  refine mm_s1 rfl ?_
  refine nn_getr rfl C1.1 (lf_6_3 L N C1) ?_
  refine mm_s1 rfl ?_
  refine mm_s1 rfl ?_
  refine nn_getr rfl C0.1 (lf_6_3 L N C0) ?_
  show mm_Go (mm_run 1) mc_Pile_copy _ (70, [(0, .inr (.inr v0)), (1, .inr (.inr v1))], [.inr (.inr (v0 + 4)), .inl 0, .inr (.inr (v1 + 4))], M58)
  refine mm_s1 rfl ?_
  refine mm_s1 rfl ?_
  refine mm_s1 rfl ⟨C0.1, ?_⟩
  show mm_Go (mm_run 1) mc_Pile_copy _ (75, [(0, .inr (.inr v0)), (1, .inr (.inr v1))], [.inl (nn_rf M58 v0 5), .inl 0, .inr (.inr (v0 + 4)), .inl 0, .inr (.inr (v1 + 4))], M58)
  obtain ⟨b75, h⟩ := h
  refine mm_s1 rfl ⟨nn_ac (nc_6_3 NN C1).1 (nc_6_3 NN C0).1 (by decide) (congrArg (fun q : Nat × Nat => ((q.2 : Nat) : Int)) (na_6_3 NN C1)) (congrArg (fun q : Nat × Nat => ((q.2 : Nat) : Int)) (na_6_3 NN C0)) b75, ?_⟩
  show mm_Go (mm_run 1) mc_Pile_copy _ (78, [(0, .inr (.inr v0)), (1, .inr (.inr v1))], [], (mm_cp M58 (v1 + 4) 0 (v0 + 4) 0 (nn_rf M58 v0 5)))
  have L : nn_L (mm_cp M58 (v1 + 4) 0 (v0 + 4) 0 (nn_rf M58 v0 5)) := nn_L_cp L (nc_6_3 NN C0).1 (by decide)
  have N : (mm_cp M58 (v1 + 4) 0 (v0 + 4) 0 (nn_rf M58 v0 5)).1 = n := N
  generalize e_M75 : (mm_cp M58 (v1 + 4) 0 (v0 + 4) 0 (nn_rf M58 v0 5)) = M75 at L N ⊢
  replace h := h _ e_M75.symm
  show mm_Go (mm_run 1) mc_Pile_copy _ (78, [(0, .inr (.inr v0)), (1, .inr (.inr v1))], [], M75)
  refine mm_s1 rfl ?_
  refine nn_getr rfl C1.1 (lf_6_4 L N C1) ?_
  refine mm_s1 rfl ?_
  refine mm_s1 rfl ?_
  refine nn_getr rfl C0.1 (lf_6_4 L N C0) ?_
  show mm_Go (mm_run 1) mc_Pile_copy _ (87, [(0, .inr (.inr v0)), (1, .inr (.inr v1))], [.inr (.inr (v0 + 5)), .inl 0, .inr (.inr (v1 + 5))], M75)
  refine mm_s1 rfl ?_
  refine mm_s1 rfl ?_
  refine mm_s1 rfl ⟨C0.1, ?_⟩
  show mm_Go (mm_run 1) mc_Pile_copy _ (92, [(0, .inr (.inr v0)), (1, .inr (.inr v1))], [.inl (nn_rf M75 v0 5), .inl 0, .inr (.inr (v0 + 5)), .inl 0, .inr (.inr (v1 + 5))], M75)
  obtain ⟨b92, h⟩ := h
  refine mm_s1 rfl ⟨nn_ac (nc_6_4 NN C1).1 (nc_6_4 NN C0).1 (by decide) (congrArg (fun q : Nat × Nat => ((q.2 : Nat) : Int)) (na_6_4 NN C1)) (congrArg (fun q : Nat × Nat => ((q.2 : Nat) : Int)) (na_6_4 NN C0)) b92, ?_⟩
  show mm_Go (mm_run 1) mc_Pile_copy _ (95, [(0, .inr (.inr v0)), (1, .inr (.inr v1))], [], (mm_cp M75 (v1 + 5) 0 (v0 + 5) 0 (nn_rf M75 v0 5)))
  have L : nn_L (mm_cp M75 (v1 + 5) 0 (v0 + 5) 0 (nn_rf M75 v0 5)) := nn_L_cp L (nc_6_4 NN C0).1 (by decide)
  have N : (mm_cp M75 (v1 + 5) 0 (v0 + 5) 0 (nn_rf M75 v0 5)).1 = n := N
  generalize e_M92 : (mm_cp M75 (v1 + 5) 0 (v0 + 5) 0 (nn_rf M75 v0 5)) = M92 at L N ⊢
  replace h := h _ e_M92.symm
  show mm_Go (mm_run 1) mc_Pile_copy _ (95, [(0, .inr (.inr v0)), (1, .inr (.inr v1))], [], M92)
  exact mm_s1 rfl ⟨rfl, L, N, h⟩
def nr_Reader_readTerm (v1 : Nat) (v2 : Int) (M : mm_M) (R : Int → mm_M → Prop) : Prop := ∀ n, nn_L M → M.1 = n → nn_C 8 v1 n → mm_run 2 mi_Reader_readTerm [.inr (.inr 402), .inr (.inr v1), .inl v2] M (nw_Z n R)
set_option maxRecDepth 20000 in
theorem ng_Reader_readTerm (v1 : Nat) (v2 : Int) (M : mm_M) (R : Int → mm_M → Prop) (h : (((0 : Int) ≤ (nn_rf M 402 3) ∧ (nn_rf M 402 3) < (201 : Int)) ∧ (((nn_ri M 403 (nn_rf M 402 3)) ≠ 1 → (((0 : Int) ≤ (nn_rf M 402 3) ∧ (nn_rf M 402 3) < (201 : Int)) ∧ (((nn_ri M 403 (nn_rf M 402 3)) = 2 → (((0 : Int) ≤ (nn_rf M 402 3) ∧ (nn_rf M 402 3) < (201 : Int)) ∧ (nr_Rule_add v1 v2 (nn_ri M 405 (nn_rf M 402 3)) 1 M (fun M80 => (∀ M90 : mm_M, M90 = nn_uf M80 402 3 (mm_w ((nn_rf M80 402 3) + 1)) → R 1 M90))))) ∧ ((nn_ri M 403 (nn_rf M 402 3)) ≠ 2 → R 0 M)))) ∧ ((nn_ri M 403 (nn_rf M 402 3)) = 1 → (((0 : Int) ≤ (nn_rf M 402 3) ∧ (nn_rf M 402 3) < (201 : Int)) ∧ (∀ M32 : mm_M, M32 = nn_uf M 402 3 (mm_w ((nn_rf M 402 3) + 1)) → (nr_Reader_passes 9 M32 (fun r38 M38 => ((r38 ≠ 0 → (((0 : Int) ≤ (nn_rf M38 402 3) ∧ (nn_rf M38 402 3) < (201 : Int)) ∧ (((nn_ri M38 403 (nn_rf M38 402 3)) = 2 → (((0 : Int) ≤ (nn_rf M38 402 3) ∧ (nn_rf M38 402 3) < (201 : Int)) ∧ (nr_Rule_add v1 v2 (nn_ri M38 405 (nn_rf M38 402 3)) (nn_ri M 405 (nn_rf M 402 3)) M38 (fun M80 => (∀ M90 : mm_M, M90 = nn_uf M80 402 3 (mm_w ((nn_rf M80 402 3) + 1)) → R 1 M90))))) ∧ ((nn_ri M38 403 (nn_rf M38 402 3)) ≠ 2 → R 0 M38)))) ∧ (r38 = 0 → (nr_Rule_add v1 v2 4 (nn_ri M 405 (nn_rf M 402 3)) M38 (fun M48 => R 1 M48)))))))))))) : nr_Reader_readTerm v1 v2 M R := by
  intro n L N C1
  have NN := nn_L_n L N
  show mm_Go (mm_run 1) mc_Reader_readTerm _ (0, [(0, .inr (.inr 402)), (1, .inr (.inr v1)), (2, .inl v2)], [], M)
  refine mm_s1 rfl ?_
  refine mm_s1 rfl ?_
  show mm_Go (mm_run 1) mc_Reader_readTerm _ (2, [(0, .inr (.inr 402)), (1, .inr (.inr v1)), (2, .inl v2), (3, .inl 1)], [], M)
  refine mm_s1 rfl ?_
  refine nn_getr rfl (nn_c402 NN).1 (lf_7_0 L N (nn_c402 NN)) ?_
  refine mm_s1 rfl ?_
  refine mm_s1 rfl ⟨(nn_c402 NN).1, ?_⟩
  show mm_Go (mm_run 1) mc_Reader_readTerm _ (10, [(0, .inr (.inr 402)), (1, .inr (.inr v1)), (2, .inl v2), (3, .inl 1)], [.inl (nn_rf M 402 3), .inr (.inr 403)], M)
  obtain ⟨b10, h⟩ := h
  refine mm_s1 rfl ⟨nn_bd (na_7_0 NN (nn_c402 NN)) b10, ?_⟩
  show mm_Go (mm_run 1) mc_Reader_readTerm _ (11, [(0, .inr (.inr 402)), (1, .inr (.inr v1)), (2, .inl v2), (3, .inl 1)], [.inl (nn_ri M 403 (nn_rf M 402 3))], M)
  refine mm_s1 rfl ?_
  refine mm_s1 rfl ⟨fun c12 => ?_, fun c12 => ?_⟩
  · show mm_Go (mm_run 1) mc_Reader_readTerm _ (53, [(0, .inr (.inr 402)), (1, .inr (.inr v1)), (2, .inl v2), (3, .inl 1)], [], M)
    replace h := h.1 c12
    refine mm_s1 rfl ?_
    refine nn_getr rfl (nn_c402 NN).1 (lf_7_0 L N (nn_c402 NN)) ?_
    refine mm_s1 rfl ?_
    refine mm_s1 rfl ⟨(nn_c402 NN).1, ?_⟩
    show mm_Go (mm_run 1) mc_Reader_readTerm _ (61, [(0, .inr (.inr 402)), (1, .inr (.inr v1)), (2, .inl v2), (3, .inl 1)], [.inl (nn_rf M 402 3), .inr (.inr 403)], M)
    obtain ⟨b61, h⟩ := h
    refine mm_s1 rfl ⟨nn_bd (na_7_0 NN (nn_c402 NN)) b61, ?_⟩
    show mm_Go (mm_run 1) mc_Reader_readTerm _ (62, [(0, .inr (.inr 402)), (1, .inr (.inr v1)), (2, .inl v2), (3, .inl 1)], [.inl (nn_ri M 403 (nn_rf M 402 3))], M)
    refine mm_s1 rfl ?_
    refine mm_s1 rfl ⟨fun c63 => ?_, fun c63 => ?_⟩
    · show mm_Go (mm_run 1) mc_Reader_readTerm _ (68, [(0, .inr (.inr 402)), (1, .inr (.inr v1)), (2, .inl v2), (3, .inl 1)], [], M)
      replace h := h.1 c63
      refine mm_s1 rfl ?_
      refine mm_s1 rfl ?_
      refine mm_s1 rfl ?_
      refine nn_getr rfl (nn_c402 NN).1 (lf_7_2 L N (nn_c402 NN)) ?_
      refine mm_s1 rfl ?_
      show mm_Go (mm_run 1) mc_Reader_readTerm _ (75, [(0, .inr (.inr 402)), (1, .inr (.inr v1)), (2, .inl v2), (3, .inl 1)], [.inr (.inr 402), .inr (.inr 405), .inl v2, .inr (.inr v1)], M)
      refine mm_s1 rfl ⟨(nn_c402 NN).1, ?_⟩
      show mm_Go (mm_run 1) mc_Reader_readTerm _ (78, [(0, .inr (.inr 402)), (1, .inr (.inr v1)), (2, .inl v2), (3, .inl 1)], [.inl (nn_rf M 402 3), .inr (.inr 405), .inl v2, .inr (.inr v1)], M)
      obtain ⟨b78, h⟩ := h
      refine mm_s1 rfl ⟨nn_bd (na_7_2 NN (nn_c402 NN)) b78, ?_⟩
      show mm_Go (mm_run 1) mc_Reader_readTerm _ (79, [(0, .inr (.inr 402)), (1, .inr (.inr v1)), (2, .inl v2), (3, .inl 1)], [.inl (nn_ri M 405 (nn_rf M 402 3)), .inl v2, .inr (.inr v1)], M)
      refine mm_s1 rfl ?_
      refine mm_s1 rfl ⟨C1.1, ?_⟩
      refine nn_call (D := 1) (by decide) (h n L N C1) ?_
      intro v M80 q; clear L N h
      obtain ⟨rfl, L, N, h⟩ := q
      show mm_Go (mm_run 1) mc_Reader_readTerm _ (83, [(0, .inr (.inr 402)), (1, .inr (.inr v1)), (2, .inl v2), (3, .inl 1)], [], M80)
      refine mm_s1 rfl ?_
      refine mm_s1 rfl ?_
      refine mm_s1 rfl ⟨(nn_c402 NN).1, ?_⟩
      show mm_Go (mm_run 1) mc_Reader_readTerm _ (88, [(0, .inr (.inr 402)), (1, .inr (.inr v1)), (2, .inl v2), (3, .inl 1)], [.inl (nn_rf M80 402 3), .inr (.inr 402)], M80)
      refine mm_s1 rfl ?_
      refine mm_s1 rfl ?_
      refine mm_s1 rfl ⟨(nn_c402 NN).1, ?_⟩
      show mm_Go (mm_run 1) mc_Reader_readTerm _ (93, [(0, .inr (.inr 402)), (1, .inr (.inr v1)), (2, .inl v2), (3, .inl 1)], [], (nn_uf M80 402 3 (mm_w ((nn_rf M80 402 3) + 1))))
      have L : nn_L (nn_uf M80 402 3 (mm_w ((nn_rf M80 402 3) + 1))) := nn_L_up L (nn_c402 NN).1 rfl
      have N : (nn_uf M80 402 3 (mm_w ((nn_rf M80 402 3) + 1))).1 = n := N
      generalize e_M90 : (nn_uf M80 402 3 (mm_w ((nn_rf M80 402 3) + 1))) = M90 at L N ⊢
      replace h := h _ e_M90.symm
      show mm_Go (mm_run 1) mc_Reader_readTerm _ (93, [(0, .inr (.inr 402)), (1, .inr (.inr v1)), (2, .inl v2), (3, .inl 1)], [], M90)
      refine mm_s1 rfl ?_
      exact mm_s1 rfl ⟨(Or.inr rfl), _, rfl, (Or.inr rfl), L, N, h⟩
    · show mm_Go (mm_run 1) mc_Reader_readTerm _ (66, [(0, .inr (.inr 402)), (1, .inr (.inr v1)), (2, .inl v2), (3, .inl 1)], [], M)
      replace h := h.2 c63
      refine mm_s1 rfl ?_
      exact mm_s1 rfl ⟨(Or.inl rfl), _, rfl, (Or.inl rfl), L, N, h⟩
  · show mm_Go (mm_run 1) mc_Reader_readTerm _ (15, [(0, .inr (.inr 402)), (1, .inr (.inr v1)), (2, .inl v2), (3, .inl 1)], [], M)
    replace c12 := Decidable.not_not.mp c12
    replace h := h.2 c12
    refine mm_s1 rfl ?_
    refine nn_getr rfl (nn_c402 NN).1 (lf_7_2 L N (nn_c402 NN)) ?_
    refine mm_s1 rfl ?_
    refine mm_s1 rfl ⟨(nn_c402 NN).1, ?_⟩
    show mm_Go (mm_run 1) mc_Reader_readTerm _ (23, [(0, .inr (.inr 402)), (1, .inr (.inr v1)), (2, .inl v2), (3, .inl 1)], [.inl (nn_rf M 402 3), .inr (.inr 405)], M)
    obtain ⟨b23, h⟩ := h
    refine mm_s1 rfl ⟨nn_bd (na_7_2 NN (nn_c402 NN)) b23, ?_⟩
    show mm_Go (mm_run 1) mc_Reader_readTerm _ (24, [(0, .inr (.inr 402)), (1, .inr (.inr v1)), (2, .inl v2), (3, .inl 1)], [.inl (nn_ri M 405 (nn_rf M 402 3))], M)
    refine mm_s1 rfl ?_
    show mm_Go (mm_run 1) mc_Reader_readTerm _ (25, [(0, .inr (.inr 402)), (1, .inr (.inr v1)), (2, .inl v2), (3, .inl (nn_ri M 405 (nn_rf M 402 3)))], [], M)
    refine mm_s1 rfl ?_
    refine mm_s1 rfl ?_
    refine mm_s1 rfl ⟨(nn_c402 NN).1, ?_⟩
    show mm_Go (mm_run 1) mc_Reader_readTerm _ (30, [(0, .inr (.inr 402)), (1, .inr (.inr v1)), (2, .inl v2), (3, .inl (nn_ri M 405 (nn_rf M 402 3)))], [.inl (nn_rf M 402 3), .inr (.inr 402)], M)
    refine mm_s1 rfl ?_
    refine mm_s1 rfl ?_
    refine mm_s1 rfl ⟨(nn_c402 NN).1, ?_⟩
    show mm_Go (mm_run 1) mc_Reader_readTerm _ (35, [(0, .inr (.inr 402)), (1, .inr (.inr v1)), (2, .inl v2), (3, .inl (nn_ri M 405 (nn_rf M 402 3)))], [], (nn_uf M 402 3 (mm_w ((nn_rf M 402 3) + 1))))
    have L : nn_L (nn_uf M 402 3 (mm_w ((nn_rf M 402 3) + 1))) := nn_L_up L (nn_c402 NN).1 rfl
    have N : (nn_uf M 402 3 (mm_w ((nn_rf M 402 3) + 1))).1 = n := N
    generalize e_M32 : (nn_uf M 402 3 (mm_w ((nn_rf M 402 3) + 1))) = M32 at L N ⊢
    replace h := h _ e_M32.symm
    show mm_Go (mm_run 1) mc_Reader_readTerm _ (35, [(0, .inr (.inr 402)), (1, .inr (.inr v1)), (2, .inl v2), (3, .inl (nn_ri M 405 (nn_rf M 402 3)))], [], M32)
    refine mm_s1 rfl ?_
    refine mm_s1 rfl ?_
    refine mm_s1 rfl ⟨(nn_c402 NN).1, ?_⟩
    refine nn_call (D := 1) (by decide) (h n L N) ?_
    intro v M38 q; clear L N h
    obtain ⟨r38, rfl, q38, L, N, h⟩ := q
    show mm_Go (mm_run 1) mc_Reader_readTerm _ (41, [(0, .inr (.inr 402)), (1, .inr (.inr v1)), (2, .inl v2), (3, .inl (nn_ri M 405 (nn_rf M 402 3)))], [.inl r38], M38)
    refine mm_s1 rfl ⟨fun c41 => ?_, fun c41 => ?_⟩
    · show mm_Go (mm_run 1) mc_Reader_readTerm _ (53, [(0, .inr (.inr 402)), (1, .inr (.inr v1)), (2, .inl v2), (3, .inl (nn_ri M 405 (nn_rf M 402 3)))], [], M38)
      replace h := h.1 c41
      refine mm_s1 rfl ?_
      refine nn_getr rfl (nn_c402 NN).1 (lf_7_0 L N (nn_c402 NN)) ?_
      refine mm_s1 rfl ?_
      refine mm_s1 rfl ⟨(nn_c402 NN).1, ?_⟩
      show mm_Go (mm_run 1) mc_Reader_readTerm _ (61, [(0, .inr (.inr 402)), (1, .inr (.inr v1)), (2, .inl v2), (3, .inl (nn_ri M 405 (nn_rf M 402 3)))], [.inl (nn_rf M38 402 3), .inr (.inr 403)], M38)
      obtain ⟨b61, h⟩ := h
      refine mm_s1 rfl ⟨nn_bd (na_7_0 NN (nn_c402 NN)) b61, ?_⟩
      show mm_Go (mm_run 1) mc_Reader_readTerm _ (62, [(0, .inr (.inr 402)), (1, .inr (.inr v1)), (2, .inl v2), (3, .inl (nn_ri M 405 (nn_rf M 402 3)))], [.inl (nn_ri M38 403 (nn_rf M38 402 3))], M38)
      refine mm_s1 rfl ?_
      refine mm_s1 rfl ⟨fun c63 => ?_, fun c63 => ?_⟩
      · show mm_Go (mm_run 1) mc_Reader_readTerm _ (68, [(0, .inr (.inr 402)), (1, .inr (.inr v1)), (2, .inl v2), (3, .inl (nn_ri M 405 (nn_rf M 402 3)))], [], M38)
        replace h := h.1 c63
        refine mm_s1 rfl ?_
        refine mm_s1 rfl ?_
        refine mm_s1 rfl ?_
        refine nn_getr rfl (nn_c402 NN).1 (lf_7_2 L N (nn_c402 NN)) ?_
        refine mm_s1 rfl ?_
        show mm_Go (mm_run 1) mc_Reader_readTerm _ (75, [(0, .inr (.inr 402)), (1, .inr (.inr v1)), (2, .inl v2), (3, .inl (nn_ri M 405 (nn_rf M 402 3)))], [.inr (.inr 402), .inr (.inr 405), .inl v2, .inr (.inr v1)], M38)
        refine mm_s1 rfl ⟨(nn_c402 NN).1, ?_⟩
        show mm_Go (mm_run 1) mc_Reader_readTerm _ (78, [(0, .inr (.inr 402)), (1, .inr (.inr v1)), (2, .inl v2), (3, .inl (nn_ri M 405 (nn_rf M 402 3)))], [.inl (nn_rf M38 402 3), .inr (.inr 405), .inl v2, .inr (.inr v1)], M38)
        obtain ⟨b78, h⟩ := h
        refine mm_s1 rfl ⟨nn_bd (na_7_2 NN (nn_c402 NN)) b78, ?_⟩
        show mm_Go (mm_run 1) mc_Reader_readTerm _ (79, [(0, .inr (.inr 402)), (1, .inr (.inr v1)), (2, .inl v2), (3, .inl (nn_ri M 405 (nn_rf M 402 3)))], [.inl (nn_ri M38 405 (nn_rf M38 402 3)), .inl v2, .inr (.inr v1)], M38)
        refine mm_s1 rfl ?_
        refine mm_s1 rfl ⟨C1.1, ?_⟩
        refine nn_call (D := 1) (by decide) (h n L N C1) ?_
        intro v M80 q; clear L N h
        obtain ⟨rfl, L, N, h⟩ := q
        show mm_Go (mm_run 1) mc_Reader_readTerm _ (83, [(0, .inr (.inr 402)), (1, .inr (.inr v1)), (2, .inl v2), (3, .inl (nn_ri M 405 (nn_rf M 402 3)))], [], M80)
        refine mm_s1 rfl ?_
        refine mm_s1 rfl ?_
        refine mm_s1 rfl ⟨(nn_c402 NN).1, ?_⟩
        show mm_Go (mm_run 1) mc_Reader_readTerm _ (88, [(0, .inr (.inr 402)), (1, .inr (.inr v1)), (2, .inl v2), (3, .inl (nn_ri M 405 (nn_rf M 402 3)))], [.inl (nn_rf M80 402 3), .inr (.inr 402)], M80)
        refine mm_s1 rfl ?_
        refine mm_s1 rfl ?_
        refine mm_s1 rfl ⟨(nn_c402 NN).1, ?_⟩
        show mm_Go (mm_run 1) mc_Reader_readTerm _ (93, [(0, .inr (.inr 402)), (1, .inr (.inr v1)), (2, .inl v2), (3, .inl (nn_ri M 405 (nn_rf M 402 3)))], [], (nn_uf M80 402 3 (mm_w ((nn_rf M80 402 3) + 1))))
        have L : nn_L (nn_uf M80 402 3 (mm_w ((nn_rf M80 402 3) + 1))) := nn_L_up L (nn_c402 NN).1 rfl
        have N : (nn_uf M80 402 3 (mm_w ((nn_rf M80 402 3) + 1))).1 = n := N
        generalize e_M90 : (nn_uf M80 402 3 (mm_w ((nn_rf M80 402 3) + 1))) = M90 at L N ⊢
        replace h := h _ e_M90.symm
        show mm_Go (mm_run 1) mc_Reader_readTerm _ (93, [(0, .inr (.inr 402)), (1, .inr (.inr v1)), (2, .inl v2), (3, .inl (nn_ri M 405 (nn_rf M 402 3)))], [], M90)
        refine mm_s1 rfl ?_
        exact mm_s1 rfl ⟨(Or.inr rfl), _, rfl, (Or.inr rfl), L, N, h⟩
      · show mm_Go (mm_run 1) mc_Reader_readTerm _ (66, [(0, .inr (.inr 402)), (1, .inr (.inr v1)), (2, .inl v2), (3, .inl (nn_ri M 405 (nn_rf M 402 3)))], [], M38)
        replace h := h.2 c63
        refine mm_s1 rfl ?_
        exact mm_s1 rfl ⟨(Or.inl rfl), _, rfl, (Or.inl rfl), L, N, h⟩
    · show mm_Go (mm_run 1) mc_Reader_readTerm _ (44, [(0, .inr (.inr 402)), (1, .inr (.inr v1)), (2, .inl v2), (3, .inl (nn_ri M 405 (nn_rf M 402 3)))], [], M38)
      replace c41 := Decidable.not_not.mp c41
      replace h := h.2 c41
      refine mm_s1 rfl ?_
      refine mm_s1 rfl ?_
      refine mm_s1 rfl ?_
      refine mm_s1 rfl ?_
      refine mm_s1 rfl ⟨C1.1, ?_⟩
      refine nn_call (D := 1) (by decide) (h n L N C1) ?_
      intro v M48 q; clear L N h
      obtain ⟨rfl, L, N, h⟩ := q
      show mm_Go (mm_run 1) mc_Reader_readTerm _ (51, [(0, .inr (.inr 402)), (1, .inr (.inr v1)), (2, .inl v2), (3, .inl (nn_ri M 405 (nn_rf M 402 3)))], [], M48)
      refine mm_s1 rfl ?_
      exact mm_s1 rfl ⟨(Or.inr rfl), _, rfl, (Or.inr rfl), L, N, h⟩
def nr_Rule_reckoned (v0 : Nat) (v1 : Int) (v2 : Int) (M : mm_M) (R : Int → mm_M → Prop) : Prop := ∀ n, nn_L M → M.1 = n → nn_C 8 v0 n → mm_run 2 mi_Rule_reckoned [.inr (.inr v0), .inl v1, .inl v2] M (nw_I n R)
def nk_Rule_reckoned_14 (v0 : Nat) (v1 : Int) (v2 : Int) (v3 : Int) (v4 : Int) (M : mm_M) (R : Int → mm_M → Prop) : Prop := ∀ n, nn_L M → M.1 = n → nn_C 8 v0 n → mm_Go (mm_run 1) mc_Rule_reckoned (nw_I n R) (14, [(0, .inr (.inr v0)), (1, .inl v1), (2, .inl v2), (3, .inl v3), (4, .inl v4)], [], M)
set_option maxRecDepth 20000 in
theorem ng_Rule_reckoned (v0 : Nat) (v1 : Int) (v2 : Int) (M : mm_M) (R : Int → mm_M → Prop) (h : (((0 : Int) ≤ (mm_w ((mm_w (5 * v1)) + 4)) ∧ (mm_w ((mm_w (5 * v1)) + 4)) < (35 : Int)) ∧ (∀ x3_10 : Int, x3_10 = nn_ri M (v0 + 1) (mm_w ((mm_w (5 * v1)) + 4)) → nk_Rule_reckoned_14 v0 v1 v2 x3_10 0 M R))) : nr_Rule_reckoned v0 v1 v2 M R := by
  intro n L N C0
  have NN := nn_L_n L N
  show mm_Go (mm_run 1) mc_Rule_reckoned _ (0, [(0, .inr (.inr v0)), (1, .inl v1), (2, .inl v2)], [], M)
  refine mm_s1 rfl ?_
  refine nn_getr rfl C0.1 (lf_8_0 L N C0) ?_
  refine mm_s1 rfl ?_
  refine mm_s1 rfl ?_
  refine mm_s1 rfl ?_
  show mm_Go (mm_run 1) mc_Rule_reckoned _ (7, [(0, .inr (.inr v0)), (1, .inl v1), (2, .inl v2)], [.inl (mm_w (5 * v1)), .inr (.inr (v0 + 1))], M)
  refine mm_s1 rfl ?_
  refine mm_s1 rfl ?_
  obtain ⟨b9, h⟩ := h
  refine mm_s1 rfl ⟨nn_bd (na_8_0 NN C0) b9, ?_⟩
  show mm_Go (mm_run 1) mc_Rule_reckoned _ (10, [(0, .inr (.inr v0)), (1, .inl v1), (2, .inl v2)], [.inl (nn_ri M (v0 + 1) (mm_w ((mm_w (5 * v1)) + 4)))], M)
  refine mm_s1 rfl ?_
  show mm_Go (mm_run 1) mc_Rule_reckoned _ (11, [(0, .inr (.inr v0)), (1, .inl v1), (2, .inl v2), (3, .inl (nn_ri M (v0 + 1) (mm_w ((mm_w (5 * v1)) + 4))))], [], M)
  generalize e_x3_10 : (nn_ri M (v0 + 1) (mm_w ((mm_w (5 * v1)) + 4))) = x3_10
  replace h := h _ e_x3_10.symm
  show mm_Go (mm_run 1) mc_Rule_reckoned _ (11, [(0, .inr (.inr v0)), (1, .inl v1), (2, .inl v2), (3, .inl x3_10)], [], M)
  refine mm_s1 rfl ?_
  refine mm_s1 rfl ?_
  show mm_Go (mm_run 1) mc_Rule_reckoned _ (14, [(0, .inr (.inr v0)), (1, .inl v1), (2, .inl v2), (3, .inl x3_10), (4, .inl 0)], [], M)
  exact nn_go_ext (nn_xc rfl (nn_xc rfl (nn_xc rfl (nn_xc rfl (nn_xc rfl nn_xn))))) (h n L N C0)
set_option maxRecDepth 20000 in
theorem ng_Rule_reckoned_14 (v0 : Nat) (v1 : Int) (v2 : Int) (v3 : Int) (v4 : Int) (M : mm_M) (R : Int → mm_M → Prop) (h : ((4 ≤ v4 → R v3 M) ∧ (v4 < 4 → (((0 : Int) ≤ (mm_w ((mm_w (5 * v1)) + v4)) ∧ (mm_w ((mm_w (5 * v1)) + v4)) < (35 : Int)) ∧ (∀ x3_40 : Int, x3_40 = mm_w (v3 + (mm_w ((nn_ri M (v0 + 1) (mm_w ((mm_w (5 * v1)) + v4))) * (nf_LI_columnOf v2 v4)))) → nk_Rule_reckoned_14 v0 v1 v2 x3_40 (mm_w (v4 + 1)) M R))))) : nk_Rule_reckoned_14 v0 v1 v2 v3 v4 M R := by
  intro n L N C0
  have NN := nn_L_n L N
  show mm_Go (mm_run 1) mc_Rule_reckoned _ (14, [(0, .inr (.inr v0)), (1, .inl v1), (2, .inl v2), (3, .inl v3), (4, .inl v4)], [], M)
  refine mm_s1 rfl ?_
  refine mm_s1 rfl ?_
  refine mm_s1 rfl ⟨fun c17 => ?_, fun c17 => ?_⟩
  · show mm_Go (mm_run 1) mc_Rule_reckoned _ (47, [(0, .inr (.inr v0)), (1, .inl v1), (2, .inl v2), (3, .inl v3), (4, .inl v4)], [], M)
    replace h := h.1 c17
    refine mm_s1 rfl ?_
    exact mm_s1 rfl ⟨_, rfl, L, N, h⟩
  · show mm_Go (mm_run 1) mc_Rule_reckoned _ (20, [(0, .inr (.inr v0)), (1, .inl v1), (2, .inl v2), (3, .inl v3), (4, .inl v4)], [], M)
    replace c17 := Int.not_le.mp c17
    replace h := h.2 c17
    refine mm_s1 rfl ?_
    refine mm_s1 rfl ?_
    refine nn_getr rfl C0.1 (lf_8_0 L N C0) ?_
    refine mm_s1 rfl ?_
    refine mm_s1 rfl ?_
    show mm_Go (mm_run 1) mc_Rule_reckoned _ (27, [(0, .inr (.inr v0)), (1, .inl v1), (2, .inl v2), (3, .inl v3), (4, .inl v4)], [.inl v1, .inl 5, .inr (.inr (v0 + 1)), .inl v3], M)
    refine mm_s1 rfl ?_
    refine mm_s1 rfl ?_
    refine mm_s1 rfl ?_
    obtain ⟨b31, h⟩ := h
    refine mm_s1 rfl ⟨nn_bd (na_8_0 NN C0) b31, ?_⟩
    show mm_Go (mm_run 1) mc_Rule_reckoned _ (32, [(0, .inr (.inr v0)), (1, .inl v1), (2, .inl v2), (3, .inl v3), (4, .inl v4)], [.inl (nn_ri M (v0 + 1) (mm_w ((mm_w (5 * v1)) + v4))), .inl v3], M)
    refine mm_s1 rfl ?_
    refine mm_s1 rfl ?_
    refine mm_s1 rfl ⟨trivial, ?_⟩
    refine np_LI_columnOf (by decide) L N ?_
    show mm_Go (mm_run 1) mc_Rule_reckoned _ (38, [(0, .inr (.inr v0)), (1, .inl v1), (2, .inl v2), (3, .inl v3), (4, .inl v4)], [.inl (nf_LI_columnOf v2 v4), .inl (nn_ri M (v0 + 1) (mm_w ((mm_w (5 * v1)) + v4))), .inl v3], M)
    refine mm_s1 rfl ?_
    refine mm_s1 rfl ?_
    refine mm_s1 rfl ?_
    show mm_Go (mm_run 1) mc_Rule_reckoned _ (41, [(0, .inr (.inr v0)), (1, .inl v1), (2, .inl v2), (3, .inl (mm_w (v3 + (mm_w ((nn_ri M (v0 + 1) (mm_w ((mm_w (5 * v1)) + v4))) * (nf_LI_columnOf v2 v4)))))), (4, .inl v4)], [], M)
    generalize e_x3_40 : (mm_w (v3 + (mm_w ((nn_ri M (v0 + 1) (mm_w ((mm_w (5 * v1)) + v4))) * (nf_LI_columnOf v2 v4))))) = x3_40
    replace h := h _ e_x3_40.symm
    show mm_Go (mm_run 1) mc_Rule_reckoned _ (41, [(0, .inr (.inr v0)), (1, .inl v1), (2, .inl v2), (3, .inl x3_40), (4, .inl v4)], [], M)
    refine mm_s1 rfl ?_
    show mm_Go (mm_run 1) mc_Rule_reckoned _ (44, [(0, .inr (.inr v0)), (1, .inl v1), (2, .inl v2), (3, .inl x3_40), (4, .inl (mm_w (v4 + 1)))], [], M)
    refine mm_s1 rfl ?_
    show mm_Go (mm_run 1) mc_Rule_reckoned _ (14, [(0, .inr (.inr v0)), (1, .inl v1), (2, .inl v2), (3, .inl x3_40), (4, .inl (mm_w (v4 + 1)))], [], M)
    exact nn_go_ext (nn_xc rfl (nn_xc rfl (nn_xc rfl (nn_xc rfl (nn_xc rfl nn_xn))))) (h n L N C0)
def nr_Store_gather (v0 : Nat) (v1 : Nat) (v2 : Int) (v3 : Int) (M : mm_M) (R : Int → mm_M → Prop) : Prop := ∀ n, nn_L M → M.1 = n → nn_C 9 v0 n → nn_C 5 v1 n → mm_run 2 mi_Store_gather [.inr (.inr v0), .inr (.inr v1), .inl v2, .inl v3] M (nw_I n R)
def nk_Store_gather_6 (v0 : Nat) (v1 : Nat) (v2 : Int) (v3 : Int) (v4 : Int) (v5 : Int) (M : mm_M) (R : Int → mm_M → Prop) : Prop := ∀ n, nn_L M → M.1 = n → nn_C 9 v0 n → nn_C 5 v1 n → mm_Go (mm_run 1) mc_Store_gather (nw_I n R) (6, [(0, .inr (.inr v0)), (1, .inr (.inr v1)), (2, .inl v2), (3, .inl v3), (4, .inl v4), (5, .inl v5)], [], M)
def nk_Store_gather_28 (v0 : Nat) (v1 : Nat) (v2 : Int) (v3 : Int) (v4 : Int) (v5 : Int) (v6 : Int) (M : mm_M) (R : Int → mm_M → Prop) : Prop := ∀ n, nn_L M → M.1 = n → nn_C 9 v0 n → nn_C 5 v1 n → mm_Go (mm_run 1) mc_Store_gather (nw_I n R) (28, [(0, .inr (.inr v0)), (1, .inr (.inr v1)), (2, .inl v2), (3, .inl v3), (4, .inl v4), (5, .inl v5), (6, .inl v6)], [], M)
set_option maxRecDepth 20000 in
theorem ng_Store_gather (v0 : Nat) (v1 : Nat) (v2 : Int) (v3 : Int) (M : mm_M) (R : Int → mm_M → Prop) (h : nk_Store_gather_6 v0 v1 v2 v3 0 0 M R) : nr_Store_gather v0 v1 v2 v3 M R := by
  intro n L N C0 C1
  have NN := nn_L_n L N
  show mm_Go (mm_run 1) mc_Store_gather _ (0, [(0, .inr (.inr v0)), (1, .inr (.inr v1)), (2, .inl v2), (3, .inl v3)], [], M)
  refine mm_s1 rfl ?_
  refine mm_s1 rfl ?_
  show mm_Go (mm_run 1) mc_Store_gather _ (3, [(0, .inr (.inr v0)), (1, .inr (.inr v1)), (2, .inl v2), (3, .inl v3), (4, .inl 0)], [], M)
  refine mm_s1 rfl ?_
  refine mm_s1 rfl ?_
  show mm_Go (mm_run 1) mc_Store_gather _ (6, [(0, .inr (.inr v0)), (1, .inr (.inr v1)), (2, .inl v2), (3, .inl v3), (4, .inl 0), (5, .inl 0)], [], M)
  exact nn_go_ext (nn_xc rfl (nn_xc rfl (nn_xc rfl (nn_xc rfl (nn_xc rfl (nn_xc rfl nn_xn)))))) (h n L N C0 C1)
set_option maxRecDepth 20000 in
theorem ng_Store_gather_6 (v0 : Nat) (v1 : Nat) (v2 : Int) (v3 : Int) (v4 : Int) (v5 : Int) (M : mm_M) (R : Int → mm_M → Prop) (h : ((32 ≤ v5 → R v4 M) ∧ (v5 < 32 → ((nc_Index_hasFrom v1 v5 v2 v3 M) ∧ (((nf_Index_hasFrom v1 v5 v2 v3 M) = 0 → nk_Store_gather_6 v0 v1 v2 v3 v4 (mm_w (v5 + 1)) M R) ∧ ((nf_Index_hasFrom v1 v5 v2 v3 M) ≠ 0 → nk_Store_gather_28 v0 v1 v2 v3 v4 v5 v4 M R)))))) : nk_Store_gather_6 v0 v1 v2 v3 v4 v5 M R := by
  intro n L N C0 C1
  have NN := nn_L_n L N
  show mm_Go (mm_run 1) mc_Store_gather _ (6, [(0, .inr (.inr v0)), (1, .inr (.inr v1)), (2, .inl v2), (3, .inl v3), (4, .inl v4), (5, .inl v5)], [], M)
  refine mm_s1 rfl ?_
  refine mm_s1 rfl ?_
  refine mm_s1 rfl ⟨fun c10 => ?_, fun c10 => ?_⟩
  · show mm_Go (mm_run 1) mc_Store_gather _ (97, [(0, .inr (.inr v0)), (1, .inr (.inr v1)), (2, .inl v2), (3, .inl v3), (4, .inl v4), (5, .inl v5)], [], M)
    replace h := h.1 c10
    refine mm_s1 rfl ?_
    exact mm_s1 rfl ⟨_, rfl, L, N, h⟩
  · show mm_Go (mm_run 1) mc_Store_gather _ (13, [(0, .inr (.inr v0)), (1, .inr (.inr v1)), (2, .inl v2), (3, .inl v3), (4, .inl v4), (5, .inl v5)], [], M)
    replace c10 := Int.not_le.mp c10
    replace h := h.2 c10
    refine mm_s1 rfl ?_
    refine mm_s1 rfl ?_
    refine mm_s1 rfl ?_
    refine mm_s1 rfl ?_
    obtain ⟨b18, h⟩ := h
    refine mm_s1 rfl ⟨C1.1, ?_⟩
    refine np_Index_hasFrom (by decide) L N C1 b18 ?_
    show mm_Go (mm_run 1) mc_Store_gather _ (21, [(0, .inr (.inr v0)), (1, .inr (.inr v1)), (2, .inl v2), (3, .inl v3), (4, .inl v4), (5, .inl v5)], [.inl (nf_Index_hasFrom v1 v5 v2 v3 M)], M)
    refine mm_s1 rfl ⟨fun c21 => ?_, fun c21 => ?_⟩
    · show mm_Go (mm_run 1) mc_Store_gather _ (91, [(0, .inr (.inr v0)), (1, .inr (.inr v1)), (2, .inl v2), (3, .inl v3), (4, .inl v4), (5, .inl v5)], [], M)
      replace h := h.1 c21
      refine mm_s1 rfl ?_
      show mm_Go (mm_run 1) mc_Store_gather _ (94, [(0, .inr (.inr v0)), (1, .inr (.inr v1)), (2, .inl v2), (3, .inl v3), (4, .inl v4), (5, .inl (mm_w (v5 + 1)))], [], M)
      refine mm_s1 rfl ?_
      show mm_Go (mm_run 1) mc_Store_gather _ (6, [(0, .inr (.inr v0)), (1, .inr (.inr v1)), (2, .inl v2), (3, .inl v3), (4, .inl v4), (5, .inl (mm_w (v5 + 1)))], [], M)
      exact nn_go_ext (nn_xc rfl (nn_xc rfl (nn_xc rfl (nn_xc rfl (nn_xc rfl (nn_xc rfl nn_xn)))))) (h n L N C0 C1)
    · show mm_Go (mm_run 1) mc_Store_gather _ (24, [(0, .inr (.inr v0)), (1, .inr (.inr v1)), (2, .inl v2), (3, .inl v3), (4, .inl v4), (5, .inl v5)], [], M)
      replace h := h.2 c21
      refine mm_s1 rfl ?_
      refine mm_s1 rfl ?_
      show mm_Go (mm_run 1) mc_Store_gather _ (28, [(0, .inr (.inr v0)), (1, .inr (.inr v1)), (2, .inl v2), (3, .inl v3), (4, .inl v4), (5, .inl v5), (6, .inl v4)], [], M)
      exact nn_go_ext (nn_xc rfl (nn_xc rfl (nn_xc rfl (nn_xc rfl (nn_xc rfl (nn_xc rfl (nn_xc rfl nn_xn))))))) (h n L N C0 C1)
set_option maxRecDepth 20000 in
theorem ng_Store_gather_28 (v0 : Nat) (v1 : Nat) (v2 : Int) (v3 : Int) (v4 : Int) (v5 : Int) (v6 : Int) (M : mm_M) (R : Int → mm_M → Prop) (h : (((v6 ≤ 0) → ((0 : Int) ≤ v6 ∧ v6 < (32 : Int))) ∧ ((0 < v6) → ((0 : Int) ≤ (mm_w (v6 - 1)) ∧ (mm_w (v6 - 1)) < (32 : Int))) ∧ ((0 < v6) → ((0 : Int) ≤ (nn_ri M (v0 + 89) (mm_w (v6 - 1))) ∧ (nn_ri M (v0 + 89) (mm_w (v6 - 1))) < (32 : Int))) ∧ ((0 < v6) → ((0 : Int) ≤ v5 ∧ v5 < (32 : Int))) ∧ ((0 < v6) ∧ ((nn_ri M (v1 + 14) (nn_ri M (v0 + 89) (mm_w (v6 - 1)))) ≤ (nn_ri M (v1 + 14) v5)) → ((0 : Int) ≤ v6 ∧ v6 < (32 : Int))) ∧ ((0 < v6) ∧ ((nn_ri M (v1 + 14) v5) < (nn_ri M (v1 + 14) (nn_ri M (v0 + 89) (mm_w (v6 - 1))))) → ((0 : Int) ≤ (mm_w (v6 - 1)) ∧ (mm_w (v6 - 1)) < (32 : Int))) ∧ ((0 < v6) ∧ ((nn_ri M (v1 + 14) v5) < (nn_ri M (v1 + 14) (nn_ri M (v0 + 89) (mm_w (v6 - 1))))) → ((0 : Int) ≤ v6 ∧ v6 < (32 : Int))) ∧ ((v6 ≤ 0 ∨ ((nn_ri M (v1 + 14) (nn_ri M (v0 + 89) (mm_w (v6 - 1)))) ≤ (nn_ri M (v1 + 14) v5))) → (∀ M87 : mm_M, M87 = nn_ui M (v0 + 89) v6 v5 → nk_Store_gather_6 v0 v1 v2 v3 (mm_w (v4 + 1)) (mm_w (v5 + 1)) M87 R)) ∧ ((0 < v6 ∧ ((nn_ri M (v1 + 14) v5) < (nn_ri M (v1 + 14) (nn_ri M (v0 + 89) (mm_w (v6 - 1)))))) → (∀ M72 : mm_M, M72 = nn_ui M (v0 + 89) v6 (nn_ri M (v0 + 89) (mm_w (v6 - 1))) → nk_Store_gather_28 v0 v1 v2 v3 v4 v5 (mm_w (v6 + (-1))) M72 R)))) : nk_Store_gather_28 v0 v1 v2 v3 v4 v5 v6 M R := by
  intro n L N C0 C1
  have NN := nn_L_n L N
  show mm_Go (mm_run 1) mc_Store_gather _ (28, [(0, .inr (.inr v0)), (1, .inr (.inr v1)), (2, .inl v2), (3, .inl v3), (4, .inl v4), (5, .inl v5), (6, .inl v6)], [], M)
  refine mm_s1 rfl ?_
  refine mm_s1 rfl ⟨fun c30 => ?_, fun c30 => ?_⟩
  · show mm_Go (mm_run 1) mc_Store_gather _ (79, [(0, .inr (.inr v0)), (1, .inr (.inr v1)), (2, .inl v2), (3, .inl v3), (4, .inl v4), (5, .inl v5), (6, .inl v6)], [], M)
    refine mm_s1 rfl ?_
    refine nn_getr rfl C0.1 (lf_9_6 L N C0) ?_
    refine mm_s1 rfl ?_
    refine mm_s1 rfl ?_
    have b87 := h.1 c30
    replace h := h.2.2.2.2.2.2.2.1 (Or.inl c30)
    refine mm_s1 rfl ⟨nn_bd (na_9_6 NN C0) b87, ?_⟩
    show mm_Go (mm_run 1) mc_Store_gather _ (88, [(0, .inr (.inr v0)), (1, .inr (.inr v1)), (2, .inl v2), (3, .inl v3), (4, .inl v4), (5, .inl v5), (6, .inl v6)], [], (nn_ui M (v0 + 89) v6 v5))
    have L : nn_L (nn_ui M (v0 + 89) v6 v5) := nn_L_ua L (congrArg Prod.fst (na_9_6 NN C0)) (by decide)
    have N : (nn_ui M (v0 + 89) v6 v5).1 = n := N
    generalize e_M87 : (nn_ui M (v0 + 89) v6 v5) = M87 at L N ⊢
    replace h := h _ e_M87.symm
    show mm_Go (mm_run 1) mc_Store_gather _ (88, [(0, .inr (.inr v0)), (1, .inr (.inr v1)), (2, .inl v2), (3, .inl v3), (4, .inl v4), (5, .inl v5), (6, .inl v6)], [], M87)
    refine mm_s1 rfl ?_
    show mm_Go (mm_run 1) mc_Store_gather _ (91, [(0, .inr (.inr v0)), (1, .inr (.inr v1)), (2, .inl v2), (3, .inl v3), (4, .inl (mm_w (v4 + 1))), (5, .inl v5), (6, .inl v6)], [], M87)
    refine mm_s1 rfl ?_
    show mm_Go (mm_run 1) mc_Store_gather _ (94, [(0, .inr (.inr v0)), (1, .inr (.inr v1)), (2, .inl v2), (3, .inl v3), (4, .inl (mm_w (v4 + 1))), (5, .inl (mm_w (v5 + 1))), (6, .inl v6)], [], M87)
    refine mm_s1 rfl ?_
    show mm_Go (mm_run 1) mc_Store_gather _ (6, [(0, .inr (.inr v0)), (1, .inr (.inr v1)), (2, .inl v2), (3, .inl v3), (4, .inl (mm_w (v4 + 1))), (5, .inl (mm_w (v5 + 1))), (6, .inl v6)], [], M87)
    exact nn_go_ext (nn_xc rfl (nn_xc rfl (nn_xc rfl (nn_xc rfl (nn_xc rfl (nn_xc rfl nn_xn)))))) (h n L N C0 C1)
  · show mm_Go (mm_run 1) mc_Store_gather _ (33, [(0, .inr (.inr v0)), (1, .inr (.inr v1)), (2, .inl v2), (3, .inl v3), (4, .inl v4), (5, .inl v5), (6, .inl v6)], [], M)
    replace c30 := Int.not_le.mp c30
    refine mm_s1 rfl ?_
    refine nn_getr rfl C1.1 (lf_5_4 L N C1) ?_
    refine mm_s1 rfl ?_
    refine nn_getr rfl C0.1 (lf_9_6 L N C0) ?_
    refine mm_s1 rfl ?_
    show mm_Go (mm_run 1) mc_Store_gather _ (43, [(0, .inr (.inr v0)), (1, .inr (.inr v1)), (2, .inl v2), (3, .inl v3), (4, .inl v4), (5, .inl v5), (6, .inl v6)], [.inl v6, .inr (.inr (v0 + 89)), .inr (.inr (v1 + 14))], M)
    refine mm_s1 rfl ?_
    refine mm_s1 rfl ?_
    have b45 := h.2.1 c30
    refine mm_s1 rfl ⟨nn_bd (na_9_6 NN C0) b45, ?_⟩
    show mm_Go (mm_run 1) mc_Store_gather _ (46, [(0, .inr (.inr v0)), (1, .inr (.inr v1)), (2, .inl v2), (3, .inl v3), (4, .inl v4), (5, .inl v5), (6, .inl v6)], [.inl (nn_ri M (v0 + 89) (mm_w (v6 - 1))), .inr (.inr (v1 + 14))], M)
    have b46 := h.2.2.1 c30
    refine mm_s1 rfl ⟨nn_bd (na_5_4 NN C1) b46, ?_⟩
    show mm_Go (mm_run 1) mc_Store_gather _ (47, [(0, .inr (.inr v0)), (1, .inr (.inr v1)), (2, .inl v2), (3, .inl v3), (4, .inl v4), (5, .inl v5), (6, .inl v6)], [.inl (nn_ri M (v1 + 14) (nn_ri M (v0 + 89) (mm_w (v6 - 1))))], M)
    refine mm_s1 rfl ?_
    refine nn_getr rfl C1.1 (lf_5_4 L N C1) ?_
    refine mm_s1 rfl ?_
    have b53 := h.2.2.2.1 c30
    refine mm_s1 rfl ⟨nn_bd (na_5_4 NN C1) b53, ?_⟩
    show mm_Go (mm_run 1) mc_Store_gather _ (54, [(0, .inr (.inr v0)), (1, .inr (.inr v1)), (2, .inl v2), (3, .inl v3), (4, .inl v4), (5, .inl v5), (6, .inl v6)], [.inl (nn_ri M (v1 + 14) v5), .inl (nn_ri M (v1 + 14) (nn_ri M (v0 + 89) (mm_w (v6 - 1))))], M)
    refine mm_s1 rfl ⟨fun c54 => ?_, fun c54 => ?_⟩
    · show mm_Go (mm_run 1) mc_Store_gather _ (79, [(0, .inr (.inr v0)), (1, .inr (.inr v1)), (2, .inl v2), (3, .inl v3), (4, .inl v4), (5, .inl v5), (6, .inl v6)], [], M)
      refine mm_s1 rfl ?_
      refine nn_getr rfl C0.1 (lf_9_6 L N C0) ?_
      refine mm_s1 rfl ?_
      refine mm_s1 rfl ?_
      have b87 := h.2.2.2.2.1 ⟨c30, c54⟩
      replace h := h.2.2.2.2.2.2.2.1 (Or.inr c54)
      refine mm_s1 rfl ⟨nn_bd (na_9_6 NN C0) b87, ?_⟩
      show mm_Go (mm_run 1) mc_Store_gather _ (88, [(0, .inr (.inr v0)), (1, .inr (.inr v1)), (2, .inl v2), (3, .inl v3), (4, .inl v4), (5, .inl v5), (6, .inl v6)], [], (nn_ui M (v0 + 89) v6 v5))
      have L : nn_L (nn_ui M (v0 + 89) v6 v5) := nn_L_ua L (congrArg Prod.fst (na_9_6 NN C0)) (by decide)
      have N : (nn_ui M (v0 + 89) v6 v5).1 = n := N
      generalize e_M87 : (nn_ui M (v0 + 89) v6 v5) = M87 at L N ⊢
      replace h := h _ e_M87.symm
      show mm_Go (mm_run 1) mc_Store_gather _ (88, [(0, .inr (.inr v0)), (1, .inr (.inr v1)), (2, .inl v2), (3, .inl v3), (4, .inl v4), (5, .inl v5), (6, .inl v6)], [], M87)
      refine mm_s1 rfl ?_
      show mm_Go (mm_run 1) mc_Store_gather _ (91, [(0, .inr (.inr v0)), (1, .inr (.inr v1)), (2, .inl v2), (3, .inl v3), (4, .inl (mm_w (v4 + 1))), (5, .inl v5), (6, .inl v6)], [], M87)
      refine mm_s1 rfl ?_
      show mm_Go (mm_run 1) mc_Store_gather _ (94, [(0, .inr (.inr v0)), (1, .inr (.inr v1)), (2, .inl v2), (3, .inl v3), (4, .inl (mm_w (v4 + 1))), (5, .inl (mm_w (v5 + 1))), (6, .inl v6)], [], M87)
      refine mm_s1 rfl ?_
      show mm_Go (mm_run 1) mc_Store_gather _ (6, [(0, .inr (.inr v0)), (1, .inr (.inr v1)), (2, .inl v2), (3, .inl v3), (4, .inl (mm_w (v4 + 1))), (5, .inl (mm_w (v5 + 1))), (6, .inl v6)], [], M87)
      exact nn_go_ext (nn_xc rfl (nn_xc rfl (nn_xc rfl (nn_xc rfl (nn_xc rfl (nn_xc rfl nn_xn)))))) (h n L N C0 C1)
    · show mm_Go (mm_run 1) mc_Store_gather _ (57, [(0, .inr (.inr v0)), (1, .inr (.inr v1)), (2, .inl v2), (3, .inl v3), (4, .inl v4), (5, .inl v5), (6, .inl v6)], [], M)
      replace c54 := Int.not_le.mp c54
      refine mm_s1 rfl ?_
      refine nn_getr rfl C0.1 (lf_9_6 L N C0) ?_
      refine mm_s1 rfl ?_
      refine mm_s1 rfl ?_
      refine nn_getr rfl C0.1 (lf_9_6 L N C0) ?_
      show mm_Go (mm_run 1) mc_Store_gather _ (67, [(0, .inr (.inr v0)), (1, .inr (.inr v1)), (2, .inl v2), (3, .inl v3), (4, .inl v4), (5, .inl v5), (6, .inl v6)], [.inr (.inr (v0 + 89)), .inl v6, .inr (.inr (v0 + 89))], M)
      refine mm_s1 rfl ?_
      refine mm_s1 rfl ?_
      refine mm_s1 rfl ?_
      have b71 := h.2.2.2.2.2.1 ⟨c30, c54⟩
      refine mm_s1 rfl ⟨nn_bd (na_9_6 NN C0) b71, ?_⟩
      show mm_Go (mm_run 1) mc_Store_gather _ (72, [(0, .inr (.inr v0)), (1, .inr (.inr v1)), (2, .inl v2), (3, .inl v3), (4, .inl v4), (5, .inl v5), (6, .inl v6)], [.inl (nn_ri M (v0 + 89) (mm_w (v6 - 1))), .inl v6, .inr (.inr (v0 + 89))], M)
      have b72 := h.2.2.2.2.2.2.1 ⟨c30, c54⟩
      replace h := h.2.2.2.2.2.2.2.2 ⟨c30, c54⟩
      refine mm_s1 rfl ⟨nn_bd (na_9_6 NN C0) b72, ?_⟩
      show mm_Go (mm_run 1) mc_Store_gather _ (73, [(0, .inr (.inr v0)), (1, .inr (.inr v1)), (2, .inl v2), (3, .inl v3), (4, .inl v4), (5, .inl v5), (6, .inl v6)], [], (nn_ui M (v0 + 89) v6 (nn_ri M (v0 + 89) (mm_w (v6 - 1)))))
      have L : nn_L (nn_ui M (v0 + 89) v6 (nn_ri M (v0 + 89) (mm_w (v6 - 1)))) := nn_L_ua L (congrArg Prod.fst (na_9_6 NN C0)) (by decide)
      have N : (nn_ui M (v0 + 89) v6 (nn_ri M (v0 + 89) (mm_w (v6 - 1)))).1 = n := N
      generalize e_M72 : (nn_ui M (v0 + 89) v6 (nn_ri M (v0 + 89) (mm_w (v6 - 1)))) = M72 at L N ⊢
      replace h := h _ e_M72.symm
      show mm_Go (mm_run 1) mc_Store_gather _ (73, [(0, .inr (.inr v0)), (1, .inr (.inr v1)), (2, .inl v2), (3, .inl v3), (4, .inl v4), (5, .inl v5), (6, .inl v6)], [], M72)
      refine mm_s1 rfl ?_
      show mm_Go (mm_run 1) mc_Store_gather _ (76, [(0, .inr (.inr v0)), (1, .inr (.inr v1)), (2, .inl v2), (3, .inl v3), (4, .inl v4), (5, .inl v5), (6, .inl (mm_w (v6 + (-1))))], [], M72)
      refine mm_s1 rfl ?_
      show mm_Go (mm_run 1) mc_Store_gather _ (28, [(0, .inr (.inr v0)), (1, .inr (.inr v1)), (2, .inl v2), (3, .inl v3), (4, .inl v4), (5, .inl v5), (6, .inl (mm_w (v6 + (-1))))], [], M72)
      exact nn_go_ext (nn_xc rfl (nn_xc rfl (nn_xc rfl (nn_xc rfl (nn_xc rfl (nn_xc rfl (nn_xc rfl nn_xn))))))) (h n L N C0 C1)
