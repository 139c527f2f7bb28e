/-! methods walked by program (wip/whole/dec.py) -/
def nr_Index_havers (v0 : Nat) (v1 : Int) (M : mm_M) (R : Int → mm_M → Prop) : Prop := ∀ n, nn_L M → M.1 = n → nn_C 5 v0 n → mm_run 1 mi_Index_havers [.inr (.inr v0), .inl v1] M (nw_I n R)
def nk_Index_havers_4 (v0 : Nat) (v1 : Int) (v2 : Int) (v3 : Int) (M : mm_M) (R : Int → mm_M → Prop) : Prop := ∀ n, nn_L M → M.1 = n → nn_C 5 v0 n → mm_Go (mm_run 0) mc_Index_havers (nw_I n R) (4, [(0, .inr (.inr v0)), (1, .inl v1), (2, .inl v2), (3, .inl v3)], [], M)
set_option maxRecDepth 20000 in
theorem ng_Index_havers (v0 : Nat) (v1 : Int) (M : mm_M) (R : Int → mm_M → Prop) (h : nk_Index_havers_4 v0 v1 0 0 M R) : nr_Index_havers v0 v1 M R := by
  intro n L N C0
  have NN := nn_L_n L N
  show mm_Go (mm_run 0) mc_Index_havers _ (0, [(0, .inr (.inr v0)), (1, .inl v1)], [], M)
  refine mm_s1 rfl ?_
  refine mm_s1 rfl ?_
  show mm_Go (mm_run 0) mc_Index_havers _ (2, [(0, .inr (.inr v0)), (1, .inl v1), (2, .inl 0)], [], M)
  refine mm_s1 rfl ?_
  refine mm_s1 rfl ?_
  show mm_Go (mm_run 0) mc_Index_havers _ (4, [(0, .inr (.inr v0)), (1, .inl v1), (2, .inl 0), (3, .inl 0)], [], M)
  exact nn_go_ext (nn_xc rfl (nn_xc rfl (nn_xc rfl (nn_xc rfl nn_xn)))) (h n L N C0)
set_option maxRecDepth 20000 in
theorem ng_Index_havers_4 (v0 : Nat) (v1 : Int) (v2 : Int) (v3 : Int) (M : mm_M) (R : Int → mm_M → Prop) (h : ((32 ≤ v3 → R v2 M) ∧ (v3 < 32 → (((0 : Int) ≤ v3 ∧ v3 < (32 : Int)) ∧ (((nn_ri M (v0 + 14) v3) ≠ v1 → nk_Index_havers_4 v0 v1 (mm_w (v2 + 0)) (mm_w (v3 + 1)) M R) ∧ ((nn_ri M (v0 + 14) v3) = v1 → nk_Index_havers_4 v0 v1 (mm_w (v2 + 1)) (mm_w (v3 + 1)) M R)))))) : nk_Index_havers_4 v0 v1 v2 v3 M R := by
  intro n L N C0
  have NN := nn_L_n L N
  show mm_Go (mm_run 0) mc_Index_havers _ (4, [(0, .inr (.inr v0)), (1, .inl v1), (2, .inl v2), (3, .inl v3)], [], M)
  refine mm_s1 rfl ?_
  refine mm_s1 rfl ?_
  refine mm_s1 rfl ⟨fun c7 => ?_, fun c7 => ?_⟩
  · show mm_Go (mm_run 0) mc_Index_havers _ (34, [(0, .inr (.inr v0)), (1, .inl v1), (2, .inl v2), (3, .inl v3)], [], M)
    replace h := h.1 c7
    refine mm_s1 rfl ?_
    exact mm_s1 rfl ⟨_, rfl, L, N, h⟩
  · show mm_Go (mm_run 0) mc_Index_havers _ (10, [(0, .inr (.inr v0)), (1, .inl v1), (2, .inl v2), (3, .inl v3)], [], M)
    replace c7 := Int.not_le.mp c7
    replace h := h.2 c7
    refine mm_s1 rfl ?_
    refine mm_s1 rfl ?_
    refine nn_getr rfl C0.1 (lf_5_4 L N C0) ?_
    refine mm_s1 rfl ?_
    obtain ⟨b16, h⟩ := h
    refine mm_s1 rfl ⟨nn_bd (na_5_4 NN C0) b16, ?_⟩
    show mm_Go (mm_run 0) mc_Index_havers _ (17, [(0, .inr (.inr v0)), (1, .inl v1), (2, .inl v2), (3, .inl v3)], [.inl (nn_ri M (v0 + 14) v3), .inl v2], M)
    refine mm_s1 rfl ?_
    refine mm_s1 rfl ⟨fun c18 => ?_, fun c18 => ?_⟩
    · show mm_Go (mm_run 0) mc_Index_havers _ (25, [(0, .inr (.inr v0)), (1, .inl v1), (2, .inl v2), (3, .inl v3)], [.inl v2], M)
      replace h := h.1 c18
      refine mm_s1 rfl ?_
      refine mm_s1 rfl ?_
      refine mm_s1 rfl ?_
      show mm_Go (mm_run 0) mc_Index_havers _ (28, [(0, .inr (.inr v0)), (1, .inl v1), (2, .inl (mm_w (v2 + 0))), (3, .inl v3)], [], M)
      refine mm_s1 rfl ?_
      show mm_Go (mm_run 0) mc_Index_havers _ (31, [(0, .inr (.inr v0)), (1, .inl v1), (2, .inl (mm_w (v2 + 0))), (3, .inl (mm_w (v3 + 1)))], [], M)
      refine mm_s1 rfl ?_
      show mm_Go (mm_run 0) mc_Index_havers _ (4, [(0, .inr (.inr v0)), (1, .inl v1), (2, .inl (mm_w (v2 + 0))), (3, .inl (mm_w (v3 + 1)))], [], M)
      exact nn_go_ext (nn_xc rfl (nn_xc rfl (nn_xc rfl (nn_xc rfl nn_xn)))) (h n L N C0)
    · show mm_Go (mm_run 0) mc_Index_havers _ (21, [(0, .inr (.inr v0)), (1, .inl v1), (2, .inl v2), (3, .inl v3)], [.inl v2], M)
      replace c18 := Decidable.not_not.mp c18
      replace h := h.2 c18
      refine mm_s1 rfl ?_
      refine mm_s1 rfl ?_
      show mm_Go (mm_run 0) mc_Index_havers _ (26, [(0, .inr (.inr v0)), (1, .inl v1), (2, .inl v2), (3, .inl v3)], [.inl 1, .inl v2], M)
      refine mm_s1 rfl ?_
      refine mm_s1 rfl ?_
      show mm_Go (mm_run 0) mc_Index_havers _ (28, [(0, .inr (.inr v0)), (1, .inl v1), (2, .inl (mm_w (v2 + 1))), (3, .inl v3)], [], M)
      refine mm_s1 rfl ?_
      show mm_Go (mm_run 0) mc_Index_havers _ (31, [(0, .inr (.inr v0)), (1, .inl v1), (2, .inl (mm_w (v2 + 1))), (3, .inl (mm_w (v3 + 1)))], [], M)
      refine mm_s1 rfl ?_
      show mm_Go (mm_run 0) mc_Index_havers _ (4, [(0, .inr (.inr v0)), (1, .inl v1), (2, .inl (mm_w (v2 + 1))), (3, .inl (mm_w (v3 + 1)))], [], M)
      exact nn_go_ext (nn_xc rfl (nn_xc rfl (nn_xc rfl (nn_xc rfl nn_xn)))) (h n L N C0)
def nr_Index_isAhead (v0 : Nat) (v1 : Int) (M : mm_M) (R : Int → mm_M → Prop) : Prop := ∀ n, nn_L M → M.1 = n → nn_C 5 v0 n → mm_run 1 mi_Index_isAhead [.inr (.inr v0), .inl v1] M (nw_Z n R)
def nk_Index_isAhead_4 (v0 : Nat) (v1 : Int) (v2 : Int) (v3 : Int) (M : mm_M) (R : Int → mm_M → Prop) : Prop := ∀ n, nn_L M → M.1 = n → nn_C 5 v0 n → mm_Go (mm_run 0) mc_Index_isAhead (nw_Z n R) (4, [(0, .inr (.inr v0)), (1, .inl v1), (2, .inl v2), (3, .inl v3)], [], M)
def nk_Index_isAhead_55 (v0 : Nat) (v1 : Int) (v2 : Int) (v3 : Int) (M : mm_M) (R : Int → mm_M → Prop) : Prop := ∀ n, nn_L M → M.1 = n → nn_C 5 v0 n → mm_Go (mm_run 0) mc_Index_isAhead (nw_Z n R) (55, [(0, .inr (.inr v0)), (1, .inl v1), (2, .inl v2), (3, .inl v3)], [], M)
set_option maxRecDepth 20000 in
theorem ng_Index_isAhead (v0 : Nat) (v1 : Int) (M : mm_M) (R : Int → mm_M → Prop) (h : nk_Index_isAhead_4 v0 v1 0 0 M R) : nr_Index_isAhead v0 v1 M R := by
  intro n L N C0
  have NN := nn_L_n L N
  show mm_Go (mm_run 0) mc_Index_isAhead _ (0, [(0, .inr (.inr v0)), (1, .inl v1)], [], M)
  refine mm_s1 rfl ?_
  refine mm_s1 rfl ?_
  show mm_Go (mm_run 0) mc_Index_isAhead _ (2, [(0, .inr (.inr v0)), (1, .inl v1), (2, .inl 0)], [], M)
  refine mm_s1 rfl ?_
  refine mm_s1 rfl ?_
  show mm_Go (mm_run 0) mc_Index_isAhead _ (4, [(0, .inr (.inr v0)), (1, .inl v1), (2, .inl 0), (3, .inl 0)], [], M)
  exact nn_go_ext (nn_xc rfl (nn_xc rfl (nn_xc rfl (nn_xc rfl nn_xn)))) (h n L N C0)
set_option maxRecDepth 20000 in
theorem ng_Index_isAhead_4 (v0 : Nat) (v1 : Int) (v2 : Int) (v3 : Int) (M : mm_M) (R : Int → mm_M → Prop) (h : (((nn_rf M (v0 + 4) 1) ≤ v3 → nk_Index_isAhead_55 v0 v1 v2 0 M R) ∧ (v3 < (nn_rf M (v0 + 4) 1) → ((v2 ≠ 0 → nk_Index_isAhead_55 v0 v1 v2 0 M R) ∧ (v2 = 0 → (((0 : Int) ≤ v3 ∧ v3 < ((mm_kd (v0 + 5)).2 : Int)) ∧ (((0 : Int) ≤ v1 ∧ v1 < (144 : Int)) ∧ (((mm_lcmp (nn_ri M (v0 + 5) v3) (nn_ri M (v0 + 9) v1)) ≠ 0 → nk_Index_isAhead_4 v0 v1 0 (mm_w (v3 + 1)) M R) ∧ ((mm_lcmp (nn_ri M (v0 + 5) v3) (nn_ri M (v0 + 9) v1)) = 0 → nk_Index_isAhead_4 v0 v1 1 (mm_w (v3 + 1)) M R))))))))) : nk_Index_isAhead_4 v0 v1 v2 v3 M R := by
  intro n L N C0
  have NN := nn_L_n L N
  show mm_Go (mm_run 0) mc_Index_isAhead _ (4, [(0, .inr (.inr v0)), (1, .inl v1), (2, .inl v2), (3, .inl v3)], [], M)
  refine mm_s1 rfl ?_
  refine mm_s1 rfl ?_
  refine nn_getr rfl C0.1 (lf_5_1 L N C0) ?_
  refine mm_s1 rfl ⟨(nc_5_1 NN C0).1, ?_⟩
  show mm_Go (mm_run 0) mc_Index_isAhead _ (12, [(0, .inr (.inr v0)), (1, .inl v1), (2, .inl v2), (3, .inl v3)], [.inl (nn_rf M (v0 + 4) 1), .inl v3], M)
  refine mm_s1 rfl ⟨fun c12 => ?_, fun c12 => ?_⟩
  · show mm_Go (mm_run 0) mc_Index_isAhead _ (53, [(0, .inr (.inr v0)), (1, .inl v1), (2, .inl v2), (3, .inl v3)], [], M)
    replace h := h.1 c12
    refine mm_s1 rfl ?_
    refine mm_s1 rfl ?_
    show mm_Go (mm_run 0) mc_Index_isAhead _ (55, [(0, .inr (.inr v0)), (1, .inl v1), (2, .inl v2), (3, .inl 0)], [], M)
    exact nn_go_ext (nn_xc rfl (nn_xc rfl (nn_xc rfl (nn_xc rfl nn_xn)))) (h n L N C0)
  · show mm_Go (mm_run 0) mc_Index_isAhead _ (15, [(0, .inr (.inr v0)), (1, .inl v1), (2, .inl v2), (3, .inl v3)], [], M)
    replace c12 := Int.not_le.mp c12
    replace h := h.2 c12
    refine mm_s1 rfl ?_
    refine mm_s1 rfl ⟨fun c16 => ?_, fun c16 => ?_⟩
    · show mm_Go (mm_run 0) mc_Index_isAhead _ (53, [(0, .inr (.inr v0)), (1, .inl v1), (2, .inl v2), (3, .inl v3)], [], M)
      replace h := h.1 c16
      refine mm_s1 rfl ?_
      refine mm_s1 rfl ?_
      show mm_Go (mm_run 0) mc_Index_isAhead _ (55, [(0, .inr (.inr v0)), (1, .inl v1), (2, .inl v2), (3, .inl 0)], [], M)
      exact nn_go_ext (nn_xc rfl (nn_xc rfl (nn_xc rfl (nn_xc rfl nn_xn)))) (h n L N C0)
    · show mm_Go (mm_run 0) mc_Index_isAhead _ (19, [(0, .inr (.inr v0)), (1, .inl v1), (2, .inl v2), (3, .inl v3)], [], M)
      replace c16 := Decidable.not_not.mp c16
      replace h := h.2 c16
      refine mm_s1 rfl ?_
      refine nn_getr rfl C0.1 (lf_5_1 L N C0) ?_
      refine nn_getr rfl (nc_5_1 NN C0).1 (lf_4_0 L N (nc_5_1 NN C0)) ?_
      refine mm_s1 rfl ?_
      obtain ⟨b27, h⟩ := h
      refine mm_s1 rfl ⟨⟨(nc_4_0 NN (nc_5_1 NN C0)).1, b27⟩, ?_⟩
      show mm_Go (mm_run 0) mc_Index_isAhead _ (28, [(0, .inr (.inr v0)), (1, .inl v1), (2, .inl v2), (3, .inl v3)], [.inr (.inl (nn_ri M (v0 + 5) v3))], M)
      refine mm_s1 rfl ?_
      refine nn_getr rfl C0.1 (lf_5_3 L N C0) ?_
      refine nn_getr rfl (nc_5_3 NN C0).1 (lf_6_0 L N (nc_5_3 NN C0)) ?_
      refine mm_s1 rfl ?_
      obtain ⟨b36, h⟩ := h
      refine mm_s1 rfl ⟨nn_bd (na_6_0 NN (nc_5_3 NN C0)) b36, ?_⟩
      show mm_Go (mm_run 0) mc_Index_isAhead _ (37, [(0, .inr (.inr v0)), (1, .inl v1), (2, .inl v2), (3, .inl v3)], [.inr (.inl (nn_ri M (v0 + 9) v1)), .inr (.inl (nn_ri M (v0 + 5) v3))], M)
      refine mm_s1 rfl ?_
      refine mm_s1 rfl ⟨fun c38 => ?_, fun c38 => ?_⟩
      · show mm_Go (mm_run 0) mc_Index_isAhead _ (45, [(0, .inr (.inr v0)), (1, .inl v1), (2, .inl v2), (3, .inl v3)], [], M)
        replace h := h.1 c38
        refine mm_s1 rfl ?_
        refine mm_s1 rfl ?_
        show mm_Go (mm_run 0) mc_Index_isAhead _ (47, [(0, .inr (.inr v0)), (1, .inl v1), (2, .inl 0), (3, .inl v3)], [], M)
        refine mm_s1 rfl ?_
        show mm_Go (mm_run 0) mc_Index_isAhead _ (50, [(0, .inr (.inr v0)), (1, .inl v1), (2, .inl 0), (3, .inl (mm_w (v3 + 1)))], [], M)
        refine mm_s1 rfl ?_
        show mm_Go (mm_run 0) mc_Index_isAhead _ (4, [(0, .inr (.inr v0)), (1, .inl v1), (2, .inl 0), (3, .inl (mm_w (v3 + 1)))], [], M)
        exact nn_go_ext (nn_xc rfl (nn_xc rfl (nn_xc rfl (nn_xc rfl nn_xn)))) (h n L N C0)
      · show mm_Go (mm_run 0) mc_Index_isAhead _ (41, [(0, .inr (.inr v0)), (1, .inl v1), (2, .inl v2), (3, .inl v3)], [], M)
        replace c38 := Decidable.not_not.mp c38
        replace h := h.2 c38
        refine mm_s1 rfl ?_
        refine mm_s1 rfl ?_
        show mm_Go (mm_run 0) mc_Index_isAhead _ (46, [(0, .inr (.inr v0)), (1, .inl v1), (2, .inl v2), (3, .inl v3)], [.inl 1], M)
        refine mm_s1 rfl ?_
        show mm_Go (mm_run 0) mc_Index_isAhead _ (47, [(0, .inr (.inr v0)), (1, .inl v1), (2, .inl 1), (3, .inl v3)], [], M)
        refine mm_s1 rfl ?_
        show mm_Go (mm_run 0) mc_Index_isAhead _ (50, [(0, .inr (.inr v0)), (1, .inl v1), (2, .inl 1), (3, .inl (mm_w (v3 + 1)))], [], M)
        refine mm_s1 rfl ?_
        show mm_Go (mm_run 0) mc_Index_isAhead _ (4, [(0, .inr (.inr v0)), (1, .inl v1), (2, .inl 1), (3, .inl (mm_w (v3 + 1)))], [], M)
        exact nn_go_ext (nn_xc rfl (nn_xc rfl (nn_xc rfl (nn_xc rfl nn_xn)))) (h n L N C0)
set_option maxRecDepth 20000 in
theorem ng_Index_isAhead_55 (v0 : Nat) (v1 : Int) (v2 : Int) (v3 : Int) (M : mm_M) (R : Int → mm_M → Prop) (h : ((v1 ≤ v3 → ((v2 = 0 ∨ v2 = 1) ∧ R v2 M)) ∧ (v3 < v1 → ((v2 ≠ 0 → ((v2 = 0 ∨ v2 = 1) ∧ R v2 M)) ∧ (v2 = 0 → (((0 : Int) ≤ v3 ∧ v3 < (144 : Int)) ∧ (((0 : Int) ≤ v1 ∧ v1 < (144 : Int)) ∧ (((mm_lcmp (nn_ri M (v0 + 9) v3) (nn_ri M (v0 + 9) v1)) ≠ 0 → nk_Index_isAhead_55 v0 v1 0 (mm_w (v3 + 1)) M R) ∧ ((mm_lcmp (nn_ri M (v0 + 9) v3) (nn_ri M (v0 + 9) v1)) = 0 → nk_Index_isAhead_55 v0 v1 1 (mm_w (v3 + 1)) M R))))))))) : nk_Index_isAhead_55 v0 v1 v2 v3 M R := by
  intro n L N C0
  have NN := nn_L_n L N
  show mm_Go (mm_run 0) mc_Index_isAhead _ (55, [(0, .inr (.inr v0)), (1, .inl v1), (2, .inl v2), (3, .inl v3)], [], M)
  refine mm_s1 rfl ?_
  refine mm_s1 rfl ?_
  refine mm_s1 rfl ⟨fun c57 => ?_, fun c57 => ?_⟩
  · show mm_Go (mm_run 0) mc_Index_isAhead _ (98, [(0, .inr (.inr v0)), (1, .inl v1), (2, .inl v2), (3, .inl v3)], [], M)
    replace h := h.1 c57
    refine mm_s1 rfl ?_
    obtain ⟨b99, h⟩ := h
    exact mm_s1 rfl ⟨b99, _, rfl, b99, L, N, h⟩
  · show mm_Go (mm_run 0) mc_Index_isAhead _ (60, [(0, .inr (.inr v0)), (1, .inl v1), (2, .inl v2), (3, .inl v3)], [], M)
    replace c57 := Int.not_le.mp c57
    replace h := h.2 c57
    refine mm_s1 rfl ?_
    refine mm_s1 rfl ⟨fun c61 => ?_, fun c61 => ?_⟩
    · show mm_Go (mm_run 0) mc_Index_isAhead _ (98, [(0, .inr (.inr v0)), (1, .inl v1), (2, .inl v2), (3, .inl v3)], [], M)
      replace h := h.1 c61
      refine mm_s1 rfl ?_
      obtain ⟨b99, h⟩ := h
      exact mm_s1 rfl ⟨b99, _, rfl, b99, L, N, h⟩
    · show mm_Go (mm_run 0) mc_Index_isAhead _ (64, [(0, .inr (.inr v0)), (1, .inl v1), (2, .inl v2), (3, .inl v3)], [], M)
      replace c61 := Decidable.not_not.mp c61
      replace h := h.2 c61
      refine mm_s1 rfl ?_
      refine nn_getr rfl C0.1 (lf_5_3 L N C0) ?_
      refine nn_getr rfl (nc_5_3 NN C0).1 (lf_6_0 L N (nc_5_3 NN C0)) ?_
      refine mm_s1 rfl ?_
      obtain ⟨b72, h⟩ := h
      refine mm_s1 rfl ⟨nn_bd (na_6_0 NN (nc_5_3 NN C0)) b72, ?_⟩
      show mm_Go (mm_run 0) mc_Index_isAhead _ (73, [(0, .inr (.inr v0)), (1, .inl v1), (2, .inl v2), (3, .inl v3)], [.inr (.inl (nn_ri M (v0 + 9) v3))], M)
      refine mm_s1 rfl ?_
      refine nn_getr rfl C0.1 (lf_5_3 L N C0) ?_
      refine nn_getr rfl (nc_5_3 NN C0).1 (lf_6_0 L N (nc_5_3 NN C0)) ?_
      refine mm_s1 rfl ?_
      obtain ⟨b81, h⟩ := h
      refine mm_s1 rfl ⟨nn_bd (na_6_0 NN (nc_5_3 NN C0)) b81, ?_⟩
      show mm_Go (mm_run 0) mc_Index_isAhead _ (82, [(0, .inr (.inr v0)), (1, .inl v1), (2, .inl v2), (3, .inl v3)], [.inr (.inl (nn_ri M (v0 + 9) v1)), .inr (.inl (nn_ri M (v0 + 9) v3))], M)
      refine mm_s1 rfl ?_
      refine mm_s1 rfl ⟨fun c83 => ?_, fun c83 => ?_⟩
      · show mm_Go (mm_run 0) mc_Index_isAhead _ (90, [(0, .inr (.inr v0)), (1, .inl v1), (2, .inl v2), (3, .inl v3)], [], M)
        replace h := h.1 c83
        refine mm_s1 rfl ?_
        refine mm_s1 rfl ?_
        show mm_Go (mm_run 0) mc_Index_isAhead _ (92, [(0, .inr (.inr v0)), (1, .inl v1), (2, .inl 0), (3, .inl v3)], [], M)
        refine mm_s1 rfl ?_
        show mm_Go (mm_run 0) mc_Index_isAhead _ (95, [(0, .inr (.inr v0)), (1, .inl v1), (2, .inl 0), (3, .inl (mm_w (v3 + 1)))], [], M)
        refine mm_s1 rfl ?_
        show mm_Go (mm_run 0) mc_Index_isAhead _ (55, [(0, .inr (.inr v0)), (1, .inl v1), (2, .inl 0), (3, .inl (mm_w (v3 + 1)))], [], M)
        exact nn_go_ext (nn_xc rfl (nn_xc rfl (nn_xc rfl (nn_xc rfl nn_xn)))) (h n L N C0)
      · show mm_Go (mm_run 0) mc_Index_isAhead _ (86, [(0, .inr (.inr v0)), (1, .inl v1), (2, .inl v2), (3, .inl v3)], [], M)
        replace c83 := Decidable.not_not.mp c83
        replace h := h.2 c83
        refine mm_s1 rfl ?_
        refine mm_s1 rfl ?_
        show mm_Go (mm_run 0) mc_Index_isAhead _ (91, [(0, .inr (.inr v0)), (1, .inl v1), (2, .inl v2), (3, .inl v3)], [.inl 1], M)
        refine mm_s1 rfl ?_
        show mm_Go (mm_run 0) mc_Index_isAhead _ (92, [(0, .inr (.inr v0)), (1, .inl v1), (2, .inl 1), (3, .inl v3)], [], M)
        refine mm_s1 rfl ?_
        show mm_Go (mm_run 0) mc_Index_isAhead _ (95, [(0, .inr (.inr v0)), (1, .inl v1), (2, .inl 1), (3, .inl (mm_w (v3 + 1)))], [], M)
        refine mm_s1 rfl ?_
        show mm_Go (mm_run 0) mc_Index_isAhead _ (55, [(0, .inr (.inr v0)), (1, .inl v1), (2, .inl 1), (3, .inl (mm_w (v3 + 1)))], [], M)
        exact nn_go_ext (nn_xc rfl (nn_xc rfl (nn_xc rfl (nn_xc rfl nn_xn)))) (h n L N C0)
def nf_Pile_size (v0 : Nat) (M : mm_M) : Int := nn_ri M (v0 + 2) (nn_rf M v0 5)
def nc_Pile_size (v0 : Nat) (M : mm_M) : Prop := ((0 : Int) ≤ (nn_rf M v0 5) ∧ (nn_rf M v0 5) < (25 : Int))
set_option maxRecDepth 20000 in
theorem np_Pile_size {v0 : Nat} {M : mm_M} {n d : Nat} {P : mm_P} (hd : 1 ≤ d) (L : nn_L M) (N : M.1 = n) (C0 : nn_C 6 v0 n) (b : nc_Pile_size v0 M) (h : P (some (.inl (nf_Pile_size v0 M))) M) : mm_run d mi_Pile_size [.inr (.inr v0)] M P := by
  have NN := nn_L_n L N
  unfold nc_Pile_size at b
  unfold nf_Pile_size at h
  refine nn_run_le hd ?_
  show mm_Go (mm_run 0) mc_Pile_size _ (0, [(0, .inr (.inr v0))], [], M)
  refine mm_s1 rfl ?_
  refine nn_getr rfl C0.1 (lf_6_1 L N C0) ?_
  refine mm_s1 rfl ?_
  refine mm_s1 rfl ⟨C0.1, ?_⟩
  show mm_Go (mm_run 0) mc_Pile_size _ (8, [(0, .inr (.inr v0))], [.inl (nn_rf M v0 5), .inr (.inr (v0 + 2))], M)
  have b8 := b
  refine mm_s1 rfl ⟨nn_bd (na_6_1 NN C0) b8, ?_⟩
  show mm_Go (mm_run 0) mc_Pile_size _ (9, [(0, .inr (.inr v0))], [.inl (nn_ri M (v0 + 2) (nn_rf M v0 5))], M)
  exact mm_s1 rfl h
def nr_Pile_takeOut (v0 : Nat) (v1 : Int) (v2 : Int) (M : mm_M) (R : mm_M → Prop) : Prop := ∀ n, nn_L M → M.1 = n → nn_C 6 v0 n → mm_run 1 mi_Pile_takeOut [.inr (.inr v0), .inl v1, .inl v2] M (nw_V n R)
def nk_Pile_takeOut_2 (v0 : Nat) (v1 : Int) (v2 : Int) (v3 : Int) (M : mm_M) (R : mm_M → Prop) : Prop := ∀ n, nn_L M → M.1 = n → nn_C 6 v0 n → mm_Go (mm_run 0) mc_Pile_takeOut (nw_V n R) (2, [(0, .inr (.inr v0)), (1, .inl v1), (2, .inl v2), (3, .inl v3)], [], M)
def nk_Pile_takeOut_62 (v0 : Nat) (v2 : Int) (v3 : Int) (M : mm_M) (R : mm_M → Prop) : Prop := ∀ n, nn_L M → M.1 = n → nn_C 6 v0 n → mm_Go (mm_run 0) mc_Pile_takeOut (nw_V n R) (62, [(0, .inr (.inr v0)), (2, .inl v2), (3, .inl v3)], [], M)
set_option maxRecDepth 20000 in
theorem ng_Pile_takeOut (v0 : Nat) (v1 : Int) (v2 : Int) (M : mm_M) (R : mm_M → Prop) (h : nk_Pile_takeOut_2 v0 v1 v2 v1 M R) : nr_Pile_takeOut v0 v1 v2 M R := by
  intro n L N C0
  have NN := nn_L_n L N
  show mm_Go (mm_run 0) mc_Pile_takeOut _ (0, [(0, .inr (.inr v0)), (1, .inl v1), (2, .inl v2)], [], M)
  refine mm_s1 rfl ?_
  refine mm_s1 rfl ?_
  show mm_Go (mm_run 0) mc_Pile_takeOut _ (2, [(0, .inr (.inr v0)), (1, .inl v1), (2, .inl v2), (3, .inl v1)], [], M)
  exact nn_go_ext (nn_xc rfl (nn_xc rfl (nn_xc rfl (nn_xc rfl nn_xn)))) (h n L N C0)
set_option maxRecDepth 20000 in
theorem ng_Pile_takeOut_2 (v0 : Nat) (v1 : Int) (v2 : Int) (v3 : Int) (M : mm_M) (R : mm_M → Prop) (h : (((mm_w ((nn_rf M v0 5) - v2)) ≤ v3 → nk_Pile_takeOut_62 v0 v2 v1 M R) ∧ (v3 < (mm_w ((nn_rf M v0 5) - v2)) → (((0 : Int) ≤ (mm_w (v3 + v2)) ∧ (mm_w (v3 + v2)) < (24 : Int)) ∧ (((0 : Int) ≤ v3 ∧ v3 < (24 : Int)) ∧ (∀ M25 : mm_M, M25 = nn_ui M (v0 + 3) v3 (nn_ri M (v0 + 3) (mm_w (v3 + v2))) → (((0 : Int) ≤ (mm_w (v3 + v2)) ∧ (mm_w (v3 + v2)) < (24 : Int)) ∧ (((0 : Int) ≤ v3 ∧ v3 < (24 : Int)) ∧ (∀ M39 : mm_M, M39 = nn_ui M25 (v0 + 4) v3 (nn_ri M25 (v0 + 4) (mm_w (v3 + v2))) → (((0 : Int) ≤ (mm_w (v3 + v2)) ∧ (mm_w (v3 + v2)) < (24 : Int)) ∧ (((0 : Int) ≤ v3 ∧ v3 < (24 : Int)) ∧ (∀ M53 : mm_M, M53 = nn_ui M39 (v0 + 5) v3 (nn_ri M39 (v0 + 5) (mm_w (v3 + v2))) → nk_Pile_takeOut_2 v0 v1 v2 (mm_w (v3 + 1)) M53 R)))))))))))) : nk_Pile_takeOut_2 v0 v1 v2 v3 M R := by
  intro n L N C0
  have NN := nn_L_n L N
  show mm_Go (mm_run 0) mc_Pile_takeOut _ (2, [(0, .inr (.inr v0)), (1, .inl v1), (2, .inl v2), (3, .inl v3)], [], M)
  refine mm_s1 rfl ?_
  refine mm_s1 rfl ?_
  refine mm_s1 rfl ⟨C0.1, ?_⟩
  show mm_Go (mm_run 0) mc_Pile_takeOut _ (7, [(0, .inr (.inr v0)), (1, .inl v1), (2, .inl v2), (3, .inl v3)], [.inl (nn_rf M v0 5), .inl v3], M)
  refine mm_s1 rfl ?_
  refine mm_s1 rfl ?_
  refine mm_s1 rfl ⟨fun c9 => ?_, fun c9 => ?_⟩
  · show mm_Go (mm_run 0) mc_Pile_takeOut _ (60, [(0, .inr (.inr v0)), (1, .inl v1), (2, .inl v2), (3, .inl v3)], [], M)
    replace h := h.1 c9
    refine mm_s1 rfl ?_
    refine mm_s1 rfl ?_
    show mm_Go (mm_run 0) mc_Pile_takeOut _ (62, [(0, .inr (.inr v0)), (1, .inl v1), (2, .inl v2), (3, .inl v1)], [], M)
    exact nn_go_ext (nn_xc rfl (nn_xc rfl (nn_xc rfl nn_xn))) (h n L N C0)
  · show mm_Go (mm_run 0) mc_Pile_takeOut _ (12, [(0, .inr (.inr v0)), (1, .inl v1), (2, .inl v2), (3, .inl v3)], [], M)
    replace c9 := Int.not_le.mp c9
    replace h := h.2 c9
    refine mm_s1 rfl ?_
    refine nn_getr rfl C0.1 (lf_6_2 L N C0) ?_
    refine mm_s1 rfl ?_
    refine mm_s1 rfl ?_
    refine nn_getr rfl C0.1 (lf_6_2 L N C0) ?_
    show mm_Go (mm_run 0) mc_Pile_takeOut _ (21, [(0, .inr (.inr v0)), (1, .inl v1), (2, .inl v2), (3, .inl v3)], [.inr (.inr (v0 + 3)), .inl v3, .inr (.inr (v0 + 3))], M)
    refine mm_s1 rfl ?_
    refine mm_s1 rfl ?_
    refine mm_s1 rfl ?_
    obtain ⟨b24, h⟩ := h
    refine mm_s1 rfl ⟨nn_bd (na_6_2 NN C0) b24, ?_⟩
    show mm_Go (mm_run 0) mc_Pile_takeOut _ (25, [(0, .inr (.inr v0)), (1, .inl v1), (2, .inl v2), (3, .inl v3)], [.inl (nn_ri M (v0 + 3) (mm_w (v3 + v2))), .inl v3, .inr (.inr (v0 + 3))], M)
    obtain ⟨b25, h⟩ := h
    refine mm_s1 rfl ⟨nn_bd (na_6_2 NN C0) b25, ?_⟩
    show mm_Go (mm_run 0) mc_Pile_takeOut _ (26, [(0, .inr (.inr v0)), (1, .inl v1), (2, .inl v2), (3, .inl v3)], [], (nn_ui M (v0 + 3) v3 (nn_ri M (v0 + 3) (mm_w (v3 + v2)))))
    have L : nn_L (nn_ui M (v0 + 3) v3 (nn_ri M (v0 + 3) (mm_w (v3 + v2)))) := nn_L_ua L (congrArg Prod.fst (na_6_2 NN C0)) (by decide)
    have N : (nn_ui M (v0 + 3) v3 (nn_ri M (v0 + 3) (mm_w (v3 + v2)))).1 = n := N
    generalize e_M25 : (nn_ui M (v0 + 3) v3 (nn_ri M (v0 + 3) (mm_w (v3 + v2)))) = M25 at L N ⊢
    replace h := h _ e_M25.symm
    show mm_Go (mm_run 0) mc_Pile_takeOut _ (26, [(0, .inr (.inr v0)), (1, .inl v1), (2, .inl v2), (3, .inl v3)], [], M25)
    refine mm_s1 rfl ?_
    refine nn_getr rfl C0.1 (lf_6_3 L N C0) ?_
    refine mm_s1 rfl ?_
    refine mm_s1 rfl ?_
    refine nn_getr rfl C0.1 (lf_6_3 L N C0) ?_
    show mm_Go (mm_run 0) mc_Pile_takeOut _ (35, [(0, .inr (.inr v0)), (1, .inl v1), (2, .inl v2), (3, .inl v3)], [.inr (.inr (v0 + 4)), .inl v3, .inr (.inr (v0 + 4))], M25)
    refine mm_s1 rfl ?_
    refine mm_s1 rfl ?_
    refine mm_s1 rfl ?_
    obtain ⟨b38, h⟩ := h
    refine mm_s1 rfl ⟨nn_bd (na_6_3 NN C0) b38, ?_⟩
    show mm_Go (mm_run 0) mc_Pile_takeOut _ (39, [(0, .inr (.inr v0)), (1, .inl v1), (2, .inl v2), (3, .inl v3)], [.inl (nn_ri M25 (v0 + 4) (mm_w (v3 + v2))), .inl v3, .inr (.inr (v0 + 4))], M25)
    obtain ⟨b39, h⟩ := h
    refine mm_s1 rfl ⟨nn_bd (na_6_3 NN C0) b39, ?_⟩
    show mm_Go (mm_run 0) mc_Pile_takeOut _ (40, [(0, .inr (.inr v0)), (1, .inl v1), (2, .inl v2), (3, .inl v3)], [], (nn_ui M25 (v0 + 4) v3 (nn_ri M25 (v0 + 4) (mm_w (v3 + v2)))))
    have L : nn_L (nn_ui M25 (v0 + 4) v3 (nn_ri M25 (v0 + 4) (mm_w (v3 + v2)))) := nn_L_ua L (congrArg Prod.fst (na_6_3 NN C0)) (by decide)
    have N : (nn_ui M25 (v0 + 4) v3 (nn_ri M25 (v0 + 4) (mm_w (v3 + v2)))).1 = n := N
    generalize e_M39 : (nn_ui M25 (v0 + 4) v3 (nn_ri M25 (v0 + 4) (mm_w (v3 + v2)))) = M39 at L N ⊢
    replace h := h _ e_M39.symm
    show mm_Go (mm_run 0) mc_Pile_takeOut _ (40, [(0, .inr (.inr v0)), (1, .inl v1), (2, .inl v2), (3, .inl v3)], [], M39)
    refine mm_s1 rfl ?_
    refine nn_getr rfl C0.1 (lf_6_4 L N C0) ?_
    refine mm_s1 rfl ?_
    refine mm_s1 rfl ?_
    refine nn_getr rfl C0.1 (lf_6_4 L N C0) ?_
    show mm_Go (mm_run 0) mc_Pile_takeOut _ (49, [(0, .inr (.inr v0)), (1, .inl v1), (2, .inl v2), (3, .inl v3)], [.inr (.inr (v0 + 5)), .inl v3, .inr (.inr (v0 + 5))], M39)
    refine mm_s1 rfl ?_
    refine mm_s1 rfl ?_
    refine mm_s1 rfl ?_
    obtain ⟨b52, h⟩ := h
    refine mm_s1 rfl ⟨nn_bd (na_6_4 NN C0) b52, ?_⟩
    show mm_Go (mm_run 0) mc_Pile_takeOut _ (53, [(0, .inr (.inr v0)), (1, .inl v1), (2, .inl v2), (3, .inl v3)], [.inl (nn_ri M39 (v0 + 5) (mm_w (v3 + v2))), .inl v3, .inr (.inr (v0 + 5))], M39)
    obtain ⟨b53, h⟩ := h
    refine mm_s1 rfl ⟨nn_bd (na_6_4 NN C0) b53, ?_⟩
    show mm_Go (mm_run 0) mc_Pile_takeOut _ (54, [(0, .inr (.inr v0)), (1, .inl v1), (2, .inl v2), (3, .inl v3)], [], (nn_ui M39 (v0 + 5) v3 (nn_ri M39 (v0 + 5) (mm_w (v3 + v2)))))
    have L : nn_L (nn_ui M39 (v0 + 5) v3 (nn_ri M39 (v0 + 5) (mm_w (v3 + v2)))) := nn_L_ua L (congrArg Prod.fst (na_6_4 NN C0)) (by decide)
    have N : (nn_ui M39 (v0 + 5) v3 (nn_ri M39 (v0 + 5) (mm_w (v3 + v2)))).1 = n := N
    generalize e_M53 : (nn_ui M39 (v0 + 5) v3 (nn_ri M39 (v0 + 5) (mm_w (v3 + v2)))) = M53 at L N ⊢
    replace h := h _ e_M53.symm
    show mm_Go (mm_run 0) mc_Pile_takeOut _ (54, [(0, .inr (.inr v0)), (1, .inl v1), (2, .inl v2), (3, .inl v3)], [], M53)
    refine mm_s1 rfl ?_
    show mm_Go (mm_run 0) mc_Pile_takeOut _ (57, [(0, .inr (.inr v0)), (1, .inl v1), (2, .inl v2), (3, .inl (mm_w (v3 + 1)))], [], M53)
    refine mm_s1 rfl ?_
    show mm_Go (mm_run 0) mc_Pile_takeOut _ (2, [(0, .inr (.inr v0)), (1, .inl v1), (2, .inl v2), (3, .inl (mm_w (v3 + 1)))], [], M53)
    exact nn_go_ext (nn_xc rfl (nn_xc rfl (nn_xc rfl (nn_xc rfl nn_xn)))) (h n L N C0)
set_option maxRecDepth 20000 in
theorem ng_Pile_takeOut_62 (v0 : Nat) (v2 : Int) (v3 : Int) (M : mm_M) (R : mm_M → Prop) (h : (((mm_w ((nn_rf M v0 5) - v2)) < v3 → (∀ M99 : mm_M, M99 = nn_uf M v0 5 (mm_w ((nn_rf M v0 5) - v2)) → R M99)) ∧ (v3 ≤ (mm_w ((nn_rf M v0 5) - v2)) → (((0 : Int) ≤ (mm_w (v3 + v2)) ∧ (mm_w (v3 + v2)) < (25 : Int)) ∧ (((0 : Int) ≤ v3 ∧ v3 < (25 : Int)) ∧ (∀ M85 : mm_M, M85 = nn_ui M (v0 + 2) v3 (nn_ri M (v0 + 2) (mm_w (v3 + v2))) → nk_Pile_takeOut_62 v0 v2 (mm_w (v3 + 1)) M85 R)))))) : nk_Pile_takeOut_62 v0 v2 v3 M R := by
  intro n L N C0
  have NN := nn_L_n L N
  show mm_Go (mm_run 0) mc_Pile_takeOut _ (62, [(0, .inr (.inr v0)), (2, .inl v2), (3, .inl v3)], [], M)
  refine mm_s1 rfl ?_
  refine mm_s1 rfl ?_
  refine mm_s1 rfl ⟨C0.1, ?_⟩
  show mm_Go (mm_run 0) mc_Pile_takeOut _ (67, [(0, .inr (.inr v0)), (2, .inl v2), (3, .inl v3)], [.inl (nn_rf M v0 5), .inl v3], M)
  refine mm_s1 rfl ?_
  refine mm_s1 rfl ?_
  refine mm_s1 rfl ⟨fun c69 => ?_, fun c69 => ?_⟩
  · show mm_Go (mm_run 0) mc_Pile_takeOut _ (92, [(0, .inr (.inr v0)), (2, .inl v2), (3, .inl v3)], [], M)
    replace h := h.1 c69
    refine mm_s1 rfl ?_
    refine mm_s1 rfl ?_
    refine mm_s1 rfl ⟨C0.1, ?_⟩
    show mm_Go (mm_run 0) mc_Pile_takeOut _ (97, [(0, .inr (.inr v0)), (2, .inl v2), (3, .inl v3)], [.inl (nn_rf M v0 5), .inr (.inr v0)], M)
    refine mm_s1 rfl ?_
    refine mm_s1 rfl ?_
    refine mm_s1 rfl ⟨C0.1, ?_⟩
    show mm_Go (mm_run 0) mc_Pile_takeOut _ (102, [(0, .inr (.inr v0)), (2, .inl v2), (3, .inl v3)], [], (nn_uf M v0 5 (mm_w ((nn_rf M v0 5) - v2))))
    have L : nn_L (nn_uf M v0 5 (mm_w ((nn_rf M v0 5) - v2))) := nn_L_up L C0.1 rfl
    have N : (nn_uf M v0 5 (mm_w ((nn_rf M v0 5) - v2))).1 = n := N
    generalize e_M99 : (nn_uf M v0 5 (mm_w ((nn_rf M v0 5) - v2))) = M99 at L N ⊢
    replace h := h _ e_M99.symm
    show mm_Go (mm_run 0) mc_Pile_takeOut _ (102, [(0, .inr (.inr v0)), (2, .inl v2), (3, .inl v3)], [], M99)
    exact mm_s1 rfl ⟨rfl, L, N, h⟩
  · show mm_Go (mm_run 0) mc_Pile_takeOut _ (72, [(0, .inr (.inr v0)), (2, .inl v2), (3, .inl v3)], [], M)
    replace c69 := Int.not_lt.mp c69
    replace h := h.2 c69
    refine mm_s1 rfl ?_
    refine nn_getr rfl C0.1 (lf_6_1 L N C0) ?_
    refine mm_s1 rfl ?_
    refine mm_s1 rfl ?_
    refine nn_getr rfl C0.1 (lf_6_1 L N C0) ?_
    show mm_Go (mm_run 0) mc_Pile_takeOut _ (81, [(0, .inr (.inr v0)), (2, .inl v2), (3, .inl v3)], [.inr (.inr (v0 + 2)), .inl v3, .inr (.inr (v0 + 2))], M)
    refine mm_s1 rfl ?_
    refine mm_s1 rfl ?_
    refine mm_s1 rfl ?_
    obtain ⟨b84, h⟩ := h
    refine mm_s1 rfl ⟨nn_bd (na_6_1 NN C0) b84, ?_⟩
    show mm_Go (mm_run 0) mc_Pile_takeOut _ (85, [(0, .inr (.inr v0)), (2, .inl v2), (3, .inl v3)], [.inl (nn_ri M (v0 + 2) (mm_w (v3 + v2))), .inl v3, .inr (.inr (v0 + 2))], M)
    obtain ⟨b85, h⟩ := h
    refine mm_s1 rfl ⟨nn_bd (na_6_1 NN C0) b85, ?_⟩
    show mm_Go (mm_run 0) mc_Pile_takeOut _ (86, [(0, .inr (.inr v0)), (2, .inl v2), (3, .inl v3)], [], (nn_ui M (v0 + 2) v3 (nn_ri M (v0 + 2) (mm_w (v3 + v2)))))
    have L : nn_L (nn_ui M (v0 + 2) v3 (nn_ri M (v0 + 2) (mm_w (v3 + v2)))) := nn_L_ua L (congrArg Prod.fst (na_6_1 NN C0)) (by decide)
    have N : (nn_ui M (v0 + 2) v3 (nn_ri M (v0 + 2) (mm_w (v3 + v2)))).1 = n := N
    generalize e_M85 : (nn_ui M (v0 + 2) v3 (nn_ri M (v0 + 2) (mm_w (v3 + v2)))) = M85 at L N ⊢
    replace h := h _ e_M85.symm
    show mm_Go (mm_run 0) mc_Pile_takeOut _ (86, [(0, .inr (.inr v0)), (2, .inl v2), (3, .inl v3)], [], M85)
    refine mm_s1 rfl ?_
    show mm_Go (mm_run 0) mc_Pile_takeOut _ (89, [(0, .inr (.inr v0)), (2, .inl v2), (3, .inl (mm_w (v3 + 1)))], [], M85)
    refine mm_s1 rfl ?_
    show mm_Go (mm_run 0) mc_Pile_takeOut _ (62, [(0, .inr (.inr v0)), (2, .inl v2), (3, .inl (mm_w (v3 + 1)))], [], M85)
    exact nn_go_ext (nn_xc rfl (nn_xc rfl (nn_xc rfl nn_xn))) (h n L N C0)
def nr_Pile_sort (v0 : Nat) (v1 : Int) (M : mm_M) (R : mm_M → Prop) : Prop := ∀ n, nn_L M → M.1 = n → nn_C 6 v0 n → mm_run 1 mi_Pile_sort [.inr (.inr v0), .inl v1] M (nw_V n R)
def nk_Pile_sort_11 (v0 : Nat) (v1 : Int) (v2 : Int) (v3 : Int) (M : mm_M) (R : mm_M → Prop) : Prop := ∀ n, nn_L M → M.1 = n → nn_C 6 v0 n → mm_Go (mm_run 0) mc_Pile_sort (nw_V n R) (11, [(0, .inr (.inr v0)), (1, .inl v1), (2, .inl v2), (3, .inl v3)], [], M)
def nk_Pile_sort_34 (v0 : Nat) (v1 : Int) (v2 : Int) (v3 : Int) (v4 : Int) (v6 : Int) (M : mm_M) (R : mm_M → Prop) : Prop := ∀ n, nn_L M → M.1 = n → nn_C 6 v0 n → mm_Go (mm_run 0) mc_Pile_sort (nw_V n R) (34, [(0, .inr (.inr v0)), (1, .inl v1), (2, .inl v2), (3, .inl v3), (4, .inr (.inl v4)), (6, .inl v6)], [], M)
set_option maxRecDepth 20000 in
theorem ng_Pile_sort (v0 : Nat) (v1 : Int) (M : mm_M) (R : mm_M → Prop) (h : (((0 : Int) ≤ v1 ∧ v1 < (25 : Int)) ∧ (∀ x3_10 : Int, x3_10 = mm_w ((nn_ri M (v0 + 2) v1) + 1) → nk_Pile_sort_11 v0 v1 (nn_ri M (v0 + 2) v1) x3_10 M R))) : nr_Pile_sort v0 v1 M R := by
  intro n L N C0
  have NN := nn_L_n L N
  show mm_Go (mm_run 0) mc_Pile_sort _ (0, [(0, .inr (.inr v0)), (1, .inl v1)], [], M)
  refine mm_s1 rfl ?_
  refine nn_getr rfl C0.1 (lf_6_1 L N C0) ?_
  refine mm_s1 rfl ?_
  obtain ⟨b5, h⟩ := h
  refine mm_s1 rfl ⟨nn_bd (na_6_1 NN C0) b5, ?_⟩
  show mm_Go (mm_run 0) mc_Pile_sort _ (6, [(0, .inr (.inr v0)), (1, .inl v1)], [.inl (nn_ri M (v0 + 2) v1)], M)
  refine mm_s1 rfl ?_
  show mm_Go (mm_run 0) mc_Pile_sort _ (7, [(0, .inr (.inr v0)), (1, .inl v1), (2, .inl (nn_ri M (v0 + 2) v1))], [], M)
  refine mm_s1 rfl ?_
  refine mm_s1 rfl ?_
  refine mm_s1 rfl ?_
  refine mm_s1 rfl ?_
  show mm_Go (mm_run 0) mc_Pile_sort _ (11, [(0, .inr (.inr v0)), (1, .inl v1), (2, .inl (nn_ri M (v0 + 2) v1)), (3, .inl (mm_w ((nn_ri M (v0 + 2) v1) + 1)))], [], M)
  generalize e_x3_10 : (mm_w ((nn_ri M (v0 + 2) v1) + 1)) = x3_10
  replace h := h _ e_x3_10.symm
  show mm_Go (mm_run 0) mc_Pile_sort _ (11, [(0, .inr (.inr v0)), (1, .inl v1), (2, .inl (nn_ri M (v0 + 2) v1)), (3, .inl x3_10)], [], M)
  exact nn_go_ext (nn_xc rfl (nn_xc rfl (nn_xc rfl (nn_xc rfl nn_xn)))) (h n L N C0)
set_option maxRecDepth 20000 in
theorem ng_Pile_sort_11 (v0 : Nat) (v1 : Int) (v2 : Int) (v3 : Int) (M : mm_M) (R : mm_M → Prop) (h : (((0 : Int) ≤ (mm_w (v1 + 1)) ∧ (mm_w (v1 + 1)) < (25 : Int)) ∧ (((nn_ri M (v0 + 2) (mm_w (v1 + 1))) ≤ v3 → R M) ∧ (v3 < (nn_ri M (v0 + 2) (mm_w (v1 + 1))) → (((0 : Int) ≤ v3 ∧ v3 < (144 : Int)) ∧ nk_Pile_sort_34 v0 v1 v2 v3 (nn_ri M (v0 + 1) v3) v3 M R))))) : nk_Pile_sort_11 v0 v1 v2 v3 M R := by
  intro n L N C0
  have NN := nn_L_n L N
  show mm_Go (mm_run 0) mc_Pile_sort _ (11, [(0, .inr (.inr v0)), (1, .inl v1), (2, .inl v2), (3, .inl v3)], [], M)
  refine mm_s1 rfl ?_
  refine mm_s1 rfl ?_
  refine nn_getr rfl C0.1 (lf_6_1 L N C0) ?_
  refine mm_s1 rfl ?_
  refine mm_s1 rfl ?_
  show mm_Go (mm_run 0) mc_Pile_sort _ (18, [(0, .inr (.inr v0)), (1, .inl v1), (2, .inl v2), (3, .inl v3)], [.inl 1, .inl v1, .inr (.inr (v0 + 2)), .inl v3], M)
  refine mm_s1 rfl ?_
  obtain ⟨b19, h⟩ := h
  refine mm_s1 rfl ⟨nn_bd (na_6_1 NN C0) b19, ?_⟩
  show mm_Go (mm_run 0) mc_Pile_sort _ (20, [(0, .inr (.inr v0)), (1, .inl v1), (2, .inl v2), (3, .inl v3)], [.inl (nn_ri M (v0 + 2) (mm_w (v1 + 1))), .inl v3], M)
  refine mm_s1 rfl ⟨fun c20 => ?_, fun c20 => ?_⟩
  · show mm_Go (mm_run 0) mc_Pile_sort _ (92, [(0, .inr (.inr v0)), (1, .inl v1), (2, .inl v2), (3, .inl v3)], [], M)
    replace h := h.1 c20
    exact mm_s1 rfl ⟨rfl, L, N, h⟩
  · show mm_Go (mm_run 0) mc_Pile_sort _ (23, [(0, .inr (.inr v0)), (1, .inl v1), (2, .inl v2), (3, .inl v3)], [], M)
    replace c20 := Int.not_le.mp c20
    replace h := h.2 c20
    refine mm_s1 rfl ?_
    refine nn_getr rfl C0.1 (lf_6_0 L N C0) ?_
    refine mm_s1 rfl ?_
    obtain ⟨b28, h⟩ := h
    refine mm_s1 rfl ⟨nn_bd (na_6_0 NN C0) b28, ?_⟩
    show mm_Go (mm_run 0) mc_Pile_sort _ (29, [(0, .inr (.inr v0)), (1, .inl v1), (2, .inl v2), (3, .inl v3)], [.inr (.inl (nn_ri M (v0 + 1) v3))], M)
    refine mm_s1 rfl ?_
    show mm_Go (mm_run 0) mc_Pile_sort _ (31, [(0, .inr (.inr v0)), (1, .inl v1), (2, .inl v2), (3, .inl v3), (4, .inr (.inl (nn_ri M (v0 + 1) v3)))], [], M)
    refine mm_s1 rfl ?_
    refine mm_s1 rfl ?_
    show mm_Go (mm_run 0) mc_Pile_sort _ (34, [(0, .inr (.inr v0)), (1, .inl v1), (2, .inl v2), (3, .inl v3), (4, .inr (.inl (nn_ri M (v0 + 1) v3))), (6, .inl v3)], [], M)
    exact nn_go_ext (nn_xc rfl (nn_xc rfl (nn_xc rfl (nn_xc rfl (nn_xc rfl (nn_xc rfl nn_xn)))))) (h n L N C0)
set_option maxRecDepth 20000 in
theorem ng_Pile_sort_34 (v0 : Nat) (v1 : Int) (v2 : Int) (v3 : Int) (v4 : Int) (v6 : Int) (M : mm_M) (R : mm_M → Prop) (h : (((v6 ≤ v2) → ((0 : Int) ≤ v6 ∧ v6 < (144 : Int))) ∧ ((v2 < v6) → ((0 : Int) ≤ (mm_w (v6 - 1)) ∧ (mm_w (v6 - 1)) < (144 : Int))) ∧ ((v2 < v6) ∧ ((mm_lcmp (nn_ri M (v0 + 1) (mm_w (v6 - 1))) v4) ≤ 0) → ((0 : Int) ≤ v6 ∧ v6 < (144 : Int))) ∧ ((v2 < v6) ∧ (0 < (mm_lcmp (nn_ri M (v0 + 1) (mm_w (v6 - 1))) v4)) → ((0 : Int) ≤ (mm_w (v6 - 1)) ∧ (mm_w (v6 - 1)) < (144 : Int))) ∧ ((v2 < v6) ∧ (0 < (mm_lcmp (nn_ri M (v0 + 1) (mm_w (v6 - 1))) v4)) → ((0 : Int) ≤ v6 ∧ v6 < (144 : Int))) ∧ ((v6 ≤ v2 ∨ ((mm_lcmp (nn_ri M (v0 + 1) (mm_w (v6 - 1))) v4) ≤ 0)) → (∀ M85 : mm_M, M85 = nn_ui M (v0 + 1) v6 v4 → nk_Pile_sort_11 v0 v1 v2 (mm_w (v3 + 1)) M85 R)) ∧ ((v2 < v6 ∧ (0 < (mm_lcmp (nn_ri M (v0 + 1) (mm_w (v6 - 1))) v4))) → (∀ M70 : mm_M, M70 = nn_ui M (v0 + 1) v6 (nn_ri M (v0 + 1) (mm_w (v6 - 1))) → nk_Pile_sort_34 v0 v1 v2 v3 v4 (mm_w (v6 + (-1))) M70 R)))) : nk_Pile_sort_34 v0 v1 v2 v3 v4 v6 M R := by
  intro n L N C0
  have NN := nn_L_n L N
  show mm_Go (mm_run 0) mc_Pile_sort _ (34, [(0, .inr (.inr v0)), (1, .inl v1), (2, .inl v2), (3, .inl v3), (4, .inr (.inl v4)), (6, .inl v6)], [], M)
  refine mm_s1 rfl ?_
  refine mm_s1 rfl ?_
  refine mm_s1 rfl ⟨fun c37 => ?_, fun c37 => ?_⟩
  · show mm_Go (mm_run 0) mc_Pile_sort _ (77, [(0, .inr (.inr v0)), (1, .inl v1), (2, .inl v2), (3, .inl v3), (4, .inr (.inl v4)), (6, .inl v6)], [], M)
    refine mm_s1 rfl ?_
    refine nn_getr rfl C0.1 (lf_6_0 L N C0) ?_
    refine mm_s1 rfl ?_
    refine mm_s1 rfl ?_
    have b85 := h.1 c37
    replace h := h.2.2.2.2.2.1 (Or.inl c37)
    refine mm_s1 rfl ⟨nn_bd (na_6_0 NN C0) b85, ?_⟩
    show mm_Go (mm_run 0) mc_Pile_sort _ (86, [(0, .inr (.inr v0)), (1, .inl v1), (2, .inl v2), (3, .inl v3), (4, .inr (.inl v4)), (6, .inl v6)], [], (nn_ui M (v0 + 1) v6 v4))
    have L : nn_L (nn_ui M (v0 + 1) v6 v4) := nn_L_ua L (congrArg Prod.fst (na_6_0 NN C0)) (by decide)
    have N : (nn_ui M (v0 + 1) v6 v4).1 = n := N
    generalize e_M85 : (nn_ui M (v0 + 1) v6 v4) = M85 at L N ⊢
    replace h := h _ e_M85.symm
    show mm_Go (mm_run 0) mc_Pile_sort _ (86, [(0, .inr (.inr v0)), (1, .inl v1), (2, .inl v2), (3, .inl v3), (4, .inr (.inl v4)), (6, .inl v6)], [], M85)
    refine mm_s1 rfl ?_
    show mm_Go (mm_run 0) mc_Pile_sort _ (89, [(0, .inr (.inr v0)), (1, .inl v1), (2, .inl v2), (3, .inl (mm_w (v3 + 1))), (4, .inr (.inl v4)), (6, .inl v6)], [], M85)
    refine mm_s1 rfl ?_
    show mm_Go (mm_run 0) mc_Pile_sort _ (11, [(0, .inr (.inr v0)), (1, .inl v1), (2, .inl v2), (3, .inl (mm_w (v3 + 1))), (4, .inr (.inl v4)), (6, .inl v6)], [], M85)
    exact nn_go_ext (nn_xc rfl (nn_xc rfl (nn_xc rfl (nn_xc rfl nn_xn)))) (h n L N C0)
  · show mm_Go (mm_run 0) mc_Pile_sort _ (40, [(0, .inr (.inr v0)), (1, .inl v1), (2, .inl v2), (3, .inl v3), (4, .inr (.inl v4)), (6, .inl v6)], [], M)
    replace c37 := Int.not_le.mp c37
    refine mm_s1 rfl ?_
    refine nn_getr rfl C0.1 (lf_6_0 L N C0) ?_
    refine mm_s1 rfl ?_
    refine mm_s1 rfl ?_
    refine mm_s1 rfl ?_
    show mm_Go (mm_run 0) mc_Pile_sort _ (48, [(0, .inr (.inr v0)), (1, .inl v1), (2, .inl v2), (3, .inl v3), (4, .inr (.inl v4)), (6, .inl v6)], [.inl (mm_w (v6 - 1)), .inr (.inr (v0 + 1))], M)
    have b48 := h.2.1 c37
    refine mm_s1 rfl ⟨nn_bd (na_6_0 NN C0) b48, ?_⟩
    show mm_Go (mm_run 0) mc_Pile_sort _ (49, [(0, .inr (.inr v0)), (1, .inl v1), (2, .inl v2), (3, .inl v3), (4, .inr (.inl v4)), (6, .inl v6)], [.inr (.inl (nn_ri M (v0 + 1) (mm_w (v6 - 1))))], M)
    refine mm_s1 rfl ?_
    refine mm_s1 rfl ?_
    refine mm_s1 rfl ⟨fun c52 => ?_, fun c52 => ?_⟩
    · show mm_Go (mm_run 0) mc_Pile_sort _ (77, [(0, .inr (.inr v0)), (1, .inl v1), (2, .inl v2), (3, .inl v3), (4, .inr (.inl v4)), (6, .inl v6)], [], M)
      refine mm_s1 rfl ?_
      refine nn_getr rfl C0.1 (lf_6_0 L N C0) ?_
      refine mm_s1 rfl ?_
      refine mm_s1 rfl ?_
      have b85 := h.2.2.1 ⟨c37, c52⟩
      replace h := h.2.2.2.2.2.1 (Or.inr c52)
      refine mm_s1 rfl ⟨nn_bd (na_6_0 NN C0) b85, ?_⟩
      show mm_Go (mm_run 0) mc_Pile_sort _ (86, [(0, .inr (.inr v0)), (1, .inl v1), (2, .inl v2), (3, .inl v3), (4, .inr (.inl v4)), (6, .inl v6)], [], (nn_ui M (v0 + 1) v6 v4))
      have L : nn_L (nn_ui M (v0 + 1) v6 v4) := nn_L_ua L (congrArg Prod.fst (na_6_0 NN C0)) (by decide)
      have N : (nn_ui M (v0 + 1) v6 v4).1 = n := N
      generalize e_M85 : (nn_ui M (v0 + 1) v6 v4) = M85 at L N ⊢
      replace h := h _ e_M85.symm
      show mm_Go (mm_run 0) mc_Pile_sort _ (86, [(0, .inr (.inr v0)), (1, .inl v1), (2, .inl v2), (3, .inl v3), (4, .inr (.inl v4)), (6, .inl v6)], [], M85)
      refine mm_s1 rfl ?_
      show mm_Go (mm_run 0) mc_Pile_sort _ (89, [(0, .inr (.inr v0)), (1, .inl v1), (2, .inl v2), (3, .inl (mm_w (v3 + 1))), (4, .inr (.inl v4)), (6, .inl v6)], [], M85)
      refine mm_s1 rfl ?_
      show mm_Go (mm_run 0) mc_Pile_sort _ (11, [(0, .inr (.inr v0)), (1, .inl v1), (2, .inl v2), (3, .inl (mm_w (v3 + 1))), (4, .inr (.inl v4)), (6, .inl v6)], [], M85)
      exact nn_go_ext (nn_xc rfl (nn_xc rfl (nn_xc rfl (nn_xc rfl nn_xn)))) (h n L N C0)
    · show mm_Go (mm_run 0) mc_Pile_sort _ (55, [(0, .inr (.inr v0)), (1, .inl v1), (2, .inl v2), (3, .inl v3), (4, .inr (.inl v4)), (6, .inl v6)], [], M)
      replace c52 := Int.not_le.mp c52
      refine mm_s1 rfl ?_
      refine nn_getr rfl C0.1 (lf_6_0 L N C0) ?_
      refine mm_s1 rfl ?_
      refine mm_s1 rfl ?_
      refine nn_getr rfl C0.1 (lf_6_0 L N C0) ?_
      show mm_Go (mm_run 0) mc_Pile_sort _ (65, [(0, .inr (.inr v0)), (1, .inl v1), (2, .inl v2), (3, .inl v3), (4, .inr (.inl v4)), (6, .inl v6)], [.inr (.inr (v0 + 1)), .inl v6, .inr (.inr (v0 + 1))], M)
      refine mm_s1 rfl ?_
      refine mm_s1 rfl ?_
      refine mm_s1 rfl ?_
      have b69 := h.2.2.2.1 ⟨c37, c52⟩
      refine mm_s1 rfl ⟨nn_bd (na_6_0 NN C0) b69, ?_⟩
      show mm_Go (mm_run 0) mc_Pile_sort _ (70, [(0, .inr (.inr v0)), (1, .inl v1), (2, .inl v2), (3, .inl v3), (4, .inr (.inl v4)), (6, .inl v6)], [.inr (.inl (nn_ri M (v0 + 1) (mm_w (v6 - 1)))), .inl v6, .inr (.inr (v0 + 1))], M)
      have b70 := h.2.2.2.2.1 ⟨c37, c52⟩
      replace h := h.2.2.2.2.2.2 ⟨c37, c52⟩
      refine mm_s1 rfl ⟨nn_bd (na_6_0 NN C0) b70, ?_⟩
      show mm_Go (mm_run 0) mc_Pile_sort _ (71, [(0, .inr (.inr v0)), (1, .inl v1), (2, .inl v2), (3, .inl v3), (4, .inr (.inl v4)), (6, .inl v6)], [], (nn_ui M (v0 + 1) v6 (nn_ri M (v0 + 1) (mm_w (v6 - 1)))))
      have L : nn_L (nn_ui M (v0 + 1) v6 (nn_ri M (v0 + 1) (mm_w (v6 - 1)))) := nn_L_ua L (congrArg Prod.fst (na_6_0 NN C0)) (by decide)
      have N : (nn_ui M (v0 + 1) v6 (nn_ri M (v0 + 1) (mm_w (v6 - 1)))).1 = n := N
      generalize e_M70 : (nn_ui M (v0 + 1) v6 (nn_ri M (v0 + 1) (mm_w (v6 - 1)))) = M70 at L N ⊢
      replace h := h _ e_M70.symm
      show mm_Go (mm_run 0) mc_Pile_sort _ (71, [(0, .inr (.inr v0)), (1, .inl v1), (2, .inl v2), (3, .inl v3), (4, .inr (.inl v4)), (6, .inl v6)], [], M70)
      refine mm_s1 rfl ?_
      show mm_Go (mm_run 0) mc_Pile_sort _ (74, [(0, .inr (.inr v0)), (1, .inl v1), (2, .inl v2), (3, .inl v3), (4, .inr (.inl v4)), (6, .inl (mm_w (v6 + (-1))))], [], M70)
      refine mm_s1 rfl ?_
      show mm_Go (mm_run 0) mc_Pile_sort _ (34, [(0, .inr (.inr v0)), (1, .inl v1), (2, .inl v2), (3, .inl v3), (4, .inr (.inl v4)), (6, .inl (mm_w (v6 + (-1))))], [], M70)
      exact nn_go_ext (nn_xc rfl (nn_xc rfl (nn_xc rfl (nn_xc rfl (nn_xc rfl (nn_xc rfl nn_xn)))))) (h n L N C0)
def nr_Pile_keptGreatest (v0 : Nat) (v1 : Int) (M : mm_M) (R : Int → mm_M → Prop) : Prop := ∀ n, nn_L M → M.1 = n → nn_C 6 v0 n → mm_run 1 mi_Pile_keptGreatest [.inr (.inr v0), .inl v1] M (nw_I n R)
def nk_Pile_keptGreatest_19 (v0 : Nat) (v2 : Int) (v3 : Int) (v4 : Int) (M : mm_M) (R : Int → mm_M → Prop) : Prop := ∀ n, nn_L M → M.1 = n → nn_C 6 v0 n → mm_Go (mm_run 0) mc_Pile_keptGreatest (nw_I n R) (19, [(0, .inr (.inr v0)), (2, .inl v2), (3, .inl v3), (4, .inl v4)], [], M)
set_option maxRecDepth 20000 in
theorem ng_Pile_keptGreatest (v0 : Nat) (v1 : Int) (M : mm_M) (R : Int → mm_M → Prop) (h : (((0 : Int) ≤ v1 ∧ v1 < (25 : Int)) ∧ (((0 : Int) ≤ (mm_w (v1 + 1)) ∧ (mm_w (v1 + 1)) < (25 : Int)) ∧ (∀ x3_15 : Int, x3_15 = nn_ri M (v0 + 2) (mm_w (v1 + 1)) → nk_Pile_keptGreatest_19 v0 (nn_ri M (v0 + 2) v1) x3_15 (nn_ri M (v0 + 2) v1) M R)))) : nr_Pile_keptGreatest v0 v1 M R := by
  intro n L N C0
  have NN := nn_L_n L N
  show mm_Go (mm_run 0) mc_Pile_keptGreatest _ (0, [(0, .inr (.inr v0)), (1, .inl v1)], [], M)
  refine mm_s1 rfl ?_
  refine nn_getr rfl C0.1 (lf_6_1 L N C0) ?_
  refine mm_s1 rfl ?_
  obtain ⟨b5, h⟩ := h
  refine mm_s1 rfl ⟨nn_bd (na_6_1 NN C0) b5, ?_⟩
  show mm_Go (mm_run 0) mc_Pile_keptGreatest _ (6, [(0, .inr (.inr v0)), (1, .inl v1)], [.inl (nn_ri M (v0 + 2) v1)], M)
  refine mm_s1 rfl ?_
  show mm_Go (mm_run 0) mc_Pile_keptGreatest _ (7, [(0, .inr (.inr v0)), (1, .inl v1), (2, .inl (nn_ri M (v0 + 2) v1))], [], M)
  refine mm_s1 rfl ?_
  refine nn_getr rfl C0.1 (lf_6_1 L N C0) ?_
  refine mm_s1 rfl ?_
  refine mm_s1 rfl ?_
  refine mm_s1 rfl ?_
  show mm_Go (mm_run 0) mc_Pile_keptGreatest _ (14, [(0, .inr (.inr v0)), (1, .inl v1), (2, .inl (nn_ri M (v0 + 2) v1))], [.inl (mm_w (v1 + 1)), .inr (.inr (v0 + 2))], M)
  obtain ⟨b14, h⟩ := h
  refine mm_s1 rfl ⟨nn_bd (na_6_1 NN C0) b14, ?_⟩
  show mm_Go (mm_run 0) mc_Pile_keptGreatest _ (15, [(0, .inr (.inr v0)), (1, .inl v1), (2, .inl (nn_ri M (v0 + 2) v1))], [.inl (nn_ri M (v0 + 2) (mm_w (v1 + 1)))], M)
  refine mm_s1 rfl ?_
  show mm_Go (mm_run 0) mc_Pile_keptGreatest _ (16, [(0, .inr (.inr v0)), (1, .inl v1), (2, .inl (nn_ri M (v0 + 2) v1)), (3, .inl (nn_ri M (v0 + 2) (mm_w (v1 + 1))))], [], M)
  generalize e_x3_15 : (nn_ri M (v0 + 2) (mm_w (v1 + 1))) = x3_15
  replace h := h _ e_x3_15.symm
  show mm_Go (mm_run 0) mc_Pile_keptGreatest _ (16, [(0, .inr (.inr v0)), (1, .inl v1), (2, .inl (nn_ri M (v0 + 2) v1)), (3, .inl x3_15)], [], M)
  refine mm_s1 rfl ?_
  refine mm_s1 rfl ?_
  show mm_Go (mm_run 0) mc_Pile_keptGreatest _ (19, [(0, .inr (.inr v0)), (1, .inl v1), (2, .inl (nn_ri M (v0 + 2) v1)), (3, .inl x3_15), (4, .inl (nn_ri M (v0 + 2) v1))], [], M)
  exact nn_go_ext (nn_xc rfl (nn_xc rfl (nn_xc rfl (nn_xc rfl nn_xn)))) (h n L N C0)
set_option maxRecDepth 20000 in
theorem ng_Pile_keptGreatest_19 (v0 : Nat) (v2 : Int) (v3 : Int) (v4 : Int) (M : mm_M) (R : Int → mm_M → Prop) (h : ((v3 ≤ v4 → R v2 M) ∧ (v4 < v3 → ((((mm_w (v4 + 1)) = v3) → ((0 : Int) ≤ v4 ∧ v4 < (144 : Int))) ∧ (((mm_w (v4 + 1)) = v3) → ((0 : Int) ≤ v2 ∧ v2 < (144 : Int))) ∧ (((mm_w (v4 + 1)) ≠ v3) → ((0 : Int) ≤ v4 ∧ v4 < (144 : Int))) ∧ (((mm_w (v4 + 1)) ≠ v3) → ((0 : Int) ≤ (mm_w (v4 + 1)) ∧ (mm_w (v4 + 1)) < (144 : Int))) ∧ (((mm_w (v4 + 1)) ≠ v3) ∧ ((mm_lcmp (mm_lushr (nn_ri M (v0 + 1) v4) 32) (mm_lushr (nn_ri M (v0 + 1) (mm_w (v4 + 1))) 32)) ≠ 0) → ((0 : Int) ≤ v4 ∧ v4 < (144 : Int))) ∧ (((mm_w (v4 + 1)) ≠ v3) ∧ ((mm_lcmp (mm_lushr (nn_ri M (v0 + 1) v4) 32) (mm_lushr (nn_ri M (v0 + 1) (mm_w (v4 + 1))) 32)) ≠ 0) → ((0 : Int) ≤ v2 ∧ v2 < (144 : Int))) ∧ (((mm_w (v4 + 1)) = v3 ∨ ((mm_lcmp (mm_lushr (nn_ri M (v0 + 1) v4) 32) (mm_lushr (nn_ri M (v0 + 1) (mm_w (v4 + 1))) 32)) ≠ 0)) → (∀ M71 : mm_M, M71 = nn_ui M (v0 + 1) v2 (nn_ri M (v0 + 1) v4) → nk_Pile_keptGreatest_19 v0 (mm_w (v2 + 1)) v3 (mm_w (v4 + 1)) M71 R)) ∧ (((mm_w (v4 + 1)) ≠ v3 ∧ ((mm_lcmp (mm_lushr (nn_ri M (v0 + 1) v4) 32) (mm_lushr (nn_ri M (v0 + 1) (mm_w (v4 + 1))) 32)) = 0)) → nk_Pile_keptGreatest_19 v0 v2 v3 (mm_w (v4 + 1)) M R))))) : nk_Pile_keptGreatest_19 v0 v2 v3 v4 M R := by
  intro n L N C0
  have NN := nn_L_n L N
  show mm_Go (mm_run 0) mc_Pile_keptGreatest _ (19, [(0, .inr (.inr v0)), (2, .inl v2), (3, .inl v3), (4, .inl v4)], [], M)
  refine mm_s1 rfl ?_
  refine mm_s1 rfl ?_
  refine mm_s1 rfl ⟨fun c22 => ?_, fun c22 => ?_⟩
  · show mm_Go (mm_run 0) mc_Pile_keptGreatest _ (81, [(0, .inr (.inr v0)), (2, .inl v2), (3, .inl v3), (4, .inl v4)], [], M)
    replace h := h.1 c22
    refine mm_s1 rfl ?_
    exact mm_s1 rfl ⟨_, rfl, L, N, h⟩
  · show mm_Go (mm_run 0) mc_Pile_keptGreatest _ (25, [(0, .inr (.inr v0)), (2, .inl v2), (3, .inl v3), (4, .inl v4)], [], M)
    replace c22 := Int.not_le.mp c22
    replace h := h.2 c22
    refine mm_s1 rfl ?_
    refine mm_s1 rfl ?_
    refine mm_s1 rfl ?_
    refine mm_s1 rfl ?_
    refine mm_s1 rfl ⟨fun c30 => ?_, fun c30 => ?_⟩
    · show mm_Go (mm_run 0) mc_Pile_keptGreatest _ (59, [(0, .inr (.inr v0)), (2, .inl v2), (3, .inl v3), (4, .inl v4)], [], M)
      refine mm_s1 rfl ?_
      refine nn_getr rfl C0.1 (lf_6_0 L N C0) ?_
      refine mm_s1 rfl ?_
      refine mm_s1 rfl ?_
      refine nn_getr rfl C0.1 (lf_6_0 L N C0) ?_
      show mm_Go (mm_run 0) mc_Pile_keptGreatest _ (68, [(0, .inr (.inr v0)), (2, .inl v2), (3, .inl v3), (4, .inl v4)], [.inr (.inr (v0 + 1)), .inl v2, .inr (.inr (v0 + 1))], M)
      refine mm_s1 rfl ?_
      have b70 := h.1 c30
      refine mm_s1 rfl ⟨nn_bd (na_6_0 NN C0) b70, ?_⟩
      show mm_Go (mm_run 0) mc_Pile_keptGreatest _ (71, [(0, .inr (.inr v0)), (2, .inl v2), (3, .inl v3), (4, .inl v4)], [.inr (.inl (nn_ri M (v0 + 1) v4)), .inl v2, .inr (.inr (v0 + 1))], M)
      have b71 := h.2.1 c30
      replace h := h.2.2.2.2.2.2.1 (Or.inl c30)
      refine mm_s1 rfl ⟨nn_bd (na_6_0 NN C0) b71, ?_⟩
      show mm_Go (mm_run 0) mc_Pile_keptGreatest _ (72, [(0, .inr (.inr v0)), (2, .inl v2), (3, .inl v3), (4, .inl v4)], [], (nn_ui M (v0 + 1) v2 (nn_ri M (v0 + 1) v4)))
      have L : nn_L (nn_ui M (v0 + 1) v2 (nn_ri M (v0 + 1) v4)) := nn_L_ua L (congrArg Prod.fst (na_6_0 NN C0)) (by decide)
      have N : (nn_ui M (v0 + 1) v2 (nn_ri M (v0 + 1) v4)).1 = n := N
      generalize e_M71 : (nn_ui M (v0 + 1) v2 (nn_ri M (v0 + 1) v4)) = M71 at L N ⊢
      replace h := h _ e_M71.symm
      show mm_Go (mm_run 0) mc_Pile_keptGreatest _ (72, [(0, .inr (.inr v0)), (2, .inl v2), (3, .inl v3), (4, .inl v4)], [], M71)
      refine mm_s1 rfl ?_
      show mm_Go (mm_run 0) mc_Pile_keptGreatest _ (75, [(0, .inr (.inr v0)), (2, .inl (mm_w (v2 + 1))), (3, .inl v3), (4, .inl v4)], [], M71)
      refine mm_s1 rfl ?_
      show mm_Go (mm_run 0) mc_Pile_keptGreatest _ (78, [(0, .inr (.inr v0)), (2, .inl (mm_w (v2 + 1))), (3, .inl v3), (4, .inl (mm_w (v4 + 1)))], [], M71)
      refine mm_s1 rfl ?_
      show mm_Go (mm_run 0) mc_Pile_keptGreatest _ (19, [(0, .inr (.inr v0)), (2, .inl (mm_w (v2 + 1))), (3, .inl v3), (4, .inl (mm_w (v4 + 1)))], [], M71)
      exact nn_go_ext (nn_xc rfl (nn_xc rfl (nn_xc rfl (nn_xc rfl nn_xn)))) (h n L N C0)
    · show mm_Go (mm_run 0) mc_Pile_keptGreatest _ (33, [(0, .inr (.inr v0)), (2, .inl v2), (3, .inl v3), (4, .inl v4)], [], M)
      refine mm_s1 rfl ?_
      refine nn_getr rfl C0.1 (lf_6_0 L N C0) ?_
      refine mm_s1 rfl ?_
      have b39 := h.2.2.1 c30
      refine mm_s1 rfl ⟨nn_bd (na_6_0 NN C0) b39, ?_⟩
      show mm_Go (mm_run 0) mc_Pile_keptGreatest _ (40, [(0, .inr (.inr v0)), (2, .inl v2), (3, .inl v3), (4, .inl v4)], [.inr (.inl (nn_ri M (v0 + 1) v4))], M)
      refine mm_s1 rfl ?_
      refine mm_s1 rfl ?_
      refine mm_s1 rfl ?_
      refine nn_getr rfl C0.1 (lf_6_0 L N C0) ?_
      refine mm_s1 rfl ?_
      show mm_Go (mm_run 0) mc_Pile_keptGreatest _ (49, [(0, .inr (.inr v0)), (2, .inl v2), (3, .inl v3), (4, .inl v4)], [.inl v4, .inr (.inr (v0 + 1)), .inr (.inl (mm_lushr (nn_ri M (v0 + 1) v4) 32))], M)
      refine mm_s1 rfl ?_
      refine mm_s1 rfl ?_
      have b51 := h.2.2.2.1 c30
      refine mm_s1 rfl ⟨nn_bd (na_6_0 NN C0) b51, ?_⟩
      show mm_Go (mm_run 0) mc_Pile_keptGreatest _ (52, [(0, .inr (.inr v0)), (2, .inl v2), (3, .inl v3), (4, .inl v4)], [.inr (.inl (nn_ri M (v0 + 1) (mm_w (v4 + 1)))), .inr (.inl (mm_lushr (nn_ri M (v0 + 1) v4) 32))], M)
      refine mm_s1 rfl ?_
      refine mm_s1 rfl ?_
      refine mm_s1 rfl ?_
      refine mm_s1 rfl ⟨fun c56 => ?_, fun c56 => ?_⟩
      · show mm_Go (mm_run 0) mc_Pile_keptGreatest _ (75, [(0, .inr (.inr v0)), (2, .inl v2), (3, .inl v3), (4, .inl v4)], [], M)
        refine mm_s1 rfl ?_
        show mm_Go (mm_run 0) mc_Pile_keptGreatest _ (78, [(0, .inr (.inr v0)), (2, .inl v2), (3, .inl v3), (4, .inl (mm_w (v4 + 1)))], [], M)
        refine mm_s1 rfl ?_
        show mm_Go (mm_run 0) mc_Pile_keptGreatest _ (19, [(0, .inr (.inr v0)), (2, .inl v2), (3, .inl v3), (4, .inl (mm_w (v4 + 1)))], [], M)
        replace h := h.2.2.2.2.2.2.2 ⟨c30, c56⟩
        exact nn_go_ext (nn_xc rfl (nn_xc rfl (nn_xc rfl (nn_xc rfl nn_xn)))) (h n L N C0)
      · show mm_Go (mm_run 0) mc_Pile_keptGreatest _ (59, [(0, .inr (.inr v0)), (2, .inl v2), (3, .inl v3), (4, .inl v4)], [], M)
        refine mm_s1 rfl ?_
        refine nn_getr rfl C0.1 (lf_6_0 L N C0) ?_
        refine mm_s1 rfl ?_
        refine mm_s1 rfl ?_
        refine nn_getr rfl C0.1 (lf_6_0 L N C0) ?_
        show mm_Go (mm_run 0) mc_Pile_keptGreatest _ (68, [(0, .inr (.inr v0)), (2, .inl v2), (3, .inl v3), (4, .inl v4)], [.inr (.inr (v0 + 1)), .inl v2, .inr (.inr (v0 + 1))], M)
        refine mm_s1 rfl ?_
        have b70 := h.2.2.2.2.1 ⟨c30, c56⟩
        refine mm_s1 rfl ⟨nn_bd (na_6_0 NN C0) b70, ?_⟩
        show mm_Go (mm_run 0) mc_Pile_keptGreatest _ (71, [(0, .inr (.inr v0)), (2, .inl v2), (3, .inl v3), (4, .inl v4)], [.inr (.inl (nn_ri M (v0 + 1) v4)), .inl v2, .inr (.inr (v0 + 1))], M)
        have b71 := h.2.2.2.2.2.1 ⟨c30, c56⟩
        replace h := h.2.2.2.2.2.2.1 (Or.inr c56)
        refine mm_s1 rfl ⟨nn_bd (na_6_0 NN C0) b71, ?_⟩
        show mm_Go (mm_run 0) mc_Pile_keptGreatest _ (72, [(0, .inr (.inr v0)), (2, .inl v2), (3, .inl v3), (4, .inl v4)], [], (nn_ui M (v0 + 1) v2 (nn_ri M (v0 + 1) v4)))
        have L : nn_L (nn_ui M (v0 + 1) v2 (nn_ri M (v0 + 1) v4)) := nn_L_ua L (congrArg Prod.fst (na_6_0 NN C0)) (by decide)
        have N : (nn_ui M (v0 + 1) v2 (nn_ri M (v0 + 1) v4)).1 = n := N
        generalize e_M71 : (nn_ui M (v0 + 1) v2 (nn_ri M (v0 + 1) v4)) = M71 at L N ⊢
        replace h := h _ e_M71.symm
        show mm_Go (mm_run 0) mc_Pile_keptGreatest _ (72, [(0, .inr (.inr v0)), (2, .inl v2), (3, .inl v3), (4, .inl v4)], [], M71)
        refine mm_s1 rfl ?_
        show mm_Go (mm_run 0) mc_Pile_keptGreatest _ (75, [(0, .inr (.inr v0)), (2, .inl (mm_w (v2 + 1))), (3, .inl v3), (4, .inl v4)], [], M71)
        refine mm_s1 rfl ?_
        show mm_Go (mm_run 0) mc_Pile_keptGreatest _ (78, [(0, .inr (.inr v0)), (2, .inl (mm_w (v2 + 1))), (3, .inl v3), (4, .inl (mm_w (v4 + 1)))], [], M71)
        refine mm_s1 rfl ?_
        show mm_Go (mm_run 0) mc_Pile_keptGreatest _ (19, [(0, .inr (.inr v0)), (2, .inl (mm_w (v2 + 1))), (3, .inl v3), (4, .inl (mm_w (v4 + 1)))], [], M71)
        exact nn_go_ext (nn_xc rfl (nn_xc rfl (nn_xc rfl (nn_xc rfl nn_xn)))) (h n L N C0)
def nr_Pile_cut (v0 : Nat) (v1 : Int) (v2 : Int) (M : mm_M) (R : mm_M → Prop) : Prop := ∀ n, nn_L M → M.1 = n → nn_C 6 v0 n → mm_run 1 mi_Pile_cut [.inr (.inr v0), .inl v1, .inl v2] M (nw_V n R)
def nk_Pile_cut_44 (v0 : Nat) (v3 : Int) (v4 : Int) (M : mm_M) (R : mm_M → Prop) : Prop := ∀ n, nn_L M → M.1 = n → nn_C 6 v0 n → mm_Go (mm_run 0) mc_Pile_cut (nw_V n R) (44, [(0, .inr (.inr v0)), (3, .inl v3), (4, .inl v4)], [], M)
set_option maxRecDepth 20000 in
theorem ng_Pile_cut (v0 : Nat) (v1 : Int) (v2 : Int) (M : mm_M) (R : mm_M → Prop) (h : (((0 : Int) ≤ (mm_w (v1 + 1)) ∧ (mm_w (v1 + 1)) < (25 : Int)) ∧ (∀ x3_10 : Int, x3_10 = mm_w ((nn_ri M (v0 + 2) (mm_w (v1 + 1))) - v2) → (((0 : Int) ≤ (nn_rf M v0 5) ∧ (nn_rf M v0 5) < (25 : Int)) ∧ (((0 : Int) ≤ (mm_w (v2 + x3_10)) ∧ (0 : Int) ≤ v2 ∧ (0 : Int) ≤ (mm_w ((mm_w ((nn_ri M (v0 + 2) (nn_rf M v0 5)) - v2)) - x3_10)) ∧ ((mm_w (v2 + x3_10)) : Int) + (mm_w ((mm_w ((nn_ri M (v0 + 2) (nn_rf M v0 5)) - v2)) - x3_10)) ≤ 144 ∧ (v2 : Int) + (mm_w ((mm_w ((nn_ri M (v0 + 2) (nn_rf M v0 5)) - v2)) - x3_10)) ≤ 144) ∧ (∀ M36 : mm_M, M36 = mm_cp M (v0 + 1) (mm_w (v2 + x3_10)) (v0 + 1) v2 (mm_w ((mm_w ((nn_ri M (v0 + 2) (nn_rf M v0 5)) - v2)) - x3_10)) → nk_Pile_cut_44 v0 x3_10 (mm_w (v1 + 1)) M36 R)))))) : nr_Pile_cut v0 v1 v2 M R := by
  intro n L N C0
  have NN := nn_L_n L N
  show mm_Go (mm_run 0) mc_Pile_cut _ (0, [(0, .inr (.inr v0)), (1, .inl v1), (2, .inl v2)], [], M)
  refine mm_s1 rfl ?_
  refine nn_getr rfl C0.1 (lf_6_1 L N C0) ?_
  refine mm_s1 rfl ?_
  refine mm_s1 rfl ?_
  refine mm_s1 rfl ?_
  show mm_Go (mm_run 0) mc_Pile_cut _ (7, [(0, .inr (.inr v0)), (1, .inl v1), (2, .inl v2)], [.inl (mm_w (v1 + 1)), .inr (.inr (v0 + 2))], M)
  obtain ⟨b7, h⟩ := h
  refine mm_s1 rfl ⟨nn_bd (na_6_1 NN C0) b7, ?_⟩
  show mm_Go (mm_run 0) mc_Pile_cut _ (8, [(0, .inr (.inr v0)), (1, .inl v1), (2, .inl v2)], [.inl (nn_ri M (v0 + 2) (mm_w (v1 + 1)))], M)
  refine mm_s1 rfl ?_
  refine mm_s1 rfl ?_
  refine mm_s1 rfl ?_
  show mm_Go (mm_run 0) mc_Pile_cut _ (11, [(0, .inr (.inr v0)), (1, .inl v1), (2, .inl v2), (3, .inl (mm_w ((nn_ri M (v0 + 2) (mm_w (v1 + 1))) - v2)))], [], M)
  generalize e_x3_10 : (mm_w ((nn_ri M (v0 + 2) (mm_w (v1 + 1))) - v2)) = x3_10
  replace h := h _ e_x3_10.symm
  show mm_Go (mm_run 0) mc_Pile_cut _ (11, [(0, .inr (.inr v0)), (1, .inl v1), (2, .inl v2), (3, .inl x3_10)], [], M)
  refine mm_s1 rfl ?_
  refine nn_getr rfl C0.1 (lf_6_0 L N C0) ?_
  refine mm_s1 rfl ?_
  refine mm_s1 rfl ?_
  refine mm_s1 rfl ?_
  show mm_Go (mm_run 0) mc_Pile_cut _ (18, [(0, .inr (.inr v0)), (1, .inl v1), (2, .inl v2), (3, .inl x3_10)], [.inl (mm_w (v2 + x3_10)), .inr (.inr (v0 + 1))], M)
  refine mm_s1 rfl ?_
  refine nn_getr rfl C0.1 (lf_6_0 L N C0) ?_
  refine mm_s1 rfl ?_
  refine mm_s1 rfl ?_
  refine nn_getr rfl C0.1 (lf_6_1 L N C0) ?_
  show mm_Go (mm_run 0) mc_Pile_cut _ (27, [(0, .inr (.inr v0)), (1, .inl v1), (2, .inl v2), (3, .inl x3_10)], [.inr (.inr (v0 + 2)), .inl v2, .inr (.inr (v0 + 1)), .inl (mm_w (v2 + x3_10)), .inr (.inr (v0 + 1))], M)
  refine mm_s1 rfl ?_
  refine mm_s1 rfl ⟨C0.1, ?_⟩
  show mm_Go (mm_run 0) mc_Pile_cut _ (31, [(0, .inr (.inr v0)), (1, .inl v1), (2, .inl v2), (3, .inl x3_10)], [.inl (nn_rf M v0 5), .inr (.inr (v0 + 2)), .inl v2, .inr (.inr (v0 + 1)), .inl (mm_w (v2 + x3_10)), .inr (.inr (v0 + 1))], M)
  obtain ⟨b31, h⟩ := h
  refine mm_s1 rfl ⟨nn_bd (na_6_1 NN C0) b31, ?_⟩
  show mm_Go (mm_run 0) mc_Pile_cut _ (32, [(0, .inr (.inr v0)), (1, .inl v1), (2, .inl v2), (3, .inl x3_10)], [.inl (nn_ri M (v0 + 2) (nn_rf M v0 5)), .inl v2, .inr (.inr (v0 + 1)), .inl (mm_w (v2 + x3_10)), .inr (.inr (v0 + 1))], M)
  refine mm_s1 rfl ?_
  refine mm_s1 rfl ?_
  refine mm_s1 rfl ?_
  refine mm_s1 rfl ?_
  obtain ⟨b36, h⟩ := h
  refine mm_s1 rfl ⟨nn_ac (nc_6_0 NN C0).1 (nc_6_0 NN C0).1 (by decide) (congrArg (fun q : Nat × Nat => ((q.2 : Nat) : Int)) (na_6_0 NN C0)) (congrArg (fun q : Nat × Nat => ((q.2 : Nat) : Int)) (na_6_0 NN C0)) b36, ?_⟩
  show mm_Go (mm_run 0) mc_Pile_cut _ (39, [(0, .inr (.inr v0)), (1, .inl v1), (2, .inl v2), (3, .inl x3_10)], [], (mm_cp M (v0 + 1) (mm_w (v2 + x3_10)) (v0 + 1) v2 (mm_w ((mm_w ((nn_ri M (v0 + 2) (nn_rf M v0 5)) - v2)) - x3_10))))
  have L : nn_L (mm_cp M (v0 + 1) (mm_w (v2 + x3_10)) (v0 + 1) v2 (mm_w ((mm_w ((nn_ri M (v0 + 2) (nn_rf M v0 5)) - v2)) - x3_10))) := nn_L_cp L (nc_6_0 NN C0).1 (by decide)
  have N : (mm_cp M (v0 + 1) (mm_w (v2 + x3_10)) (v0 + 1) v2 (mm_w ((mm_w ((nn_ri M (v0 + 2) (nn_rf M v0 5)) - v2)) - x3_10))).1 = n := N
  generalize e_M36 : (mm_cp M (v0 + 1) (mm_w (v2 + x3_10)) (v0 + 1) v2 (mm_w ((mm_w ((nn_ri M (v0 + 2) (nn_rf M v0 5)) - v2)) - x3_10))) = M36 at L N ⊢
  replace h := h _ e_M36.symm
  show mm_Go (mm_run 0) mc_Pile_cut _ (39, [(0, .inr (.inr v0)), (1, .inl v1), (2, .inl v2), (3, .inl x3_10)], [], M36)
  refine mm_s1 rfl ?_
  refine mm_s1 rfl ?_
  refine mm_s1 rfl ?_
  refine mm_s1 rfl ?_
  show mm_Go (mm_run 0) mc_Pile_cut _ (44, [(0, .inr (.inr v0)), (1, .inl v1), (2, .inl v2), (3, .inl x3_10), (4, .inl (mm_w (v1 + 1)))], [], M36)
  exact nn_go_ext (nn_xc rfl (nn_xc rfl (nn_xc rfl nn_xn))) (h n L N C0)
set_option maxRecDepth 20000 in
theorem ng_Pile_cut_44 (v0 : Nat) (v3 : Int) (v4 : Int) (M : mm_M) (R : mm_M → Prop) (h : (((nn_rf M v0 5) < v4 → R M) ∧ (v4 ≤ (nn_rf M v0 5) → (((0 : Int) ≤ v4 ∧ v4 < (25 : Int)) ∧ (((0 : Int) ≤ v4 ∧ v4 < (25 : Int)) ∧ (∀ M63 : mm_M, M63 = nn_ui M (v0 + 2) v4 (mm_w ((nn_ri M (v0 + 2) v4) - v3)) → nk_Pile_cut_44 v0 v3 (mm_w (v4 + 1)) M63 R)))))) : nk_Pile_cut_44 v0 v3 v4 M R := by
  intro n L N C0
  have NN := nn_L_n L N
  show mm_Go (mm_run 0) mc_Pile_cut _ (44, [(0, .inr (.inr v0)), (3, .inl v3), (4, .inl v4)], [], M)
  refine mm_s1 rfl ?_
  refine mm_s1 rfl ?_
  refine mm_s1 rfl ⟨C0.1, ?_⟩
  show mm_Go (mm_run 0) mc_Pile_cut _ (50, [(0, .inr (.inr v0)), (3, .inl v3), (4, .inl v4)], [.inl (nn_rf M v0 5), .inl v4], M)
  refine mm_s1 rfl ⟨fun c50 => ?_, fun c50 => ?_⟩
  · show mm_Go (mm_run 0) mc_Pile_cut _ (70, [(0, .inr (.inr v0)), (3, .inl v3), (4, .inl v4)], [], M)
    replace h := h.1 c50
    exact mm_s1 rfl ⟨rfl, L, N, h⟩
  · show mm_Go (mm_run 0) mc_Pile_cut _ (53, [(0, .inr (.inr v0)), (3, .inl v3), (4, .inl v4)], [], M)
    replace c50 := Int.not_lt.mp c50
    replace h := h.2 c50
    refine mm_s1 rfl ?_
    refine nn_getr rfl C0.1 (lf_6_1 L N C0) ?_
    refine mm_s1 rfl ?_
    refine mm_s1 rfl ?_
    obtain ⟨b60, h⟩ := h
    refine mm_s1 rfl ⟨nn_bd (na_6_1 NN C0) b60, ?_⟩
    show mm_Go (mm_run 0) mc_Pile_cut _ (61, [(0, .inr (.inr v0)), (3, .inl v3), (4, .inl v4)], [.inl (nn_ri M (v0 + 2) v4), .inl v4, .inr (.inr (v0 + 2))], M)
    refine mm_s1 rfl ?_
    refine mm_s1 rfl ?_
    obtain ⟨b63, h⟩ := h
    refine mm_s1 rfl ⟨nn_bd (na_6_1 NN C0) b63, ?_⟩
    show mm_Go (mm_run 0) mc_Pile_cut _ (64, [(0, .inr (.inr v0)), (3, .inl v3), (4, .inl v4)], [], (nn_ui M (v0 + 2) v4 (mm_w ((nn_ri M (v0 + 2) v4) - v3))))
    have L : nn_L (nn_ui M (v0 + 2) v4 (mm_w ((nn_ri M (v0 + 2) v4) - v3))) := nn_L_ua L (congrArg Prod.fst (na_6_1 NN C0)) (by decide)
    have N : (nn_ui M (v0 + 2) v4 (mm_w ((nn_ri M (v0 + 2) v4) - v3))).1 = n := N
    generalize e_M63 : (nn_ui M (v0 + 2) v4 (mm_w ((nn_ri M (v0 + 2) v4) - v3))) = M63 at L N ⊢
    replace h := h _ e_M63.symm
    show mm_Go (mm_run 0) mc_Pile_cut _ (64, [(0, .inr (.inr v0)), (3, .inl v3), (4, .inl v4)], [], M63)
    refine mm_s1 rfl ?_
    show mm_Go (mm_run 0) mc_Pile_cut _ (67, [(0, .inr (.inr v0)), (3, .inl v3), (4, .inl (mm_w (v4 + 1)))], [], M63)
    refine mm_s1 rfl ?_
    show mm_Go (mm_run 0) mc_Pile_cut _ (44, [(0, .inr (.inr v0)), (3, .inl v3), (4, .inl (mm_w (v4 + 1)))], [], M63)
    exact nn_go_ext (nn_xc rfl (nn_xc rfl (nn_xc rfl nn_xn))) (h n L N C0)
def nf_Pile_sizeOf (v0 : Nat) (v1 : Int) (M : mm_M) : Int := mm_w ((nn_ri M (v0 + 2) (mm_w (v1 + 1))) - (nn_ri M (v0 + 2) v1))
def nc_Pile_sizeOf (v0 : Nat) (v1 : Int) (M : mm_M) : Prop := (((0 : Int) ≤ (mm_w (v1 + 1)) ∧ (mm_w (v1 + 1)) < (25 : Int)) ∧ ((0 : Int) ≤ v1 ∧ v1 < (25 : Int)))
set_option maxRecDepth 20000 in
theorem np_Pile_sizeOf {v0 : Nat} {v1 : Int} {M : mm_M} {n d : Nat} {P : mm_P} (hd : 1 ≤ d) (L : nn_L M) (N : M.1 = n) (C0 : nn_C 6 v0 n) (b : nc_Pile_sizeOf v0 v1 M) (h : P (some (.inl (nf_Pile_sizeOf v0 v1 M))) M) : mm_run d mi_Pile_sizeOf [.inr (.inr v0), .inl v1] M P := by
  have NN := nn_L_n L N
  unfold nc_Pile_sizeOf at b
  unfold nf_Pile_sizeOf at h
  refine nn_run_le hd ?_
  show mm_Go (mm_run 0) mc_Pile_sizeOf _ (0, [(0, .inr (.inr v0)), (1, .inl v1)], [], M)
  refine mm_s1 rfl ?_
  refine nn_getr rfl C0.1 (lf_6_1 L N C0) ?_
  refine mm_s1 rfl ?_
  refine mm_s1 rfl ?_
  refine mm_s1 rfl ?_
  obtain ⟨b7, b⟩ := b
  refine mm_s1 rfl ⟨nn_bd (na_6_1 NN C0) b7, ?_⟩
  show mm_Go (mm_run 0) mc_Pile_sizeOf _ (8, [(0, .inr (.inr v0)), (1, .inl v1)], [.inl (nn_ri M (v0 + 2) (mm_w (v1 + 1)))], M)
  refine mm_s1 rfl ?_
  refine nn_getr rfl C0.1 (lf_6_1 L N C0) ?_
  refine mm_s1 rfl ?_
  have b13 := b
  refine mm_s1 rfl ⟨nn_bd (na_6_1 NN C0) b13, ?_⟩
  show mm_Go (mm_run 0) mc_Pile_sizeOf _ (14, [(0, .inr (.inr v0)), (1, .inl v1)], [.inl (nn_ri M (v0 + 2) v1), .inl (nn_ri M (v0 + 2) (mm_w (v1 + 1)))], M)
  refine mm_s1 rfl ?_
  exact mm_s1 rfl h
def nr_Reader_sortOf (v0 : Int) (M : mm_M) (R : Int → mm_M → Prop) : Prop := ∀ n, nn_L M → M.1 = n → mm_run 1 mi_Reader_sortOf [.inl v0] M (nw_I n R)
set_option maxRecDepth 20000 in
theorem ng_Reader_sortOf (v0 : Int) (M : mm_M) (R : Int → mm_M → Prop) (h : ((v0 < 97 → ((v0 < 48 → (((v0 = 32 ∨ (v0 = 10)) → R 0 M) ∧ ((v0 ≠ 32 ∧ (v0 ≠ 10)) → R 3 M))) ∧ (48 ≤ v0 → ((57 < v0 → (((v0 = 32 ∨ (v0 = 10)) → R 0 M) ∧ ((v0 ≠ 32 ∧ (v0 ≠ 10)) → R 3 M))) ∧ (v0 ≤ 57 → R 2 M))))) ∧ (97 ≤ v0 → ((122 < v0 → ((v0 < 48 → (((v0 = 32 ∨ (v0 = 10)) → R 0 M) ∧ ((v0 ≠ 32 ∧ (v0 ≠ 10)) → R 3 M))) ∧ (48 ≤ v0 → ((57 < v0 → (((v0 = 32 ∨ (v0 = 10)) → R 0 M) ∧ ((v0 ≠ 32 ∧ (v0 ≠ 10)) → R 3 M))) ∧ (v0 ≤ 57 → R 2 M))))) ∧ (v0 ≤ 122 → R 1 M))))) : nr_Reader_sortOf v0 M R := by
  intro n L N 
  have NN := nn_L_n L N
  show mm_Go (mm_run 0) mc_Reader_sortOf _ (0, [(0, .inl v0)], [], M)
  refine mm_s1 rfl ?_
  refine mm_s1 rfl ?_
  refine mm_s1 rfl ⟨fun c3 => ?_, fun c3 => ?_⟩
  · show mm_Go (mm_run 0) mc_Reader_sortOf _ (14, [(0, .inl v0)], [], M)
    replace h := h.1 c3
    refine mm_s1 rfl ?_
    refine mm_s1 rfl ?_
    refine mm_s1 rfl ⟨fun c17 => ?_, fun c17 => ?_⟩
    · show mm_Go (mm_run 0) mc_Reader_sortOf _ (28, [(0, .inl v0)], [], M)
      replace h := h.1 c17
      refine mm_s1 rfl ?_
      refine mm_s1 rfl ?_
      refine mm_s1 rfl ⟨fun c31 => ?_, fun c31 => ?_⟩
      · show mm_Go (mm_run 0) mc_Reader_sortOf _ (40, [(0, .inl v0)], [], M)
        refine mm_s1 rfl ?_
        refine mm_s1 rfl ?_
        show mm_Go (mm_run 0) mc_Reader_sortOf _ (45, [(0, .inl v0)], [.inl 0], M)
        replace h := h.1 (Or.inl c31)
        exact mm_s1 rfl ⟨_, rfl, L, N, h⟩
      · show mm_Go (mm_run 0) mc_Reader_sortOf _ (34, [(0, .inl v0)], [], M)
        refine mm_s1 rfl ?_
        refine mm_s1 rfl ?_
        refine mm_s1 rfl ⟨fun c37 => ?_, fun c37 => ?_⟩
        · show mm_Go (mm_run 0) mc_Reader_sortOf _ (44, [(0, .inl v0)], [], M)
          refine mm_s1 rfl ?_
          replace h := h.2 ⟨c31, c37⟩
          exact mm_s1 rfl ⟨_, rfl, L, N, h⟩
        · show mm_Go (mm_run 0) mc_Reader_sortOf _ (40, [(0, .inl v0)], [], M)
          replace c37 := Decidable.not_not.mp c37
          refine mm_s1 rfl ?_
          refine mm_s1 rfl ?_
          show mm_Go (mm_run 0) mc_Reader_sortOf _ (45, [(0, .inl v0)], [.inl 0], M)
          replace h := h.1 (Or.inr c37)
          exact mm_s1 rfl ⟨_, rfl, L, N, h⟩
    · show mm_Go (mm_run 0) mc_Reader_sortOf _ (20, [(0, .inl v0)], [], M)
      replace c17 := Int.not_lt.mp c17
      replace h := h.2 c17
      refine mm_s1 rfl ?_
      refine mm_s1 rfl ?_
      refine mm_s1 rfl ⟨fun c23 => ?_, fun c23 => ?_⟩
      · show mm_Go (mm_run 0) mc_Reader_sortOf _ (28, [(0, .inl v0)], [], M)
        replace h := h.1 c23
        refine mm_s1 rfl ?_
        refine mm_s1 rfl ?_
        refine mm_s1 rfl ⟨fun c31 => ?_, fun c31 => ?_⟩
        · show mm_Go (mm_run 0) mc_Reader_sortOf _ (40, [(0, .inl v0)], [], M)
          refine mm_s1 rfl ?_
          refine mm_s1 rfl ?_
          show mm_Go (mm_run 0) mc_Reader_sortOf _ (45, [(0, .inl v0)], [.inl 0], M)
          replace h := h.1 (Or.inl c31)
          exact mm_s1 rfl ⟨_, rfl, L, N, h⟩
        · show mm_Go (mm_run 0) mc_Reader_sortOf _ (34, [(0, .inl v0)], [], M)
          refine mm_s1 rfl ?_
          refine mm_s1 rfl ?_
          refine mm_s1 rfl ⟨fun c37 => ?_, fun c37 => ?_⟩
          · show mm_Go (mm_run 0) mc_Reader_sortOf _ (44, [(0, .inl v0)], [], M)
            refine mm_s1 rfl ?_
            replace h := h.2 ⟨c31, c37⟩
            exact mm_s1 rfl ⟨_, rfl, L, N, h⟩
          · show mm_Go (mm_run 0) mc_Reader_sortOf _ (40, [(0, .inl v0)], [], M)
            replace c37 := Decidable.not_not.mp c37
            refine mm_s1 rfl ?_
            refine mm_s1 rfl ?_
            show mm_Go (mm_run 0) mc_Reader_sortOf _ (45, [(0, .inl v0)], [.inl 0], M)
            replace h := h.1 (Or.inr c37)
            exact mm_s1 rfl ⟨_, rfl, L, N, h⟩
      · show mm_Go (mm_run 0) mc_Reader_sortOf _ (26, [(0, .inl v0)], [], M)
        replace c23 := Int.not_lt.mp c23
        replace h := h.2 c23
        refine mm_s1 rfl ?_
        exact mm_s1 rfl ⟨_, rfl, L, N, h⟩
  · show mm_Go (mm_run 0) mc_Reader_sortOf _ (6, [(0, .inl v0)], [], M)
    replace c3 := Int.not_lt.mp c3
    replace h := h.2 c3
    refine mm_s1 rfl ?_
    refine mm_s1 rfl ?_
    refine mm_s1 rfl ⟨fun c9 => ?_, fun c9 => ?_⟩
    · show mm_Go (mm_run 0) mc_Reader_sortOf _ (14, [(0, .inl v0)], [], M)
      replace h := h.1 c9
      refine mm_s1 rfl ?_
      refine mm_s1 rfl ?_
      refine mm_s1 rfl ⟨fun c17 => ?_, fun c17 => ?_⟩
      · show mm_Go (mm_run 0) mc_Reader_sortOf _ (28, [(0, .inl v0)], [], M)
        replace h := h.1 c17
        refine mm_s1 rfl ?_
        refine mm_s1 rfl ?_
        refine mm_s1 rfl ⟨fun c31 => ?_, fun c31 => ?_⟩
        · show mm_Go (mm_run 0) mc_Reader_sortOf _ (40, [(0, .inl v0)], [], M)
          refine mm_s1 rfl ?_
          refine mm_s1 rfl ?_
          show mm_Go (mm_run 0) mc_Reader_sortOf _ (45, [(0, .inl v0)], [.inl 0], M)
          replace h := h.1 (Or.inl c31)
          exact mm_s1 rfl ⟨_, rfl, L, N, h⟩
        · show mm_Go (mm_run 0) mc_Reader_sortOf _ (34, [(0, .inl v0)], [], M)
          refine mm_s1 rfl ?_
          refine mm_s1 rfl ?_
          refine mm_s1 rfl ⟨fun c37 => ?_, fun c37 => ?_⟩
          · show mm_Go (mm_run 0) mc_Reader_sortOf _ (44, [(0, .inl v0)], [], M)
            refine mm_s1 rfl ?_
            replace h := h.2 ⟨c31, c37⟩
            exact mm_s1 rfl ⟨_, rfl, L, N, h⟩
          · show mm_Go (mm_run 0) mc_Reader_sortOf _ (40, [(0, .inl v0)], [], M)
            replace c37 := Decidable.not_not.mp c37
            refine mm_s1 rfl ?_
            refine mm_s1 rfl ?_
            show mm_Go (mm_run 0) mc_Reader_sortOf _ (45, [(0, .inl v0)], [.inl 0], M)
            replace h := h.1 (Or.inr c37)
            exact mm_s1 rfl ⟨_, rfl, L, N, h⟩
      · show mm_Go (mm_run 0) mc_Reader_sortOf _ (20, [(0, .inl v0)], [], M)
        replace c17 := Int.not_lt.mp c17
        replace h := h.2 c17
        refine mm_s1 rfl ?_
        refine mm_s1 rfl ?_
        refine mm_s1 rfl ⟨fun c23 => ?_, fun c23 => ?_⟩
        · show mm_Go (mm_run 0) mc_Reader_sortOf _ (28, [(0, .inl v0)], [], M)
          replace h := h.1 c23
          refine mm_s1 rfl ?_
          refine mm_s1 rfl ?_
          refine mm_s1 rfl ⟨fun c31 => ?_, fun c31 => ?_⟩
          · show mm_Go (mm_run 0) mc_Reader_sortOf _ (40, [(0, .inl v0)], [], M)
            refine mm_s1 rfl ?_
            refine mm_s1 rfl ?_
            show mm_Go (mm_run 0) mc_Reader_sortOf _ (45, [(0, .inl v0)], [.inl 0], M)
            replace h := h.1 (Or.inl c31)
            exact mm_s1 rfl ⟨_, rfl, L, N, h⟩
          · show mm_Go (mm_run 0) mc_Reader_sortOf _ (34, [(0, .inl v0)], [], M)
            refine mm_s1 rfl ?_
            refine mm_s1 rfl ?_
            refine mm_s1 rfl ⟨fun c37 => ?_, fun c37 => ?_⟩
            · show mm_Go (mm_run 0) mc_Reader_sortOf _ (44, [(0, .inl v0)], [], M)
              refine mm_s1 rfl ?_
              replace h := h.2 ⟨c31, c37⟩
              exact mm_s1 rfl ⟨_, rfl, L, N, h⟩
            · show mm_Go (mm_run 0) mc_Reader_sortOf _ (40, [(0, .inl v0)], [], M)
              replace c37 := Decidable.not_not.mp c37
              refine mm_s1 rfl ?_
              refine mm_s1 rfl ?_
              show mm_Go (mm_run 0) mc_Reader_sortOf _ (45, [(0, .inl v0)], [.inl 0], M)
              replace h := h.1 (Or.inr c37)
              exact mm_s1 rfl ⟨_, rfl, L, N, h⟩
        · show mm_Go (mm_run 0) mc_Reader_sortOf _ (26, [(0, .inl v0)], [], M)
          replace c23 := Int.not_lt.mp c23
          replace h := h.2 c23
          refine mm_s1 rfl ?_
          exact mm_s1 rfl ⟨_, rfl, L, N, h⟩
    · show mm_Go (mm_run 0) mc_Reader_sortOf _ (12, [(0, .inl v0)], [], M)
      replace c9 := Int.not_lt.mp c9
      replace h := h.2 c9
      refine mm_s1 rfl ?_
      exact mm_s1 rfl ⟨_, rfl, L, N, h⟩
def nr_Reader_passes (v1 : Int) (M : mm_M) (R : Int → mm_M → Prop) : Prop := ∀ n, nn_L M → M.1 = n → mm_run 1 mi_Reader_passes [.inr (.inr 402), .inl v1] M (nw_Z n R)
set_option maxRecDepth 20000 in
theorem ng_Reader_passes (v1 : Int) (M : mm_M) (R : Int → mm_M → Prop) (h : (((0 : Int) ≤ (nn_rf M 402 3) ∧ (nn_rf M 402 3) < (201 : Int)) ∧ (((nn_ri M 403 (nn_rf M 402 3)) = v1 → (∀ M22 : mm_M, M22 = nn_uf M 402 3 (mm_w ((nn_rf M 402 3) + 1)) → R 1 M22)) ∧ ((nn_ri M 403 (nn_rf M 402 3)) ≠ v1 → R 0 M)))) : nr_Reader_passes v1 M R := by
  intro n L N 
  have NN := nn_L_n L N
  show mm_Go (mm_run 0) mc_Reader_passes _ (0, [(0, .inr (.inr 402)), (1, .inl v1)], [], M)
  refine mm_s1 rfl ?_
  refine nn_getr rfl (nn_c402 NN).1 (lf_7_0 L N (nn_c402 NN)) ?_
  refine mm_s1 rfl ?_
  refine mm_s1 rfl ⟨(nn_c402 NN).1, ?_⟩
  show mm_Go (mm_run 0) mc_Reader_passes _ (8, [(0, .inr (.inr 402)), (1, .inl v1)], [.inl (nn_rf M 402 3), .inr (.inr 403)], M)
  obtain ⟨b8, h⟩ := h
  refine mm_s1 rfl ⟨nn_bd (na_7_0 NN (nn_c402 NN)) b8, ?_⟩
  show mm_Go (mm_run 0) mc_Reader_passes _ (9, [(0, .inr (.inr 402)), (1, .inl v1)], [.inl (nn_ri M 403 (nn_rf M 402 3))], M)
  refine mm_s1 rfl ?_
  refine mm_s1 rfl ⟨fun c10 => ?_, fun c10 => ?_⟩
  · show mm_Go (mm_run 0) mc_Reader_passes _ (15, [(0, .inr (.inr 402)), (1, .inl v1)], [], M)
    replace h := h.1 c10
    refine mm_s1 rfl ?_
    refine mm_s1 rfl ?_
    refine mm_s1 rfl ⟨(nn_c402 NN).1, ?_⟩
    show mm_Go (mm_run 0) mc_Reader_passes _ (20, [(0, .inr (.inr 402)), (1, .inl v1)], [.inl (nn_rf M 402 3), .inr (.inr 402)], M)
    refine mm_s1 rfl ?_
    refine mm_s1 rfl ?_
    refine mm_s1 rfl ⟨(nn_c402 NN).1, ?_⟩
    show mm_Go (mm_run 0) mc_Reader_passes _ (25, [(0, .inr (.inr 402)), (1, .inl v1)], [], (nn_uf M 402 3 (mm_w ((nn_rf M 402 3) + 1))))
    have L : nn_L (nn_uf M 402 3 (mm_w ((nn_rf M 402 3) + 1))) := nn_L_up L (nn_c402 NN).1 rfl
    have N : (nn_uf M 402 3 (mm_w ((nn_rf M 402 3) + 1))).1 = n := N
    generalize e_M22 : (nn_uf M 402 3 (mm_w ((nn_rf M 402 3) + 1))) = M22 at L N ⊢
    replace h := h _ e_M22.symm
    show mm_Go (mm_run 0) mc_Reader_passes _ (25, [(0, .inr (.inr 402)), (1, .inl v1)], [], M22)
    refine mm_s1 rfl ?_
    exact mm_s1 rfl ⟨(Or.inr rfl), _, rfl, (Or.inr rfl), L, N, h⟩
  · show mm_Go (mm_run 0) mc_Reader_passes _ (13, [(0, .inr (.inr 402)), (1, .inl v1)], [], M)
    replace h := h.2 c10
    refine mm_s1 rfl ?_
    exact mm_s1 rfl ⟨(Or.inl rfl), _, rfl, (Or.inl rfl), L, N, h⟩
def nr_Reader_fails (v1 : Int) (M : mm_M) (R : Int → mm_M → Prop) : Prop := ∀ n, nn_L M → M.1 = n → mm_run 1 mi_Reader_fails [.inr (.inr 402), .inl v1] M (nw_Z n R)
set_option maxRecDepth 20000 in
theorem ng_Reader_fails (v1 : Int) (M : mm_M) (R : Int → mm_M → Prop) (h : (∀ M2 : mm_M, M2 = nn_uf M 402 4 v1 → R 0 M2)) : nr_Reader_fails v1 M R := by
  intro n L N 
  have NN := nn_L_n L N
  show mm_Go (mm_run 0) mc_Reader_fails _ (0, [(0, .inr (.inr 402)), (1, .inl v1)], [], M)
  refine mm_s1 rfl ?_
  refine mm_s1 rfl ?_
  refine mm_s1 rfl ⟨(nn_c402 NN).1, ?_⟩
  show mm_Go (mm_run 0) mc_Reader_fails _ (5, [(0, .inr (.inr 402)), (1, .inl v1)], [], (nn_uf M 402 4 v1))
  have L : nn_L (nn_uf M 402 4 v1) := nn_L_up L (nn_c402 NN).1 rfl
  have N : (nn_uf M 402 4 v1).1 = n := N
  generalize e_M2 : (nn_uf M 402 4 v1) = M2 at L N ⊢
  replace h := h _ e_M2.symm
  show mm_Go (mm_run 0) mc_Reader_fails _ (5, [(0, .inr (.inr 402)), (1, .inl v1)], [], M2)
  refine mm_s1 rfl ?_
  exact mm_s1 rfl ⟨(Or.inl rfl), _, rfl, (Or.inl rfl), L, N, h⟩
def nf_Reader_beginsTerm  (M : mm_M) : Int := (if (nn_ri M 403 (nn_rf M 402 3)) = 1 then 1 else (if (nn_ri M 403 (nn_rf M 402 3)) ≠ 2 then 0 else 1))
def nc_Reader_beginsTerm  (M : mm_M) : Prop := (((0 : Int) ≤ (nn_rf M 402 3) ∧ (nn_rf M 402 3) < (201 : Int)) ∧ ((nn_ri M 403 (nn_rf M 402 3)) ≠ 1 → ((0 : Int) ≤ (nn_rf M 402 3) ∧ (nn_rf M 402 3) < (201 : Int))))
theorem nz_Reader_beginsTerm  (M : mm_M) : nf_Reader_beginsTerm M = 0 ∨ nf_Reader_beginsTerm M = 1 := by
  unfold nf_Reader_beginsTerm
  repeat' split
  all_goals first | exact Or.inl rfl | exact Or.inr rfl
set_option maxRecDepth 20000 in
theorem np_Reader_beginsTerm  {M : mm_M} {n d : Nat} {P : mm_P} (hd : 1 ≤ d) (L : nn_L M) (N : M.1 = n)  (b : nc_Reader_beginsTerm M) (h : P (some (.inl (nf_Reader_beginsTerm M))) M) : mm_run d mi_Reader_beginsTerm [.inr (.inr 402)] M P := by
  have NN := nn_L_n L N
  unfold nc_Reader_beginsTerm at b
  unfold nf_Reader_beginsTerm at h
  refine nn_run_le hd ?_
  show mm_Go (mm_run 0) mc_Reader_beginsTerm _ (0, [(0, .inr (.inr 402))], [], M)
  refine mm_s1 rfl ?_
  refine nn_getr rfl (nn_c402 NN).1 (lf_7_0 L N (nn_c402 NN)) ?_
  refine mm_s1 rfl ?_
  refine mm_s1 rfl ⟨(nn_c402 NN).1, ?_⟩
  show mm_Go (mm_run 0) mc_Reader_beginsTerm _ (8, [(0, .inr (.inr 402))], [.inl (nn_rf M 402 3), .inr (.inr 403)], M)
  obtain ⟨b8, b⟩ := b
  refine mm_s1 rfl ⟨nn_bd (na_7_0 NN (nn_c402 NN)) b8, ?_⟩
  show mm_Go (mm_run 0) mc_Reader_beginsTerm _ (9, [(0, .inr (.inr 402))], [.inl (nn_ri M 403 (nn_rf M 402 3))], M)
  refine mm_s1 rfl ?_
  refine mm_s1 rfl ⟨fun c10 => ?_, fun c10 => ?_⟩
  · show mm_Go (mm_run 0) mc_Reader_beginsTerm _ (26, [(0, .inr (.inr 402))], [], M)
    rw [if_pos (show (nn_ri M 403 (nn_rf M 402 3)) = 1 from c10)] at h
    refine mm_s1 rfl ?_
    refine mm_s1 rfl ?_
    show mm_Go (mm_run 0) mc_Reader_beginsTerm _ (31, [(0, .inr (.inr 402))], [.inl 1], M)
    exact mm_s1 rfl ⟨(Or.inr rfl), h⟩
  · show mm_Go (mm_run 0) mc_Reader_beginsTerm _ (13, [(0, .inr (.inr 402))], [], M)
    rw [if_neg (show ¬ ((nn_ri M 403 (nn_rf M 402 3)) = 1) from c10)] at h
    replace b := b c10
    refine mm_s1 rfl ?_
    refine nn_getr rfl (nn_c402 NN).1 (lf_7_0 L N (nn_c402 NN)) ?_
    refine mm_s1 rfl ?_
    refine mm_s1 rfl ⟨(nn_c402 NN).1, ?_⟩
    show mm_Go (mm_run 0) mc_Reader_beginsTerm _ (21, [(0, .inr (.inr 402))], [.inl (nn_rf M 402 3), .inr (.inr 403)], M)
    have b21 := b
    refine mm_s1 rfl ⟨nn_bd (na_7_0 NN (nn_c402 NN)) b21, ?_⟩
    show mm_Go (mm_run 0) mc_Reader_beginsTerm _ (22, [(0, .inr (.inr 402))], [.inl (nn_ri M 403 (nn_rf M 402 3))], M)
    refine mm_s1 rfl ?_
    refine mm_s1 rfl ⟨fun c23 => ?_, fun c23 => ?_⟩
    · show mm_Go (mm_run 0) mc_Reader_beginsTerm _ (30, [(0, .inr (.inr 402))], [], M)
      rw [if_pos (show (nn_ri M 403 (nn_rf M 402 3)) ≠ 2 from c23)] at h
      refine mm_s1 rfl ?_
      exact mm_s1 rfl ⟨(Or.inl rfl), h⟩
    · show mm_Go (mm_run 0) mc_Reader_beginsTerm _ (26, [(0, .inr (.inr 402))], [], M)
      rw [if_neg (show ¬ ((nn_ri M 403 (nn_rf M 402 3)) ≠ 2) from c23)] at h
      replace c23 := Decidable.not_not.mp c23
      refine mm_s1 rfl ?_
      refine mm_s1 rfl ?_
      show mm_Go (mm_run 0) mc_Reader_beginsTerm _ (31, [(0, .inr (.inr 402))], [.inl 1], M)
      exact mm_s1 rfl ⟨(Or.inr rfl), h⟩
def nf_Reader_place  (M : mm_M) : Int := nn_ri M 404 (nn_rf M 402 3)
def nc_Reader_place  (M : mm_M) : Prop := ((0 : Int) ≤ (nn_rf M 402 3) ∧ (nn_rf M 402 3) < (201 : Int))
set_option maxRecDepth 20000 in
theorem np_Reader_place  {M : mm_M} {n d : Nat} {P : mm_P} (hd : 1 ≤ d) (L : nn_L M) (N : M.1 = n)  (b : nc_Reader_place M) (h : P (some (.inl (nf_Reader_place M))) M) : mm_run d mi_Reader_place [.inr (.inr 402)] M P := by
  have NN := nn_L_n L N
  unfold nc_Reader_place at b
  unfold nf_Reader_place at h
  refine nn_run_le hd ?_
  show mm_Go (mm_run 0) mc_Reader_place _ (0, [(0, .inr (.inr 402))], [], M)
  refine mm_s1 rfl ?_
  refine nn_getr rfl (nn_c402 NN).1 (lf_7_1 L N (nn_c402 NN)) ?_
  refine mm_s1 rfl ?_
  refine mm_s1 rfl ⟨(nn_c402 NN).1, ?_⟩
  show mm_Go (mm_run 0) mc_Reader_place _ (8, [(0, .inr (.inr 402))], [.inl (nn_rf M 402 3), .inr (.inr 404)], M)
  have b8 := b
  refine mm_s1 rfl ⟨nn_bd (na_7_1 NN (nn_c402 NN)) b8, ?_⟩
  show mm_Go (mm_run 0) mc_Reader_place _ (9, [(0, .inr (.inr 402))], [.inl (nn_ri M 404 (nn_rf M 402 3))], M)
  exact mm_s1 rfl h
def nr_Rule_clear (v0 : Nat) (M : mm_M) (R : mm_M → Prop) : Prop := ∀ n, nn_L M → M.1 = n → nn_C 8 v0 n → mm_run 1 mi_Rule_clear [.inr (.inr v0)] M (nw_V n R)
def nk_Rule_clear_2 (v0 : Nat) (v1 : Int) (M : mm_M) (R : mm_M → Prop) : Prop := ∀ n, nn_L M → M.1 = n → nn_C 8 v0 n → mm_Go (mm_run 0) mc_Rule_clear (nw_V n R) (2, [(0, .inr (.inr v0)), (1, .inl v1)], [], M)
set_option maxRecDepth 20000 in
theorem ng_Rule_clear (v0 : Nat) (M : mm_M) (R : mm_M → Prop) (h : nk_Rule_clear_2 v0 0 M R) : nr_Rule_clear v0 M R := by
  intro n L N C0
  have NN := nn_L_n L N
  show mm_Go (mm_run 0) mc_Rule_clear _ (0, [(0, .inr (.inr v0))], [], M)
  refine mm_s1 rfl ?_
  refine mm_s1 rfl ?_
  show mm_Go (mm_run 0) mc_Rule_clear _ (2, [(0, .inr (.inr v0)), (1, .inl 0)], [], M)
  exact nn_go_ext (nn_xc rfl (nn_xc rfl nn_xn)) (h n L N C0)
set_option maxRecDepth 20000 in
theorem ng_Rule_clear_2 (v0 : Nat) (v1 : Int) (M : mm_M) (R : mm_M → Prop) (h : ((35 ≤ v1 → (∀ M26 : mm_M, M26 = nn_uf M v0 2 0 → R M26)) ∧ (v1 < 35 → (((0 : Int) ≤ v1 ∧ v1 < (35 : Int)) ∧ (∀ M17 : mm_M, M17 = nn_ui M (v0 + 1) v1 0 → nk_Rule_clear_2 v0 (mm_w (v1 + 1)) M17 R))))) : nk_Rule_clear_2 v0 v1 M R := by
  intro n L N C0
  have NN := nn_L_n L N
  show mm_Go (mm_run 0) mc_Rule_clear _ (2, [(0, .inr (.inr v0)), (1, .inl v1)], [], M)
  refine mm_s1 rfl ?_
  refine mm_s1 rfl ?_
  refine nn_getr rfl C0.1 (lf_8_0 L N C0) ?_
  refine nn_alen rfl (na_8_0 NN C0) (by decide) ?_
  show mm_Go (mm_run 0) mc_Rule_clear _ (8, [(0, .inr (.inr v0)), (1, .inl v1)], [.inl 35, .inl v1], M)
  refine mm_s1 rfl ⟨fun c8 => ?_, fun c8 => ?_⟩
  · show mm_Go (mm_run 0) mc_Rule_clear _ (24, [(0, .inr (.inr v0)), (1, .inl v1)], [], M)
    replace h := h.1 c8
    refine mm_s1 rfl ?_
    refine mm_s1 rfl ?_
    refine mm_s1 rfl ⟨C0.1, ?_⟩
    show mm_Go (mm_run 0) mc_Rule_clear _ (29, [(0, .inr (.inr v0)), (1, .inl v1)], [], (nn_uf M v0 2 0))
    have L : nn_L (nn_uf M v0 2 0) := nn_L_up L C0.1 rfl
    have N : (nn_uf M v0 2 0).1 = n := N
    generalize e_M26 : (nn_uf M v0 2 0) = M26 at L N ⊢
    replace h := h _ e_M26.symm
    show mm_Go (mm_run 0) mc_Rule_clear _ (29, [(0, .inr (.inr v0)), (1, .inl v1)], [], M26)
    exact mm_s1 rfl ⟨rfl, L, N, h⟩
  · show mm_Go (mm_run 0) mc_Rule_clear _ (11, [(0, .inr (.inr v0)), (1, .inl v1)], [], M)
    replace c8 := Int.not_le.mp c8
    replace h := h.2 c8
    refine mm_s1 rfl ?_
    refine nn_getr rfl C0.1 (lf_8_0 L N C0) ?_
    refine mm_s1 rfl ?_
    refine mm_s1 rfl ?_
    obtain ⟨b17, h⟩ := h
    refine mm_s1 rfl ⟨nn_bd (na_8_0 NN C0) b17, ?_⟩
    show mm_Go (mm_run 0) mc_Rule_clear _ (18, [(0, .inr (.inr v0)), (1, .inl v1)], [], (nn_ui M (v0 + 1) v1 0))
    have L : nn_L (nn_ui M (v0 + 1) v1 0) := nn_L_ua L (congrArg Prod.fst (na_8_0 NN C0)) (by decide)
    have N : (nn_ui M (v0 + 1) v1 0).1 = n := N
    generalize e_M17 : (nn_ui M (v0 + 1) v1 0) = M17 at L N ⊢
    replace h := h _ e_M17.symm
    show mm_Go (mm_run 0) mc_Rule_clear _ (18, [(0, .inr (.inr v0)), (1, .inl v1)], [], M17)
    refine mm_s1 rfl ?_
    show mm_Go (mm_run 0) mc_Rule_clear _ (21, [(0, .inr (.inr v0)), (1, .inl (mm_w (v1 + 1)))], [], M17)
    refine mm_s1 rfl ?_
    show mm_Go (mm_run 0) mc_Rule_clear _ (2, [(0, .inr (.inr v0)), (1, .inl (mm_w (v1 + 1)))], [], M17)
    exact nn_go_ext (nn_xc rfl (nn_xc rfl nn_xn)) (h n L N C0)
def nr_Rule_add (v0 : Nat) (v1 : Int) (v2 : Int) (v3 : Int) (M : mm_M) (R : mm_M → Prop) : Prop := ∀ n, nn_L M → M.1 = n → nn_C 8 v0 n → mm_run 1 mi_Rule_add [.inr (.inr v0), .inl v1, .inl v2, .inl v3] M (nw_V n R)
set_option maxRecDepth 20000 in
theorem ng_Rule_add (v0 : Nat) (v1 : Int) (v2 : Int) (v3 : Int) (M : mm_M) (R : mm_M → Prop) (h : (((0 : Int) ≤ (mm_w ((mm_w (5 * v1)) + v2)) ∧ (mm_w ((mm_w (5 * v1)) + v2)) < (35 : Int)) ∧ (((0 : Int) ≤ (mm_w ((mm_w (5 * v1)) + v2)) ∧ (mm_w ((mm_w (5 * v1)) + v2)) < (35 : Int)) ∧ (∀ M13 : mm_M, M13 = nn_ui M (v0 + 1) (mm_w ((mm_w (5 * v1)) + v2)) (mm_w ((nn_ri M (v0 + 1) (mm_w ((mm_w (5 * v1)) + v2))) + v3)) → R M13)))) : nr_Rule_add v0 v1 v2 v3 M R := by
  intro n L N C0
  have NN := nn_L_n L N
  show mm_Go (mm_run 0) mc_Rule_add _ (0, [(0, .inr (.inr v0)), (1, .inl v1), (2, .inl v2), (3, .inl v3)], [], M)
  refine mm_s1 rfl ?_
  refine nn_getr rfl C0.1 (lf_8_0 L N C0) ?_
  refine mm_s1 rfl ?_
  refine mm_s1 rfl ?_
  refine mm_s1 rfl ?_
  show mm_Go (mm_run 0) mc_Rule_add _ (7, [(0, .inr (.inr v0)), (1, .inl v1), (2, .inl v2), (3, .inl v3)], [.inl (mm_w (5 * v1)), .inr (.inr (v0 + 1))], M)
  refine mm_s1 rfl ?_
  refine mm_s1 rfl ?_
  refine mm_s1 rfl ?_
  obtain ⟨b10, h⟩ := h
  refine mm_s1 rfl ⟨nn_bd (na_8_0 NN C0) b10, ?_⟩
  show mm_Go (mm_run 0) mc_Rule_add _ (11, [(0, .inr (.inr v0)), (1, .inl v1), (2, .inl v2), (3, .inl v3)], [.inl (nn_ri M (v0 + 1) (mm_w ((mm_w (5 * v1)) + v2))), .inl (mm_w ((mm_w (5 * v1)) + v2)), .inr (.inr (v0 + 1))], M)
  refine mm_s1 rfl ?_
  refine mm_s1 rfl ?_
  obtain ⟨b13, h⟩ := h
  refine mm_s1 rfl ⟨nn_bd (na_8_0 NN C0) b13, ?_⟩
  show mm_Go (mm_run 0) mc_Rule_add _ (14, [(0, .inr (.inr v0)), (1, .inl v1), (2, .inl v2), (3, .inl v3)], [], (nn_ui M (v0 + 1) (mm_w ((mm_w (5 * v1)) + v2)) (mm_w ((nn_ri M (v0 + 1) (mm_w ((mm_w (5 * v1)) + v2))) + v3))))
  have L : nn_L (nn_ui M (v0 + 1) (mm_w ((mm_w (5 * v1)) + v2)) (mm_w ((nn_ri M (v0 + 1) (mm_w ((mm_w (5 * v1)) + v2))) + v3))) := nn_L_ua L (congrArg Prod.fst (na_8_0 NN C0)) (by decide)
  have N : (nn_ui M (v0 + 1) (mm_w ((mm_w (5 * v1)) + v2)) (mm_w ((nn_ri M (v0 + 1) (mm_w ((mm_w (5 * v1)) + v2))) + v3))).1 = n := N
  generalize e_M13 : (nn_ui M (v0 + 1) (mm_w ((mm_w (5 * v1)) + v2)) (mm_w ((nn_ri M (v0 + 1) (mm_w ((mm_w (5 * v1)) + v2))) + v3))) = M13 at L N ⊢
  replace h := h _ e_M13.symm
  show mm_Go (mm_run 0) mc_Rule_add _ (14, [(0, .inr (.inr v0)), (1, .inl v1), (2, .inl v2), (3, .inl v3)], [], M13)
  exact mm_s1 rfl ⟨rfl, L, N, h⟩
def nr_Rule_copy (v0 : Nat) (v1 : Nat) (M : mm_M) (R : mm_M → Prop) : Prop := ∀ n, nn_L M → M.1 = n → nn_C 8 v0 n → nn_C 8 v1 n → mm_run 1 mi_Rule_copy [.inr (.inr v0), .inr (.inr v1)] M (nw_V n R)
set_option maxRecDepth 20000 in
theorem ng_Rule_copy (v0 : Nat) (v1 : Nat) (M : mm_M) (R : mm_M → Prop) (h : (((0 : Int) ≤ 0 ∧ (0 : Int) ≤ 0 ∧ (0 : Int) ≤ 35 ∧ (0 : Int) + 35 ≤ 35 ∧ (0 : Int) + 35 ≤ 35) ∧ (∀ M15 : mm_M, M15 = mm_cp M (v1 + 1) 0 (v0 + 1) 0 35 → (((0 : Int) ≤ 0 ∧ (0 : Int) ≤ 0 ∧ (0 : Int) ≤ 3 ∧ (0 : Int) + 3 ≤ 3 ∧ (0 : Int) + 3 ≤ 3) ∧ (∀ M33 : mm_M, M33 = mm_cp M15 (v1 + 2) 0 (v0 + 2) 0 3 → (∀ M41 : mm_M, M41 = nn_uf M33 v0 2 (nn_rf M33 v1 2) → R M41)))))) : nr_Rule_copy v0 v1 M R := by
  intro n L N C0 C1
  have NN := nn_L_n L N
  show mm_Go (mm_run 0) mc_Rule_copy _ (0, [(0, .inr (.inr v0)), (1, .inr (.inr v1))], [], M)
  refine mm_s1 rfl ?_
  refine nn_getr rfl C1.1 (lf_8_0 L N C1) ?_
  refine mm_s1 rfl ?_
  refine mm_s1 rfl ?_
  refine nn_getr rfl C0.1 (lf_8_0 L N C0) ?_
  show mm_Go (mm_run 0) mc_Rule_copy _ (9, [(0, .inr (.inr v0)), (1, .inr (.inr v1))], [.inr (.inr (v0 + 1)), .inl 0, .inr (.inr (v1 + 1))], M)
  refine mm_s1 rfl ?_
  refine mm_s1 rfl ?_
  refine nn_getr rfl C0.1 (lf_8_0 L N C0) ?_
  refine nn_alen rfl (na_8_0 NN C0) (by decide) ?_
  show mm_Go (mm_run 0) mc_Rule_copy _ (15, [(0, .inr (.inr v0)), (1, .inr (.inr v1))], [.inl 35, .inl 0, .inr (.inr (v0 + 1)), .inl 0, .inr (.inr (v1 + 1))], M)
  obtain ⟨b15, h⟩ := h
  refine mm_s1 rfl ⟨nn_ac (nc_8_0 NN C1).1 (nc_8_0 NN C0).1 (by decide) (congrArg (fun q : Nat × Nat => ((q.2 : Nat) : Int)) (na_8_0 NN C1)) (congrArg (fun q : Nat × Nat => ((q.2 : Nat) : Int)) (na_8_0 NN C0)) b15, ?_⟩
  show mm_Go (mm_run 0) mc_Rule_copy _ (18, [(0, .inr (.inr v0)), (1, .inr (.inr v1))], [], (mm_cp M (v1 + 1) 0 (v0 + 1) 0 35))
  have L : nn_L (mm_cp M (v1 + 1) 0 (v0 + 1) 0 35) := nn_L_cp L (nc_8_0 NN C0).1 (by decide)
  have N : (mm_cp M (v1 + 1) 0 (v0 + 1) 0 35).1 = n := N
  generalize e_M15 : (mm_cp M (v1 + 1) 0 (v0 + 1) 0 35) = M15 at L N ⊢
  replace h := h _ e_M15.symm
  show mm_Go (mm_run 0) mc_Rule_copy _ (18, [(0, .inr (.inr v0)), (1, .inr (.inr v1))], [], M15)
  refine mm_s1 rfl ?_
  refine nn_getr rfl C1.1 (lf_8_1 L N C1) ?_
  refine mm_s1 rfl ?_
  refine mm_s1 rfl ?_
  refine nn_getr rfl C0.1 (lf_8_1 L N C0) ?_
  show mm_Go (mm_run 0) mc_Rule_copy _ (27, [(0, .inr (.inr v0)), (1, .inr (.inr v1))], [.inr (.inr (v0 + 2)), .inl 0, .inr (.inr (v1 + 2))], M15)
  refine mm_s1 rfl ?_
  refine mm_s1 rfl ?_
  refine nn_getr rfl C0.1 (lf_8_1 L N C0) ?_
  refine nn_alen rfl (na_8_1 NN C0) (by decide) ?_
  show mm_Go (mm_run 0) mc_Rule_copy _ (33, [(0, .inr (.inr v0)), (1, .inr (.inr v1))], [.inl 3, .inl 0, .inr (.inr (v0 + 2)), .inl 0, .inr (.inr (v1 + 2))], M15)
  obtain ⟨b33, h⟩ := h
  refine mm_s1 rfl ⟨nn_ac (nc_8_1 NN C1).1 (nc_8_1 NN C0).1 (by decide) (congrArg (fun q : Nat × Nat => ((q.2 : Nat) : Int)) (na_8_1 NN C1)) (congrArg (fun q : Nat × Nat => ((q.2 : Nat) : Int)) (na_8_1 NN C0)) b33, ?_⟩
  show mm_Go (mm_run 0) mc_Rule_copy _ (36, [(0, .inr (.inr v0)), (1, .inr (.inr v1))], [], (mm_cp M15 (v1 + 2) 0 (v0 + 2) 0 3))
  have L : nn_L (mm_cp M15 (v1 + 2) 0 (v0 + 2) 0 3) := nn_L_cp L (nc_8_1 NN C0).1 (by decide)
  have N : (mm_cp M15 (v1 + 2) 0 (v0 + 2) 0 3).1 = n := N
  generalize e_M33 : (mm_cp M15 (v1 + 2) 0 (v0 + 2) 0 3) = M33 at L N ⊢
  replace h := h _ e_M33.symm
  show mm_Go (mm_run 0) mc_Rule_copy _ (36, [(0, .inr (.inr v0)), (1, .inr (.inr v1))], [], M33)
  refine mm_s1 rfl ?_
  refine mm_s1 rfl ?_
  refine mm_s1 rfl ⟨C1.1, ?_⟩
  show mm_Go (mm_run 0) mc_Rule_copy _ (41, [(0, .inr (.inr v0)), (1, .inr (.inr v1))], [.inl (nn_rf M33 v1 2), .inr (.inr v0)], M33)
  refine mm_s1 rfl ⟨C0.1, ?_⟩
  show mm_Go (mm_run 0) mc_Rule_copy _ (44, [(0, .inr (.inr v0)), (1, .inr (.inr v1))], [], (nn_uf M33 v0 2 (nn_rf M33 v1 2)))
  have L : nn_L (nn_uf M33 v0 2 (nn_rf M33 v1 2)) := nn_L_up L C0.1 rfl
  have N : (nn_uf M33 v0 2 (nn_rf M33 v1 2)).1 = n := N
  generalize e_M41 : (nn_uf M33 v0 2 (nn_rf M33 v1 2)) = M41 at L N ⊢
  replace h := h _ e_M41.symm
  show mm_Go (mm_run 0) mc_Rule_copy _ (44, [(0, .inr (.inr v0)), (1, .inr (.inr v1))], [], M41)
  exact mm_s1 rfl ⟨rfl, L, N, h⟩
def nr_Store_tell (v0 : Nat) (v1 : Int) (v2 : Int) (M : mm_M) (R : mm_M → Prop) : Prop := ∀ n, nn_L M → M.1 = n → nn_C 9 v0 n → mm_run 1 mi_Store_tell [.inr (.inr v0), .inl v1, .inl v2] M (nw_V n R)
def nk_Store_tell_16 (v0 : Nat) (v3 : Int) (M : mm_M) (R : mm_M → Prop) : Prop := ∀ n, nn_L M → M.1 = n → nn_C 9 v0 n → mm_Go (mm_run 0) mc_Store_tell (nw_V n R) (16, [(0, .inr (.inr v0)), (3, .inl v3)], [], M)
set_option maxRecDepth 20000 in
theorem ng_Store_tell (v0 : Nat) (v1 : Int) (v2 : Int) (M : mm_M) (R : mm_M → Prop) (h : (∀ M6 : mm_M, M6 = nn_ui M (v0 + 88) 0 v1 → (∀ M13 : mm_M, M13 = nn_ui M6 (v0 + 88) 1 v2 → nk_Store_tell_16 v0 2 M13 R))) : nr_Store_tell v0 v1 v2 M R := by
  intro n L N C0
  have NN := nn_L_n L N
  show mm_Go (mm_run 0) mc_Store_tell _ (0, [(0, .inr (.inr v0)), (1, .inl v1), (2, .inl v2)], [], M)
  refine mm_s1 rfl ?_
  refine nn_getr rfl C0.1 (lf_9_5 L N C0) ?_
  refine mm_s1 rfl ?_
  refine mm_s1 rfl ?_
  refine mm_s1 rfl ⟨nn_bd (na_9_5 NN C0) (show (0 : Int) ≤ 0 ∧ (0 : Int) < 6 by decide), ?_⟩
  show mm_Go (mm_run 0) mc_Store_tell _ (7, [(0, .inr (.inr v0)), (1, .inl v1), (2, .inl v2)], [], (nn_ui M (v0 + 88) 0 v1))
  have L : nn_L (nn_ui M (v0 + 88) 0 v1) := nn_L_ua L (congrArg Prod.fst (na_9_5 NN C0)) (by decide)
  have N : (nn_ui M (v0 + 88) 0 v1).1 = n := N
  generalize e_M6 : (nn_ui M (v0 + 88) 0 v1) = M6 at L N ⊢
  replace h := h _ e_M6.symm
  show mm_Go (mm_run 0) mc_Store_tell _ (7, [(0, .inr (.inr v0)), (1, .inl v1), (2, .inl v2)], [], M6)
  refine mm_s1 rfl ?_
  refine nn_getr rfl C0.1 (lf_9_5 L N C0) ?_
  refine mm_s1 rfl ?_
  refine mm_s1 rfl ?_
  refine mm_s1 rfl ⟨nn_bd (na_9_5 NN C0) (show (0 : Int) ≤ 1 ∧ (1 : Int) < 6 by decide), ?_⟩
  show mm_Go (mm_run 0) mc_Store_tell _ (14, [(0, .inr (.inr v0)), (1, .inl v1), (2, .inl v2)], [], (nn_ui M6 (v0 + 88) 1 v2))
  have L : nn_L (nn_ui M6 (v0 + 88) 1 v2) := nn_L_ua L (congrArg Prod.fst (na_9_5 NN C0)) (by decide)
  have N : (nn_ui M6 (v0 + 88) 1 v2).1 = n := N
  generalize e_M13 : (nn_ui M6 (v0 + 88) 1 v2) = M13 at L N ⊢
  replace h := h _ e_M13.symm
  show mm_Go (mm_run 0) mc_Store_tell _ (14, [(0, .inr (.inr v0)), (1, .inl v1), (2, .inl v2)], [], M13)
  refine mm_s1 rfl ?_
  refine mm_s1 rfl ?_
  show mm_Go (mm_run 0) mc_Store_tell _ (16, [(0, .inr (.inr v0)), (1, .inl v1), (2, .inl v2), (3, .inl 2)], [], M13)
  exact nn_go_ext (nn_xc rfl (nn_xc rfl nn_xn)) (h n L N C0)
set_option maxRecDepth 20000 in
theorem ng_Store_tell_16 (v0 : Nat) (v3 : Int) (M : mm_M) (R : mm_M → Prop) (h : ((6 ≤ v3 → R M) ∧ (v3 < 6 → (((0 : Int) ≤ v3 ∧ v3 < (6 : Int)) ∧ (∀ M31 : mm_M, M31 = nn_ui M (v0 + 88) v3 (-1) → nk_Store_tell_16 v0 (mm_w (v3 + 1)) M31 R))))) : nk_Store_tell_16 v0 v3 M R := by
  intro n L N C0
  have NN := nn_L_n L N
  show mm_Go (mm_run 0) mc_Store_tell _ (16, [(0, .inr (.inr v0)), (3, .inl v3)], [], M)
  refine mm_s1 rfl ?_
  refine mm_s1 rfl ?_
  refine nn_getr rfl C0.1 (lf_9_5 L N C0) ?_
  refine nn_alen rfl (na_9_5 NN C0) (by decide) ?_
  show mm_Go (mm_run 0) mc_Store_tell _ (22, [(0, .inr (.inr v0)), (3, .inl v3)], [.inl 6, .inl v3], M)
  refine mm_s1 rfl ⟨fun c22 => ?_, fun c22 => ?_⟩
  · show mm_Go (mm_run 0) mc_Store_tell _ (38, [(0, .inr (.inr v0)), (3, .inl v3)], [], M)
    replace h := h.1 c22
    exact mm_s1 rfl ⟨rfl, L, N, h⟩
  · show mm_Go (mm_run 0) mc_Store_tell _ (25, [(0, .inr (.inr v0)), (3, .inl v3)], [], M)
    replace c22 := Int.not_le.mp c22
    replace h := h.2 c22
    refine mm_s1 rfl ?_
    refine nn_getr rfl C0.1 (lf_9_5 L N C0) ?_
    refine mm_s1 rfl ?_
    refine mm_s1 rfl ?_
    obtain ⟨b31, h⟩ := h
    refine mm_s1 rfl ⟨nn_bd (na_9_5 NN C0) b31, ?_⟩
    show mm_Go (mm_run 0) mc_Store_tell _ (32, [(0, .inr (.inr v0)), (3, .inl v3)], [], (nn_ui M (v0 + 88) v3 (-1)))
    have L : nn_L (nn_ui M (v0 + 88) v3 (-1)) := nn_L_ua L (congrArg Prod.fst (na_9_5 NN C0)) (by decide)
    have N : (nn_ui M (v0 + 88) v3 (-1)).1 = n := N
    generalize e_M31 : (nn_ui M (v0 + 88) v3 (-1)) = M31 at L N ⊢
    replace h := h _ e_M31.symm
    show mm_Go (mm_run 0) mc_Store_tell _ (32, [(0, .inr (.inr v0)), (3, .inl v3)], [], M31)
    refine mm_s1 rfl ?_
    show mm_Go (mm_run 0) mc_Store_tell _ (35, [(0, .inr (.inr v0)), (3, .inl (mm_w (v3 + 1)))], [], M31)
    refine mm_s1 rfl ?_
    show mm_Go (mm_run 0) mc_Store_tell _ (16, [(0, .inr (.inr v0)), (3, .inl (mm_w (v3 + 1)))], [], M31)
    exact nn_go_ext (nn_xc rfl (nn_xc rfl nn_xn)) (h n L N C0)
def nr_Store_find (v0 : Nat) (v1 : Int) (M : mm_M) (R : Nat → mm_M → Prop) : Prop := ∀ n, nn_L M → M.1 = n → nn_C 9 v0 n → mm_run 1 mi_Store_find [.inr (.inr v0), .inl v1] M (nw_A 5 n R)
set_option maxRecDepth 20000 in
theorem ng_Store_find (v0 : Nat) (v1 : Int) (M : mm_M) (R : Nat → mm_M → Prop) (h : (((0 ≤ v1) ∧ (v1 < 4) → ((0 : Int) ≤ v1 ∧ v1 < (4 : Int))) ∧ ((0 ≤ v1) ∧ (v1 < 4) ∧ ((nn_rf M (v0 + 90 + 15 * (v1).toNat) 5) ≠ 0) → ((0 : Int) ≤ v1 ∧ v1 < (4 : Int))) ∧ ((v1 < 0 ∨ (4 ≤ v1 ∨ ((nn_rf M (v0 + 90 + 15 * (v1).toNat) 5) = 0))) → R 0 M) ∧ ((0 ≤ v1 ∧ (v1 < 4 ∧ ((nn_rf M (v0 + 90 + 15 * (v1).toNat) 5) ≠ 0))) → R (v0 + 90 + 15 * (v1).toNat) M))) : nr_Store_find v0 v1 M R := by
  intro n L N C0
  have NN := nn_L_n L N
  show mm_Go (mm_run 0) mc_Store_find _ (0, [(0, .inr (.inr v0)), (1, .inl v1)], [], M)
  refine mm_s1 rfl ?_
  refine mm_s1 rfl ⟨fun c1 => ?_, fun c1 => ?_⟩
  · show mm_Go (mm_run 0) mc_Store_find _ (21, [(0, .inr (.inr v0)), (1, .inl v1)], [], M)
    refine mm_s1 rfl ?_
    refine mm_s1 rfl ?_
    show mm_Go (mm_run 0) mc_Store_find _ (31, [(0, .inr (.inr v0)), (1, .inl v1)], [.inr (.inr 0)], M)
    replace h := h.2.2.1 (Or.inl c1)
    exact mm_s1 rfl ⟨_, rfl, Or.inl rfl, L, N, h⟩
  · show mm_Go (mm_run 0) mc_Store_find _ (4, [(0, .inr (.inr v0)), (1, .inl v1)], [], M)
    replace c1 := Int.not_lt.mp c1
    refine mm_s1 rfl ?_
    refine mm_s1 rfl ?_
    refine mm_s1 rfl ⟨fun c6 => ?_, fun c6 => ?_⟩
    · show mm_Go (mm_run 0) mc_Store_find _ (21, [(0, .inr (.inr v0)), (1, .inl v1)], [], M)
      refine mm_s1 rfl ?_
      refine mm_s1 rfl ?_
      show mm_Go (mm_run 0) mc_Store_find _ (31, [(0, .inr (.inr v0)), (1, .inl v1)], [.inr (.inr 0)], M)
      replace h := h.2.2.1 (Or.inr (Or.inl c6))
      exact mm_s1 rfl ⟨_, rfl, Or.inl rfl, L, N, h⟩
    · show mm_Go (mm_run 0) mc_Store_find _ (9, [(0, .inr (.inr v0)), (1, .inl v1)], [], M)
      replace c6 := Int.not_le.mp c6
      refine mm_s1 rfl ?_
      refine nn_getr rfl C0.1 (lf_9_2 L N C0) ?_
      refine mm_s1 rfl ?_
      have b14 := h.1 ⟨c1, c6⟩
      have C14 : nn_C 5 (v0 + 90 + 15 * (v1).toNat) n := (nn_arr NN (nc_9_2 NN C0).2).1 (nc_9_2 NN C0).1 _ (nn_tn b14 (by decide))
      refine nn_aald rfl (nn_bd30 (na_9_2 NN C0) (by decide) b14) (nn_l35 L N (nc_9_2 NN C0) b14) ?_
      show mm_Go (mm_run 0) mc_Store_find _ (15, [(0, .inr (.inr v0)), (1, .inl v1)], [.inr (.inr (v0 + 90 + 15 * (v1).toNat))], M)
      refine mm_s1 rfl ⟨C14.1, ?_⟩
      show mm_Go (mm_run 0) mc_Store_find _ (18, [(0, .inr (.inr v0)), (1, .inl v1)], [.inl (nn_rf M (v0 + 90 + 15 * (v1).toNat) 5)], M)
      refine mm_s1 rfl ⟨fun c18 => ?_, fun c18 => ?_⟩
      · show mm_Go (mm_run 0) mc_Store_find _ (25, [(0, .inr (.inr v0)), (1, .inl v1)], [], M)
        refine mm_s1 rfl ?_
        refine nn_getr rfl C0.1 (lf_9_2 L N C0) ?_
        refine mm_s1 rfl ?_
        have b30 := h.2.1 ⟨c1, c6, c18⟩
        have C30 : nn_C 5 (v0 + 90 + 15 * (v1).toNat) n := (nn_arr NN (nc_9_2 NN C0).2).1 (nc_9_2 NN C0).1 _ (nn_tn b30 (by decide))
        refine nn_aald rfl (nn_bd30 (na_9_2 NN C0) (by decide) b30) (nn_l35 L N (nc_9_2 NN C0) b30) ?_
        show mm_Go (mm_run 0) mc_Store_find _ (31, [(0, .inr (.inr v0)), (1, .inl v1)], [.inr (.inr (v0 + 90 + 15 * (v1).toNat))], M)
        replace h := h.2.2.2 ⟨c1, ⟨c6, c18⟩⟩
        exact mm_s1 rfl ⟨_, rfl, Or.inr C30, L, N, h⟩
      · show mm_Go (mm_run 0) mc_Store_find _ (21, [(0, .inr (.inr v0)), (1, .inl v1)], [], M)
        replace c18 := Decidable.not_not.mp c18
        refine mm_s1 rfl ?_
        refine mm_s1 rfl ?_
        show mm_Go (mm_run 0) mc_Store_find _ (31, [(0, .inr (.inr v0)), (1, .inl v1)], [.inr (.inr 0)], M)
        replace h := h.2.2.1 (Or.inr (Or.inr c18))
        exact mm_s1 rfl ⟨_, rfl, Or.inl rfl, L, N, h⟩
def nr_Store_tellBy (v0 : Nat) (v1 : Int) (v2 : Int) (v3 : Int) (M : mm_M) (R : mm_M → Prop) : Prop := ∀ n, nn_L M → M.1 = n → nn_C 9 v0 n → mm_run 1 mi_Store_tellBy [.inr (.inr v0), .inl v1, .inl v2, .inl v3] M (nw_V n R)
set_option maxRecDepth 20000 in
theorem ng_Store_tellBy (v0 : Nat) (v1 : Int) (v2 : Int) (v3 : Int) (M : mm_M) (R : mm_M → Prop) (h : (∀ M6 : mm_M, M6 = nn_ui M (v0 + 88) 2 v1 → (∀ M13 : mm_M, M13 = nn_ui M6 (v0 + 88) 3 v2 → (∀ M20 : mm_M, M20 = nn_ui M13 (v0 + 88) 4 v3 → (((0 : Int) ≤ v3 ∧ v3 < (32 : Int)) ∧ (∀ M38 : mm_M, M38 = nn_ui M20 (v0 + 88) 5 (nn_ri M20 (v0 + 9) v3) → R M38)))))) : nr_Store_tellBy v0 v1 v2 v3 M R := by
  intro n L N C0
  have NN := nn_L_n L N
  show mm_Go (mm_run 0) mc_Store_tellBy _ (0, [(0, .inr (.inr v0)), (1, .inl v1), (2, .inl v2), (3, .inl v3)], [], M)
  refine mm_s1 rfl ?_
  refine nn_getr rfl C0.1 (lf_9_5 L N C0) ?_
  refine mm_s1 rfl ?_
  refine mm_s1 rfl ?_
  refine mm_s1 rfl ⟨nn_bd (na_9_5 NN C0) (show (0 : Int) ≤ 2 ∧ (2 : Int) < 6 by decide), ?_⟩
  show mm_Go (mm_run 0) mc_Store_tellBy _ (7, [(0, .inr (.inr v0)), (1, .inl v1), (2, .inl v2), (3, .inl v3)], [], (nn_ui M (v0 + 88) 2 v1))
  have L : nn_L (nn_ui M (v0 + 88) 2 v1) := nn_L_ua L (congrArg Prod.fst (na_9_5 NN C0)) (by decide)
  have N : (nn_ui M (v0 + 88) 2 v1).1 = n := N
  generalize e_M6 : (nn_ui M (v0 + 88) 2 v1) = M6 at L N ⊢
  replace h := h _ e_M6.symm
  show mm_Go (mm_run 0) mc_Store_tellBy _ (7, [(0, .inr (.inr v0)), (1, .inl v1), (2, .inl v2), (3, .inl v3)], [], M6)
  refine mm_s1 rfl ?_
  refine nn_getr rfl C0.1 (lf_9_5 L N C0) ?_
  refine mm_s1 rfl ?_
  refine mm_s1 rfl ?_
  refine mm_s1 rfl ⟨nn_bd (na_9_5 NN C0) (show (0 : Int) ≤ 3 ∧ (3 : Int) < 6 by decide), ?_⟩
  show mm_Go (mm_run 0) mc_Store_tellBy _ (14, [(0, .inr (.inr v0)), (1, .inl v1), (2, .inl v2), (3, .inl v3)], [], (nn_ui M6 (v0 + 88) 3 v2))
  have L : nn_L (nn_ui M6 (v0 + 88) 3 v2) := nn_L_ua L (congrArg Prod.fst (na_9_5 NN C0)) (by decide)
  have N : (nn_ui M6 (v0 + 88) 3 v2).1 = n := N
  generalize e_M13 : (nn_ui M6 (v0 + 88) 3 v2) = M13 at L N ⊢
  replace h := h _ e_M13.symm
  show mm_Go (mm_run 0) mc_Store_tellBy _ (14, [(0, .inr (.inr v0)), (1, .inl v1), (2, .inl v2), (3, .inl v3)], [], M13)
  refine mm_s1 rfl ?_
  refine nn_getr rfl C0.1 (lf_9_5 L N C0) ?_
  refine mm_s1 rfl ?_
  refine mm_s1 rfl ?_
  refine mm_s1 rfl ⟨nn_bd (na_9_5 NN C0) (show (0 : Int) ≤ 4 ∧ (4 : Int) < 6 by decide), ?_⟩
  show mm_Go (mm_run 0) mc_Store_tellBy _ (21, [(0, .inr (.inr v0)), (1, .inl v1), (2, .inl v2), (3, .inl v3)], [], (nn_ui M13 (v0 + 88) 4 v3))
  have L : nn_L (nn_ui M13 (v0 + 88) 4 v3) := nn_L_ua L (congrArg Prod.fst (na_9_5 NN C0)) (by decide)
  have N : (nn_ui M13 (v0 + 88) 4 v3).1 = n := N
  generalize e_M20 : (nn_ui M13 (v0 + 88) 4 v3) = M20 at L N ⊢
  replace h := h _ e_M20.symm
  show mm_Go (mm_run 0) mc_Store_tellBy _ (21, [(0, .inr (.inr v0)), (1, .inl v1), (2, .inl v2), (3, .inl v3)], [], M20)
  refine mm_s1 rfl ?_
  refine nn_getr rfl C0.1 (lf_9_5 L N C0) ?_
  refine mm_s1 rfl ?_
  refine mm_s1 rfl ?_
  refine nn_getr rfl C0.1 (lf_9_1 L N C0) ?_
  show mm_Go (mm_run 0) mc_Store_tellBy _ (30, [(0, .inr (.inr v0)), (1, .inl v1), (2, .inl v2), (3, .inl v3)], [.inr (.inr (v0 + 3)), .inl 5, .inr (.inr (v0 + 88))], M20)
  refine nn_getr rfl (nc_9_1 NN C0).1 (lf_10_1 L N (nc_9_1 NN C0)) ?_
  refine nn_getr rfl (nc_10_1 NN (nc_9_1 NN C0)).1 (lf_12_1 L N (nc_10_1 NN (nc_9_1 NN C0))) ?_
  refine mm_s1 rfl ?_
  obtain ⟨b37, h⟩ := h
  refine mm_s1 rfl ⟨nn_bd (na_12_1 NN (nc_10_1 NN (nc_9_1 NN C0))) b37, ?_⟩
  show mm_Go (mm_run 0) mc_Store_tellBy _ (38, [(0, .inr (.inr v0)), (1, .inl v1), (2, .inl v2), (3, .inl v3)], [.inl (nn_ri M20 (v0 + 9) v3), .inl 5, .inr (.inr (v0 + 88))], M20)
  refine mm_s1 rfl ⟨nn_bd (na_9_5 NN C0) (show (0 : Int) ≤ 5 ∧ (5 : Int) < 6 by decide), ?_⟩
  show mm_Go (mm_run 0) mc_Store_tellBy _ (39, [(0, .inr (.inr v0)), (1, .inl v1), (2, .inl v2), (3, .inl v3)], [], (nn_ui M20 (v0 + 88) 5 (nn_ri M20 (v0 + 9) v3)))
  have L : nn_L (nn_ui M20 (v0 + 88) 5 (nn_ri M20 (v0 + 9) v3)) := nn_L_ua L (congrArg Prod.fst (na_9_5 NN C0)) (by decide)
  have N : (nn_ui M20 (v0 + 88) 5 (nn_ri M20 (v0 + 9) v3)).1 = n := N
  generalize e_M38 : (nn_ui M20 (v0 + 88) 5 (nn_ri M20 (v0 + 9) v3)) = M38 at L N ⊢
  replace h := h _ e_M38.symm
  show mm_Go (mm_run 0) mc_Store_tellBy _ (39, [(0, .inr (.inr v0)), (1, .inl v1), (2, .inl v2), (3, .inl v3)], [], M38)
  exact mm_s1 rfl ⟨rfl, L, N, h⟩
def nr_Store_drawn (v0 : Nat) (v1 : Int) (M : mm_M) (R : Int → mm_M → Prop) : Prop := ∀ n, nn_L M → M.1 = n → nn_C 9 v0 n → mm_run 1 mi_Store_drawn [.inr (.inr v0), .inl v1] M (nw_I n R)
set_option maxRecDepth 20000 in
theorem ng_Store_drawn (v0 : Nat) (v1 : Int) (M : mm_M) (R : Int → mm_M → Prop) (h : (∀ M12 : mm_M, M12 = nn_uf M v0 13 (mm_w ((mm_w ((nn_rf M v0 13) * 1103515245)) + 12345)) → ((v1 ≤ 0 → R 0 M12) ∧ (0 < v1 → (((0 : Int) ≤ (mm_ushr (nn_rf M12 v0 13) 16) ∧ (0 : Int) < v1) ∧ R ((mm_ushr (nn_rf M12 v0 13) 16) % v1) M12))))) : nr_Store_drawn v0 v1 M R := by
  intro n L N C0
  have NN := nn_L_n L N
  show mm_Go (mm_run 0) mc_Store_drawn _ (0, [(0, .inr (.inr v0)), (1, .inl v1)], [], M)
  refine mm_s1 rfl ?_
  refine mm_s1 rfl ?_
  refine mm_s1 rfl ⟨C0.1, ?_⟩
  show mm_Go (mm_run 0) mc_Store_drawn _ (5, [(0, .inr (.inr v0)), (1, .inl v1)], [.inl (nn_rf M v0 13), .inr (.inr v0)], M)
  refine mm_s1 rfl ?_
  refine mm_s1 rfl ?_
  refine mm_s1 rfl ?_
  refine mm_s1 rfl ?_
  refine mm_s1 rfl ⟨C0.1, ?_⟩
  show mm_Go (mm_run 0) mc_Store_drawn _ (15, [(0, .inr (.inr v0)), (1, .inl v1)], [], (nn_uf M v0 13 (mm_w ((mm_w ((nn_rf M v0 13) * 1103515245)) + 12345))))
  have L : nn_L (nn_uf M v0 13 (mm_w ((mm_w ((nn_rf M v0 13) * 1103515245)) + 12345))) := nn_L_up L C0.1 rfl
  have N : (nn_uf M v0 13 (mm_w ((mm_w ((nn_rf M v0 13) * 1103515245)) + 12345))).1 = n := N
  generalize e_M12 : (nn_uf M v0 13 (mm_w ((mm_w ((nn_rf M v0 13) * 1103515245)) + 12345))) = M12 at L N ⊢
  replace h := h _ e_M12.symm
  show mm_Go (mm_run 0) mc_Store_drawn _ (15, [(0, .inr (.inr v0)), (1, .inl v1)], [], M12)
  refine mm_s1 rfl ?_
  refine mm_s1 rfl ⟨fun c16 => ?_, fun c16 => ?_⟩
  · show mm_Go (mm_run 0) mc_Store_drawn _ (31, [(0, .inr (.inr v0)), (1, .inl v1)], [], M12)
    replace h := h.1 c16
    refine mm_s1 rfl ?_
    exact mm_s1 rfl ⟨_, rfl, L, N, h⟩
  · show mm_Go (mm_run 0) mc_Store_drawn _ (19, [(0, .inr (.inr v0)), (1, .inl v1)], [], M12)
    replace c16 := Int.not_le.mp c16
    replace h := h.2 c16
    refine mm_s1 rfl ?_
    refine mm_s1 rfl ⟨C0.1, ?_⟩
    show mm_Go (mm_run 0) mc_Store_drawn _ (23, [(0, .inr (.inr v0)), (1, .inl v1)], [.inl (nn_rf M12 v0 13)], M12)
    refine mm_s1 rfl ?_
    refine mm_s1 rfl ?_
    refine mm_s1 rfl ?_
    obtain ⟨b27, h⟩ := h
    refine mm_s1 rfl ⟨b27, ?_⟩
    refine mm_s1 rfl ?_
    show mm_Go (mm_run 0) mc_Store_drawn _ (32, [(0, .inr (.inr v0)), (1, .inl v1)], [.inl ((mm_ushr (nn_rf M12 v0 13) 16) % v1)], M12)
    exact mm_s1 rfl ⟨_, rfl, L, N, h⟩
def nr_Store_findBuilt (v0 : Nat) (v1 : Int) (M : mm_M) (R : Nat → mm_M → Prop) : Prop := ∀ n, nn_L M → M.1 = n → nn_C 9 v0 n → mm_run 1 mi_Store_findBuilt [.inr (.inr v0), .inl v1] M (nw_A 5 n R)
set_option maxRecDepth 20000 in
theorem ng_Store_findBuilt (v0 : Nat) (v1 : Int) (M : mm_M) (R : Nat → mm_M → Prop) (h : (((0 ≤ v1) ∧ (v1 < 4) → ((0 : Int) ≤ v1 ∧ v1 < (4 : Int))) ∧ ((0 ≤ v1) ∧ (v1 < 4) ∧ ((nn_rf M (v0 + 90 + 15 * (v1).toNat) 5) = 2) → ((0 : Int) ≤ v1 ∧ v1 < (4 : Int))) ∧ ((v1 < 0 ∨ (4 ≤ v1 ∨ ((nn_rf M (v0 + 90 + 15 * (v1).toNat) 5) ≠ 2))) → R 0 M) ∧ ((0 ≤ v1 ∧ (v1 < 4 ∧ ((nn_rf M (v0 + 90 + 15 * (v1).toNat) 5) = 2))) → R (v0 + 90 + 15 * (v1).toNat) M))) : nr_Store_findBuilt v0 v1 M R := by
  intro n L N C0
  have NN := nn_L_n L N
  show mm_Go (mm_run 0) mc_Store_findBuilt _ (0, [(0, .inr (.inr v0)), (1, .inl v1)], [], M)
  refine mm_s1 rfl ?_
  refine mm_s1 rfl ⟨fun c1 => ?_, fun c1 => ?_⟩
  · show mm_Go (mm_run 0) mc_Store_findBuilt _ (22, [(0, .inr (.inr v0)), (1, .inl v1)], [], M)
    refine mm_s1 rfl ?_
    refine mm_s1 rfl ?_
    show mm_Go (mm_run 0) mc_Store_findBuilt _ (32, [(0, .inr (.inr v0)), (1, .inl v1)], [.inr (.inr 0)], M)
    replace h := h.2.2.1 (Or.inl c1)
    exact mm_s1 rfl ⟨_, rfl, Or.inl rfl, L, N, h⟩
  · show mm_Go (mm_run 0) mc_Store_findBuilt _ (4, [(0, .inr (.inr v0)), (1, .inl v1)], [], M)
    replace c1 := Int.not_lt.mp c1
    refine mm_s1 rfl ?_
    refine mm_s1 rfl ?_
    refine mm_s1 rfl ⟨fun c6 => ?_, fun c6 => ?_⟩
    · show mm_Go (mm_run 0) mc_Store_findBuilt _ (22, [(0, .inr (.inr v0)), (1, .inl v1)], [], M)
      refine mm_s1 rfl ?_
      refine mm_s1 rfl ?_
      show mm_Go (mm_run 0) mc_Store_findBuilt _ (32, [(0, .inr (.inr v0)), (1, .inl v1)], [.inr (.inr 0)], M)
      replace h := h.2.2.1 (Or.inr (Or.inl c6))
      exact mm_s1 rfl ⟨_, rfl, Or.inl rfl, L, N, h⟩
    · show mm_Go (mm_run 0) mc_Store_findBuilt _ (9, [(0, .inr (.inr v0)), (1, .inl v1)], [], M)
      replace c6 := Int.not_le.mp c6
      refine mm_s1 rfl ?_
      refine nn_getr rfl C0.1 (lf_9_2 L N C0) ?_
      refine mm_s1 rfl ?_
      have b14 := h.1 ⟨c1, c6⟩
      have C14 : nn_C 5 (v0 + 90 + 15 * (v1).toNat) n := (nn_arr NN (nc_9_2 NN C0).2).1 (nc_9_2 NN C0).1 _ (nn_tn b14 (by decide))
      refine nn_aald rfl (nn_bd30 (na_9_2 NN C0) (by decide) b14) (nn_l35 L N (nc_9_2 NN C0) b14) ?_
      show mm_Go (mm_run 0) mc_Store_findBuilt _ (15, [(0, .inr (.inr v0)), (1, .inl v1)], [.inr (.inr (v0 + 90 + 15 * (v1).toNat))], M)
      refine mm_s1 rfl ⟨C14.1, ?_⟩
      show mm_Go (mm_run 0) mc_Store_findBuilt _ (18, [(0, .inr (.inr v0)), (1, .inl v1)], [.inl (nn_rf M (v0 + 90 + 15 * (v1).toNat) 5)], M)
      refine mm_s1 rfl ?_
      refine mm_s1 rfl ⟨fun c19 => ?_, fun c19 => ?_⟩
      · show mm_Go (mm_run 0) mc_Store_findBuilt _ (26, [(0, .inr (.inr v0)), (1, .inl v1)], [], M)
        refine mm_s1 rfl ?_
        refine nn_getr rfl C0.1 (lf_9_2 L N C0) ?_
        refine mm_s1 rfl ?_
        have b31 := h.2.1 ⟨c1, c6, c19⟩
        have C31 : nn_C 5 (v0 + 90 + 15 * (v1).toNat) n := (nn_arr NN (nc_9_2 NN C0).2).1 (nc_9_2 NN C0).1 _ (nn_tn b31 (by decide))
        refine nn_aald rfl (nn_bd30 (na_9_2 NN C0) (by decide) b31) (nn_l35 L N (nc_9_2 NN C0) b31) ?_
        show mm_Go (mm_run 0) mc_Store_findBuilt _ (32, [(0, .inr (.inr v0)), (1, .inl v1)], [.inr (.inr (v0 + 90 + 15 * (v1).toNat))], M)
        replace h := h.2.2.2 ⟨c1, ⟨c6, c19⟩⟩
        exact mm_s1 rfl ⟨_, rfl, Or.inr C31, L, N, h⟩
      · show mm_Go (mm_run 0) mc_Store_findBuilt _ (22, [(0, .inr (.inr v0)), (1, .inl v1)], [], M)
        refine mm_s1 rfl ?_
        refine mm_s1 rfl ?_
        show mm_Go (mm_run 0) mc_Store_findBuilt _ (32, [(0, .inr (.inr v0)), (1, .inl v1)], [.inr (.inr 0)], M)
        replace h := h.2.2.1 (Or.inr (Or.inr c19))
        exact mm_s1 rfl ⟨_, rfl, Or.inl rfl, L, N, h⟩
def nr_Store_findCursor (v0 : Nat) (v1 : Int) (M : mm_M) (R : Nat → mm_M → Prop) : Prop := ∀ n, nn_L M → M.1 = n → nn_C 9 v0 n → mm_run 1 mi_Store_findCursor [.inr (.inr v0), .inl v1] M (nw_A 3 n R)
set_option maxRecDepth 20000 in
theorem ng_Store_findCursor (v0 : Nat) (v1 : Int) (M : mm_M) (R : Nat → mm_M → Prop) (h : (((0 ≤ v1) ∧ (v1 < 3) → ((0 : Int) ≤ v1 ∧ v1 < (3 : Int))) ∧ ((0 ≤ v1) ∧ (v1 < 3) ∧ ((nn_rf M (v0 + 150 + 3 * (v1).toNat) 2) ≠ 0) → ((0 : Int) ≤ v1 ∧ v1 < (3 : Int))) ∧ ((v1 < 0 ∨ (3 ≤ v1 ∨ ((nn_rf M (v0 + 150 + 3 * (v1).toNat) 2) = 0))) → R 0 M) ∧ ((0 ≤ v1 ∧ (v1 < 3 ∧ ((nn_rf M (v0 + 150 + 3 * (v1).toNat) 2) ≠ 0))) → R (v0 + 150 + 3 * (v1).toNat) M))) : nr_Store_findCursor v0 v1 M R := by
  intro n L N C0
  have NN := nn_L_n L N
  show mm_Go (mm_run 0) mc_Store_findCursor _ (0, [(0, .inr (.inr v0)), (1, .inl v1)], [], M)
  refine mm_s1 rfl ?_
  refine mm_s1 rfl ⟨fun c1 => ?_, fun c1 => ?_⟩
  · show mm_Go (mm_run 0) mc_Store_findCursor _ (21, [(0, .inr (.inr v0)), (1, .inl v1)], [], M)
    refine mm_s1 rfl ?_
    refine mm_s1 rfl ?_
    show mm_Go (mm_run 0) mc_Store_findCursor _ (31, [(0, .inr (.inr v0)), (1, .inl v1)], [.inr (.inr 0)], M)
    replace h := h.2.2.1 (Or.inl c1)
    exact mm_s1 rfl ⟨_, rfl, Or.inl rfl, L, N, h⟩
  · show mm_Go (mm_run 0) mc_Store_findCursor _ (4, [(0, .inr (.inr v0)), (1, .inl v1)], [], M)
    replace c1 := Int.not_lt.mp c1
    refine mm_s1 rfl ?_
    refine mm_s1 rfl ?_
    refine mm_s1 rfl ⟨fun c6 => ?_, fun c6 => ?_⟩
    · show mm_Go (mm_run 0) mc_Store_findCursor _ (21, [(0, .inr (.inr v0)), (1, .inl v1)], [], M)
      refine mm_s1 rfl ?_
      refine mm_s1 rfl ?_
      show mm_Go (mm_run 0) mc_Store_findCursor _ (31, [(0, .inr (.inr v0)), (1, .inl v1)], [.inr (.inr 0)], M)
      replace h := h.2.2.1 (Or.inr (Or.inl c6))
      exact mm_s1 rfl ⟨_, rfl, Or.inl rfl, L, N, h⟩
    · show mm_Go (mm_run 0) mc_Store_findCursor _ (9, [(0, .inr (.inr v0)), (1, .inl v1)], [], M)
      replace c6 := Int.not_le.mp c6
      refine mm_s1 rfl ?_
      refine nn_getr rfl C0.1 (lf_9_3 L N C0) ?_
      refine mm_s1 rfl ?_
      have b14 := h.1 ⟨c1, c6⟩
      have C14 : nn_C 3 (v0 + 150 + 3 * (v1).toNat) n := (nn_arr NN (nc_9_3 NN C0).2).2.1 (nc_9_3 NN C0).1 _ (nn_tn b14 (by decide))
      refine nn_aald rfl (nn_bd30 (na_9_3 NN C0) (by decide) b14) (nn_l33 L N (nc_9_3 NN C0) b14) ?_
      show mm_Go (mm_run 0) mc_Store_findCursor _ (15, [(0, .inr (.inr v0)), (1, .inl v1)], [.inr (.inr (v0 + 150 + 3 * (v1).toNat))], M)
      refine mm_s1 rfl ⟨C14.1, ?_⟩
      show mm_Go (mm_run 0) mc_Store_findCursor _ (18, [(0, .inr (.inr v0)), (1, .inl v1)], [.inl (nn_rf M (v0 + 150 + 3 * (v1).toNat) 2)], M)
      refine mm_s1 rfl ⟨fun c18 => ?_, fun c18 => ?_⟩
      · show mm_Go (mm_run 0) mc_Store_findCursor _ (25, [(0, .inr (.inr v0)), (1, .inl v1)], [], M)
        refine mm_s1 rfl ?_
        refine nn_getr rfl C0.1 (lf_9_3 L N C0) ?_
        refine mm_s1 rfl ?_
        have b30 := h.2.1 ⟨c1, c6, c18⟩
        have C30 : nn_C 3 (v0 + 150 + 3 * (v1).toNat) n := (nn_arr NN (nc_9_3 NN C0).2).2.1 (nc_9_3 NN C0).1 _ (nn_tn b30 (by decide))
        refine nn_aald rfl (nn_bd30 (na_9_3 NN C0) (by decide) b30) (nn_l33 L N (nc_9_3 NN C0) b30) ?_
        show mm_Go (mm_run 0) mc_Store_findCursor _ (31, [(0, .inr (.inr v0)), (1, .inl v1)], [.inr (.inr (v0 + 150 + 3 * (v1).toNat))], M)
        replace h := h.2.2.2 ⟨c1, ⟨c6, c18⟩⟩
        exact mm_s1 rfl ⟨_, rfl, Or.inr C30, L, N, h⟩
      · show mm_Go (mm_run 0) mc_Store_findCursor _ (21, [(0, .inr (.inr v0)), (1, .inl v1)], [], M)
        replace c18 := Decidable.not_not.mp c18
        refine mm_s1 rfl ?_
        refine mm_s1 rfl ?_
        show mm_Go (mm_run 0) mc_Store_findCursor _ (31, [(0, .inr (.inr v0)), (1, .inl v1)], [.inr (.inr 0)], M)
        replace h := h.2.2.1 (Or.inr (Or.inr c18))
        exact mm_s1 rfl ⟨_, rfl, Or.inl rfl, L, N, h⟩
def nr_Store_openCursors (v0 : Nat) (M : mm_M) (R : Int → mm_M → Prop) : Prop := ∀ n, nn_L M → M.1 = n → nn_C 9 v0 n → mm_run 1 mi_Store_openCursors [.inr (.inr v0)] M (nw_I n R)
def nk_Store_openCursors_4 (v0 : Nat) (v1 : Int) (v2 : Int) (M : mm_M) (R : Int → mm_M → Prop) : Prop := ∀ n, nn_L M → M.1 = n → nn_C 9 v0 n → mm_Go (mm_run 0) mc_Store_openCursors (nw_I n R) (4, [(0, .inr (.inr v0)), (1, .inl v1), (2, .inl v2)], [], M)
set_option maxRecDepth 20000 in
theorem ng_Store_openCursors (v0 : Nat) (M : mm_M) (R : Int → mm_M → Prop) (h : nk_Store_openCursors_4 v0 0 0 M R) : nr_Store_openCursors v0 M R := by
  intro n L N C0
  have NN := nn_L_n L N
  show mm_Go (mm_run 0) mc_Store_openCursors _ (0, [(0, .inr (.inr v0))], [], M)
  refine mm_s1 rfl ?_
  refine mm_s1 rfl ?_
  show mm_Go (mm_run 0) mc_Store_openCursors _ (2, [(0, .inr (.inr v0)), (1, .inl 0)], [], M)
  refine mm_s1 rfl ?_
  refine mm_s1 rfl ?_
  show mm_Go (mm_run 0) mc_Store_openCursors _ (4, [(0, .inr (.inr v0)), (1, .inl 0), (2, .inl 0)], [], M)
  exact nn_go_ext (nn_xc rfl (nn_xc rfl (nn_xc rfl nn_xn))) (h n L N C0)
set_option maxRecDepth 20000 in
theorem ng_Store_openCursors_4 (v0 : Nat) (v1 : Int) (v2 : Int) (M : mm_M) (R : Int → mm_M → Prop) (h : ((3 ≤ v2 → R v1 M) ∧ (v2 < 3 → (((0 : Int) ≤ v2 ∧ v2 < (3 : Int)) ∧ (((nn_rf M (v0 + 150 + 3 * (v2).toNat) 2) = 0 → nk_Store_openCursors_4 v0 (mm_w (v1 + 0)) (mm_w (v2 + 1)) M R) ∧ ((nn_rf M (v0 + 150 + 3 * (v2).toNat) 2) ≠ 0 → nk_Store_openCursors_4 v0 (mm_w (v1 + 1)) (mm_w (v2 + 1)) M R)))))) : nk_Store_openCursors_4 v0 v1 v2 M R := by
  intro n L N C0
  have NN := nn_L_n L N
  show mm_Go (mm_run 0) mc_Store_openCursors _ (4, [(0, .inr (.inr v0)), (1, .inl v1), (2, .inl v2)], [], M)
  refine mm_s1 rfl ?_
  refine mm_s1 rfl ?_
  refine mm_s1 rfl ⟨fun c6 => ?_, fun c6 => ?_⟩
  · show mm_Go (mm_run 0) mc_Store_openCursors _ (35, [(0, .inr (.inr v0)), (1, .inl v1), (2, .inl v2)], [], M)
    replace h := h.1 c6
    refine mm_s1 rfl ?_
    exact mm_s1 rfl ⟨_, rfl, L, N, h⟩
  · show mm_Go (mm_run 0) mc_Store_openCursors _ (9, [(0, .inr (.inr v0)), (1, .inl v1), (2, .inl v2)], [], M)
    replace c6 := Int.not_le.mp c6
    replace h := h.2 c6
    refine mm_s1 rfl ?_
    refine mm_s1 rfl ?_
    refine nn_getr rfl C0.1 (lf_9_3 L N C0) ?_
    refine mm_s1 rfl ?_
    obtain ⟨b15, h⟩ := h
    have C15 : nn_C 3 (v0 + 150 + 3 * (v2).toNat) n := (nn_arr NN (nc_9_3 NN C0).2).2.1 (nc_9_3 NN C0).1 _ (nn_tn b15 (by decide))
    refine nn_aald rfl (nn_bd30 (na_9_3 NN C0) (by decide) b15) (nn_l33 L N (nc_9_3 NN C0) b15) ?_
    show mm_Go (mm_run 0) mc_Store_openCursors _ (16, [(0, .inr (.inr v0)), (1, .inl v1), (2, .inl v2)], [.inr (.inr (v0 + 150 + 3 * (v2).toNat)), .inl v1], M)
    refine mm_s1 rfl ⟨C15.1, ?_⟩
    show mm_Go (mm_run 0) mc_Store_openCursors _ (19, [(0, .inr (.inr v0)), (1, .inl v1), (2, .inl v2)], [.inl (nn_rf M (v0 + 150 + 3 * (v2).toNat) 2), .inl v1], M)
    refine mm_s1 rfl ⟨fun c19 => ?_, fun c19 => ?_⟩
    · show mm_Go (mm_run 0) mc_Store_openCursors _ (26, [(0, .inr (.inr v0)), (1, .inl v1), (2, .inl v2)], [.inl v1], M)
      replace h := h.1 c19
      refine mm_s1 rfl ?_
      refine mm_s1 rfl ?_
      refine mm_s1 rfl ?_
      show mm_Go (mm_run 0) mc_Store_openCursors _ (29, [(0, .inr (.inr v0)), (1, .inl (mm_w (v1 + 0))), (2, .inl v2)], [], M)
      refine mm_s1 rfl ?_
      show mm_Go (mm_run 0) mc_Store_openCursors _ (32, [(0, .inr (.inr v0)), (1, .inl (mm_w (v1 + 0))), (2, .inl (mm_w (v2 + 1)))], [], M)
      refine mm_s1 rfl ?_
      show mm_Go (mm_run 0) mc_Store_openCursors _ (4, [(0, .inr (.inr v0)), (1, .inl (mm_w (v1 + 0))), (2, .inl (mm_w (v2 + 1)))], [], M)
      exact nn_go_ext (nn_xc rfl (nn_xc rfl (nn_xc rfl nn_xn))) (h n L N C0)
    · show mm_Go (mm_run 0) mc_Store_openCursors _ (22, [(0, .inr (.inr v0)), (1, .inl v1), (2, .inl v2)], [.inl v1], M)
      replace h := h.2 c19
      refine mm_s1 rfl ?_
      refine mm_s1 rfl ?_
      show mm_Go (mm_run 0) mc_Store_openCursors _ (27, [(0, .inr (.inr v0)), (1, .inl v1), (2, .inl v2)], [.inl 1, .inl v1], M)
      refine mm_s1 rfl ?_
      refine mm_s1 rfl ?_
      show mm_Go (mm_run 0) mc_Store_openCursors _ (29, [(0, .inr (.inr v0)), (1, .inl (mm_w (v1 + 1))), (2, .inl v2)], [], M)
      refine mm_s1 rfl ?_
      show mm_Go (mm_run 0) mc_Store_openCursors _ (32, [(0, .inr (.inr v0)), (1, .inl (mm_w (v1 + 1))), (2, .inl (mm_w (v2 + 1)))], [], M)
      refine mm_s1 rfl ?_
      show mm_Go (mm_run 0) mc_Store_openCursors _ (4, [(0, .inr (.inr v0)), (1, .inl (mm_w (v1 + 1))), (2, .inl (mm_w (v2 + 1)))], [], M)
      exact nn_go_ext (nn_xc rfl (nn_xc rfl (nn_xc rfl nn_xn))) (h n L N C0)
