/-! methods walked by program (wip/whole/dec.py) -/
def nr_Store_stands (v0 : Nat) (v1 : Int) (M : mm_M) (R : Int → mm_M → Prop) : Prop := ∀ n, nn_L M → M.1 = n → nn_C 9 v0 n → mm_run 2 mi_Store_stands [.inr (.inr v0), .inl v1] M (nw_Z n R)
def nk_Store_stands_21 (v0 : Nat) (v1 : Int) (v2 : Int) (v3 : Int) (M : mm_M) (R : Int → mm_M → Prop) : Prop := ∀ n, nn_L M → M.1 = n → nn_C 9 v0 n → mm_Go (mm_run 1) mc_Store_stands (nw_Z n R) (21, [(0, .inr (.inr v0)), (1, .inl v1), (2, .inl v2), (3, .inl v3)], [], M)
set_option maxRecDepth 20000 in
theorem ng_Store_stands (v0 : Nat) (v1 : Int) (M : mm_M) (R : Int → mm_M → Prop) (h : (nr_LI_isAmong (v0 + 12) (nn_rf M (v0 + 3) 5) v1 M (fun r15 M15 => nk_Store_stands_21 v0 v1 r15 0 M15 R))) : nr_Store_stands v0 v1 M R := by
  intro n L N C0
  have NN := nn_L_n L N
  show mm_Go (mm_run 1) mc_Store_stands _ (0, [(0, .inr (.inr v0)), (1, .inl v1)], [], M)
  refine mm_s1 rfl ?_
  refine nn_getr rfl C0.1 (lf_9_1 L N C0) ?_
  refine nn_getr rfl (nc_9_1 NN C0).1 (lf_10_4 L N (nc_9_1 NN C0)) ?_
  refine mm_s1 rfl ?_
  refine nn_getr rfl C0.1 (lf_9_1 L N C0) ?_
  show mm_Go (mm_run 1) mc_Store_stands _ (11, [(0, .inr (.inr v0)), (1, .inl v1)], [.inr (.inr (v0 + 3)), .inr (.inr (v0 + 12))], M)
  refine mm_s1 rfl ⟨(nc_9_1 NN C0).1, ?_⟩
  show mm_Go (mm_run 1) mc_Store_stands _ (14, [(0, .inr (.inr v0)), (1, .inl v1)], [.inl (nn_rf M (v0 + 3) 5), .inr (.inr (v0 + 12))], M)
  refine mm_s1 rfl ?_
  refine mm_s1 rfl ⟨trivial, ?_⟩
  refine nn_call (D := 1) (by decide) (h n L N (nc_10_4 NN (nc_9_1 NN C0))) ?_
  intro v M15 q; clear L N h
  obtain ⟨r15, rfl, q15, L, N, h⟩ := q
  show mm_Go (mm_run 1) mc_Store_stands _ (18, [(0, .inr (.inr v0)), (1, .inl v1)], [.inl r15], M15)
  refine mm_s1 rfl ?_
  show mm_Go (mm_run 1) mc_Store_stands _ (19, [(0, .inr (.inr v0)), (1, .inl v1), (2, .inl r15)], [], M15)
  refine mm_s1 rfl ?_
  refine mm_s1 rfl ?_
  show mm_Go (mm_run 1) mc_Store_stands _ (21, [(0, .inr (.inr v0)), (1, .inl v1), (2, .inl r15), (3, .inl 0)], [], M15)
  exact nn_go_ext (nn_xc rfl (nn_xc rfl (nn_xc rfl (nn_xc rfl nn_xn)))) (h n L N C0)
set_option maxRecDepth 20000 in
theorem ng_Store_stands_21 (v0 : Nat) (v1 : Int) (v2 : Int) (v3 : Int) (M : mm_M) (R : Int → mm_M → Prop) (h : ((4 ≤ v3 → ((v2 = 0 ∨ v2 = 1) ∧ R v2 M)) ∧ (v3 < 4 → ((v2 ≠ 0 → ((v2 = 0 ∨ v2 = 1) ∧ R v2 M)) ∧ (v2 = 0 → (((0 : Int) ≤ v3 ∧ v3 < (4 : Int)) ∧ (((nn_rf M (v0 + 90 + 15 * (v3).toNat) 5) = 0 → nk_Store_stands_21 v0 v1 0 (mm_w (v3 + 1)) M R) ∧ ((nn_rf M (v0 + 90 + 15 * (v3).toNat) 5) ≠ 0 → (nr_LI_isAmong ((v0 + 90 + 15 * (v3).toNat) + 13) (nn_rf M ((v0 + 90 + 15 * (v3).toNat) + 8) 5) v1 M (fun r63 M63 => ((r63 = 0 → nk_Store_stands_21 v0 v1 0 (mm_w (v3 + 1)) M63 R) ∧ (r63 ≠ 0 → nk_Store_stands_21 v0 v1 1 (mm_w (v3 + 1)) M63 R)))))))))))) : nk_Store_stands_21 v0 v1 v2 v3 M R := by
  intro n L N C0
  have NN := nn_L_n L N
  show mm_Go (mm_run 1) mc_Store_stands _ (21, [(0, .inr (.inr v0)), (1, .inl v1), (2, .inl v2), (3, .inl v3)], [], M)
  refine mm_s1 rfl ?_
  refine mm_s1 rfl ?_
  refine mm_s1 rfl ⟨fun c23 => ?_, fun c23 => ?_⟩
  · show mm_Go (mm_run 1) mc_Store_stands _ (81, [(0, .inr (.inr v0)), (1, .inl v1), (2, .inl v2), (3, .inl v3)], [], M)
    replace h := h.1 c23
    refine mm_s1 rfl ?_
    obtain ⟨b82, h⟩ := h
    exact mm_s1 rfl ⟨b82, _, rfl, b82, L, N, h⟩
  · show mm_Go (mm_run 1) mc_Store_stands _ (26, [(0, .inr (.inr v0)), (1, .inl v1), (2, .inl v2), (3, .inl v3)], [], M)
    replace c23 := Int.not_le.mp c23
    replace h := h.2 c23
    refine mm_s1 rfl ?_
    refine mm_s1 rfl ⟨fun c27 => ?_, fun c27 => ?_⟩
    · show mm_Go (mm_run 1) mc_Store_stands _ (81, [(0, .inr (.inr v0)), (1, .inl v1), (2, .inl v2), (3, .inl v3)], [], M)
      replace h := h.1 c27
      refine mm_s1 rfl ?_
      obtain ⟨b82, h⟩ := h
      exact mm_s1 rfl ⟨b82, _, rfl, b82, L, N, h⟩
    · show mm_Go (mm_run 1) mc_Store_stands _ (30, [(0, .inr (.inr v0)), (1, .inl v1), (2, .inl v2), (3, .inl v3)], [], M)
      replace c27 := Decidable.not_not.mp c27
      replace h := h.2 c27
      refine mm_s1 rfl ?_
      refine nn_getr rfl C0.1 (lf_9_2 L N C0) ?_
      refine mm_s1 rfl ?_
      obtain ⟨b35, h⟩ := h
      have C35 : nn_C 5 (v0 + 90 + 15 * (v3).toNat) n := (nn_arr NN (nc_9_2 NN C0).2).1 (nc_9_2 NN C0).1 _ (nn_tn b35 (by decide))
      refine nn_aald rfl (nn_bd30 (na_9_2 NN C0) (by decide) b35) (nn_l35 L N (nc_9_2 NN C0) b35) ?_
      show mm_Go (mm_run 1) mc_Store_stands _ (36, [(0, .inr (.inr v0)), (1, .inl v1), (2, .inl v2), (3, .inl v3)], [.inr (.inr (v0 + 90 + 15 * (v3).toNat))], M)
      refine mm_s1 rfl ?_
      show mm_Go (mm_run 1) mc_Store_stands _ (38, [(0, .inr (.inr v0)), (1, .inl v1), (2, .inl v2), (3, .inl v3), (4, .inr (.inr (v0 + 90 + 15 * (v3).toNat)))], [], M)
      refine mm_s1 rfl ?_
      refine mm_s1 rfl ⟨C35.1, ?_⟩
      show mm_Go (mm_run 1) mc_Store_stands _ (43, [(0, .inr (.inr v0)), (1, .inl v1), (2, .inl v2), (3, .inl v3), (4, .inr (.inr (v0 + 90 + 15 * (v3).toNat)))], [.inl (nn_rf M (v0 + 90 + 15 * (v3).toNat) 5)], M)
      refine mm_s1 rfl ⟨fun c43 => ?_, fun c43 => ?_⟩
      · show mm_Go (mm_run 1) mc_Store_stands _ (73, [(0, .inr (.inr v0)), (1, .inl v1), (2, .inl v2), (3, .inl v3), (4, .inr (.inr (v0 + 90 + 15 * (v3).toNat)))], [], M)
        replace h := h.1 c43
        refine mm_s1 rfl ?_
        refine mm_s1 rfl ?_
        show mm_Go (mm_run 1) mc_Store_stands _ (75, [(0, .inr (.inr v0)), (1, .inl v1), (2, .inl 0), (3, .inl v3), (4, .inr (.inr (v0 + 90 + 15 * (v3).toNat)))], [], M)
        refine mm_s1 rfl ?_
        show mm_Go (mm_run 1) mc_Store_stands _ (78, [(0, .inr (.inr v0)), (1, .inl v1), (2, .inl 0), (3, .inl (mm_w (v3 + 1))), (4, .inr (.inr (v0 + 90 + 15 * (v3).toNat)))], [], M)
        refine mm_s1 rfl ?_
        show mm_Go (mm_run 1) mc_Store_stands _ (21, [(0, .inr (.inr v0)), (1, .inl v1), (2, .inl 0), (3, .inl (mm_w (v3 + 1))), (4, .inr (.inr (v0 + 90 + 15 * (v3).toNat)))], [], M)
        exact nn_go_ext (nn_xc rfl (nn_xc rfl (nn_xc rfl (nn_xc rfl nn_xn)))) (h n L N C0)
      · show mm_Go (mm_run 1) mc_Store_stands _ (46, [(0, .inr (.inr v0)), (1, .inl v1), (2, .inl v2), (3, .inl v3), (4, .inr (.inr (v0 + 90 + 15 * (v3).toNat)))], [], M)
        replace h := h.2 c43
        refine mm_s1 rfl ?_
        refine nn_getr rfl C35.1 (lf_5_3 L N C35) ?_
        refine nn_getr rfl (nc_5_3 NN C35).1 (lf_6_4 L N (nc_5_3 NN C35)) ?_
        refine mm_s1 rfl ?_
        refine nn_getr rfl C35.1 (lf_5_3 L N C35) ?_
        show mm_Go (mm_run 1) mc_Store_stands _ (59, [(0, .inr (.inr v0)), (1, .inl v1), (2, .inl v2), (3, .inl v3), (4, .inr (.inr (v0 + 90 + 15 * (v3).toNat)))], [.inr (.inr ((v0 + 90 + 15 * (v3).toNat) + 8)), .inr (.inr ((v0 + 90 + 15 * (v3).toNat) + 13))], M)
        refine mm_s1 rfl ⟨(nc_5_3 NN C35).1, ?_⟩
        show mm_Go (mm_run 1) mc_Store_stands _ (62, [(0, .inr (.inr v0)), (1, .inl v1), (2, .inl v2), (3, .inl v3), (4, .inr (.inr (v0 + 90 + 15 * (v3).toNat)))], [.inl (nn_rf M ((v0 + 90 + 15 * (v3).toNat) + 8) 5), .inr (.inr ((v0 + 90 + 15 * (v3).toNat) + 13))], M)
        refine mm_s1 rfl ?_
        refine mm_s1 rfl ⟨trivial, ?_⟩
        refine nn_call (D := 1) (by decide) (h n L N (nc_6_4 NN (nc_5_3 NN C35))) ?_
        intro v M63 q; clear L N h
        obtain ⟨r63, rfl, q63, L, N, h⟩ := q
        show mm_Go (mm_run 1) mc_Store_stands _ (66, [(0, .inr (.inr v0)), (1, .inl v1), (2, .inl v2), (3, .inl v3), (4, .inr (.inr (v0 + 90 + 15 * (v3).toNat)))], [.inl r63], M63)
        refine mm_s1 rfl ⟨fun c66 => ?_, fun c66 => ?_⟩
        · show mm_Go (mm_run 1) mc_Store_stands _ (73, [(0, .inr (.inr v0)), (1, .inl v1), (2, .inl v2), (3, .inl v3), (4, .inr (.inr (v0 + 90 + 15 * (v3).toNat)))], [], M63)
          replace h := h.1 c66
          refine mm_s1 rfl ?_
          refine mm_s1 rfl ?_
          show mm_Go (mm_run 1) mc_Store_stands _ (75, [(0, .inr (.inr v0)), (1, .inl v1), (2, .inl 0), (3, .inl v3), (4, .inr (.inr (v0 + 90 + 15 * (v3).toNat)))], [], M63)
          refine mm_s1 rfl ?_
          show mm_Go (mm_run 1) mc_Store_stands _ (78, [(0, .inr (.inr v0)), (1, .inl v1), (2, .inl 0), (3, .inl (mm_w (v3 + 1))), (4, .inr (.inr (v0 + 90 + 15 * (v3).toNat)))], [], M63)
          refine mm_s1 rfl ?_
          show mm_Go (mm_run 1) mc_Store_stands _ (21, [(0, .inr (.inr v0)), (1, .inl v1), (2, .inl 0), (3, .inl (mm_w (v3 + 1))), (4, .inr (.inr (v0 + 90 + 15 * (v3).toNat)))], [], M63)
          exact nn_go_ext (nn_xc rfl (nn_xc rfl (nn_xc rfl (nn_xc rfl nn_xn)))) (h n L N C0)
        · show mm_Go (mm_run 1) mc_Store_stands _ (69, [(0, .inr (.inr v0)), (1, .inl v1), (2, .inl v2), (3, .inl v3), (4, .inr (.inr (v0 + 90 + 15 * (v3).toNat)))], [], M63)
          replace h := h.2 c66
          refine mm_s1 rfl ?_
          refine mm_s1 rfl ?_
          show mm_Go (mm_run 1) mc_Store_stands _ (74, [(0, .inr (.inr v0)), (1, .inl v1), (2, .inl v2), (3, .inl v3), (4, .inr (.inr (v0 + 90 + 15 * (v3).toNat)))], [.inl 1], M63)
          refine mm_s1 rfl ?_
          show mm_Go (mm_run 1) mc_Store_stands _ (75, [(0, .inr (.inr v0)), (1, .inl v1), (2, .inl 1), (3, .inl v3), (4, .inr (.inr (v0 + 90 + 15 * (v3).toNat)))], [], M63)
          refine mm_s1 rfl ?_
          show mm_Go (mm_run 1) mc_Store_stands _ (78, [(0, .inr (.inr v0)), (1, .inl v1), (2, .inl 1), (3, .inl (mm_w (v3 + 1))), (4, .inr (.inr (v0 + 90 + 15 * (v3).toNat)))], [], M63)
          refine mm_s1 rfl ?_
          show mm_Go (mm_run 1) mc_Store_stands _ (21, [(0, .inr (.inr v0)), (1, .inl v1), (2, .inl 1), (3, .inl (mm_w (v3 + 1))), (4, .inr (.inr (v0 + 90 + 15 * (v3).toNat)))], [], M63)
          exact nn_go_ext (nn_xc rfl (nn_xc rfl (nn_xc rfl (nn_xc rfl nn_xn)))) (h n L N C0)
def nr_Store_isHeldAhead (v0 : Nat) (v1 : Int) (v2 : Int) (M : mm_M) (R : Int → mm_M → Prop) : Prop := ∀ n, nn_L M → M.1 = n → nn_C 9 v0 n → mm_run 2 mi_Store_isHeldAhead [.inr (.inr v0), .inl v1, .inl v2] M (nw_Z n R)
def nk_Store_isHeldAhead_2 (v0 : Nat) (v1 : Int) (v2 : Int) (v3 : Int) (M : mm_M) (R : Int → mm_M → Prop) : Prop := ∀ n, nn_L M → M.1 = n → nn_C 9 v0 n → mm_Go (mm_run 1) mc_Store_isHeldAhead (nw_Z n R) (2, [(0, .inr (.inr v0)), (1, .inl v1), (2, .inl v2), (3, .inl v3)], [], M)
set_option maxRecDepth 20000 in
theorem ng_Store_isHeldAhead (v0 : Nat) (v1 : Int) (v2 : Int) (M : mm_M) (R : Int → mm_M → Prop) (h : nk_Store_isHeldAhead_2 v0 v1 v2 0 M R) : nr_Store_isHeldAhead v0 v1 v2 M R := by
  intro n L N C0
  have NN := nn_L_n L N
  show mm_Go (mm_run 1) mc_Store_isHeldAhead _ (0, [(0, .inr (.inr v0)), (1, .inl v1), (2, .inl v2)], [], M)
  refine mm_s1 rfl ?_
  refine mm_s1 rfl ?_
  show mm_Go (mm_run 1) mc_Store_isHeldAhead _ (2, [(0, .inr (.inr v0)), (1, .inl v1), (2, .inl v2), (3, .inl 0)], [], M)
  exact nn_go_ext (nn_xc rfl (nn_xc rfl (nn_xc rfl (nn_xc rfl nn_xn)))) (h n L N C0)
set_option maxRecDepth 20000 in
theorem ng_Store_isHeldAhead_2 (v0 : Nat) (v1 : Int) (v2 : Int) (v3 : Int) (M : mm_M) (R : Int → mm_M → Prop) (h : ((v2 ≤ v3 → R 0 M) ∧ (v3 < v2 → (((0 : Int) ≤ v3 ∧ v3 < (3 : Int)) ∧ (((nn_rf M (v0 + 150 + 3 * (v3).toNat) 2) = 0 → nk_Store_isHeldAhead_2 v0 v1 v2 (mm_w (v3 + 1)) M R) ∧ ((nn_rf M (v0 + 150 + 3 * (v3).toNat) 2) ≠ 0 → (((0 : Int) ≤ v3 ∧ v3 < (3 : Int)) ∧ (((0 : Int) ≤ v3 ∧ v3 < (3 : Int)) ∧ (nr_LI_isAmong ((v0 + 150 + 3 * (v3).toNat) + 2) (nn_rf M (v0 + 150 + 3 * (v3).toNat) 5) v1 M (fun r38 M38 => ((r38 = 0 → nk_Store_isHeldAhead_2 v0 v1 v2 (mm_w (v3 + 1)) M38 R) ∧ (r38 ≠ 0 → R 1 M38)))))))))))) : nk_Store_isHeldAhead_2 v0 v1 v2 v3 M R := by
  intro n L N C0
  have NN := nn_L_n L N
  show mm_Go (mm_run 1) mc_Store_isHeldAhead _ (2, [(0, .inr (.inr v0)), (1, .inl v1), (2, .inl v2), (3, .inl v3)], [], M)
  refine mm_s1 rfl ?_
  refine mm_s1 rfl ?_
  refine mm_s1 rfl ⟨fun c4 => ?_, fun c4 => ?_⟩
  · show mm_Go (mm_run 1) mc_Store_isHeldAhead _ (52, [(0, .inr (.inr v0)), (1, .inl v1), (2, .inl v2), (3, .inl v3)], [], M)
    replace h := h.1 c4
    refine mm_s1 rfl ?_
    exact mm_s1 rfl ⟨(Or.inl rfl), _, rfl, (Or.inl rfl), L, N, h⟩
  · show mm_Go (mm_run 1) mc_Store_isHeldAhead _ (7, [(0, .inr (.inr v0)), (1, .inl v1), (2, .inl v2), (3, .inl v3)], [], M)
    replace c4 := Int.not_le.mp c4
    replace h := h.2 c4
    refine mm_s1 rfl ?_
    refine nn_getr rfl C0.1 (lf_9_3 L N C0) ?_
    refine mm_s1 rfl ?_
    obtain ⟨b12, h⟩ := h
    have C12 : nn_C 3 (v0 + 150 + 3 * (v3).toNat) n := (nn_arr NN (nc_9_3 NN C0).2).2.1 (nc_9_3 NN C0).1 _ (nn_tn b12 (by decide))
    refine nn_aald rfl (nn_bd30 (na_9_3 NN C0) (by decide) b12) (nn_l33 L N (nc_9_3 NN C0) b12) ?_
    show mm_Go (mm_run 1) mc_Store_isHeldAhead _ (13, [(0, .inr (.inr v0)), (1, .inl v1), (2, .inl v2), (3, .inl v3)], [.inr (.inr (v0 + 150 + 3 * (v3).toNat))], M)
    refine mm_s1 rfl ⟨C12.1, ?_⟩
    show mm_Go (mm_run 1) mc_Store_isHeldAhead _ (16, [(0, .inr (.inr v0)), (1, .inl v1), (2, .inl v2), (3, .inl v3)], [.inl (nn_rf M (v0 + 150 + 3 * (v3).toNat) 2)], M)
    refine mm_s1 rfl ⟨fun c16 => ?_, fun c16 => ?_⟩
    · show mm_Go (mm_run 1) mc_Store_isHeldAhead _ (46, [(0, .inr (.inr v0)), (1, .inl v1), (2, .inl v2), (3, .inl v3)], [], M)
      replace h := h.1 c16
      refine mm_s1 rfl ?_
      show mm_Go (mm_run 1) mc_Store_isHeldAhead _ (49, [(0, .inr (.inr v0)), (1, .inl v1), (2, .inl v2), (3, .inl (mm_w (v3 + 1)))], [], M)
      refine mm_s1 rfl ?_
      show mm_Go (mm_run 1) mc_Store_isHeldAhead _ (2, [(0, .inr (.inr v0)), (1, .inl v1), (2, .inl v2), (3, .inl (mm_w (v3 + 1)))], [], M)
      exact nn_go_ext (nn_xc rfl (nn_xc rfl (nn_xc rfl (nn_xc rfl nn_xn)))) (h n L N C0)
    · show mm_Go (mm_run 1) mc_Store_isHeldAhead _ (19, [(0, .inr (.inr v0)), (1, .inl v1), (2, .inl v2), (3, .inl v3)], [], M)
      replace h := h.2 c16
      refine mm_s1 rfl ?_
      refine nn_getr rfl C0.1 (lf_9_3 L N C0) ?_
      refine mm_s1 rfl ?_
      obtain ⟨b24, h⟩ := h
      have C24 : nn_C 3 (v0 + 150 + 3 * (v3).toNat) n := (nn_arr NN (nc_9_3 NN C0).2).2.1 (nc_9_3 NN C0).1 _ (nn_tn b24 (by decide))
      refine nn_aald rfl (nn_bd30 (na_9_3 NN C0) (by decide) b24) (nn_l33 L N (nc_9_3 NN C0) b24) ?_
      show mm_Go (mm_run 1) mc_Store_isHeldAhead _ (25, [(0, .inr (.inr v0)), (1, .inl v1), (2, .inl v2), (3, .inl v3)], [.inr (.inr (v0 + 150 + 3 * (v3).toNat))], M)
      refine nn_getr rfl C24.1 (lf_3_1 L N C24) ?_
      refine mm_s1 rfl ?_
      refine nn_getr rfl C0.1 (lf_9_3 L N C0) ?_
      refine mm_s1 rfl ?_
      obtain ⟨b33, h⟩ := h
      have C33 : nn_C 3 (v0 + 150 + 3 * (v3).toNat) n := (nn_arr NN (nc_9_3 NN C0).2).2.1 (nc_9_3 NN C0).1 _ (nn_tn b33 (by decide))
      refine nn_aald rfl (nn_bd30 (na_9_3 NN C0) (by decide) b33) (nn_l33 L N (nc_9_3 NN C0) b33) ?_
      show mm_Go (mm_run 1) mc_Store_isHeldAhead _ (34, [(0, .inr (.inr v0)), (1, .inl v1), (2, .inl v2), (3, .inl v3)], [.inr (.inr (v0 + 150 + 3 * (v3).toNat)), .inr (.inr ((v0 + 150 + 3 * (v3).toNat) + 2))], M)
      refine mm_s1 rfl ⟨C33.1, ?_⟩
      show mm_Go (mm_run 1) mc_Store_isHeldAhead _ (37, [(0, .inr (.inr v0)), (1, .inl v1), (2, .inl v2), (3, .inl v3)], [.inl (nn_rf M (v0 + 150 + 3 * (v3).toNat) 5), .inr (.inr ((v0 + 150 + 3 * (v3).toNat) + 2))], M)
      refine mm_s1 rfl ?_
      refine mm_s1 rfl ⟨trivial, ?_⟩
      refine nn_call (D := 1) (by decide) (h n L N (nc_3_1 NN C24)) ?_
      intro v M38 q; clear L N h
      obtain ⟨r38, rfl, q38, L, N, h⟩ := q
      show mm_Go (mm_run 1) mc_Store_isHeldAhead _ (41, [(0, .inr (.inr v0)), (1, .inl v1), (2, .inl v2), (3, .inl v3)], [.inl r38], M38)
      refine mm_s1 rfl ⟨fun c41 => ?_, fun c41 => ?_⟩
      · show mm_Go (mm_run 1) mc_Store_isHeldAhead _ (46, [(0, .inr (.inr v0)), (1, .inl v1), (2, .inl v2), (3, .inl v3)], [], M38)
        replace h := h.1 c41
        refine mm_s1 rfl ?_
        show mm_Go (mm_run 1) mc_Store_isHeldAhead _ (49, [(0, .inr (.inr v0)), (1, .inl v1), (2, .inl v2), (3, .inl (mm_w (v3 + 1)))], [], M38)
        refine mm_s1 rfl ?_
        show mm_Go (mm_run 1) mc_Store_isHeldAhead _ (2, [(0, .inr (.inr v0)), (1, .inl v1), (2, .inl v2), (3, .inl (mm_w (v3 + 1)))], [], M38)
        exact nn_go_ext (nn_xc rfl (nn_xc rfl (nn_xc rfl (nn_xc rfl nn_xn)))) (h n L N C0)
      · show mm_Go (mm_run 1) mc_Store_isHeldAhead _ (44, [(0, .inr (.inr v0)), (1, .inl v1), (2, .inl v2), (3, .inl v3)], [], M38)
        replace h := h.2 c41
        refine mm_s1 rfl ?_
        exact mm_s1 rfl ⟨(Or.inr rfl), _, rfl, (Or.inr rfl), L, N, h⟩
def nr_Table_write (v0 : Nat) (v1 : Int) (v2 : Int) (M : mm_M) (R : mm_M → Prop) : Prop := ∀ n, nn_L M → M.1 = n → nn_C 10 v0 n → mm_run 2 mi_Table_write [.inr (.inr v0), .inl v1, .inl v2] M (nw_V n R)
set_option maxRecDepth 20000 in
theorem ng_Table_write (v0 : Nat) (v1 : Int) (v2 : Int) (M : mm_M) (R : mm_M → Prop) (h : (∀ M7 : mm_M, M7 = nn_uf M v0 6 (mm_w ((nn_rf M v0 6) + 1)) → (∀ M17 : mm_M, M17 = nn_uf M7 v0 7 (mm_w ((nn_rf M7 v0 7) + 1)) → (nr_Versions_keep (v0 + 1) v1 v2 (nn_rf M17 v0 6) M17 (fun M30 => (nr_Versions_keep (v0 + 4) v1 v2 (nn_rf M30 v0 6) M30 (fun M43 => R M43))))))) : nr_Table_write v0 v1 v2 M R := by
  intro n L N C0
  have NN := nn_L_n L N
  show mm_Go (mm_run 1) mc_Table_write _ (0, [(0, .inr (.inr v0)), (1, .inl v1), (2, .inl v2)], [], M)
  refine mm_s1 rfl ?_
  refine mm_s1 rfl ?_
  refine mm_s1 rfl ⟨C0.1, ?_⟩
  show mm_Go (mm_run 1) mc_Table_write _ (5, [(0, .inr (.inr v0)), (1, .inl v1), (2, .inl v2)], [.inl (nn_rf M v0 6), .inr (.inr v0)], M)
  refine mm_s1 rfl ?_
  refine mm_s1 rfl ?_
  refine mm_s1 rfl ⟨C0.1, ?_⟩
  show mm_Go (mm_run 1) mc_Table_write _ (10, [(0, .inr (.inr v0)), (1, .inl v1), (2, .inl v2)], [], (nn_uf M v0 6 (mm_w ((nn_rf M v0 6) + 1))))
  have L : nn_L (nn_uf M v0 6 (mm_w ((nn_rf M v0 6) + 1))) := nn_L_up L C0.1 rfl
  have N : (nn_uf M v0 6 (mm_w ((nn_rf M v0 6) + 1))).1 = n := N
  generalize e_M7 : (nn_uf M v0 6 (mm_w ((nn_rf M v0 6) + 1))) = M7 at L N ⊢
  replace h := h _ e_M7.symm
  show mm_Go (mm_run 1) mc_Table_write _ (10, [(0, .inr (.inr v0)), (1, .inl v1), (2, .inl v2)], [], M7)
  refine mm_s1 rfl ?_
  refine mm_s1 rfl ?_
  refine mm_s1 rfl ⟨C0.1, ?_⟩
  show mm_Go (mm_run 1) mc_Table_write _ (15, [(0, .inr (.inr v0)), (1, .inl v1), (2, .inl v2)], [.inl (nn_rf M7 v0 7), .inr (.inr v0)], M7)
  refine mm_s1 rfl ?_
  refine mm_s1 rfl ?_
  refine mm_s1 rfl ⟨C0.1, ?_⟩
  show mm_Go (mm_run 1) mc_Table_write _ (20, [(0, .inr (.inr v0)), (1, .inl v1), (2, .inl v2)], [], (nn_uf M7 v0 7 (mm_w ((nn_rf M7 v0 7) + 1))))
  have L : nn_L (nn_uf M7 v0 7 (mm_w ((nn_rf M7 v0 7) + 1))) := nn_L_up L C0.1 rfl
  have N : (nn_uf M7 v0 7 (mm_w ((nn_rf M7 v0 7) + 1))).1 = n := N
  generalize e_M17 : (nn_uf M7 v0 7 (mm_w ((nn_rf M7 v0 7) + 1))) = M17 at L N ⊢
  replace h := h _ e_M17.symm
  show mm_Go (mm_run 1) mc_Table_write _ (20, [(0, .inr (.inr v0)), (1, .inl v1), (2, .inl v2)], [], M17)
  refine mm_s1 rfl ?_
  refine nn_getr rfl C0.1 (lf_10_0 L N C0) ?_
  refine mm_s1 rfl ?_
  refine mm_s1 rfl ?_
  refine mm_s1 rfl ?_
  show mm_Go (mm_run 1) mc_Table_write _ (27, [(0, .inr (.inr v0)), (1, .inl v1), (2, .inl v2)], [.inr (.inr v0), .inl v2, .inl v1, .inr (.inr (v0 + 1))], M17)
  refine mm_s1 rfl ⟨C0.1, ?_⟩
  show mm_Go (mm_run 1) mc_Table_write _ (30, [(0, .inr (.inr v0)), (1, .inl v1), (2, .inl v2)], [.inl (nn_rf M17 v0 6), .inl v2, .inl v1, .inr (.inr (v0 + 1))], M17)
  refine mm_s1 rfl ⟨(nc_10_0 NN C0).1, ?_⟩
  refine nn_call (D := 1) (by decide) (h n L N (nc_10_0 NN C0)) ?_
  intro v M30 q; clear L N h
  obtain ⟨rfl, L, N, h⟩ := q
  show mm_Go (mm_run 1) mc_Table_write _ (33, [(0, .inr (.inr v0)), (1, .inl v1), (2, .inl v2)], [], M30)
  refine mm_s1 rfl ?_
  refine nn_getr rfl C0.1 (lf_10_1 L N C0) ?_
  refine mm_s1 rfl ?_
  refine mm_s1 rfl ?_
  refine mm_s1 rfl ?_
  show mm_Go (mm_run 1) mc_Table_write _ (40, [(0, .inr (.inr v0)), (1, .inl v1), (2, .inl v2)], [.inr (.inr v0), .inl v2, .inl v1, .inr (.inr (v0 + 4))], M30)
  refine mm_s1 rfl ⟨C0.1, ?_⟩
  show mm_Go (mm_run 1) mc_Table_write _ (43, [(0, .inr (.inr v0)), (1, .inl v1), (2, .inl v2)], [.inl (nn_rf M30 v0 6), .inl v2, .inl v1, .inr (.inr (v0 + 4))], M30)
  refine mm_s1 rfl ⟨(nc_10_1 NN C0).1, ?_⟩
  refine nn_call (D := 1) (by decide) (h n L N (nc_10_1 NN C0)) ?_
  intro v M43 q; clear L N h
  obtain ⟨rfl, L, N, h⟩ := q
  show mm_Go (mm_run 1) mc_Table_write _ (46, [(0, .inr (.inr v0)), (1, .inl v1), (2, .inl v2)], [], M43)
  exact mm_s1 rfl ⟨rfl, L, N, h⟩
def nr_Table_layDown (v0 : Nat) (M : mm_M) (R : mm_M → Prop) : Prop := ∀ n, nn_L M → M.1 = n → nn_C 10 v0 n → mm_run 2 mi_Table_layDown [.inr (.inr v0)] M (nw_V n R)
def nk_Table_layDown_25 (v0 : Nat) (v1 : Nat) (v2 : Int) (M : mm_M) (R : mm_M → Prop) : Prop := ∀ n, nn_L M → M.1 = n → nn_C 10 v0 n → ((∃ j, j < 24 ∧ v1 = v0 + 7 + 3 + 3 * j) ∧ nn_C 12 v1 n) → mm_Go (mm_run 1) mc_Table_layDown (nw_V n R) (25, [(0, .inr (.inr v0)), (1, .inr (.inr v1)), (2, .inl v2)], [], M)
set_option maxRecDepth 20000 in
theorem ng_Table_layDown (v0 : Nat) (M : mm_M) (R : mm_M → Prop) (h : (((nn_rf M v0 5) < 24 → (((0 : Int) ≤ (nn_rf M v0 5) ∧ (nn_rf M v0 5) < (24 : Int)) ∧ nk_Table_layDown_25 v0 (nn_rr M (v0 + 7) (nn_rf M v0 5)) (nn_rf M v0 5) M R)) ∧ (24 ≤ (nn_rf M v0 5) → R M))) : nr_Table_layDown v0 M R := by
  intro n L N C0
  have NN := nn_L_n L N
  show mm_Go (mm_run 1) mc_Table_layDown _ (0, [(0, .inr (.inr v0))], [], M)
  refine mm_s1 rfl ?_
  refine mm_s1 rfl ⟨C0.1, ?_⟩
  show mm_Go (mm_run 1) mc_Table_layDown _ (4, [(0, .inr (.inr v0))], [.inl (nn_rf M v0 5)], M)
  refine mm_s1 rfl ?_
  refine mm_s1 rfl ⟨fun c6 => ?_, fun c6 => ?_⟩
  · show mm_Go (mm_run 1) mc_Table_layDown _ (10, [(0, .inr (.inr v0))], [], M)
    replace h := h.1 c6
    refine mm_s1 rfl ?_
    refine nn_getr rfl C0.1 (lf_10_2 L N C0) ?_
    refine mm_s1 rfl ?_
    refine mm_s1 rfl ⟨C0.1, ?_⟩
    show mm_Go (mm_run 1) mc_Table_layDown _ (18, [(0, .inr (.inr v0))], [.inl (nn_rf M v0 5), .inr (.inr (v0 + 7))], M)
    obtain ⟨b18, h⟩ := h
    have C18 := (nn_l42 L N (nc_10_2 NN C0) b18).2
    refine nn_aald rfl (nn_bd30 (na_10_2 NN C0) (by decide) b18) (nn_l42 L N (nc_10_2 NN C0) b18).1 ?_
    show mm_Go (mm_run 1) mc_Table_layDown _ (19, [(0, .inr (.inr v0))], [.inr (.inr (nn_rr M (v0 + 7) (nn_rf M v0 5)))], M)
    refine mm_s1 rfl ?_
    show mm_Go (mm_run 1) mc_Table_layDown _ (20, [(0, .inr (.inr v0)), (1, .inr (.inr (nn_rr M (v0 + 7) (nn_rf M v0 5))))], [], M)
    refine mm_s1 rfl ?_
    refine mm_s1 rfl ⟨C0.1, ?_⟩
    show mm_Go (mm_run 1) mc_Table_layDown _ (24, [(0, .inr (.inr v0)), (1, .inr (.inr (nn_rr M (v0 + 7) (nn_rf M v0 5))))], [.inl (nn_rf M v0 5)], M)
    refine mm_s1 rfl ?_
    show mm_Go (mm_run 1) mc_Table_layDown _ (25, [(0, .inr (.inr v0)), (1, .inr (.inr (nn_rr M (v0 + 7) (nn_rf M v0 5)))), (2, .inl (nn_rf M v0 5))], [], M)
    exact nn_go_ext (nn_xc rfl (nn_xc rfl (nn_xc rfl nn_xn))) (h n L N C0 ⟨C18.1, C18.2⟩)
  · show mm_Go (mm_run 1) mc_Table_layDown _ (9, [(0, .inr (.inr v0))], [], M)
    replace c6 := Int.not_lt.mp c6
    replace h := h.2 c6
    exact mm_s1 rfl ⟨rfl, L, N, h⟩
set_option maxRecDepth 20000 in
theorem ng_Table_layDown_25 (v0 : Nat) (v1 : Nat) (v2 : Int) (M : mm_M) (R : mm_M → Prop) (h : ((v2 ≤ 0 → (nr_Versions_copy v1 (v0 + 1) M (fun M82 => (∀ M97 : mm_M, M97 = nn_uf M82 v1 3 (mm_w ((mm_w ((nn_rf M82 v0 6) - (nn_rf M82 v0 7))) + 1)) → (∀ M105 : mm_M, M105 = nn_uf M97 v1 4 (nn_rf M97 v0 6) → (((0 : Int) ≤ 0 ∧ 0 < (24 : Int)) ∧ (∀ M114 : mm_M, M114 = nn_ui M105 (v0 + 7) 0 ((v1 : Nat) : Int) → (∀ M121 : mm_M, M121 = nn_ui M114 (v0 + 8) 0 0 → (nr_Table_newId v0 M121 (fun r128 M128 => (∀ M131 : mm_M, M131 = nn_ui M128 (v0 + 9) 0 r128 → (∀ M139 : mm_M, M139 = nn_uf M131 v0 5 (mm_w ((nn_rf M131 v0 5) + 1)) → (∀ M147 : mm_M, M147 = nn_uf M139 (v0 + 1) 2 0 → (∀ M152 : mm_M, M152 = nn_uf M147 v0 7 0 → R M152)))))))))))))) ∧ (0 < v2 → (((0 : Int) ≤ (mm_w (v2 - 1)) ∧ (mm_w (v2 - 1)) < (24 : Int)) ∧ (((0 : Int) ≤ v2 ∧ v2 < (24 : Int)) ∧ (∀ M42 : mm_M, M42 = nn_ui M (v0 + 7) v2 (((nn_rr M (v0 + 7) (mm_w (v2 - 1))) : Nat) : Int) → (((0 : Int) ≤ (mm_w (v2 - 1)) ∧ (mm_w (v2 - 1)) < (24 : Int)) ∧ (((0 : Int) ≤ v2 ∧ v2 < (24 : Int)) ∧ (∀ M56 : mm_M, M56 = nn_ui M42 (v0 + 8) v2 (nn_ri M42 (v0 + 8) (mm_w (v2 - 1))) → (((0 : Int) ≤ (mm_w (v2 - 1)) ∧ (mm_w (v2 - 1)) < (24 : Int)) ∧ (((0 : Int) ≤ v2 ∧ v2 < (24 : Int)) ∧ (∀ M70 : mm_M, M70 = nn_ui M56 (v0 + 9) v2 (nn_ri M56 (v0 + 9) (mm_w (v2 - 1))) → nk_Table_layDown_25 v0 v1 (mm_w (v2 + (-1))) M70 R)))))))))))) : nk_Table_layDown_25 v0 v1 v2 M R := by
  intro n L N C0 C1
  have NN := nn_L_n L N
  show mm_Go (mm_run 1) mc_Table_layDown _ (25, [(0, .inr (.inr v0)), (1, .inr (.inr v1)), (2, .inl v2)], [], M)
  refine mm_s1 rfl ?_
  refine mm_s1 rfl ⟨fun c26 => ?_, fun c26 => ?_⟩
  · show mm_Go (mm_run 1) mc_Table_layDown _ (77, [(0, .inr (.inr v0)), (1, .inr (.inr v1)), (2, .inl v2)], [], M)
    replace h := h.1 c26
    refine mm_s1 rfl ?_
    refine mm_s1 rfl ?_
    refine nn_getr rfl C0.1 (lf_10_0 L N C0) ?_
    refine mm_s1 rfl ⟨C1.2.1, ?_⟩
    refine nn_call (D := 1) (by decide) (h n L N C1.2 (nc_10_0 NN C0)) ?_
    intro v M82 q; clear L N h
    obtain ⟨rfl, L, N, h⟩ := q
    show mm_Go (mm_run 1) mc_Table_layDown _ (85, [(0, .inr (.inr v0)), (1, .inr (.inr v1)), (2, .inl v2)], [], M82)
    refine mm_s1 rfl ?_
    refine mm_s1 rfl ?_
    refine mm_s1 rfl ⟨C0.1, ?_⟩
    show mm_Go (mm_run 1) mc_Table_layDown _ (90, [(0, .inr (.inr v0)), (1, .inr (.inr v1)), (2, .inl v2)], [.inl (nn_rf M82 v0 6), .inr (.inr v1)], M82)
    refine mm_s1 rfl ?_
    refine mm_s1 rfl ⟨C0.1, ?_⟩
    show mm_Go (mm_run 1) mc_Table_layDown _ (94, [(0, .inr (.inr v0)), (1, .inr (.inr v1)), (2, .inl v2)], [.inl (nn_rf M82 v0 7), .inl (nn_rf M82 v0 6), .inr (.inr v1)], M82)
    refine mm_s1 rfl ?_
    refine mm_s1 rfl ?_
    refine mm_s1 rfl ?_
    refine mm_s1 rfl ⟨C1.2.1, ?_⟩
    show mm_Go (mm_run 1) mc_Table_layDown _ (100, [(0, .inr (.inr v0)), (1, .inr (.inr v1)), (2, .inl v2)], [], (nn_uf M82 v1 3 (mm_w ((mm_w ((nn_rf M82 v0 6) - (nn_rf M82 v0 7))) + 1))))
    have L : nn_L (nn_uf M82 v1 3 (mm_w ((mm_w ((nn_rf M82 v0 6) - (nn_rf M82 v0 7))) + 1))) := nn_L_up L C1.2.1 rfl
    have N : (nn_uf M82 v1 3 (mm_w ((mm_w ((nn_rf M82 v0 6) - (nn_rf M82 v0 7))) + 1))).1 = n := N
    generalize e_M97 : (nn_uf M82 v1 3 (mm_w ((mm_w ((nn_rf M82 v0 6) - (nn_rf M82 v0 7))) + 1))) = M97 at L N ⊢
    replace h := h _ e_M97.symm
    show mm_Go (mm_run 1) mc_Table_layDown _ (100, [(0, .inr (.inr v0)), (1, .inr (.inr v1)), (2, .inl v2)], [], M97)
    refine mm_s1 rfl ?_
    refine mm_s1 rfl ?_
    refine mm_s1 rfl ⟨C0.1, ?_⟩
    show mm_Go (mm_run 1) mc_Table_layDown _ (105, [(0, .inr (.inr v0)), (1, .inr (.inr v1)), (2, .inl v2)], [.inl (nn_rf M97 v0 6), .inr (.inr v1)], M97)
    refine mm_s1 rfl ⟨C1.2.1, ?_⟩
    show mm_Go (mm_run 1) mc_Table_layDown _ (108, [(0, .inr (.inr v0)), (1, .inr (.inr v1)), (2, .inl v2)], [], (nn_uf M97 v1 4 (nn_rf M97 v0 6)))
    have L : nn_L (nn_uf M97 v1 4 (nn_rf M97 v0 6)) := nn_L_up L C1.2.1 rfl
    have N : (nn_uf M97 v1 4 (nn_rf M97 v0 6)).1 = n := N
    generalize e_M105 : (nn_uf M97 v1 4 (nn_rf M97 v0 6)) = M105 at L N ⊢
    replace h := h _ e_M105.symm
    show mm_Go (mm_run 1) mc_Table_layDown _ (108, [(0, .inr (.inr v0)), (1, .inr (.inr v1)), (2, .inl v2)], [], M105)
    refine mm_s1 rfl ?_
    refine nn_getr rfl C0.1 (lf_10_2 L N C0) ?_
    refine mm_s1 rfl ?_
    refine mm_s1 rfl ?_
    obtain ⟨b114, h⟩ := h
    refine mm_s1 rfl ⟨nn_as42 (na_10_2 NN C0) C1.2 b114, ?_⟩
    show mm_Go (mm_run 1) mc_Table_layDown _ (115, [(0, .inr (.inr v0)), (1, .inr (.inr v1)), (2, .inl v2)], [], (nn_ui M105 (v0 + 7) 0 ((v1 : Nat) : Int)))
    have L : nn_L (nn_ui M105 (v0 + 7) 0 ((v1 : Nat) : Int)) := nn_L_u42 L (congrArg Prod.fst (na_10_2 NN C0)) C1.1
    have N : (nn_ui M105 (v0 + 7) 0 ((v1 : Nat) : Int)).1 = n := N
    generalize e_M114 : (nn_ui M105 (v0 + 7) 0 ((v1 : Nat) : Int)) = M114 at L N ⊢
    replace h := h _ e_M114.symm
    show mm_Go (mm_run 1) mc_Table_layDown _ (115, [(0, .inr (.inr v0)), (1, .inr (.inr v1)), (2, .inl v2)], [], M114)
    refine mm_s1 rfl ?_
    refine nn_getr rfl C0.1 (lf_10_3 L N C0) ?_
    refine mm_s1 rfl ?_
    refine mm_s1 rfl ?_
    refine mm_s1 rfl ⟨nn_bd (na_10_3 NN C0) (show (0 : Int) ≤ 0 ∧ (0 : Int) < 24 by decide), ?_⟩
    show mm_Go (mm_run 1) mc_Table_layDown _ (122, [(0, .inr (.inr v0)), (1, .inr (.inr v1)), (2, .inl v2)], [], (nn_ui M114 (v0 + 8) 0 0))
    have L : nn_L (nn_ui M114 (v0 + 8) 0 0) := nn_L_ua L (congrArg Prod.fst (na_10_3 NN C0)) (by decide)
    have N : (nn_ui M114 (v0 + 8) 0 0).1 = n := N
    generalize e_M121 : (nn_ui M114 (v0 + 8) 0 0) = M121 at L N ⊢
    replace h := h _ e_M121.symm
    show mm_Go (mm_run 1) mc_Table_layDown _ (122, [(0, .inr (.inr v0)), (1, .inr (.inr v1)), (2, .inl v2)], [], M121)
    refine mm_s1 rfl ?_
    refine nn_getr rfl C0.1 (lf_10_4 L N C0) ?_
    refine mm_s1 rfl ?_
    refine mm_s1 rfl ?_
    refine mm_s1 rfl ⟨C0.1, ?_⟩
    refine nn_call (D := 1) (by decide) (h n L N C0) ?_
    intro v M128 q; clear L N h
    obtain ⟨r128, rfl, L, N, h⟩ := q
    show mm_Go (mm_run 1) mc_Table_layDown _ (131, [(0, .inr (.inr v0)), (1, .inr (.inr v1)), (2, .inl v2)], [.inl r128, .inl 0, .inr (.inr (v0 + 9))], M128)
    refine mm_s1 rfl ⟨nn_bd (na_10_4 NN C0) (show (0 : Int) ≤ 0 ∧ (0 : Int) < 24 by decide), ?_⟩
    show mm_Go (mm_run 1) mc_Table_layDown _ (132, [(0, .inr (.inr v0)), (1, .inr (.inr v1)), (2, .inl v2)], [], (nn_ui M128 (v0 + 9) 0 r128))
    have L : nn_L (nn_ui M128 (v0 + 9) 0 r128) := nn_L_ua L (congrArg Prod.fst (na_10_4 NN C0)) (by decide)
    have N : (nn_ui M128 (v0 + 9) 0 r128).1 = n := N
    generalize e_M131 : (nn_ui M128 (v0 + 9) 0 r128) = M131 at L N ⊢
    replace h := h _ e_M131.symm
    show mm_Go (mm_run 1) mc_Table_layDown _ (132, [(0, .inr (.inr v0)), (1, .inr (.inr v1)), (2, .inl v2)], [], M131)
    refine mm_s1 rfl ?_
    refine mm_s1 rfl ?_
    refine mm_s1 rfl ⟨C0.1, ?_⟩
    show mm_Go (mm_run 1) mc_Table_layDown _ (137, [(0, .inr (.inr v0)), (1, .inr (.inr v1)), (2, .inl v2)], [.inl (nn_rf M131 v0 5), .inr (.inr v0)], M131)
    refine mm_s1 rfl ?_
    refine mm_s1 rfl ?_
    refine mm_s1 rfl ⟨C0.1, ?_⟩
    show mm_Go (mm_run 1) mc_Table_layDown _ (142, [(0, .inr (.inr v0)), (1, .inr (.inr v1)), (2, .inl v2)], [], (nn_uf M131 v0 5 (mm_w ((nn_rf M131 v0 5) + 1))))
    have L : nn_L (nn_uf M131 v0 5 (mm_w ((nn_rf M131 v0 5) + 1))) := nn_L_up L C0.1 rfl
    have N : (nn_uf M131 v0 5 (mm_w ((nn_rf M131 v0 5) + 1))).1 = n := N
    generalize e_M139 : (nn_uf M131 v0 5 (mm_w ((nn_rf M131 v0 5) + 1))) = M139 at L N ⊢
    replace h := h _ e_M139.symm
    show mm_Go (mm_run 1) mc_Table_layDown _ (142, [(0, .inr (.inr v0)), (1, .inr (.inr v1)), (2, .inl v2)], [], M139)
    refine mm_s1 rfl ?_
    refine nn_getr rfl C0.1 (lf_10_0 L N C0) ?_
    refine mm_s1 rfl ?_
    refine mm_s1 rfl ⟨(nc_10_0 NN C0).1, ?_⟩
    show mm_Go (mm_run 1) mc_Table_layDown _ (150, [(0, .inr (.inr v0)), (1, .inr (.inr v1)), (2, .inl v2)], [], (nn_uf M139 (v0 + 1) 2 0))
    have L : nn_L (nn_uf M139 (v0 + 1) 2 0) := nn_L_up L (nc_10_0 NN C0).1 rfl
    have N : (nn_uf M139 (v0 + 1) 2 0).1 = n := N
    generalize e_M147 : (nn_uf M139 (v0 + 1) 2 0) = M147 at L N ⊢
    replace h := h _ e_M147.symm
    show mm_Go (mm_run 1) mc_Table_layDown _ (150, [(0, .inr (.inr v0)), (1, .inr (.inr v1)), (2, .inl v2)], [], M147)
    refine mm_s1 rfl ?_
    refine mm_s1 rfl ?_
    refine mm_s1 rfl ⟨C0.1, ?_⟩
    show mm_Go (mm_run 1) mc_Table_layDown _ (155, [(0, .inr (.inr v0)), (1, .inr (.inr v1)), (2, .inl v2)], [], (nn_uf M147 v0 7 0))
    have L : nn_L (nn_uf M147 v0 7 0) := nn_L_up L C0.1 rfl
    have N : (nn_uf M147 v0 7 0).1 = n := N
    generalize e_M152 : (nn_uf M147 v0 7 0) = M152 at L N ⊢
    replace h := h _ e_M152.symm
    show mm_Go (mm_run 1) mc_Table_layDown _ (155, [(0, .inr (.inr v0)), (1, .inr (.inr v1)), (2, .inl v2)], [], M152)
    exact mm_s1 rfl ⟨rfl, L, N, h⟩
  · show mm_Go (mm_run 1) mc_Table_layDown _ (29, [(0, .inr (.inr v0)), (1, .inr (.inr v1)), (2, .inl v2)], [], M)
    replace c26 := Int.not_le.mp c26
    replace h := h.2 c26
    refine mm_s1 rfl ?_
    refine nn_getr rfl C0.1 (lf_10_2 L N C0) ?_
    refine mm_s1 rfl ?_
    refine mm_s1 rfl ?_
    refine nn_getr rfl C0.1 (lf_10_2 L N C0) ?_
    show mm_Go (mm_run 1) mc_Table_layDown _ (38, [(0, .inr (.inr v0)), (1, .inr (.inr v1)), (2, .inl v2)], [.inr (.inr (v0 + 7)), .inl v2, .inr (.inr (v0 + 7))], M)
    refine mm_s1 rfl ?_
    refine mm_s1 rfl ?_
    refine mm_s1 rfl ?_
    obtain ⟨b41, h⟩ := h
    have C41 := (nn_l42 L N (nc_10_2 NN C0) b41).2
    refine nn_aald rfl (nn_bd30 (na_10_2 NN C0) (by decide) b41) (nn_l42 L N (nc_10_2 NN C0) b41).1 ?_
    show mm_Go (mm_run 1) mc_Table_layDown _ (42, [(0, .inr (.inr v0)), (1, .inr (.inr v1)), (2, .inl v2)], [.inr (.inr (nn_rr M (v0 + 7) (mm_w (v2 - 1)))), .inl v2, .inr (.inr (v0 + 7))], M)
    obtain ⟨b42, h⟩ := h
    refine mm_s1 rfl ⟨nn_as42 (na_10_2 NN C0) C41.2 b42, ?_⟩
    show mm_Go (mm_run 1) mc_Table_layDown _ (43, [(0, .inr (.inr v0)), (1, .inr (.inr v1)), (2, .inl v2)], [], (nn_ui M (v0 + 7) v2 (((nn_rr M (v0 + 7) (mm_w (v2 - 1))) : Nat) : Int)))
    have L : nn_L (nn_ui M (v0 + 7) v2 (((nn_rr M (v0 + 7) (mm_w (v2 - 1))) : Nat) : Int)) := nn_L_u42 L (congrArg Prod.fst (na_10_2 NN C0)) C41.1
    have N : (nn_ui M (v0 + 7) v2 (((nn_rr M (v0 + 7) (mm_w (v2 - 1))) : Nat) : Int)).1 = n := N
    generalize e_M42 : (nn_ui M (v0 + 7) v2 (((nn_rr M (v0 + 7) (mm_w (v2 - 1))) : Nat) : Int)) = M42 at L N ⊢
    replace h := h _ e_M42.symm
    show mm_Go (mm_run 1) mc_Table_layDown _ (43, [(0, .inr (.inr v0)), (1, .inr (.inr v1)), (2, .inl v2)], [], M42)
    refine mm_s1 rfl ?_
    refine nn_getr rfl C0.1 (lf_10_3 L N C0) ?_
    refine mm_s1 rfl ?_
    refine mm_s1 rfl ?_
    refine nn_getr rfl C0.1 (lf_10_3 L N C0) ?_
    show mm_Go (mm_run 1) mc_Table_layDown _ (52, [(0, .inr (.inr v0)), (1, .inr (.inr v1)), (2, .inl v2)], [.inr (.inr (v0 + 8)), .inl v2, .inr (.inr (v0 + 8))], M42)
    refine mm_s1 rfl ?_
    refine mm_s1 rfl ?_
    refine mm_s1 rfl ?_
    obtain ⟨b55, h⟩ := h
    refine mm_s1 rfl ⟨nn_bd (na_10_3 NN C0) b55, ?_⟩
    show mm_Go (mm_run 1) mc_Table_layDown _ (56, [(0, .inr (.inr v0)), (1, .inr (.inr v1)), (2, .inl v2)], [.inl (nn_ri M42 (v0 + 8) (mm_w (v2 - 1))), .inl v2, .inr (.inr (v0 + 8))], M42)
    obtain ⟨b56, h⟩ := h
    refine mm_s1 rfl ⟨nn_bd (na_10_3 NN C0) b56, ?_⟩
    show mm_Go (mm_run 1) mc_Table_layDown _ (57, [(0, .inr (.inr v0)), (1, .inr (.inr v1)), (2, .inl v2)], [], (nn_ui M42 (v0 + 8) v2 (nn_ri M42 (v0 + 8) (mm_w (v2 - 1)))))
    have L : nn_L (nn_ui M42 (v0 + 8) v2 (nn_ri M42 (v0 + 8) (mm_w (v2 - 1)))) := nn_L_ua L (congrArg Prod.fst (na_10_3 NN C0)) (by decide)
    have N : (nn_ui M42 (v0 + 8) v2 (nn_ri M42 (v0 + 8) (mm_w (v2 - 1)))).1 = n := N
    generalize e_M56 : (nn_ui M42 (v0 + 8) v2 (nn_ri M42 (v0 + 8) (mm_w (v2 - 1)))) = M56 at L N ⊢
    replace h := h _ e_M56.symm
    show mm_Go (mm_run 1) mc_Table_layDown _ (57, [(0, .inr (.inr v0)), (1, .inr (.inr v1)), (2, .inl v2)], [], M56)
    refine mm_s1 rfl ?_
    refine nn_getr rfl C0.1 (lf_10_4 L N C0) ?_
    refine mm_s1 rfl ?_
    refine mm_s1 rfl ?_
    refine nn_getr rfl C0.1 (lf_10_4 L N C0) ?_
    show mm_Go (mm_run 1) mc_Table_layDown _ (66, [(0, .inr (.inr v0)), (1, .inr (.inr v1)), (2, .inl v2)], [.inr (.inr (v0 + 9)), .inl v2, .inr (.inr (v0 + 9))], M56)
    refine mm_s1 rfl ?_
    refine mm_s1 rfl ?_
    refine mm_s1 rfl ?_
    obtain ⟨b69, h⟩ := h
    refine mm_s1 rfl ⟨nn_bd (na_10_4 NN C0) b69, ?_⟩
    show mm_Go (mm_run 1) mc_Table_layDown _ (70, [(0, .inr (.inr v0)), (1, .inr (.inr v1)), (2, .inl v2)], [.inl (nn_ri M56 (v0 + 9) (mm_w (v2 - 1))), .inl v2, .inr (.inr (v0 + 9))], M56)
    obtain ⟨b70, h⟩ := h
    refine mm_s1 rfl ⟨nn_bd (na_10_4 NN C0) b70, ?_⟩
    show mm_Go (mm_run 1) mc_Table_layDown _ (71, [(0, .inr (.inr v0)), (1, .inr (.inr v1)), (2, .inl v2)], [], (nn_ui M56 (v0 + 9) v2 (nn_ri M56 (v0 + 9) (mm_w (v2 - 1)))))
    have L : nn_L (nn_ui M56 (v0 + 9) v2 (nn_ri M56 (v0 + 9) (mm_w (v2 - 1)))) := nn_L_ua L (congrArg Prod.fst (na_10_4 NN C0)) (by decide)
    have N : (nn_ui M56 (v0 + 9) v2 (nn_ri M56 (v0 + 9) (mm_w (v2 - 1)))).1 = n := N
    generalize e_M70 : (nn_ui M56 (v0 + 9) v2 (nn_ri M56 (v0 + 9) (mm_w (v2 - 1)))) = M70 at L N ⊢
    replace h := h _ e_M70.symm
    show mm_Go (mm_run 1) mc_Table_layDown _ (71, [(0, .inr (.inr v0)), (1, .inr (.inr v1)), (2, .inl v2)], [], M70)
    refine mm_s1 rfl ?_
    show mm_Go (mm_run 1) mc_Table_layDown _ (74, [(0, .inr (.inr v0)), (1, .inr (.inr v1)), (2, .inl (mm_w (v2 + (-1))))], [], M70)
    refine mm_s1 rfl ?_
    show mm_Go (mm_run 1) mc_Table_layDown _ (25, [(0, .inr (.inr v0)), (1, .inr (.inr v1)), (2, .inl (mm_w (v2 + (-1))))], [], M70)
    exact nn_go_ext (nn_xc rfl (nn_xc rfl (nn_xc rfl nn_xn))) (h n L N C0 ⟨C1.1, C1.2⟩)
def nr_Table_forgetGone (v0 : Nat) (v1 : Nat) (v2 : Int) (M : mm_M) (R : mm_M → Prop) : Prop := ∀ n, nn_L M → M.1 = n → nn_C 10 v0 n → nn_C 12 v1 n → mm_run 2 mi_Table_forgetGone [.inr (.inr v0), .inr (.inr v1), .inl v2] M (nw_V n R)
def nk_Table_forgetGone_2 (v0 : Nat) (v1 : Nat) (v2 : Int) (v3 : Int) (M : mm_M) (R : mm_M → Prop) : Prop := ∀ n, nn_L M → M.1 = n → nn_C 10 v0 n → nn_C 12 v1 n → mm_Go (mm_run 1) mc_Table_forgetGone (nw_V n R) (2, [(0, .inr (.inr v0)), (1, .inr (.inr v1)), (2, .inl v2), (3, .inl v3)], [], M)
set_option maxRecDepth 20000 in
theorem ng_Table_forgetGone (v0 : Nat) (v1 : Nat) (v2 : Int) (M : mm_M) (R : mm_M → Prop) (h : nk_Table_forgetGone_2 v0 v1 v2 0 M R) : nr_Table_forgetGone v0 v1 v2 M R := by
  intro n L N C0 C1
  have NN := nn_L_n L N
  show mm_Go (mm_run 1) mc_Table_forgetGone _ (0, [(0, .inr (.inr v0)), (1, .inr (.inr v1)), (2, .inl v2)], [], M)
  refine mm_s1 rfl ?_
  refine mm_s1 rfl ?_
  show mm_Go (mm_run 1) mc_Table_forgetGone _ (2, [(0, .inr (.inr v0)), (1, .inr (.inr v1)), (2, .inl v2), (3, .inl 0)], [], M)
  exact nn_go_ext (nn_xc rfl (nn_xc rfl (nn_xc rfl (nn_xc rfl nn_xn)))) (h n L N C0 C1)
set_option maxRecDepth 20000 in
theorem ng_Table_forgetGone_2 (v0 : Nat) (v1 : Nat) (v2 : Int) (v3 : Int) (M : mm_M) (R : mm_M → Prop) (h : ((32 ≤ v3 → R M) ∧ (v3 < 32 → (((0 : Int) ≤ v3 ∧ v3 < (32 : Int)) ∧ ((((nf_Versions_has v1 v3 M) ≠ 0) → ((0 : Int) ≤ v3 ∧ v3 < (32 : Int))) ∧ (((nf_Versions_has v1 v3 M) = 0 ∨ ((nn_ri M (v1 + 1) v3) ≠ (-1) ∨ (v2 ≠ (-1) ∧ (v2 < (nn_ri M (v1 + 2) v3))))) → nk_Table_forgetGone_2 v0 v1 v2 (mm_w (v3 + 1)) M R) ∧ (((nf_Versions_has v1 v3 M) ≠ 0 ∧ ((nn_ri M (v1 + 1) v3) = (-1) ∧ (v2 = (-1) ∨ ((nn_ri M (v1 + 2) v3) ≤ v2)))) → (nr_Versions_forget v1 v3 M (fun M47 => (((0 : Int) ≤ v3 ∧ v3 < (32 : Int)) ∧ (((nn_ri M47 (v0 + 6) v3) ≠ (nn_ri M (v1 + 2) v3) → nk_Table_forgetGone_2 v0 v1 v2 (mm_w (v3 + 1)) M47 R) ∧ ((nn_ri M47 (v0 + 6) v3) = (nn_ri M (v1 + 2) v3) → (nr_Versions_forget (v0 + 4) v3 M47 (fun M69 => nk_Table_forgetGone_2 v0 v1 v2 (mm_w (v3 + 1)) M69 R))))))))))))) : nk_Table_forgetGone_2 v0 v1 v2 v3 M R := by
  intro n L N C0 C1
  have NN := nn_L_n L N
  show mm_Go (mm_run 1) mc_Table_forgetGone _ (2, [(0, .inr (.inr v0)), (1, .inr (.inr v1)), (2, .inl v2), (3, .inl v3)], [], M)
  refine mm_s1 rfl ?_
  refine mm_s1 rfl ?_
  refine mm_s1 rfl ⟨fun c5 => ?_, fun c5 => ?_⟩
  · show mm_Go (mm_run 1) mc_Table_forgetGone _ (78, [(0, .inr (.inr v0)), (1, .inr (.inr v1)), (2, .inl v2), (3, .inl v3)], [], M)
    replace h := h.1 c5
    exact mm_s1 rfl ⟨rfl, L, N, h⟩
  · show mm_Go (mm_run 1) mc_Table_forgetGone _ (8, [(0, .inr (.inr v0)), (1, .inr (.inr v1)), (2, .inl v2), (3, .inl v3)], [], M)
    replace c5 := Int.not_le.mp c5
    replace h := h.2 c5
    refine mm_s1 rfl ?_
    refine nn_getr rfl C1.1 (lf_12_1 L N C1) ?_
    refine mm_s1 rfl ?_
    obtain ⟨b13, h⟩ := h
    refine mm_s1 rfl ⟨nn_bd (na_12_1 NN C1) b13, ?_⟩
    show mm_Go (mm_run 1) mc_Table_forgetGone _ (14, [(0, .inr (.inr v0)), (1, .inr (.inr v1)), (2, .inl v2), (3, .inl v3)], [.inl (nn_ri M (v1 + 2) v3)], M)
    refine mm_s1 rfl ?_
    show mm_Go (mm_run 1) mc_Table_forgetGone _ (16, [(0, .inr (.inr v0)), (1, .inr (.inr v1)), (2, .inl v2), (3, .inl v3), (4, .inl (nn_ri M (v1 + 2) v3))], [], M)
    refine mm_s1 rfl ?_
    refine mm_s1 rfl ?_
    refine mm_s1 rfl ⟨C1.1, ?_⟩
    refine np_Versions_has (by decide) L N C1 ?_
    show mm_Go (mm_run 1) mc_Table_forgetGone _ (21, [(0, .inr (.inr v0)), (1, .inr (.inr v1)), (2, .inl v2), (3, .inl v3), (4, .inl (nn_ri M (v1 + 2) v3))], [.inl (nf_Versions_has v1 v3 M)], M)
    refine mm_s1 rfl ⟨fun c21 => ?_, fun c21 => ?_⟩
    · show mm_Go (mm_run 1) mc_Table_forgetGone _ (72, [(0, .inr (.inr v0)), (1, .inr (.inr v1)), (2, .inl v2), (3, .inl v3), (4, .inl (nn_ri M (v1 + 2) v3))], [], M)
      refine mm_s1 rfl ?_
      show mm_Go (mm_run 1) mc_Table_forgetGone _ (75, [(0, .inr (.inr v0)), (1, .inr (.inr v1)), (2, .inl v2), (3, .inl (mm_w (v3 + 1))), (4, .inl (nn_ri M (v1 + 2) v3))], [], M)
      refine mm_s1 rfl ?_
      show mm_Go (mm_run 1) mc_Table_forgetGone _ (2, [(0, .inr (.inr v0)), (1, .inr (.inr v1)), (2, .inl v2), (3, .inl (mm_w (v3 + 1))), (4, .inl (nn_ri M (v1 + 2) v3))], [], M)
      replace h := h.2.1 (Or.inl c21)
      exact nn_go_ext (nn_xc rfl (nn_xc rfl (nn_xc rfl (nn_xc rfl nn_xn)))) (h n L N C0 C1)
    · show mm_Go (mm_run 1) mc_Table_forgetGone _ (24, [(0, .inr (.inr v0)), (1, .inr (.inr v1)), (2, .inl v2), (3, .inl v3), (4, .inl (nn_ri M (v1 + 2) v3))], [], M)
      refine mm_s1 rfl ?_
      refine nn_getr rfl C1.1 (lf_12_0 L N C1) ?_
      refine mm_s1 rfl ?_
      have b29 := h.1 c21
      refine mm_s1 rfl ⟨nn_bd (na_12_0 NN C1) b29, ?_⟩
      show mm_Go (mm_run 1) mc_Table_forgetGone _ (30, [(0, .inr (.inr v0)), (1, .inr (.inr v1)), (2, .inl v2), (3, .inl v3), (4, .inl (nn_ri M (v1 + 2) v3))], [.inl (nn_ri M (v1 + 1) v3)], M)
      refine mm_s1 rfl ?_
      refine mm_s1 rfl ⟨fun c31 => ?_, fun c31 => ?_⟩
      · show mm_Go (mm_run 1) mc_Table_forgetGone _ (72, [(0, .inr (.inr v0)), (1, .inr (.inr v1)), (2, .inl v2), (3, .inl v3), (4, .inl (nn_ri M (v1 + 2) v3))], [], M)
        refine mm_s1 rfl ?_
        show mm_Go (mm_run 1) mc_Table_forgetGone _ (75, [(0, .inr (.inr v0)), (1, .inr (.inr v1)), (2, .inl v2), (3, .inl (mm_w (v3 + 1))), (4, .inl (nn_ri M (v1 + 2) v3))], [], M)
        refine mm_s1 rfl ?_
        show mm_Go (mm_run 1) mc_Table_forgetGone _ (2, [(0, .inr (.inr v0)), (1, .inr (.inr v1)), (2, .inl v2), (3, .inl (mm_w (v3 + 1))), (4, .inl (nn_ri M (v1 + 2) v3))], [], M)
        replace h := h.2.1 (Or.inr (Or.inl c31))
        exact nn_go_ext (nn_xc rfl (nn_xc rfl (nn_xc rfl (nn_xc rfl nn_xn)))) (h n L N C0 C1)
      · show mm_Go (mm_run 1) mc_Table_forgetGone _ (34, [(0, .inr (.inr v0)), (1, .inr (.inr v1)), (2, .inl v2), (3, .inl v3), (4, .inl (nn_ri M (v1 + 2) v3))], [], M)
        replace c31 := Decidable.not_not.mp c31
        refine mm_s1 rfl ?_
        refine mm_s1 rfl ?_
        refine mm_s1 rfl ⟨fun c36 => ?_, fun c36 => ?_⟩
        · show mm_Go (mm_run 1) mc_Table_forgetGone _ (45, [(0, .inr (.inr v0)), (1, .inr (.inr v1)), (2, .inl v2), (3, .inl v3), (4, .inl (nn_ri M (v1 + 2) v3))], [], M)
          refine mm_s1 rfl ?_
          refine mm_s1 rfl ?_
          replace h := h.2.2 ⟨c21, ⟨c31, (Or.inl c36)⟩⟩
          refine mm_s1 rfl ⟨C1.1, ?_⟩
          refine nn_call (D := 1) (by decide) (h n L N C1) ?_
          intro v M47 q; clear L N h
          obtain ⟨rfl, L, N, h⟩ := q
          show mm_Go (mm_run 1) mc_Table_forgetGone _ (50, [(0, .inr (.inr v0)), (1, .inr (.inr v1)), (2, .inl v2), (3, .inl v3), (4, .inl (nn_ri M (v1 + 2) v3))], [], M47)
          refine mm_s1 rfl ?_
          refine nn_getr rfl C0.1 (lf_10_1 L N C0) ?_
          refine nn_getr rfl (nc_10_1 NN C0).1 (lf_12_1 L N (nc_10_1 NN C0)) ?_
          refine mm_s1 rfl ?_
          obtain ⟨b58, h⟩ := h
          refine mm_s1 rfl ⟨nn_bd (na_12_1 NN (nc_10_1 NN C0)) b58, ?_⟩
          show mm_Go (mm_run 1) mc_Table_forgetGone _ (59, [(0, .inr (.inr v0)), (1, .inr (.inr v1)), (2, .inl v2), (3, .inl v3), (4, .inl (nn_ri M (v1 + 2) v3))], [.inl (nn_ri M47 (v0 + 6) v3)], M47)
          refine mm_s1 rfl ?_
          refine mm_s1 rfl ⟨fun c61 => ?_, fun c61 => ?_⟩
          · show mm_Go (mm_run 1) mc_Table_forgetGone _ (72, [(0, .inr (.inr v0)), (1, .inr (.inr v1)), (2, .inl v2), (3, .inl v3), (4, .inl (nn_ri M (v1 + 2) v3))], [], M47)
            replace h := h.1 c61
            refine mm_s1 rfl ?_
            show mm_Go (mm_run 1) mc_Table_forgetGone _ (75, [(0, .inr (.inr v0)), (1, .inr (.inr v1)), (2, .inl v2), (3, .inl (mm_w (v3 + 1))), (4, .inl (nn_ri M (v1 + 2) v3))], [], M47)
            refine mm_s1 rfl ?_
            show mm_Go (mm_run 1) mc_Table_forgetGone _ (2, [(0, .inr (.inr v0)), (1, .inr (.inr v1)), (2, .inl v2), (3, .inl (mm_w (v3 + 1))), (4, .inl (nn_ri M (v1 + 2) v3))], [], M47)
            exact nn_go_ext (nn_xc rfl (nn_xc rfl (nn_xc rfl (nn_xc rfl nn_xn)))) (h n L N C0 C1)
          · show mm_Go (mm_run 1) mc_Table_forgetGone _ (64, [(0, .inr (.inr v0)), (1, .inr (.inr v1)), (2, .inl v2), (3, .inl v3), (4, .inl (nn_ri M (v1 + 2) v3))], [], M47)
            replace c61 := Decidable.not_not.mp c61
            replace h := h.2 c61
            refine mm_s1 rfl ?_
            refine nn_getr rfl C0.1 (lf_10_1 L N C0) ?_
            refine mm_s1 rfl ?_
            refine mm_s1 rfl ⟨(nc_10_1 NN C0).1, ?_⟩
            refine nn_call (D := 1) (by decide) (h n L N (nc_10_1 NN C0)) ?_
            intro v M69 q; clear L N h
            obtain ⟨rfl, L, N, h⟩ := q
            show mm_Go (mm_run 1) mc_Table_forgetGone _ (72, [(0, .inr (.inr v0)), (1, .inr (.inr v1)), (2, .inl v2), (3, .inl v3), (4, .inl (nn_ri M (v1 + 2) v3))], [], M69)
            refine mm_s1 rfl ?_
            show mm_Go (mm_run 1) mc_Table_forgetGone _ (75, [(0, .inr (.inr v0)), (1, .inr (.inr v1)), (2, .inl v2), (3, .inl (mm_w (v3 + 1))), (4, .inl (nn_ri M (v1 + 2) v3))], [], M69)
            refine mm_s1 rfl ?_
            show mm_Go (mm_run 1) mc_Table_forgetGone _ (2, [(0, .inr (.inr v0)), (1, .inr (.inr v1)), (2, .inl v2), (3, .inl (mm_w (v3 + 1))), (4, .inl (nn_ri M (v1 + 2) v3))], [], M69)
            exact nn_go_ext (nn_xc rfl (nn_xc rfl (nn_xc rfl (nn_xc rfl nn_xn)))) (h n L N C0 C1)
        · show mm_Go (mm_run 1) mc_Table_forgetGone _ (39, [(0, .inr (.inr v0)), (1, .inr (.inr v1)), (2, .inl v2), (3, .inl v3), (4, .inl (nn_ri M (v1 + 2) v3))], [], M)
          refine mm_s1 rfl ?_
          refine mm_s1 rfl ?_
          refine mm_s1 rfl ⟨fun c42 => ?_, fun c42 => ?_⟩
          · show mm_Go (mm_run 1) mc_Table_forgetGone _ (72, [(0, .inr (.inr v0)), (1, .inr (.inr v1)), (2, .inl v2), (3, .inl v3), (4, .inl (nn_ri M (v1 + 2) v3))], [], M)
            refine mm_s1 rfl ?_
            show mm_Go (mm_run 1) mc_Table_forgetGone _ (75, [(0, .inr (.inr v0)), (1, .inr (.inr v1)), (2, .inl v2), (3, .inl (mm_w (v3 + 1))), (4, .inl (nn_ri M (v1 + 2) v3))], [], M)
            refine mm_s1 rfl ?_
            show mm_Go (mm_run 1) mc_Table_forgetGone _ (2, [(0, .inr (.inr v0)), (1, .inr (.inr v1)), (2, .inl v2), (3, .inl (mm_w (v3 + 1))), (4, .inl (nn_ri M (v1 + 2) v3))], [], M)
            replace h := h.2.1 (Or.inr (Or.inr ⟨c36, c42⟩))
            exact nn_go_ext (nn_xc rfl (nn_xc rfl (nn_xc rfl (nn_xc rfl nn_xn)))) (h n L N C0 C1)
          · show mm_Go (mm_run 1) mc_Table_forgetGone _ (45, [(0, .inr (.inr v0)), (1, .inr (.inr v1)), (2, .inl v2), (3, .inl v3), (4, .inl (nn_ri M (v1 + 2) v3))], [], M)
            replace c42 := Int.not_lt.mp c42
            refine mm_s1 rfl ?_
            refine mm_s1 rfl ?_
            replace h := h.2.2 ⟨c21, ⟨c31, (Or.inr c42)⟩⟩
            refine mm_s1 rfl ⟨C1.1, ?_⟩
            refine nn_call (D := 1) (by decide) (h n L N C1) ?_
            intro v M47 q; clear L N h
            obtain ⟨rfl, L, N, h⟩ := q
            show mm_Go (mm_run 1) mc_Table_forgetGone _ (50, [(0, .inr (.inr v0)), (1, .inr (.inr v1)), (2, .inl v2), (3, .inl v3), (4, .inl (nn_ri M (v1 + 2) v3))], [], M47)
            refine mm_s1 rfl ?_
            refine nn_getr rfl C0.1 (lf_10_1 L N C0) ?_
            refine nn_getr rfl (nc_10_1 NN C0).1 (lf_12_1 L N (nc_10_1 NN C0)) ?_
            refine mm_s1 rfl ?_
            obtain ⟨b58, h⟩ := h
            refine mm_s1 rfl ⟨nn_bd (na_12_1 NN (nc_10_1 NN C0)) b58, ?_⟩
            show mm_Go (mm_run 1) mc_Table_forgetGone _ (59, [(0, .inr (.inr v0)), (1, .inr (.inr v1)), (2, .inl v2), (3, .inl v3), (4, .inl (nn_ri M (v1 + 2) v3))], [.inl (nn_ri M47 (v0 + 6) v3)], M47)
            refine mm_s1 rfl ?_
            refine mm_s1 rfl ⟨fun c61 => ?_, fun c61 => ?_⟩
            · show mm_Go (mm_run 1) mc_Table_forgetGone _ (72, [(0, .inr (.inr v0)), (1, .inr (.inr v1)), (2, .inl v2), (3, .inl v3), (4, .inl (nn_ri M (v1 + 2) v3))], [], M47)
              replace h := h.1 c61
              refine mm_s1 rfl ?_
              show mm_Go (mm_run 1) mc_Table_forgetGone _ (75, [(0, .inr (.inr v0)), (1, .inr (.inr v1)), (2, .inl v2), (3, .inl (mm_w (v3 + 1))), (4, .inl (nn_ri M (v1 + 2) v3))], [], M47)
              refine mm_s1 rfl ?_
              show mm_Go (mm_run 1) mc_Table_forgetGone _ (2, [(0, .inr (.inr v0)), (1, .inr (.inr v1)), (2, .inl v2), (3, .inl (mm_w (v3 + 1))), (4, .inl (nn_ri M (v1 + 2) v3))], [], M47)
              exact nn_go_ext (nn_xc rfl (nn_xc rfl (nn_xc rfl (nn_xc rfl nn_xn)))) (h n L N C0 C1)
            · show mm_Go (mm_run 1) mc_Table_forgetGone _ (64, [(0, .inr (.inr v0)), (1, .inr (.inr v1)), (2, .inl v2), (3, .inl v3), (4, .inl (nn_ri M (v1 + 2) v3))], [], M47)
              replace c61 := Decidable.not_not.mp c61
              replace h := h.2 c61
              refine mm_s1 rfl ?_
              refine nn_getr rfl C0.1 (lf_10_1 L N C0) ?_
              refine mm_s1 rfl ?_
              refine mm_s1 rfl ⟨(nc_10_1 NN C0).1, ?_⟩
              refine nn_call (D := 1) (by decide) (h n L N (nc_10_1 NN C0)) ?_
              intro v M69 q; clear L N h
              obtain ⟨rfl, L, N, h⟩ := q
              show mm_Go (mm_run 1) mc_Table_forgetGone _ (72, [(0, .inr (.inr v0)), (1, .inr (.inr v1)), (2, .inl v2), (3, .inl v3), (4, .inl (nn_ri M (v1 + 2) v3))], [], M69)
              refine mm_s1 rfl ?_
              show mm_Go (mm_run 1) mc_Table_forgetGone _ (75, [(0, .inr (.inr v0)), (1, .inr (.inr v1)), (2, .inl v2), (3, .inl (mm_w (v3 + 1))), (4, .inl (nn_ri M (v1 + 2) v3))], [], M69)
              refine mm_s1 rfl ?_
              show mm_Go (mm_run 1) mc_Table_forgetGone _ (2, [(0, .inr (.inr v0)), (1, .inr (.inr v1)), (2, .inl v2), (3, .inl (mm_w (v3 + 1))), (4, .inl (nn_ri M (v1 + 2) v3))], [], M69)
              exact nn_go_ext (nn_xc rfl (nn_xc rfl (nn_xc rfl (nn_xc rfl nn_xn)))) (h n L N C0 C1)
def nr_Table_looks (v0 : Nat) (v1 : Int) (v2 : Int) (M : mm_M) (R : Int → mm_M → Prop) : Prop := ∀ n, nn_L M → M.1 = n → nn_C 10 v0 n → mm_run 2 mi_Table_looks [.inr (.inr v0), .inl v1, .inl v2] M (nw_I n R)
def nk_Table_looks_15 (v0 : Nat) (v1 : Int) (v2 : Int) (v3 : Int) (v4 : Int) (v5 : Int) (M : mm_M) (R : Int → mm_M → Prop) : Prop := ∀ n, nn_L M → M.1 = n → nn_C 10 v0 n → mm_Go (mm_run 1) mc_Table_looks (nw_I n R) (15, [(0, .inr (.inr v0)), (1, .inl v1), (2, .inl v2), (3, .inl v3), (4, .inl v4), (5, .inl v5)], [], M)
set_option maxRecDepth 20000 in
theorem ng_Table_looks (v0 : Nat) (v1 : Int) (v2 : Int) (M : mm_M) (R : Int → mm_M → Prop) (h : (∀ x4_10 : Int, x4_10 = nf_Versions_has (v0 + 1) v1 M → nk_Table_looks_15 v0 v1 v2 1 x4_10 0 M R)) : nr_Table_looks v0 v1 v2 M R := by
  intro n L N C0
  have NN := nn_L_n L N
  show mm_Go (mm_run 1) mc_Table_looks _ (0, [(0, .inr (.inr v0)), (1, .inl v1), (2, .inl v2)], [], M)
  refine mm_s1 rfl ?_
  refine mm_s1 rfl ?_
  show mm_Go (mm_run 1) mc_Table_looks _ (2, [(0, .inr (.inr v0)), (1, .inl v1), (2, .inl v2), (3, .inl 1)], [], M)
  refine mm_s1 rfl ?_
  refine nn_getr rfl C0.1 (lf_10_0 L N C0) ?_
  refine mm_s1 rfl ?_
  refine mm_s1 rfl ⟨(nc_10_0 NN C0).1, ?_⟩
  refine np_Versions_has (by decide) L N (nc_10_0 NN C0) ?_
  show mm_Go (mm_run 1) mc_Table_looks _ (10, [(0, .inr (.inr v0)), (1, .inl v1), (2, .inl v2), (3, .inl 1)], [.inl (nf_Versions_has (v0 + 1) v1 M)], M)
  refine mm_s1 rfl ?_
  show mm_Go (mm_run 1) mc_Table_looks _ (12, [(0, .inr (.inr v0)), (1, .inl v1), (2, .inl v2), (3, .inl 1), (4, .inl (nf_Versions_has (v0 + 1) v1 M))], [], M)
  generalize e_x4_10 : (nf_Versions_has (v0 + 1) v1 M) = x4_10
  replace h := h _ e_x4_10.symm
  show mm_Go (mm_run 1) mc_Table_looks _ (12, [(0, .inr (.inr v0)), (1, .inl v1), (2, .inl v2), (3, .inl 1), (4, .inl x4_10)], [], M)
  refine mm_s1 rfl ?_
  refine mm_s1 rfl ?_
  show mm_Go (mm_run 1) mc_Table_looks _ (15, [(0, .inr (.inr v0)), (1, .inl v1), (2, .inl v2), (3, .inl 1), (4, .inl x4_10), (5, .inl 0)], [], M)
  exact nn_go_ext (nn_xc rfl (nn_xc rfl (nn_xc rfl (nn_xc rfl (nn_xc rfl (nn_xc rfl nn_xn)))))) (h n L N C0)
set_option maxRecDepth 20000 in
theorem ng_Table_looks_15 (v0 : Nat) (v1 : Int) (v2 : Int) (v3 : Int) (v4 : Int) (v5 : Int) (M : mm_M) (R : Int → mm_M → Prop) (h : (((nn_rf M v0 5) ≤ v5 → R v3 M) ∧ (v5 < (nn_rf M v0 5) → ((v4 ≠ 0 → R v3 M) ∧ (v4 = 0 → (((0 : Int) ≤ v5 ∧ v5 < (24 : Int)) ∧ (((v2 < (nn_rf M (nn_rr M (v0 + 7) v5) 4)) → ((0 : Int) ≤ v5 ∧ v5 < (24 : Int))) ∧ ((v2 < (nn_rf M (nn_rr M (v0 + 7) v5) 4)) ∧ ((mm_and (mm_ushr (nf_Versions_filter (nn_rr M (v0 + 7) v5) M) (mm_and v1 7)) 1) ≠ 0) → ((0 : Int) ≤ v5 ∧ v5 < (24 : Int))) ∧ (((nn_rf M (nn_rr M (v0 + 7) v5) 4) ≤ v2 ∨ ((mm_and (mm_ushr (nf_Versions_filter (nn_rr M (v0 + 7) v5) M) (mm_and v1 7)) 1) = 0)) → nk_Table_looks_15 v0 v1 v2 v3 v4 (mm_w (v5 + 1)) M R) ∧ ((v2 < (nn_rf M (nn_rr M (v0 + 7) v5) 4) ∧ ((mm_and (mm_ushr (nf_Versions_filter (nn_rr M (v0 + 7) v5) M) (mm_and v1 7)) 1) ≠ 0)) → (∀ x4_77 : Int, x4_77 = nf_Versions_has (nn_rr M (v0 + 7) v5) v1 M → nk_Table_looks_15 v0 v1 v2 (mm_w (v3 + 1)) x4_77 (mm_w (v5 + 1)) M R))))))))) : nk_Table_looks_15 v0 v1 v2 v3 v4 v5 M R := by
  intro n L N C0
  have NN := nn_L_n L N
  show mm_Go (mm_run 1) mc_Table_looks _ (15, [(0, .inr (.inr v0)), (1, .inl v1), (2, .inl v2), (3, .inl v3), (4, .inl v4), (5, .inl v5)], [], M)
  refine mm_s1 rfl ?_
  refine mm_s1 rfl ?_
  refine mm_s1 rfl ⟨C0.1, ?_⟩
  show mm_Go (mm_run 1) mc_Table_looks _ (21, [(0, .inr (.inr v0)), (1, .inl v1), (2, .inl v2), (3, .inl v3), (4, .inl v4), (5, .inl v5)], [.inl (nn_rf M v0 5), .inl v5], M)
  refine mm_s1 rfl ⟨fun c21 => ?_, fun c21 => ?_⟩
  · show mm_Go (mm_run 1) mc_Table_looks _ (85, [(0, .inr (.inr v0)), (1, .inl v1), (2, .inl v2), (3, .inl v3), (4, .inl v4), (5, .inl v5)], [], M)
    replace h := h.1 c21
    refine mm_s1 rfl ?_
    exact mm_s1 rfl ⟨_, rfl, L, N, h⟩
  · show mm_Go (mm_run 1) mc_Table_looks _ (24, [(0, .inr (.inr v0)), (1, .inl v1), (2, .inl v2), (3, .inl v3), (4, .inl v4), (5, .inl v5)], [], M)
    replace c21 := Int.not_le.mp c21
    replace h := h.2 c21
    refine mm_s1 rfl ?_
    refine mm_s1 rfl ⟨fun c26 => ?_, fun c26 => ?_⟩
    · show mm_Go (mm_run 1) mc_Table_looks _ (85, [(0, .inr (.inr v0)), (1, .inl v1), (2, .inl v2), (3, .inl v3), (4, .inl v4), (5, .inl v5)], [], M)
      replace h := h.1 c26
      refine mm_s1 rfl ?_
      exact mm_s1 rfl ⟨_, rfl, L, N, h⟩
    · show mm_Go (mm_run 1) mc_Table_looks _ (29, [(0, .inr (.inr v0)), (1, .inl v1), (2, .inl v2), (3, .inl v3), (4, .inl v4), (5, .inl v5)], [], M)
      replace c26 := Decidable.not_not.mp c26
      replace h := h.2 c26
      refine mm_s1 rfl ?_
      refine nn_getr rfl C0.1 (lf_10_2 L N C0) ?_
      refine mm_s1 rfl ?_
      obtain ⟨b35, h⟩ := h
      have C35 := (nn_l42 L N (nc_10_2 NN C0) b35).2
      refine nn_aald rfl (nn_bd30 (na_10_2 NN C0) (by decide) b35) (nn_l42 L N (nc_10_2 NN C0) b35).1 ?_
      show mm_Go (mm_run 1) mc_Table_looks _ (36, [(0, .inr (.inr v0)), (1, .inl v1), (2, .inl v2), (3, .inl v3), (4, .inl v4), (5, .inl v5)], [.inr (.inr (nn_rr M (v0 + 7) v5))], M)
      refine mm_s1 rfl ⟨C35.2.1, ?_⟩
      show mm_Go (mm_run 1) mc_Table_looks _ (39, [(0, .inr (.inr v0)), (1, .inl v1), (2, .inl v2), (3, .inl v3), (4, .inl v4), (5, .inl v5)], [.inl (nn_rf M (nn_rr M (v0 + 7) v5) 4)], M)
      refine mm_s1 rfl ?_
      refine mm_s1 rfl ⟨fun c40 => ?_, fun c40 => ?_⟩
      · show mm_Go (mm_run 1) mc_Table_looks _ (79, [(0, .inr (.inr v0)), (1, .inl v1), (2, .inl v2), (3, .inl v3), (4, .inl v4), (5, .inl v5)], [], M)
        refine mm_s1 rfl ?_
        show mm_Go (mm_run 1) mc_Table_looks _ (82, [(0, .inr (.inr v0)), (1, .inl v1), (2, .inl v2), (3, .inl v3), (4, .inl v4), (5, .inl (mm_w (v5 + 1)))], [], M)
        refine mm_s1 rfl ?_
        show mm_Go (mm_run 1) mc_Table_looks _ (15, [(0, .inr (.inr v0)), (1, .inl v1), (2, .inl v2), (3, .inl v3), (4, .inl v4), (5, .inl (mm_w (v5 + 1)))], [], M)
        replace h := h.2.2.1 (Or.inl c40)
        exact nn_go_ext (nn_xc rfl (nn_xc rfl (nn_xc rfl (nn_xc rfl (nn_xc rfl (nn_xc rfl nn_xn)))))) (h n L N C0)
      · show mm_Go (mm_run 1) mc_Table_looks _ (43, [(0, .inr (.inr v0)), (1, .inl v1), (2, .inl v2), (3, .inl v3), (4, .inl v4), (5, .inl v5)], [], M)
        replace c40 := Int.not_le.mp c40
        refine mm_s1 rfl ?_
        refine nn_getr rfl C0.1 (lf_10_2 L N C0) ?_
        refine mm_s1 rfl ?_
        have b49 := h.1 c40
        have C49 := (nn_l42 L N (nc_10_2 NN C0) b49).2
        refine nn_aald rfl (nn_bd30 (na_10_2 NN C0) (by decide) b49) (nn_l42 L N (nc_10_2 NN C0) b49).1 ?_
        show mm_Go (mm_run 1) mc_Table_looks _ (50, [(0, .inr (.inr v0)), (1, .inl v1), (2, .inl v2), (3, .inl v3), (4, .inl v4), (5, .inl v5)], [.inr (.inr (nn_rr M (v0 + 7) v5))], M)
        refine mm_s1 rfl ⟨C49.2.1, ?_⟩
        refine np_Versions_filter (by decide) L N C49.2 ?_
        show mm_Go (mm_run 1) mc_Table_looks _ (53, [(0, .inr (.inr v0)), (1, .inl v1), (2, .inl v2), (3, .inl v3), (4, .inl v4), (5, .inl v5)], [.inl (nf_Versions_filter (nn_rr M (v0 + 7) v5) M)], M)
        refine mm_s1 rfl ?_
        refine mm_s1 rfl ?_
        refine mm_s1 rfl ?_
        refine mm_s1 rfl ?_
        refine mm_s1 rfl ?_
        show mm_Go (mm_run 1) mc_Table_looks _ (59, [(0, .inr (.inr v0)), (1, .inl v1), (2, .inl v2), (3, .inl v3), (4, .inl v4), (5, .inl v5)], [.inl 1, .inl (mm_ushr (nf_Versions_filter (nn_rr M (v0 + 7) v5) M) (mm_and v1 7))], M)
        refine mm_s1 rfl ?_
        refine mm_s1 rfl ⟨fun c60 => ?_, fun c60 => ?_⟩
        · show mm_Go (mm_run 1) mc_Table_looks _ (79, [(0, .inr (.inr v0)), (1, .inl v1), (2, .inl v2), (3, .inl v3), (4, .inl v4), (5, .inl v5)], [], M)
          refine mm_s1 rfl ?_
          show mm_Go (mm_run 1) mc_Table_looks _ (82, [(0, .inr (.inr v0)), (1, .inl v1), (2, .inl v2), (3, .inl v3), (4, .inl v4), (5, .inl (mm_w (v5 + 1)))], [], M)
          refine mm_s1 rfl ?_
          show mm_Go (mm_run 1) mc_Table_looks _ (15, [(0, .inr (.inr v0)), (1, .inl v1), (2, .inl v2), (3, .inl v3), (4, .inl v4), (5, .inl (mm_w (v5 + 1)))], [], M)
          replace h := h.2.2.1 (Or.inr c60)
          exact nn_go_ext (nn_xc rfl (nn_xc rfl (nn_xc rfl (nn_xc rfl (nn_xc rfl (nn_xc rfl nn_xn)))))) (h n L N C0)
        · show mm_Go (mm_run 1) mc_Table_looks _ (63, [(0, .inr (.inr v0)), (1, .inl v1), (2, .inl v2), (3, .inl v3), (4, .inl v4), (5, .inl v5)], [], M)
          refine mm_s1 rfl ?_
          show mm_Go (mm_run 1) mc_Table_looks _ (66, [(0, .inr (.inr v0)), (1, .inl v1), (2, .inl v2), (3, .inl (mm_w (v3 + 1))), (4, .inl v4), (5, .inl v5)], [], M)
          refine mm_s1 rfl ?_
          refine nn_getr rfl C0.1 (lf_10_2 L N C0) ?_
          refine mm_s1 rfl ?_
          have b72 := h.2.1 ⟨c40, c60⟩
          have C72 := (nn_l42 L N (nc_10_2 NN C0) b72).2
          refine nn_aald rfl (nn_bd30 (na_10_2 NN C0) (by decide) b72) (nn_l42 L N (nc_10_2 NN C0) b72).1 ?_
          show mm_Go (mm_run 1) mc_Table_looks _ (73, [(0, .inr (.inr v0)), (1, .inl v1), (2, .inl v2), (3, .inl (mm_w (v3 + 1))), (4, .inl v4), (5, .inl v5)], [.inr (.inr (nn_rr M (v0 + 7) v5))], M)
          refine mm_s1 rfl ?_
          refine mm_s1 rfl ⟨C72.2.1, ?_⟩
          refine np_Versions_has (by decide) L N C72.2 ?_
          show mm_Go (mm_run 1) mc_Table_looks _ (77, [(0, .inr (.inr v0)), (1, .inl v1), (2, .inl v2), (3, .inl (mm_w (v3 + 1))), (4, .inl v4), (5, .inl v5)], [.inl (nf_Versions_has (nn_rr M (v0 + 7) v5) v1 M)], M)
          replace h := h.2.2.2 ⟨c40, c60⟩
          refine mm_s1 rfl ?_
          show mm_Go (mm_run 1) mc_Table_looks _ (79, [(0, .inr (.inr v0)), (1, .inl v1), (2, .inl v2), (3, .inl (mm_w (v3 + 1))), (4, .inl (nf_Versions_has (nn_rr M (v0 + 7) v5) v1 M)), (5, .inl v5)], [], M)
          generalize e_x4_77 : (nf_Versions_has (nn_rr M (v0 + 7) v5) v1 M) = x4_77
          replace h := h _ e_x4_77.symm
          show mm_Go (mm_run 1) mc_Table_looks _ (79, [(0, .inr (.inr v0)), (1, .inl v1), (2, .inl v2), (3, .inl (mm_w (v3 + 1))), (4, .inl x4_77), (5, .inl v5)], [], M)
          refine mm_s1 rfl ?_
          show mm_Go (mm_run 1) mc_Table_looks _ (82, [(0, .inr (.inr v0)), (1, .inl v1), (2, .inl v2), (3, .inl (mm_w (v3 + 1))), (4, .inl x4_77), (5, .inl (mm_w (v5 + 1)))], [], M)
          refine mm_s1 rfl ?_
          show mm_Go (mm_run 1) mc_Table_looks _ (15, [(0, .inr (.inr v0)), (1, .inl v1), (2, .inl v2), (3, .inl (mm_w (v3 + 1))), (4, .inl x4_77), (5, .inl (mm_w (v5 + 1)))], [], M)
          exact nn_go_ext (nn_xc rfl (nn_xc rfl (nn_xc rfl (nn_xc rfl (nn_xc rfl (nn_xc rfl nn_xn)))))) (h n L N C0)
def nr_Table_copy (v0 : Nat) (v1 : Nat) (M : mm_M) (R : mm_M → Prop) : Prop := ∀ n, nn_L M → M.1 = n → nn_C 10 v0 n → nn_C 10 v1 n → mm_run 2 mi_Table_copy [.inr (.inr v0), .inr (.inr v1)] M (nw_V n R)
def nk_Table_copy_24 (v0 : Nat) (v1 : Nat) (v2 : Int) (M : mm_M) (R : mm_M → Prop) : Prop := ∀ n, nn_L M → M.1 = n → nn_C 10 v0 n → nn_C 10 v1 n → mm_Go (mm_run 1) mc_Table_copy (nw_V n R) (24, [(0, .inr (.inr v0)), (1, .inr (.inr v1)), (2, .inl v2)], [], M)
set_option maxRecDepth 20000 in
theorem ng_Table_copy (v0 : Nat) (v1 : Nat) (M : mm_M) (R : mm_M → Prop) (h : (nr_Versions_copy (v0 + 1) (v1 + 1) M (fun M8 => (nr_Versions_copy (v0 + 4) (v1 + 4) M8 (fun M19 => nk_Table_copy_24 v0 v1 0 M19 R))))) : nr_Table_copy v0 v1 M R := by
  intro n L N C0 C1
  have NN := nn_L_n L N
  show mm_Go (mm_run 1) mc_Table_copy _ (0, [(0, .inr (.inr v0)), (1, .inr (.inr v1))], [], M)
  refine mm_s1 rfl ?_
  refine nn_getr rfl C0.1 (lf_10_0 L N C0) ?_
  refine mm_s1 rfl ?_
  refine nn_getr rfl C1.1 (lf_10_0 L N C1) ?_
  refine mm_s1 rfl ⟨(nc_10_0 NN C0).1, ?_⟩
  refine nn_call (D := 1) (by decide) (h n L N (nc_10_0 NN C0) (nc_10_0 NN C1)) ?_
  intro v M8 q; clear L N h
  obtain ⟨rfl, L, N, h⟩ := q
  show mm_Go (mm_run 1) mc_Table_copy _ (11, [(0, .inr (.inr v0)), (1, .inr (.inr v1))], [], M8)
  refine mm_s1 rfl ?_
  refine nn_getr rfl C0.1 (lf_10_1 L N C0) ?_
  refine mm_s1 rfl ?_
  refine nn_getr rfl C1.1 (lf_10_1 L N C1) ?_
  refine mm_s1 rfl ⟨(nc_10_1 NN C0).1, ?_⟩
  refine nn_call (D := 1) (by decide) (h n L N (nc_10_1 NN C0) (nc_10_1 NN C1)) ?_
  intro v M19 q; clear L N h
  obtain ⟨rfl, L, N, h⟩ := q
  show mm_Go (mm_run 1) mc_Table_copy _ (22, [(0, .inr (.inr v0)), (1, .inr (.inr v1))], [], M19)
  refine mm_s1 rfl ?_
  refine mm_s1 rfl ?_
  show mm_Go (mm_run 1) mc_Table_copy _ (24, [(0, .inr (.inr v0)), (1, .inr (.inr v1)), (2, .inl 0)], [], M19)
  exact nn_go_ext (nn_xc rfl (nn_xc rfl (nn_xc rfl nn_xn))) (h n L N C0 C1)
set_option maxRecDepth 20000 in
theorem ng_Table_copy_24 (v0 : Nat) (v1 : Nat) (v2 : Int) (M : mm_M) (R : mm_M → Prop) (h : (((nn_rf M v1 5) ≤ v2 → (∀ M82 : mm_M, M82 = nn_uf M v0 5 (nn_rf M v1 5) → (∀ M90 : mm_M, M90 = nn_uf M82 v0 6 (nn_rf M82 v1 6) → (∀ M98 : mm_M, M98 = nn_uf M90 v0 7 (nn_rf M90 v1 7) → (∀ M106 : mm_M, M106 = nn_uf M98 v0 8 (nn_rf M98 v1 8) → R M106))))) ∧ (v2 < (nn_rf M v1 5) → (((0 : Int) ≤ v2 ∧ v2 < (24 : Int)) ∧ (((0 : Int) ≤ v2 ∧ v2 < (24 : Int)) ∧ (nr_Versions_copy (nn_rr M (v0 + 7) v2) (nn_rr M (v1 + 7) v2) M (fun M44 => (((0 : Int) ≤ v2 ∧ v2 < (24 : Int)) ∧ (((0 : Int) ≤ v2 ∧ v2 < (24 : Int)) ∧ (∀ M58 : mm_M, M58 = nn_ui M44 (v0 + 8) v2 (nn_ri M44 (v1 + 8) v2) → (((0 : Int) ≤ v2 ∧ v2 < (24 : Int)) ∧ (((0 : Int) ≤ v2 ∧ v2 < (24 : Int)) ∧ (∀ M70 : mm_M, M70 = nn_ui M58 (v0 + 9) v2 (nn_ri M58 (v1 + 9) v2) → nk_Table_copy_24 v0 v1 (mm_w (v2 + 1)) M70 R))))))))))))) : nk_Table_copy_24 v0 v1 v2 M R := by
  intro n L N C0 C1
  have NN := nn_L_n L N
  show mm_Go (mm_run 1) mc_Table_copy _ (24, [(0, .inr (.inr v0)), (1, .inr (.inr v1)), (2, .inl v2)], [], M)
  refine mm_s1 rfl ?_
  refine mm_s1 rfl ?_
  refine mm_s1 rfl ⟨C1.1, ?_⟩
  show mm_Go (mm_run 1) mc_Table_copy _ (29, [(0, .inr (.inr v0)), (1, .inr (.inr v1)), (2, .inl v2)], [.inl (nn_rf M v1 5), .inl v2], M)
  refine mm_s1 rfl ⟨fun c29 => ?_, fun c29 => ?_⟩
  · show mm_Go (mm_run 1) mc_Table_copy _ (77, [(0, .inr (.inr v0)), (1, .inr (.inr v1)), (2, .inl v2)], [], M)
    replace h := h.1 c29
    refine mm_s1 rfl ?_
    refine mm_s1 rfl ?_
    refine mm_s1 rfl ⟨C1.1, ?_⟩
    show mm_Go (mm_run 1) mc_Table_copy _ (82, [(0, .inr (.inr v0)), (1, .inr (.inr v1)), (2, .inl v2)], [.inl (nn_rf M v1 5), .inr (.inr v0)], M)
    refine mm_s1 rfl ⟨C0.1, ?_⟩
    show mm_Go (mm_run 1) mc_Table_copy _ (85, [(0, .inr (.inr v0)), (1, .inr (.inr v1)), (2, .inl v2)], [], (nn_uf M v0 5 (nn_rf M v1 5)))
    have L : nn_L (nn_uf M v0 5 (nn_rf M v1 5)) := nn_L_up L C0.1 rfl
    have N : (nn_uf M v0 5 (nn_rf M v1 5)).1 = n := N
    generalize e_M82 : (nn_uf M v0 5 (nn_rf M v1 5)) = M82 at L N ⊢
    replace h := h _ e_M82.symm
    show mm_Go (mm_run 1) mc_Table_copy _ (85, [(0, .inr (.inr v0)), (1, .inr (.inr v1)), (2, .inl v2)], [], M82)
    refine mm_s1 rfl ?_
    refine mm_s1 rfl ?_
    refine mm_s1 rfl ⟨C1.1, ?_⟩
    show mm_Go (mm_run 1) mc_Table_copy _ (90, [(0, .inr (.inr v0)), (1, .inr (.inr v1)), (2, .inl v2)], [.inl (nn_rf M82 v1 6), .inr (.inr v0)], M82)
    refine mm_s1 rfl ⟨C0.1, ?_⟩
    show mm_Go (mm_run 1) mc_Table_copy _ (93, [(0, .inr (.inr v0)), (1, .inr (.inr v1)), (2, .inl v2)], [], (nn_uf M82 v0 6 (nn_rf M82 v1 6)))
    have L : nn_L (nn_uf M82 v0 6 (nn_rf M82 v1 6)) := nn_L_up L C0.1 rfl
    have N : (nn_uf M82 v0 6 (nn_rf M82 v1 6)).1 = n := N
    generalize e_M90 : (nn_uf M82 v0 6 (nn_rf M82 v1 6)) = M90 at L N ⊢
    replace h := h _ e_M90.symm
    show mm_Go (mm_run 1) mc_Table_copy _ (93, [(0, .inr (.inr v0)), (1, .inr (.inr v1)), (2, .inl v2)], [], M90)
    refine mm_s1 rfl ?_
    refine mm_s1 rfl ?_
    refine mm_s1 rfl ⟨C1.1, ?_⟩
    show mm_Go (mm_run 1) mc_Table_copy _ (98, [(0, .inr (.inr v0)), (1, .inr (.inr v1)), (2, .inl v2)], [.inl (nn_rf M90 v1 7), .inr (.inr v0)], M90)
    refine mm_s1 rfl ⟨C0.1, ?_⟩
    show mm_Go (mm_run 1) mc_Table_copy _ (101, [(0, .inr (.inr v0)), (1, .inr (.inr v1)), (2, .inl v2)], [], (nn_uf M90 v0 7 (nn_rf M90 v1 7)))
    have L : nn_L (nn_uf M90 v0 7 (nn_rf M90 v1 7)) := nn_L_up L C0.1 rfl
    have N : (nn_uf M90 v0 7 (nn_rf M90 v1 7)).1 = n := N
    generalize e_M98 : (nn_uf M90 v0 7 (nn_rf M90 v1 7)) = M98 at L N ⊢
    replace h := h _ e_M98.symm
    show mm_Go (mm_run 1) mc_Table_copy _ (101, [(0, .inr (.inr v0)), (1, .inr (.inr v1)), (2, .inl v2)], [], M98)
    refine mm_s1 rfl ?_
    refine mm_s1 rfl ?_
    refine mm_s1 rfl ⟨C1.1, ?_⟩
    show mm_Go (mm_run 1) mc_Table_copy _ (106, [(0, .inr (.inr v0)), (1, .inr (.inr v1)), (2, .inl v2)], [.inl (nn_rf M98 v1 8), .inr (.inr v0)], M98)
    refine mm_s1 rfl ⟨C0.1, ?_⟩
    show mm_Go (mm_run 1) mc_Table_copy _ (109, [(0, .inr (.inr v0)), (1, .inr (.inr v1)), (2, .inl v2)], [], (nn_uf M98 v0 8 (nn_rf M98 v1 8)))
    have L : nn_L (nn_uf M98 v0 8 (nn_rf M98 v1 8)) := nn_L_up L C0.1 rfl
    have N : (nn_uf M98 v0 8 (nn_rf M98 v1 8)).1 = n := N
    generalize e_M106 : (nn_uf M98 v0 8 (nn_rf M98 v1 8)) = M106 at L N ⊢
    replace h := h _ e_M106.symm
    show mm_Go (mm_run 1) mc_Table_copy _ (109, [(0, .inr (.inr v0)), (1, .inr (.inr v1)), (2, .inl v2)], [], M106)
    exact mm_s1 rfl ⟨rfl, L, N, h⟩
  · show mm_Go (mm_run 1) mc_Table_copy _ (32, [(0, .inr (.inr v0)), (1, .inr (.inr v1)), (2, .inl v2)], [], M)
    replace c29 := Int.not_le.mp c29
    replace h := h.2 c29
    refine mm_s1 rfl ?_
    refine nn_getr rfl C0.1 (lf_10_2 L N C0) ?_
    refine mm_s1 rfl ?_
    obtain ⟨b37, h⟩ := h
    have C37 := (nn_l42 L N (nc_10_2 NN C0) b37).2
    refine nn_aald rfl (nn_bd30 (na_10_2 NN C0) (by decide) b37) (nn_l42 L N (nc_10_2 NN C0) b37).1 ?_
    show mm_Go (mm_run 1) mc_Table_copy _ (38, [(0, .inr (.inr v0)), (1, .inr (.inr v1)), (2, .inl v2)], [.inr (.inr (nn_rr M (v0 + 7) v2))], M)
    refine mm_s1 rfl ?_
    refine nn_getr rfl C1.1 (lf_10_2 L N C1) ?_
    refine mm_s1 rfl ?_
    obtain ⟨b43, h⟩ := h
    have C43 := (nn_l42 L N (nc_10_2 NN C1) b43).2
    refine nn_aald rfl (nn_bd30 (na_10_2 NN C1) (by decide) b43) (nn_l42 L N (nc_10_2 NN C1) b43).1 ?_
    show mm_Go (mm_run 1) mc_Table_copy _ (44, [(0, .inr (.inr v0)), (1, .inr (.inr v1)), (2, .inl v2)], [.inr (.inr (nn_rr M (v1 + 7) v2)), .inr (.inr (nn_rr M (v0 + 7) v2))], M)
    refine mm_s1 rfl ⟨C37.2.1, ?_⟩
    refine nn_call (D := 1) (by decide) (h n L N C37.2 C43.2) ?_
    intro v M44 q; clear L N h
    obtain ⟨rfl, L, N, h⟩ := q
    show mm_Go (mm_run 1) mc_Table_copy _ (47, [(0, .inr (.inr v0)), (1, .inr (.inr v1)), (2, .inl v2)], [], M44)
    refine mm_s1 rfl ?_
    refine nn_getr rfl C0.1 (lf_10_3 L N C0) ?_
    refine mm_s1 rfl ?_
    refine mm_s1 rfl ?_
    refine nn_getr rfl C1.1 (lf_10_3 L N C1) ?_
    show mm_Go (mm_run 1) mc_Table_copy _ (56, [(0, .inr (.inr v0)), (1, .inr (.inr v1)), (2, .inl v2)], [.inr (.inr (v1 + 8)), .inl v2, .inr (.inr (v0 + 8))], M44)
    refine mm_s1 rfl ?_
    obtain ⟨b57, h⟩ := h
    refine mm_s1 rfl ⟨nn_bd (na_10_3 NN C1) b57, ?_⟩
    show mm_Go (mm_run 1) mc_Table_copy _ (58, [(0, .inr (.inr v0)), (1, .inr (.inr v1)), (2, .inl v2)], [.inl (nn_ri M44 (v1 + 8) v2), .inl v2, .inr (.inr (v0 + 8))], M44)
    obtain ⟨b58, h⟩ := h
    refine mm_s1 rfl ⟨nn_bd (na_10_3 NN C0) b58, ?_⟩
    show mm_Go (mm_run 1) mc_Table_copy _ (59, [(0, .inr (.inr v0)), (1, .inr (.inr v1)), (2, .inl v2)], [], (nn_ui M44 (v0 + 8) v2 (nn_ri M44 (v1 + 8) v2)))
    have L : nn_L (nn_ui M44 (v0 + 8) v2 (nn_ri M44 (v1 + 8) v2)) := nn_L_ua L (congrArg Prod.fst (na_10_3 NN C0)) (by decide)
    have N : (nn_ui M44 (v0 + 8) v2 (nn_ri M44 (v1 + 8) v2)).1 = n := N
    generalize e_M58 : (nn_ui M44 (v0 + 8) v2 (nn_ri M44 (v1 + 8) v2)) = M58 at L N ⊢
    replace h := h _ e_M58.symm
    show mm_Go (mm_run 1) mc_Table_copy _ (59, [(0, .inr (.inr v0)), (1, .inr (.inr v1)), (2, .inl v2)], [], M58)
    refine mm_s1 rfl ?_
    refine nn_getr rfl C0.1 (lf_10_4 L N C0) ?_
    refine mm_s1 rfl ?_
    refine mm_s1 rfl ?_
    refine nn_getr rfl C1.1 (lf_10_4 L N C1) ?_
    show mm_Go (mm_run 1) mc_Table_copy _ (68, [(0, .inr (.inr v0)), (1, .inr (.inr v1)), (2, .inl v2)], [.inr (.inr (v1 + 9)), .inl v2, .inr (.inr (v0 + 9))], M58)
    refine mm_s1 rfl ?_
    obtain ⟨b69, h⟩ := h
    refine mm_s1 rfl ⟨nn_bd (na_10_4 NN C1) b69, ?_⟩
    show mm_Go (mm_run 1) mc_Table_copy _ (70, [(0, .inr (.inr v0)), (1, .inr (.inr v1)), (2, .inl v2)], [.inl (nn_ri M58 (v1 + 9) v2), .inl v2, .inr (.inr (v0 + 9))], M58)
    obtain ⟨b70, h⟩ := h
    refine mm_s1 rfl ⟨nn_bd (na_10_4 NN C0) b70, ?_⟩
    show mm_Go (mm_run 1) mc_Table_copy _ (71, [(0, .inr (.inr v0)), (1, .inr (.inr v1)), (2, .inl v2)], [], (nn_ui M58 (v0 + 9) v2 (nn_ri M58 (v1 + 9) v2)))
    have L : nn_L (nn_ui M58 (v0 + 9) v2 (nn_ri M58 (v1 + 9) v2)) := nn_L_ua L (congrArg Prod.fst (na_10_4 NN C0)) (by decide)
    have N : (nn_ui M58 (v0 + 9) v2 (nn_ri M58 (v1 + 9) v2)).1 = n := N
    generalize e_M70 : (nn_ui M58 (v0 + 9) v2 (nn_ri M58 (v1 + 9) v2)) = M70 at L N ⊢
    replace h := h _ e_M70.symm
    show mm_Go (mm_run 1) mc_Table_copy _ (71, [(0, .inr (.inr v0)), (1, .inr (.inr v1)), (2, .inl v2)], [], M70)
    refine mm_s1 rfl ?_
    show mm_Go (mm_run 1) mc_Table_copy _ (74, [(0, .inr (.inr v0)), (1, .inr (.inr v1)), (2, .inl (mm_w (v2 + 1)))], [], M70)
    refine mm_s1 rfl ?_
    show mm_Go (mm_run 1) mc_Table_copy _ (24, [(0, .inr (.inr v0)), (1, .inr (.inr v1)), (2, .inl (mm_w (v2 + 1)))], [], M70)
    exact nn_go_ext (nn_xc rfl (nn_xc rfl (nn_xc rfl nn_xn))) (h n L N C0 C1)
def nf_Versions_isThere (v0 : Nat) (v1 : Int) (M : mm_M) : Int := (if (nf_Versions_has v0 v1 M) = 0 then 0 else (if (nn_ri M (v0 + 1) v1) = (-1) then 0 else 1))
def nc_Versions_isThere (v0 : Nat) (v1 : Int) (M : mm_M) : Prop := ((nf_Versions_has v0 v1 M) ≠ 0 → ((0 : Int) ≤ v1 ∧ v1 < (32 : Int)))
theorem nz_Versions_isThere (v0 : Nat) (v1 : Int) (M : mm_M) : nf_Versions_isThere v0 v1 M = 0 ∨ nf_Versions_isThere v0 v1 M = 1 := by
  unfold nf_Versions_isThere
  repeat' split
  all_goals first | exact Or.inl rfl | exact Or.inr rfl
set_option maxRecDepth 20000 in
theorem np_Versions_isThere {v0 : Nat} {v1 : Int} {M : mm_M} {n d : Nat} {P : mm_P} (hd : 2 ≤ d) (L : nn_L M) (N : M.1 = n) (C0 : nn_C 12 v0 n) (b : nc_Versions_isThere v0 v1 M) (h : P (some (.inl (nf_Versions_isThere v0 v1 M))) M) : mm_run d mi_Versions_isThere [.inr (.inr v0), .inl v1] M P := by
  have NN := nn_L_n L N
  unfold nc_Versions_isThere at b
  unfold nf_Versions_isThere at h
  refine nn_run_le hd ?_
  show mm_Go (mm_run 1) mc_Versions_isThere _ (0, [(0, .inr (.inr v0)), (1, .inl v1)], [], M)
  refine mm_s1 rfl ?_
  refine mm_s1 rfl ?_
  refine mm_s1 rfl ⟨C0.1, ?_⟩
  refine np_Versions_has (by decide) L N C0 ?_
  show mm_Go (mm_run 1) mc_Versions_isThere _ (5, [(0, .inr (.inr v0)), (1, .inl v1)], [.inl (nf_Versions_has v0 v1 M)], M)
  refine mm_s1 rfl ⟨fun c5 => ?_, fun c5 => ?_⟩
  · show mm_Go (mm_run 1) mc_Versions_isThere _ (22, [(0, .inr (.inr v0)), (1, .inl v1)], [], M)
    rw [if_pos (show (nf_Versions_has v0 v1 M) = 0 from c5)] at h
    refine mm_s1 rfl ?_
    exact mm_s1 rfl ⟨(Or.inl rfl), h⟩
  · show mm_Go (mm_run 1) mc_Versions_isThere _ (8, [(0, .inr (.inr v0)), (1, .inl v1)], [], M)
    rw [if_neg (show ¬ ((nf_Versions_has v0 v1 M) = 0) from c5)] at h
    replace b := b c5
    refine mm_s1 rfl ?_
    refine nn_getr rfl C0.1 (lf_12_0 L N C0) ?_
    refine mm_s1 rfl ?_
    have b13 := b
    refine mm_s1 rfl ⟨nn_bd (na_12_0 NN C0) b13, ?_⟩
    show mm_Go (mm_run 1) mc_Versions_isThere _ (14, [(0, .inr (.inr v0)), (1, .inl v1)], [.inl (nn_ri M (v0 + 1) v1)], M)
    refine mm_s1 rfl ?_
    refine mm_s1 rfl ⟨fun c15 => ?_, fun c15 => ?_⟩
    · show mm_Go (mm_run 1) mc_Versions_isThere _ (22, [(0, .inr (.inr v0)), (1, .inl v1)], [], M)
      rw [if_pos (show (nn_ri M (v0 + 1) v1) = (-1) from c15)] at h
      refine mm_s1 rfl ?_
      exact mm_s1 rfl ⟨(Or.inl rfl), h⟩
    · show mm_Go (mm_run 1) mc_Versions_isThere _ (18, [(0, .inr (.inr v0)), (1, .inl v1)], [], M)
      rw [if_neg (show ¬ ((nn_ri M (v0 + 1) v1) = (-1)) from c15)] at h
      refine mm_s1 rfl ?_
      refine mm_s1 rfl ?_
      show mm_Go (mm_run 1) mc_Versions_isThere _ (23, [(0, .inr (.inr v0)), (1, .inl v1)], [.inl 1], M)
      exact mm_s1 rfl ⟨(Or.inr rfl), h⟩
def nr_Versions_takeOlder (v0 : Nat) (v1 : Nat) (M : mm_M) (R : mm_M → Prop) : Prop := ∀ n, nn_L M → M.1 = n → nn_C 12 v0 n → nn_C 12 v1 n → mm_run 2 mi_Versions_takeOlder [.inr (.inr v0), .inr (.inr v1)] M (nw_V n R)
def nk_Versions_takeOlder_2 (v0 : Nat) (v1 : Nat) (v2 : Int) (M : mm_M) (R : mm_M → Prop) : Prop := ∀ n, nn_L M → M.1 = n → nn_C 12 v0 n → nn_C 12 v1 n → mm_Go (mm_run 1) mc_Versions_takeOlder (nw_V n R) (2, [(0, .inr (.inr v0)), (1, .inr (.inr v1)), (2, .inl v2)], [], M)
set_option maxRecDepth 20000 in
theorem ng_Versions_takeOlder (v0 : Nat) (v1 : Nat) (M : mm_M) (R : mm_M → Prop) (h : nk_Versions_takeOlder_2 v0 v1 0 M R) : nr_Versions_takeOlder v0 v1 M R := by
  intro n L N C0 C1
  have NN := nn_L_n L N
  show mm_Go (mm_run 1) mc_Versions_takeOlder _ (0, [(0, .inr (.inr v0)), (1, .inr (.inr v1))], [], M)
  refine mm_s1 rfl ?_
  refine mm_s1 rfl ?_
  show mm_Go (mm_run 1) mc_Versions_takeOlder _ (2, [(0, .inr (.inr v0)), (1, .inr (.inr v1)), (2, .inl 0)], [], M)
  exact nn_go_ext (nn_xc rfl (nn_xc rfl (nn_xc rfl nn_xn))) (h n L N C0 C1)
set_option maxRecDepth 20000 in
theorem ng_Versions_takeOlder_2 (v0 : Nat) (v1 : Nat) (v2 : Int) (M : mm_M) (R : mm_M → Prop) (h : ((32 ≤ v2 → (∀ M59 : mm_M, M59 = nn_uf M v0 3 (min (nn_rf M v0 3) (nn_rf M v1 3)) → (∀ M74 : mm_M, M74 = nn_uf M59 v0 4 (max (nn_rf M59 v0 4) (nn_rf M59 v1 4)) → R M74))) ∧ (v2 < 32 → ((((nf_Versions_has v1 v2 M) ≠ 0) ∧ ((nf_Versions_has v0 v2 M) = 0) → ((0 : Int) ≤ v2 ∧ v2 < (32 : Int))) ∧ (((nf_Versions_has v1 v2 M) ≠ 0) ∧ ((nf_Versions_has v0 v2 M) = 0) → ((0 : Int) ≤ v2 ∧ v2 < (32 : Int))) ∧ (((nf_Versions_has v1 v2 M) = 0 ∨ ((nf_Versions_has v0 v2 M) ≠ 0)) → nk_Versions_takeOlder_2 v0 v1 (mm_w (v2 + 1)) M R) ∧ (((nf_Versions_has v1 v2 M) ≠ 0 ∧ ((nf_Versions_has v0 v2 M) = 0)) → (nr_Versions_keep v0 v2 (nn_ri M (v1 + 1) v2) (nn_ri M (v1 + 2) v2) M (fun M38 => nk_Versions_takeOlder_2 v0 v1 (mm_w (v2 + 1)) M38 R))))))) : nk_Versions_takeOlder_2 v0 v1 v2 M R := by
  intro n L N C0 C1
  have NN := nn_L_n L N
  show mm_Go (mm_run 1) mc_Versions_takeOlder _ (2, [(0, .inr (.inr v0)), (1, .inr (.inr v1)), (2, .inl v2)], [], M)
  refine mm_s1 rfl ?_
  refine mm_s1 rfl ?_
  refine mm_s1 rfl ⟨fun c5 => ?_, fun c5 => ?_⟩
  · show mm_Go (mm_run 1) mc_Versions_takeOlder _ (47, [(0, .inr (.inr v0)), (1, .inr (.inr v1)), (2, .inl v2)], [], M)
    replace h := h.1 c5
    refine mm_s1 rfl ?_
    refine mm_s1 rfl ?_
    refine mm_s1 rfl ⟨C0.1, ?_⟩
    show mm_Go (mm_run 1) mc_Versions_takeOlder _ (52, [(0, .inr (.inr v0)), (1, .inr (.inr v1)), (2, .inl v2)], [.inl (nn_rf M v0 3), .inr (.inr v0)], M)
    refine mm_s1 rfl ?_
    refine mm_s1 rfl ⟨C1.1, ?_⟩
    show mm_Go (mm_run 1) mc_Versions_takeOlder _ (56, [(0, .inr (.inr v0)), (1, .inr (.inr v1)), (2, .inl v2)], [.inl (nn_rf M v1 3), .inl (nn_rf M v0 3), .inr (.inr v0)], M)
    refine mm_s1 rfl ?_
    refine mm_s1 rfl ⟨C0.1, ?_⟩
    show mm_Go (mm_run 1) mc_Versions_takeOlder _ (62, [(0, .inr (.inr v0)), (1, .inr (.inr v1)), (2, .inl v2)], [], (nn_uf M v0 3 (min (nn_rf M v0 3) (nn_rf M v1 3))))
    have L : nn_L (nn_uf M v0 3 (min (nn_rf M v0 3) (nn_rf M v1 3))) := nn_L_up L C0.1 rfl
    have N : (nn_uf M v0 3 (min (nn_rf M v0 3) (nn_rf M v1 3))).1 = n := N
    generalize e_M59 : (nn_uf M v0 3 (min (nn_rf M v0 3) (nn_rf M v1 3))) = M59 at L N ⊢
    replace h := h _ e_M59.symm
    show mm_Go (mm_run 1) mc_Versions_takeOlder _ (62, [(0, .inr (.inr v0)), (1, .inr (.inr v1)), (2, .inl v2)], [], M59)
    refine mm_s1 rfl ?_
    refine mm_s1 rfl ?_
    refine mm_s1 rfl ⟨C0.1, ?_⟩
    show mm_Go (mm_run 1) mc_Versions_takeOlder _ (67, [(0, .inr (.inr v0)), (1, .inr (.inr v1)), (2, .inl v2)], [.inl (nn_rf M59 v0 4), .inr (.inr v0)], M59)
    refine mm_s1 rfl ?_
    refine mm_s1 rfl ⟨C1.1, ?_⟩
    show mm_Go (mm_run 1) mc_Versions_takeOlder _ (71, [(0, .inr (.inr v0)), (1, .inr (.inr v1)), (2, .inl v2)], [.inl (nn_rf M59 v1 4), .inl (nn_rf M59 v0 4), .inr (.inr v0)], M59)
    refine mm_s1 rfl ?_
    refine mm_s1 rfl ⟨C0.1, ?_⟩
    show mm_Go (mm_run 1) mc_Versions_takeOlder _ (77, [(0, .inr (.inr v0)), (1, .inr (.inr v1)), (2, .inl v2)], [], (nn_uf M59 v0 4 (max (nn_rf M59 v0 4) (nn_rf M59 v1 4))))
    have L : nn_L (nn_uf M59 v0 4 (max (nn_rf M59 v0 4) (nn_rf M59 v1 4))) := nn_L_up L C0.1 rfl
    have N : (nn_uf M59 v0 4 (max (nn_rf M59 v0 4) (nn_rf M59 v1 4))).1 = n := N
    generalize e_M74 : (nn_uf M59 v0 4 (max (nn_rf M59 v0 4) (nn_rf M59 v1 4))) = M74 at L N ⊢
    replace h := h _ e_M74.symm
    show mm_Go (mm_run 1) mc_Versions_takeOlder _ (77, [(0, .inr (.inr v0)), (1, .inr (.inr v1)), (2, .inl v2)], [], M74)
    exact mm_s1 rfl ⟨rfl, L, N, h⟩
  · show mm_Go (mm_run 1) mc_Versions_takeOlder _ (8, [(0, .inr (.inr v0)), (1, .inr (.inr v1)), (2, .inl v2)], [], M)
    replace c5 := Int.not_le.mp c5
    replace h := h.2 c5
    refine mm_s1 rfl ?_
    refine mm_s1 rfl ?_
    refine mm_s1 rfl ⟨C1.1, ?_⟩
    refine np_Versions_has (by decide) L N C1 ?_
    show mm_Go (mm_run 1) mc_Versions_takeOlder _ (13, [(0, .inr (.inr v0)), (1, .inr (.inr v1)), (2, .inl v2)], [.inl (nf_Versions_has v1 v2 M)], M)
    refine mm_s1 rfl ⟨fun c13 => ?_, fun c13 => ?_⟩
    · show mm_Go (mm_run 1) mc_Versions_takeOlder _ (41, [(0, .inr (.inr v0)), (1, .inr (.inr v1)), (2, .inl v2)], [], M)
      refine mm_s1 rfl ?_
      show mm_Go (mm_run 1) mc_Versions_takeOlder _ (44, [(0, .inr (.inr v0)), (1, .inr (.inr v1)), (2, .inl (mm_w (v2 + 1)))], [], M)
      refine mm_s1 rfl ?_
      show mm_Go (mm_run 1) mc_Versions_takeOlder _ (2, [(0, .inr (.inr v0)), (1, .inr (.inr v1)), (2, .inl (mm_w (v2 + 1)))], [], M)
      replace h := h.2.2.1 (Or.inl c13)
      exact nn_go_ext (nn_xc rfl (nn_xc rfl (nn_xc rfl nn_xn))) (h n L N C0 C1)
    · show mm_Go (mm_run 1) mc_Versions_takeOlder _ (16, [(0, .inr (.inr v0)), (1, .inr (.inr v1)), (2, .inl v2)], [], M)
      refine mm_s1 rfl ?_
      refine mm_s1 rfl ?_
      refine mm_s1 rfl ⟨C0.1, ?_⟩
      refine np_Versions_has (by decide) L N C0 ?_
      show mm_Go (mm_run 1) mc_Versions_takeOlder _ (21, [(0, .inr (.inr v0)), (1, .inr (.inr v1)), (2, .inl v2)], [.inl (nf_Versions_has v0 v2 M)], M)
      refine mm_s1 rfl ⟨fun c21 => ?_, fun c21 => ?_⟩
      · show mm_Go (mm_run 1) mc_Versions_takeOlder _ (41, [(0, .inr (.inr v0)), (1, .inr (.inr v1)), (2, .inl v2)], [], M)
        refine mm_s1 rfl ?_
        show mm_Go (mm_run 1) mc_Versions_takeOlder _ (44, [(0, .inr (.inr v0)), (1, .inr (.inr v1)), (2, .inl (mm_w (v2 + 1)))], [], M)
        refine mm_s1 rfl ?_
        show mm_Go (mm_run 1) mc_Versions_takeOlder _ (2, [(0, .inr (.inr v0)), (1, .inr (.inr v1)), (2, .inl (mm_w (v2 + 1)))], [], M)
        replace h := h.2.2.1 (Or.inr c21)
        exact nn_go_ext (nn_xc rfl (nn_xc rfl (nn_xc rfl nn_xn))) (h n L N C0 C1)
      · show mm_Go (mm_run 1) mc_Versions_takeOlder _ (24, [(0, .inr (.inr v0)), (1, .inr (.inr v1)), (2, .inl v2)], [], M)
        replace c21 := Decidable.not_not.mp c21
        refine mm_s1 rfl ?_
        refine mm_s1 rfl ?_
        refine mm_s1 rfl ?_
        refine nn_getr rfl C1.1 (lf_12_0 L N C1) ?_
        refine mm_s1 rfl ?_
        show mm_Go (mm_run 1) mc_Versions_takeOlder _ (31, [(0, .inr (.inr v0)), (1, .inr (.inr v1)), (2, .inl v2)], [.inl v2, .inr (.inr (v1 + 1)), .inl v2, .inr (.inr v0)], M)
        have b31 := h.1 ⟨c13, c21⟩
        refine mm_s1 rfl ⟨nn_bd (na_12_0 NN C1) b31, ?_⟩
        show mm_Go (mm_run 1) mc_Versions_takeOlder _ (32, [(0, .inr (.inr v0)), (1, .inr (.inr v1)), (2, .inl v2)], [.inl (nn_ri M (v1 + 1) v2), .inl v2, .inr (.inr v0)], M)
        refine mm_s1 rfl ?_
        refine nn_getr rfl C1.1 (lf_12_1 L N C1) ?_
        refine mm_s1 rfl ?_
        have b37 := h.2.1 ⟨c13, c21⟩
        refine mm_s1 rfl ⟨nn_bd (na_12_1 NN C1) b37, ?_⟩
        show mm_Go (mm_run 1) mc_Versions_takeOlder _ (38, [(0, .inr (.inr v0)), (1, .inr (.inr v1)), (2, .inl v2)], [.inl (nn_ri M (v1 + 2) v2), .inl (nn_ri M (v1 + 1) v2), .inl v2, .inr (.inr v0)], M)
        replace h := h.2.2.2 ⟨c13, c21⟩
        refine mm_s1 rfl ⟨C0.1, ?_⟩
        refine nn_call (D := 1) (by decide) (h n L N C0) ?_
        intro v M38 q; clear L N h
        obtain ⟨rfl, L, N, h⟩ := q
        show mm_Go (mm_run 1) mc_Versions_takeOlder _ (41, [(0, .inr (.inr v0)), (1, .inr (.inr v1)), (2, .inl v2)], [], M38)
        refine mm_s1 rfl ?_
        show mm_Go (mm_run 1) mc_Versions_takeOlder _ (44, [(0, .inr (.inr v0)), (1, .inr (.inr v1)), (2, .inl (mm_w (v2 + 1)))], [], M38)
        refine mm_s1 rfl ?_
        show mm_Go (mm_run 1) mc_Versions_takeOlder _ (2, [(0, .inr (.inr v0)), (1, .inr (.inr v1)), (2, .inl (mm_w (v2 + 1)))], [], M38)
        exact nn_go_ext (nn_xc rfl (nn_xc rfl (nn_xc rfl nn_xn))) (h n L N C0 C1)
def nf_Versions_size (v0 : Nat) (M : mm_M) : Int := nf_Integer_bitCount (nn_rf M v0 2)
set_option maxRecDepth 20000 in
theorem np_Versions_size {v0 : Nat} {M : mm_M} {n d : Nat} {P : mm_P} (hd : 2 ≤ d) (L : nn_L M) (N : M.1 = n) (C0 : nn_C 12 v0 n) (h : P (some (.inl (nf_Versions_size v0 M))) M) : mm_run d mi_Versions_size [.inr (.inr v0)] M P := by
  have NN := nn_L_n L N
  unfold nf_Versions_size at h
  refine nn_run_le hd ?_
  show mm_Go (mm_run 1) mc_Versions_size _ (0, [(0, .inr (.inr v0))], [], M)
  refine mm_s1 rfl ?_
  refine mm_s1 rfl ⟨C0.1, ?_⟩
  show mm_Go (mm_run 1) mc_Versions_size _ (4, [(0, .inr (.inr v0))], [.inl (nn_rf M v0 2)], M)
  refine mm_s1 rfl ⟨trivial, ?_⟩
  refine np_Integer_bitCount (by decide) L N ?_
  show mm_Go (mm_run 1) mc_Versions_size _ (7, [(0, .inr (.inr v0))], [.inl (nf_Integer_bitCount (nn_rf M v0 2))], M)
  exact mm_s1 rfl h
def nr_Versions_gone (v0 : Nat) (M : mm_M) (R : Int → mm_M → Prop) : Prop := ∀ n, nn_L M → M.1 = n → nn_C 12 v0 n → mm_run 2 mi_Versions_gone [.inr (.inr v0)] M (nw_I n R)
def nk_Versions_gone_4 (v0 : Nat) (v1 : Int) (v2 : Int) (M : mm_M) (R : Int → mm_M → Prop) : Prop := ∀ n, nn_L M → M.1 = n → nn_C 12 v0 n → mm_Go (mm_run 1) mc_Versions_gone (nw_I n R) (4, [(0, .inr (.inr v0)), (1, .inl v1), (2, .inl v2)], [], M)
set_option maxRecDepth 20000 in
theorem ng_Versions_gone (v0 : Nat) (M : mm_M) (R : Int → mm_M → Prop) (h : nk_Versions_gone_4 v0 0 0 M R) : nr_Versions_gone v0 M R := by
  intro n L N C0
  have NN := nn_L_n L N
  show mm_Go (mm_run 1) mc_Versions_gone _ (0, [(0, .inr (.inr v0))], [], M)
  refine mm_s1 rfl ?_
  refine mm_s1 rfl ?_
  show mm_Go (mm_run 1) mc_Versions_gone _ (2, [(0, .inr (.inr v0)), (1, .inl 0)], [], M)
  refine mm_s1 rfl ?_
  refine mm_s1 rfl ?_
  show mm_Go (mm_run 1) mc_Versions_gone _ (4, [(0, .inr (.inr v0)), (1, .inl 0), (2, .inl 0)], [], M)
  exact nn_go_ext (nn_xc rfl (nn_xc rfl (nn_xc rfl nn_xn))) (h n L N C0)
set_option maxRecDepth 20000 in
theorem ng_Versions_gone_4 (v0 : Nat) (v1 : Int) (v2 : Int) (M : mm_M) (R : Int → mm_M → Prop) (h : ((32 ≤ v2 → R v1 M) ∧ (v2 < 32 → ((((nf_Versions_has v0 v2 M) ≠ 0) → ((0 : Int) ≤ v2 ∧ v2 < (32 : Int))) ∧ (((nf_Versions_has v0 v2 M) = 0 ∨ ((nn_ri M (v0 + 1) v2) ≠ (-1))) → nk_Versions_gone_4 v0 (mm_w (v1 + 0)) (mm_w (v2 + 1)) M R) ∧ (((nf_Versions_has v0 v2 M) ≠ 0 ∧ ((nn_ri M (v0 + 1) v2) = (-1))) → nk_Versions_gone_4 v0 (mm_w (v1 + 1)) (mm_w (v2 + 1)) M R))))) : nk_Versions_gone_4 v0 v1 v2 M R := by
  intro n L N C0
  have NN := nn_L_n L N
  show mm_Go (mm_run 1) mc_Versions_gone _ (4, [(0, .inr (.inr v0)), (1, .inl v1), (2, .inl v2)], [], M)
  refine mm_s1 rfl ?_
  refine mm_s1 rfl ?_
  refine mm_s1 rfl ⟨fun c7 => ?_, fun c7 => ?_⟩
  · show mm_Go (mm_run 1) mc_Versions_gone _ (42, [(0, .inr (.inr v0)), (1, .inl v1), (2, .inl v2)], [], M)
    replace h := h.1 c7
    refine mm_s1 rfl ?_
    exact mm_s1 rfl ⟨_, rfl, L, N, h⟩
  · show mm_Go (mm_run 1) mc_Versions_gone _ (10, [(0, .inr (.inr v0)), (1, .inl v1), (2, .inl v2)], [], M)
    replace c7 := Int.not_le.mp c7
    replace h := h.2 c7
    refine mm_s1 rfl ?_
    refine mm_s1 rfl ?_
    refine mm_s1 rfl ?_
    refine mm_s1 rfl ⟨C0.1, ?_⟩
    refine np_Versions_has (by decide) L N C0 ?_
    show mm_Go (mm_run 1) mc_Versions_gone _ (16, [(0, .inr (.inr v0)), (1, .inl v1), (2, .inl v2)], [.inl (nf_Versions_has v0 v2 M), .inl v1], M)
    refine mm_s1 rfl ⟨fun c16 => ?_, fun c16 => ?_⟩
    · show mm_Go (mm_run 1) mc_Versions_gone _ (33, [(0, .inr (.inr v0)), (1, .inl v1), (2, .inl v2)], [.inl v1], M)
      refine mm_s1 rfl ?_
      refine mm_s1 rfl ?_
      refine mm_s1 rfl ?_
      show mm_Go (mm_run 1) mc_Versions_gone _ (36, [(0, .inr (.inr v0)), (1, .inl (mm_w (v1 + 0))), (2, .inl v2)], [], M)
      refine mm_s1 rfl ?_
      show mm_Go (mm_run 1) mc_Versions_gone _ (39, [(0, .inr (.inr v0)), (1, .inl (mm_w (v1 + 0))), (2, .inl (mm_w (v2 + 1)))], [], M)
      refine mm_s1 rfl ?_
      show mm_Go (mm_run 1) mc_Versions_gone _ (4, [(0, .inr (.inr v0)), (1, .inl (mm_w (v1 + 0))), (2, .inl (mm_w (v2 + 1)))], [], M)
      replace h := h.2.1 (Or.inl c16)
      exact nn_go_ext (nn_xc rfl (nn_xc rfl (nn_xc rfl nn_xn))) (h n L N C0)
    · show mm_Go (mm_run 1) mc_Versions_gone _ (19, [(0, .inr (.inr v0)), (1, .inl v1), (2, .inl v2)], [.inl v1], M)
      refine mm_s1 rfl ?_
      refine nn_getr rfl C0.1 (lf_12_0 L N C0) ?_
      refine mm_s1 rfl ?_
      have b24 := h.1 c16
      refine mm_s1 rfl ⟨nn_bd (na_12_0 NN C0) b24, ?_⟩
      show mm_Go (mm_run 1) mc_Versions_gone _ (25, [(0, .inr (.inr v0)), (1, .inl v1), (2, .inl v2)], [.inl (nn_ri M (v0 + 1) v2), .inl v1], M)
      refine mm_s1 rfl ?_
      refine mm_s1 rfl ⟨fun c26 => ?_, fun c26 => ?_⟩
      · show mm_Go (mm_run 1) mc_Versions_gone _ (33, [(0, .inr (.inr v0)), (1, .inl v1), (2, .inl v2)], [.inl v1], M)
        refine mm_s1 rfl ?_
        refine mm_s1 rfl ?_
        refine mm_s1 rfl ?_
        show mm_Go (mm_run 1) mc_Versions_gone _ (36, [(0, .inr (.inr v0)), (1, .inl (mm_w (v1 + 0))), (2, .inl v2)], [], M)
        refine mm_s1 rfl ?_
        show mm_Go (mm_run 1) mc_Versions_gone _ (39, [(0, .inr (.inr v0)), (1, .inl (mm_w (v1 + 0))), (2, .inl (mm_w (v2 + 1)))], [], M)
        refine mm_s1 rfl ?_
        show mm_Go (mm_run 1) mc_Versions_gone _ (4, [(0, .inr (.inr v0)), (1, .inl (mm_w (v1 + 0))), (2, .inl (mm_w (v2 + 1)))], [], M)
        replace h := h.2.1 (Or.inr c26)
        exact nn_go_ext (nn_xc rfl (nn_xc rfl (nn_xc rfl nn_xn))) (h n L N C0)
      · show mm_Go (mm_run 1) mc_Versions_gone _ (29, [(0, .inr (.inr v0)), (1, .inl v1), (2, .inl v2)], [.inl v1], M)
        replace c26 := Decidable.not_not.mp c26
        refine mm_s1 rfl ?_
        refine mm_s1 rfl ?_
        show mm_Go (mm_run 1) mc_Versions_gone _ (34, [(0, .inr (.inr v0)), (1, .inl v1), (2, .inl v2)], [.inl 1, .inl v1], M)
        refine mm_s1 rfl ?_
        refine mm_s1 rfl ?_
        show mm_Go (mm_run 1) mc_Versions_gone _ (36, [(0, .inr (.inr v0)), (1, .inl (mm_w (v1 + 1))), (2, .inl v2)], [], M)
        refine mm_s1 rfl ?_
        show mm_Go (mm_run 1) mc_Versions_gone _ (39, [(0, .inr (.inr v0)), (1, .inl (mm_w (v1 + 1))), (2, .inl (mm_w (v2 + 1)))], [], M)
        refine mm_s1 rfl ?_
        show mm_Go (mm_run 1) mc_Versions_gone _ (4, [(0, .inr (.inr v0)), (1, .inl (mm_w (v1 + 1))), (2, .inl (mm_w (v2 + 1)))], [], M)
        replace h := h.2.2 ⟨c16, c26⟩
        exact nn_go_ext (nn_xc rfl (nn_xc rfl (nn_xc rfl nn_xn))) (h n L N C0)
def nr_Versions_keyAt (v0 : Nat) (v1 : Int) (M : mm_M) (R : Int → mm_M → Prop) : Prop := ∀ n, nn_L M → M.1 = n → nn_C 12 v0 n → mm_run 2 mi_Versions_keyAt [.inr (.inr v0), .inl v1] M (nw_I n R)
def nk_Versions_keyAt_4 (v0 : Nat) (v2 : Int) (v3 : Int) (M : mm_M) (R : Int → mm_M → Prop) : Prop := ∀ n, nn_L M → M.1 = n → nn_C 12 v0 n → mm_Go (mm_run 1) mc_Versions_keyAt (nw_I n R) (4, [(0, .inr (.inr v0)), (2, .inl v2), (3, .inl v3)], [], M)
set_option maxRecDepth 20000 in
theorem ng_Versions_keyAt (v0 : Nat) (v1 : Int) (M : mm_M) (R : Int → mm_M → Prop) (h : nk_Versions_keyAt_4 v0 v1 0 M R) : nr_Versions_keyAt v0 v1 M R := by
  intro n L N C0
  have NN := nn_L_n L N
  show mm_Go (mm_run 1) mc_Versions_keyAt _ (0, [(0, .inr (.inr v0)), (1, .inl v1)], [], M)
  refine mm_s1 rfl ?_
  refine mm_s1 rfl ?_
  show mm_Go (mm_run 1) mc_Versions_keyAt _ (2, [(0, .inr (.inr v0)), (1, .inl v1), (2, .inl v1)], [], M)
  refine mm_s1 rfl ?_
  refine mm_s1 rfl ?_
  show mm_Go (mm_run 1) mc_Versions_keyAt _ (4, [(0, .inr (.inr v0)), (1, .inl v1), (2, .inl v1), (3, .inl 0)], [], M)
  exact nn_go_ext (nn_xc rfl (nn_xc rfl (nn_xc rfl nn_xn))) (h n L N C0)
set_option maxRecDepth 20000 in
theorem ng_Versions_keyAt_4 (v0 : Nat) (v2 : Int) (v3 : Int) (M : mm_M) (R : Int → mm_M → Prop) (h : ((32 ≤ v3 → R (-1) M) ∧ (v3 < 32 → (((nf_Versions_has v0 v3 M) = 0 → nk_Versions_keyAt_4 v0 v2 (mm_w (v3 + 1)) M R) ∧ ((nf_Versions_has v0 v3 M) ≠ 0 → ((v2 ≠ 0 → nk_Versions_keyAt_4 v0 (mm_w (v2 + (-1))) (mm_w (v3 + 1)) M R) ∧ (v2 = 0 → R v3 M))))))) : nk_Versions_keyAt_4 v0 v2 v3 M R := by
  intro n L N C0
  have NN := nn_L_n L N
  show mm_Go (mm_run 1) mc_Versions_keyAt _ (4, [(0, .inr (.inr v0)), (2, .inl v2), (3, .inl v3)], [], M)
  refine mm_s1 rfl ?_
  refine mm_s1 rfl ?_
  refine mm_s1 rfl ⟨fun c7 => ?_, fun c7 => ?_⟩
  · show mm_Go (mm_run 1) mc_Versions_keyAt _ (33, [(0, .inr (.inr v0)), (2, .inl v2), (3, .inl v3)], [], M)
    replace h := h.1 c7
    refine mm_s1 rfl ?_
    exact mm_s1 rfl ⟨_, rfl, L, N, h⟩
  · show mm_Go (mm_run 1) mc_Versions_keyAt _ (10, [(0, .inr (.inr v0)), (2, .inl v2), (3, .inl v3)], [], M)
    replace c7 := Int.not_le.mp c7
    replace h := h.2 c7
    refine mm_s1 rfl ?_
    refine mm_s1 rfl ?_
    refine mm_s1 rfl ⟨C0.1, ?_⟩
    refine np_Versions_has (by decide) L N C0 ?_
    show mm_Go (mm_run 1) mc_Versions_keyAt _ (15, [(0, .inr (.inr v0)), (2, .inl v2), (3, .inl v3)], [.inl (nf_Versions_has v0 v3 M)], M)
    refine mm_s1 rfl ⟨fun c15 => ?_, fun c15 => ?_⟩
    · show mm_Go (mm_run 1) mc_Versions_keyAt _ (27, [(0, .inr (.inr v0)), (2, .inl v2), (3, .inl v3)], [], M)
      replace h := h.1 c15
      refine mm_s1 rfl ?_
      show mm_Go (mm_run 1) mc_Versions_keyAt _ (30, [(0, .inr (.inr v0)), (2, .inl v2), (3, .inl (mm_w (v3 + 1)))], [], M)
      refine mm_s1 rfl ?_
      show mm_Go (mm_run 1) mc_Versions_keyAt _ (4, [(0, .inr (.inr v0)), (2, .inl v2), (3, .inl (mm_w (v3 + 1)))], [], M)
      exact nn_go_ext (nn_xc rfl (nn_xc rfl (nn_xc rfl nn_xn))) (h n L N C0)
    · show mm_Go (mm_run 1) mc_Versions_keyAt _ (18, [(0, .inr (.inr v0)), (2, .inl v2), (3, .inl v3)], [], M)
      replace h := h.2 c15
      refine mm_s1 rfl ?_
      refine mm_s1 rfl ⟨fun c19 => ?_, fun c19 => ?_⟩
      · show mm_Go (mm_run 1) mc_Versions_keyAt _ (24, [(0, .inr (.inr v0)), (2, .inl v2), (3, .inl v3)], [], M)
        replace h := h.1 c19
        refine mm_s1 rfl ?_
        show mm_Go (mm_run 1) mc_Versions_keyAt _ (27, [(0, .inr (.inr v0)), (2, .inl (mm_w (v2 + (-1)))), (3, .inl v3)], [], M)
        refine mm_s1 rfl ?_
        show mm_Go (mm_run 1) mc_Versions_keyAt _ (30, [(0, .inr (.inr v0)), (2, .inl (mm_w (v2 + (-1)))), (3, .inl (mm_w (v3 + 1)))], [], M)
        refine mm_s1 rfl ?_
        show mm_Go (mm_run 1) mc_Versions_keyAt _ (4, [(0, .inr (.inr v0)), (2, .inl (mm_w (v2 + (-1)))), (3, .inl (mm_w (v3 + 1)))], [], M)
        exact nn_go_ext (nn_xc rfl (nn_xc rfl (nn_xc rfl nn_xn))) (h n L N C0)
      · show mm_Go (mm_run 1) mc_Versions_keyAt _ (22, [(0, .inr (.inr v0)), (2, .inl v2), (3, .inl v3)], [], M)
        replace c19 := Decidable.not_not.mp c19
        replace h := h.2 c19
        refine mm_s1 rfl ?_
        exact mm_s1 rfl ⟨_, rfl, L, N, h⟩
def nr_M_takes  (M : mm_M) (R : mm_M → Prop) : Prop := ∀ n, nn_L M → M.1 = n → mm_run 2 mi_M_takes [.inr (.inr 407)] M (nw_V n R)
def nk_M_takes_0  (M : mm_M) (R : mm_M → Prop) : Prop := ∀ n, nn_L M → M.1 = n → mm_Go (mm_run 1) mc_M_takes (nw_V n R) (0, [(0, .inr (.inr 407))], [], M)
def nk_M_takes_168  (M : mm_M) (R : mm_M → Prop) : Prop := ∀ n, nn_L M → M.1 = n → mm_Go (mm_run 1) mc_M_takes (nw_V n R) (168, [(0, .inr (.inr 407))], [], M)
def nk_M_takes_85  (M : mm_M) (R : mm_M → Prop) : Prop := ∀ n, nn_L M → M.1 = n → mm_Go (mm_run 1) mc_M_takes (nw_V n R) (85, [(0, .inr (.inr 407))], [], M)
set_option maxRecDepth 20000 in
theorem ng_M_takes  (M : mm_M) (R : mm_M → Prop) (h : ((nc_M_byteAt (nn_rf M 407 4) M) ∧ ((((nf_M_byteAt (nn_rf M 407 4) M) ≠ 10) → (nc_M_byteAt (nn_rf M 407 4) M)) ∧ (((nf_M_byteAt (nn_rf M 407 4) M) = 10 ∨ ((nf_M_byteAt (nn_rf M 407 4) M) = 32)) → (∀ M33 : mm_M, M33 = nn_uf M 407 4 (mm_w ((nn_rf M 407 4) + 1)) → nk_M_takes_0 M33 R)) ∧ (((nf_M_byteAt (nn_rf M 407 4) M) ≠ 10 ∧ ((nf_M_byteAt (nn_rf M 407 4) M) ≠ 32)) → (∀ M44 : mm_M, M44 = nn_uf M 407 6 (nn_rf M 407 4) → ((nc_M_byteAt (nn_rf M44 407 4) M44) ∧ (∀ x1_55 : Int, x1_55 = nf_M_byteAt (nn_rf M44 407 4) M44 → (∀ M58 : mm_M, M58 = nn_uf M44 407 9 0 → ((0 ≤ x1_55 → (((nf_M_isLetter x1_55) = 0 → (((nf_M_isDigit x1_55) = 0 → (∀ M273 : mm_M, M273 = nn_uf M58 407 4 (mm_w ((nn_rf M58 407 4) + 1)) → (∀ M279 : mm_M, M279 = nn_uf M273 407 9 x1_55 → (((x1_55 = 43 ∨ (x1_55 = 42 ∨ (x1_55 = 60 ∨ (x1_55 = 61 ∨ (x1_55 = 62))))) → (∀ M318 : mm_M, M318 = nn_uf M279 407 5 3 → R M318)) ∧ ((x1_55 ≠ 43 ∧ (x1_55 ≠ 42 ∧ (x1_55 ≠ 60 ∧ (x1_55 ≠ 61 ∧ (x1_55 ≠ 62))))) → (∀ M318 : mm_M, M318 = nn_uf M279 407 5 4 → R M318)))))) ∧ ((nf_M_isDigit x1_55) ≠ 0 → nk_M_takes_168 M58 R))) ∧ ((nf_M_isLetter x1_55) ≠ 0 → (∀ M82 : mm_M, M82 = nn_uf M58 407 5 1 → nk_M_takes_85 M82 R)))) ∧ (x1_55 < 0 → (∀ M67 : mm_M, M67 = nn_uf M58 407 5 0 → R M67))))))))))) : nr_M_takes  M R := by
  intro n L N 
  have NN := nn_L_n L N
  show mm_Go (mm_run 1) mc_M_takes _ (0, [(0, .inr (.inr 407))], [], M)
  refine mm_s1 rfl ?_
  refine mm_s1 rfl ?_
  refine mm_s1 rfl ⟨(nn_c407 NN).1, ?_⟩
  show mm_Go (mm_run 1) mc_M_takes _ (5, [(0, .inr (.inr 407))], [.inl (nn_rf M 407 4), .inr (.inr 407)], M)
  obtain ⟨b5, h⟩ := h
  refine mm_s1 rfl ⟨(nn_c407 NN).1, ?_⟩
  refine np_M_byteAt (by decide) L N b5 ?_
  show mm_Go (mm_run 1) mc_M_takes _ (8, [(0, .inr (.inr 407))], [.inl (nf_M_byteAt (nn_rf M 407 4) M)], M)
  refine mm_s1 rfl ?_
  refine mm_s1 rfl ⟨fun c10 => ?_, fun c10 => ?_⟩
  · show mm_Go (mm_run 1) mc_M_takes _ (26, [(0, .inr (.inr 407))], [], M)
    refine mm_s1 rfl ?_
    refine mm_s1 rfl ?_
    refine mm_s1 rfl ⟨(nn_c407 NN).1, ?_⟩
    show mm_Go (mm_run 1) mc_M_takes _ (31, [(0, .inr (.inr 407))], [.inl (nn_rf M 407 4), .inr (.inr 407)], M)
    refine mm_s1 rfl ?_
    refine mm_s1 rfl ?_
    replace h := h.2.1 (Or.inl c10)
    refine mm_s1 rfl ⟨(nn_c407 NN).1, ?_⟩
    show mm_Go (mm_run 1) mc_M_takes _ (36, [(0, .inr (.inr 407))], [], (nn_uf M 407 4 (mm_w ((nn_rf M 407 4) + 1))))
    have L : nn_L (nn_uf M 407 4 (mm_w ((nn_rf M 407 4) + 1))) := nn_L_up L (nn_c407 NN).1 rfl
    have N : (nn_uf M 407 4 (mm_w ((nn_rf M 407 4) + 1))).1 = n := N
    generalize e_M33 : (nn_uf M 407 4 (mm_w ((nn_rf M 407 4) + 1))) = M33 at L N ⊢
    replace h := h _ e_M33.symm
    show mm_Go (mm_run 1) mc_M_takes _ (36, [(0, .inr (.inr 407))], [], M33)
    refine mm_s1 rfl ?_
    show mm_Go (mm_run 1) mc_M_takes _ (0, [(0, .inr (.inr 407))], [], M33)
    exact nn_go_ext (nn_xc rfl nn_xn) (h n L N)
  · show mm_Go (mm_run 1) mc_M_takes _ (13, [(0, .inr (.inr 407))], [], M)
    refine mm_s1 rfl ?_
    refine mm_s1 rfl ?_
    refine mm_s1 rfl ⟨(nn_c407 NN).1, ?_⟩
    show mm_Go (mm_run 1) mc_M_takes _ (18, [(0, .inr (.inr 407))], [.inl (nn_rf M 407 4), .inr (.inr 407)], M)
    have b18 := h.1 c10
    refine mm_s1 rfl ⟨(nn_c407 NN).1, ?_⟩
    refine np_M_byteAt (by decide) L N b18 ?_
    show mm_Go (mm_run 1) mc_M_takes _ (21, [(0, .inr (.inr 407))], [.inl (nf_M_byteAt (nn_rf M 407 4) M)], M)
    refine mm_s1 rfl ?_
    refine mm_s1 rfl ⟨fun c23 => ?_, fun c23 => ?_⟩
    · show mm_Go (mm_run 1) mc_M_takes _ (39, [(0, .inr (.inr 407))], [], M)
      refine mm_s1 rfl ?_
      refine mm_s1 rfl ?_
      refine mm_s1 rfl ⟨(nn_c407 NN).1, ?_⟩
      show mm_Go (mm_run 1) mc_M_takes _ (44, [(0, .inr (.inr 407))], [.inl (nn_rf M 407 4), .inr (.inr 407)], M)
      replace h := h.2.2 ⟨c10, c23⟩
      refine mm_s1 rfl ⟨(nn_c407 NN).1, ?_⟩
      show mm_Go (mm_run 1) mc_M_takes _ (47, [(0, .inr (.inr 407))], [], (nn_uf M 407 6 (nn_rf M 407 4)))
      have L : nn_L (nn_uf M 407 6 (nn_rf M 407 4)) := nn_L_up L (nn_c407 NN).1 rfl
      have N : (nn_uf M 407 6 (nn_rf M 407 4)).1 = n := N
      generalize e_M44 : (nn_uf M 407 6 (nn_rf M 407 4)) = M44 at L N ⊢
      replace h := h _ e_M44.symm
      show mm_Go (mm_run 1) mc_M_takes _ (47, [(0, .inr (.inr 407))], [], M44)
      refine mm_s1 rfl ?_
      refine mm_s1 rfl ?_
      refine mm_s1 rfl ⟨(nn_c407 NN).1, ?_⟩
      show mm_Go (mm_run 1) mc_M_takes _ (52, [(0, .inr (.inr 407))], [.inl (nn_rf M44 407 4), .inr (.inr 407)], M44)
      obtain ⟨b52, h⟩ := h
      refine mm_s1 rfl ⟨(nn_c407 NN).1, ?_⟩
      refine np_M_byteAt (by decide) L N b52 ?_
      show mm_Go (mm_run 1) mc_M_takes _ (55, [(0, .inr (.inr 407))], [.inl (nf_M_byteAt (nn_rf M44 407 4) M44)], M44)
      refine mm_s1 rfl ?_
      show mm_Go (mm_run 1) mc_M_takes _ (56, [(0, .inr (.inr 407)), (1, .inl (nf_M_byteAt (nn_rf M44 407 4) M44))], [], M44)
      generalize e_x1_55 : (nf_M_byteAt (nn_rf M44 407 4) M44) = x1_55
      replace h := h _ e_x1_55.symm
      show mm_Go (mm_run 1) mc_M_takes _ (56, [(0, .inr (.inr 407)), (1, .inl x1_55)], [], M44)
      refine mm_s1 rfl ?_
      refine mm_s1 rfl ?_
      refine mm_s1 rfl ⟨(nn_c407 NN).1, ?_⟩
      show mm_Go (mm_run 1) mc_M_takes _ (61, [(0, .inr (.inr 407)), (1, .inl x1_55)], [], (nn_uf M44 407 9 0))
      have L : nn_L (nn_uf M44 407 9 0) := nn_L_up L (nn_c407 NN).1 rfl
      have N : (nn_uf M44 407 9 0).1 = n := N
      generalize e_M58 : (nn_uf M44 407 9 0) = M58 at L N ⊢
      replace h := h _ e_M58.symm
      show mm_Go (mm_run 1) mc_M_takes _ (61, [(0, .inr (.inr 407)), (1, .inl x1_55)], [], M58)
      refine mm_s1 rfl ?_
      refine mm_s1 rfl ⟨fun c62 => ?_, fun c62 => ?_⟩
      · show mm_Go (mm_run 1) mc_M_takes _ (73, [(0, .inr (.inr 407)), (1, .inl x1_55)], [], M58)
        replace h := h.1 c62
        refine mm_s1 rfl ?_
        refine mm_s1 rfl ⟨trivial, ?_⟩
        refine np_M_isLetter (by decide) L N ?_
        show mm_Go (mm_run 1) mc_M_takes _ (77, [(0, .inr (.inr 407)), (1, .inl x1_55)], [.inl (nf_M_isLetter x1_55)], M58)
        refine mm_s1 rfl ⟨fun c77 => ?_, fun c77 => ?_⟩
        · show mm_Go (mm_run 1) mc_M_takes _ (161, [(0, .inr (.inr 407)), (1, .inl x1_55)], [], M58)
          replace h := h.1 c77
          refine mm_s1 rfl ?_
          refine mm_s1 rfl ⟨trivial, ?_⟩
          refine np_M_isDigit (by decide) L N ?_
          show mm_Go (mm_run 1) mc_M_takes _ (165, [(0, .inr (.inr 407)), (1, .inl x1_55)], [.inl (nf_M_isDigit x1_55)], M58)
          refine mm_s1 rfl ⟨fun c165 => ?_, fun c165 => ?_⟩
          · show mm_Go (mm_run 1) mc_M_takes _ (266, [(0, .inr (.inr 407)), (1, .inl x1_55)], [], M58)
            replace h := h.1 c165
            refine mm_s1 rfl ?_
            refine mm_s1 rfl ?_
            refine mm_s1 rfl ⟨(nn_c407 NN).1, ?_⟩
            show mm_Go (mm_run 1) mc_M_takes _ (271, [(0, .inr (.inr 407)), (1, .inl x1_55)], [.inl (nn_rf M58 407 4), .inr (.inr 407)], M58)
            refine mm_s1 rfl ?_
            refine mm_s1 rfl ?_
            refine mm_s1 rfl ⟨(nn_c407 NN).1, ?_⟩
            show mm_Go (mm_run 1) mc_M_takes _ (276, [(0, .inr (.inr 407)), (1, .inl x1_55)], [], (nn_uf M58 407 4 (mm_w ((nn_rf M58 407 4) + 1))))
            have L : nn_L (nn_uf M58 407 4 (mm_w ((nn_rf M58 407 4) + 1))) := nn_L_up L (nn_c407 NN).1 rfl
            have N : (nn_uf M58 407 4 (mm_w ((nn_rf M58 407 4) + 1))).1 = n := N
            generalize e_M273 : (nn_uf M58 407 4 (mm_w ((nn_rf M58 407 4) + 1))) = M273 at L N ⊢
            replace h := h _ e_M273.symm
            show mm_Go (mm_run 1) mc_M_takes _ (276, [(0, .inr (.inr 407)), (1, .inl x1_55)], [], M273)
            refine mm_s1 rfl ?_
            refine mm_s1 rfl ?_
            refine mm_s1 rfl ?_
            refine mm_s1 rfl ⟨(nn_c407 NN).1, ?_⟩
            show mm_Go (mm_run 1) mc_M_takes _ (282, [(0, .inr (.inr 407)), (1, .inl x1_55)], [], (nn_uf M273 407 9 x1_55))
            have L : nn_L (nn_uf M273 407 9 x1_55) := nn_L_up L (nn_c407 NN).1 rfl
            have N : (nn_uf M273 407 9 x1_55).1 = n := N
            generalize e_M279 : (nn_uf M273 407 9 x1_55) = M279 at L N ⊢
            replace h := h _ e_M279.symm
            show mm_Go (mm_run 1) mc_M_takes _ (282, [(0, .inr (.inr 407)), (1, .inl x1_55)], [], M279)
            refine mm_s1 rfl ?_
            refine mm_s1 rfl ?_
            refine mm_s1 rfl ?_
            refine mm_s1 rfl ⟨fun c286 => ?_, fun c286 => ?_⟩
            · show mm_Go (mm_run 1) mc_M_takes _ (313, [(0, .inr (.inr 407)), (1, .inl x1_55)], [.inr (.inr 407)], M279)
              refine mm_s1 rfl ?_
              refine mm_s1 rfl ?_
              show mm_Go (mm_run 1) mc_M_takes _ (318, [(0, .inr (.inr 407)), (1, .inl x1_55)], [.inl 3, .inr (.inr 407)], M279)
              replace h := h.1 (Or.inl c286)
              refine mm_s1 rfl ⟨(nn_c407 NN).1, ?_⟩
              show mm_Go (mm_run 1) mc_M_takes _ (321, [(0, .inr (.inr 407)), (1, .inl x1_55)], [], (nn_uf M279 407 5 3))
              have L : nn_L (nn_uf M279 407 5 3) := nn_L_up L (nn_c407 NN).1 rfl
              have N : (nn_uf M279 407 5 3).1 = n := N
              generalize e_M318 : (nn_uf M279 407 5 3) = M318 at L N ⊢
              replace h := h _ e_M318.symm
              show mm_Go (mm_run 1) mc_M_takes _ (321, [(0, .inr (.inr 407)), (1, .inl x1_55)], [], M318)
              exact mm_s1 rfl ⟨rfl, L, N, h⟩
            · show mm_Go (mm_run 1) mc_M_takes _ (289, [(0, .inr (.inr 407)), (1, .inl x1_55)], [.inr (.inr 407)], M279)
              refine mm_s1 rfl ?_
              refine mm_s1 rfl ?_
              refine mm_s1 rfl ⟨fun c292 => ?_, fun c292 => ?_⟩
              · show mm_Go (mm_run 1) mc_M_takes _ (313, [(0, .inr (.inr 407)), (1, .inl x1_55)], [.inr (.inr 407)], M279)
                refine mm_s1 rfl ?_
                refine mm_s1 rfl ?_
                show mm_Go (mm_run 1) mc_M_takes _ (318, [(0, .inr (.inr 407)), (1, .inl x1_55)], [.inl 3, .inr (.inr 407)], M279)
                replace h := h.1 (Or.inr (Or.inl c292))
                refine mm_s1 rfl ⟨(nn_c407 NN).1, ?_⟩
                show mm_Go (mm_run 1) mc_M_takes _ (321, [(0, .inr (.inr 407)), (1, .inl x1_55)], [], (nn_uf M279 407 5 3))
                have L : nn_L (nn_uf M279 407 5 3) := nn_L_up L (nn_c407 NN).1 rfl
                have N : (nn_uf M279 407 5 3).1 = n := N
                generalize e_M318 : (nn_uf M279 407 5 3) = M318 at L N ⊢
                replace h := h _ e_M318.symm
                show mm_Go (mm_run 1) mc_M_takes _ (321, [(0, .inr (.inr 407)), (1, .inl x1_55)], [], M318)
                exact mm_s1 rfl ⟨rfl, L, N, h⟩
              · show mm_Go (mm_run 1) mc_M_takes _ (295, [(0, .inr (.inr 407)), (1, .inl x1_55)], [.inr (.inr 407)], M279)
                refine mm_s1 rfl ?_
                refine mm_s1 rfl ?_
                refine mm_s1 rfl ⟨fun c298 => ?_, fun c298 => ?_⟩
                · show mm_Go (mm_run 1) mc_M_takes _ (313, [(0, .inr (.inr 407)), (1, .inl x1_55)], [.inr (.inr 407)], M279)
                  refine mm_s1 rfl ?_
                  refine mm_s1 rfl ?_
                  show mm_Go (mm_run 1) mc_M_takes _ (318, [(0, .inr (.inr 407)), (1, .inl x1_55)], [.inl 3, .inr (.inr 407)], M279)
                  replace h := h.1 (Or.inr (Or.inr (Or.inl c298)))
                  refine mm_s1 rfl ⟨(nn_c407 NN).1, ?_⟩
                  show mm_Go (mm_run 1) mc_M_takes _ (321, [(0, .inr (.inr 407)), (1, .inl x1_55)], [], (nn_uf M279 407 5 3))
                  have L : nn_L (nn_uf M279 407 5 3) := nn_L_up L (nn_c407 NN).1 rfl
                  have N : (nn_uf M279 407 5 3).1 = n := N
                  generalize e_M318 : (nn_uf M279 407 5 3) = M318 at L N ⊢
                  replace h := h _ e_M318.symm
                  show mm_Go (mm_run 1) mc_M_takes _ (321, [(0, .inr (.inr 407)), (1, .inl x1_55)], [], M318)
                  exact mm_s1 rfl ⟨rfl, L, N, h⟩
                · show mm_Go (mm_run 1) mc_M_takes _ (301, [(0, .inr (.inr 407)), (1, .inl x1_55)], [.inr (.inr 407)], M279)
                  refine mm_s1 rfl ?_
                  refine mm_s1 rfl ?_
                  refine mm_s1 rfl ⟨fun c304 => ?_, fun c304 => ?_⟩
                  · show mm_Go (mm_run 1) mc_M_takes _ (313, [(0, .inr (.inr 407)), (1, .inl x1_55)], [.inr (.inr 407)], M279)
                    refine mm_s1 rfl ?_
                    refine mm_s1 rfl ?_
                    show mm_Go (mm_run 1) mc_M_takes _ (318, [(0, .inr (.inr 407)), (1, .inl x1_55)], [.inl 3, .inr (.inr 407)], M279)
                    replace h := h.1 (Or.inr (Or.inr (Or.inr (Or.inl c304))))
                    refine mm_s1 rfl ⟨(nn_c407 NN).1, ?_⟩
                    show mm_Go (mm_run 1) mc_M_takes _ (321, [(0, .inr (.inr 407)), (1, .inl x1_55)], [], (nn_uf M279 407 5 3))
                    have L : nn_L (nn_uf M279 407 5 3) := nn_L_up L (nn_c407 NN).1 rfl
                    have N : (nn_uf M279 407 5 3).1 = n := N
                    generalize e_M318 : (nn_uf M279 407 5 3) = M318 at L N ⊢
                    replace h := h _ e_M318.symm
                    show mm_Go (mm_run 1) mc_M_takes _ (321, [(0, .inr (.inr 407)), (1, .inl x1_55)], [], M318)
                    exact mm_s1 rfl ⟨rfl, L, N, h⟩
                  · show mm_Go (mm_run 1) mc_M_takes _ (307, [(0, .inr (.inr 407)), (1, .inl x1_55)], [.inr (.inr 407)], M279)
                    refine mm_s1 rfl ?_
                    refine mm_s1 rfl ?_
                    refine mm_s1 rfl ⟨fun c310 => ?_, fun c310 => ?_⟩
                    · show mm_Go (mm_run 1) mc_M_takes _ (317, [(0, .inr (.inr 407)), (1, .inl x1_55)], [.inr (.inr 407)], M279)
                      refine mm_s1 rfl ?_
                      replace h := h.2 ⟨c286, ⟨c292, ⟨c298, ⟨c304, c310⟩⟩⟩⟩
                      refine mm_s1 rfl ⟨(nn_c407 NN).1, ?_⟩
                      show mm_Go (mm_run 1) mc_M_takes _ (321, [(0, .inr (.inr 407)), (1, .inl x1_55)], [], (nn_uf M279 407 5 4))
                      have L : nn_L (nn_uf M279 407 5 4) := nn_L_up L (nn_c407 NN).1 rfl
                      have N : (nn_uf M279 407 5 4).1 = n := N
                      generalize e_M318 : (nn_uf M279 407 5 4) = M318 at L N ⊢
                      replace h := h _ e_M318.symm
                      show mm_Go (mm_run 1) mc_M_takes _ (321, [(0, .inr (.inr 407)), (1, .inl x1_55)], [], M318)
                      exact mm_s1 rfl ⟨rfl, L, N, h⟩
                    · show mm_Go (mm_run 1) mc_M_takes _ (313, [(0, .inr (.inr 407)), (1, .inl x1_55)], [.inr (.inr 407)], M279)
                      replace c310 := Decidable.not_not.mp c310
                      refine mm_s1 rfl ?_
                      refine mm_s1 rfl ?_
                      show mm_Go (mm_run 1) mc_M_takes _ (318, [(0, .inr (.inr 407)), (1, .inl x1_55)], [.inl 3, .inr (.inr 407)], M279)
                      replace h := h.1 (Or.inr (Or.inr (Or.inr (Or.inr c310))))
                      refine mm_s1 rfl ⟨(nn_c407 NN).1, ?_⟩
                      show mm_Go (mm_run 1) mc_M_takes _ (321, [(0, .inr (.inr 407)), (1, .inl x1_55)], [], (nn_uf M279 407 5 3))
                      have L : nn_L (nn_uf M279 407 5 3) := nn_L_up L (nn_c407 NN).1 rfl
                      have N : (nn_uf M279 407 5 3).1 = n := N
                      generalize e_M318 : (nn_uf M279 407 5 3) = M318 at L N ⊢
                      replace h := h _ e_M318.symm
                      show mm_Go (mm_run 1) mc_M_takes _ (321, [(0, .inr (.inr 407)), (1, .inl x1_55)], [], M318)
                      exact mm_s1 rfl ⟨rfl, L, N, h⟩
          · show mm_Go (mm_run 1) mc_M_takes _ (168, [(0, .inr (.inr 407)), (1, .inl x1_55)], [], M58)
            replace h := h.2 c165
            exact nn_go_ext (nn_xc rfl nn_xn) (h n L N)
        · show mm_Go (mm_run 1) mc_M_takes _ (80, [(0, .inr (.inr 407)), (1, .inl x1_55)], [], M58)
          replace h := h.2 c77
          refine mm_s1 rfl ?_
          refine mm_s1 rfl ?_
          refine mm_s1 rfl ⟨(nn_c407 NN).1, ?_⟩
          show mm_Go (mm_run 1) mc_M_takes _ (85, [(0, .inr (.inr 407)), (1, .inl x1_55)], [], (nn_uf M58 407 5 1))
          have L : nn_L (nn_uf M58 407 5 1) := nn_L_up L (nn_c407 NN).1 rfl
          have N : (nn_uf M58 407 5 1).1 = n := N
          generalize e_M82 : (nn_uf M58 407 5 1) = M82 at L N ⊢
          replace h := h _ e_M82.symm
          show mm_Go (mm_run 1) mc_M_takes _ (85, [(0, .inr (.inr 407)), (1, .inl x1_55)], [], M82)
          exact nn_go_ext (nn_xc rfl nn_xn) (h n L N)
      · show mm_Go (mm_run 1) mc_M_takes _ (65, [(0, .inr (.inr 407)), (1, .inl x1_55)], [], M58)
        replace c62 := Int.not_le.mp c62
        replace h := h.2 c62
        refine mm_s1 rfl ?_
        refine mm_s1 rfl ?_
        refine mm_s1 rfl ⟨(nn_c407 NN).1, ?_⟩
        show mm_Go (mm_run 1) mc_M_takes _ (70, [(0, .inr (.inr 407)), (1, .inl x1_55)], [], (nn_uf M58 407 5 0))
        have L : nn_L (nn_uf M58 407 5 0) := nn_L_up L (nn_c407 NN).1 rfl
        have N : (nn_uf M58 407 5 0).1 = n := N
        generalize e_M67 : (nn_uf M58 407 5 0) = M67 at L N ⊢
        replace h := h _ e_M67.symm
        show mm_Go (mm_run 1) mc_M_takes _ (70, [(0, .inr (.inr 407)), (1, .inl x1_55)], [], M67)
        refine mm_s1 rfl ?_
        show mm_Go (mm_run 1) mc_M_takes _ (321, [(0, .inr (.inr 407)), (1, .inl x1_55)], [], M67)
        exact mm_s1 rfl ⟨rfl, L, N, h⟩
    · show mm_Go (mm_run 1) mc_M_takes _ (26, [(0, .inr (.inr 407))], [], M)
      replace c23 := Decidable.not_not.mp c23
      refine mm_s1 rfl ?_
      refine mm_s1 rfl ?_
      refine mm_s1 rfl ⟨(nn_c407 NN).1, ?_⟩
      show mm_Go (mm_run 1) mc_M_takes _ (31, [(0, .inr (.inr 407))], [.inl (nn_rf M 407 4), .inr (.inr 407)], M)
      refine mm_s1 rfl ?_
      refine mm_s1 rfl ?_
      replace h := h.2.1 (Or.inr c23)
      refine mm_s1 rfl ⟨(nn_c407 NN).1, ?_⟩
      show mm_Go (mm_run 1) mc_M_takes _ (36, [(0, .inr (.inr 407))], [], (nn_uf M 407 4 (mm_w ((nn_rf M 407 4) + 1))))
      have L : nn_L (nn_uf M 407 4 (mm_w ((nn_rf M 407 4) + 1))) := nn_L_up L (nn_c407 NN).1 rfl
      have N : (nn_uf M 407 4 (mm_w ((nn_rf M 407 4) + 1))).1 = n := N
      generalize e_M33 : (nn_uf M 407 4 (mm_w ((nn_rf M 407 4) + 1))) = M33 at L N ⊢
      replace h := h _ e_M33.symm
      show mm_Go (mm_run 1) mc_M_takes _ (36, [(0, .inr (.inr 407))], [], M33)
      refine mm_s1 rfl ?_
      show mm_Go (mm_run 1) mc_M_takes _ (0, [(0, .inr (.inr 407))], [], M33)
      exact nn_go_ext (nn_xc rfl nn_xn) (h n L N)
set_option maxRecDepth 20000 in
theorem ng_M_takes_0  (M : mm_M) (R : mm_M → Prop) (h : ((nc_M_byteAt (nn_rf M 407 4) M) ∧ ((((nf_M_byteAt (nn_rf M 407 4) M) ≠ 10) → (nc_M_byteAt (nn_rf M 407 4) M)) ∧ (((nf_M_byteAt (nn_rf M 407 4) M) = 10 ∨ ((nf_M_byteAt (nn_rf M 407 4) M) = 32)) → (∀ M33 : mm_M, M33 = nn_uf M 407 4 (mm_w ((nn_rf M 407 4) + 1)) → nk_M_takes_0 M33 R)) ∧ (((nf_M_byteAt (nn_rf M 407 4) M) ≠ 10 ∧ ((nf_M_byteAt (nn_rf M 407 4) M) ≠ 32)) → (∀ M44 : mm_M, M44 = nn_uf M 407 6 (nn_rf M 407 4) → ((nc_M_byteAt (nn_rf M44 407 4) M44) ∧ (∀ x1_55 : Int, x1_55 = nf_M_byteAt (nn_rf M44 407 4) M44 → (∀ M58 : mm_M, M58 = nn_uf M44 407 9 0 → ((0 ≤ x1_55 → (((nf_M_isLetter x1_55) = 0 → (((nf_M_isDigit x1_55) = 0 → (∀ M273 : mm_M, M273 = nn_uf M58 407 4 (mm_w ((nn_rf M58 407 4) + 1)) → (∀ M279 : mm_M, M279 = nn_uf M273 407 9 x1_55 → (((x1_55 = 43 ∨ (x1_55 = 42 ∨ (x1_55 = 60 ∨ (x1_55 = 61 ∨ (x1_55 = 62))))) → (∀ M318 : mm_M, M318 = nn_uf M279 407 5 3 → R M318)) ∧ ((x1_55 ≠ 43 ∧ (x1_55 ≠ 42 ∧ (x1_55 ≠ 60 ∧ (x1_55 ≠ 61 ∧ (x1_55 ≠ 62))))) → (∀ M318 : mm_M, M318 = nn_uf M279 407 5 4 → R M318)))))) ∧ ((nf_M_isDigit x1_55) ≠ 0 → nk_M_takes_168 M58 R))) ∧ ((nf_M_isLetter x1_55) ≠ 0 → (∀ M82 : mm_M, M82 = nn_uf M58 407 5 1 → nk_M_takes_85 M82 R)))) ∧ (x1_55 < 0 → (∀ M67 : mm_M, M67 = nn_uf M58 407 5 0 → R M67))))))))))) : nk_M_takes_0  M R := by
  intro n L N 
  have NN := nn_L_n L N
  show mm_Go (mm_run 1) mc_M_takes _ (0, [(0, .inr (.inr 407))], [], M)
  refine mm_s1 rfl ?_
  refine mm_s1 rfl ?_
  refine mm_s1 rfl ⟨(nn_c407 NN).1, ?_⟩
  show mm_Go (mm_run 1) mc_M_takes _ (5, [(0, .inr (.inr 407))], [.inl (nn_rf M 407 4), .inr (.inr 407)], M)
  obtain ⟨b5, h⟩ := h
  refine mm_s1 rfl ⟨(nn_c407 NN).1, ?_⟩
  refine np_M_byteAt (by decide) L N b5 ?_
  show mm_Go (mm_run 1) mc_M_takes _ (8, [(0, .inr (.inr 407))], [.inl (nf_M_byteAt (nn_rf M 407 4) M)], M)
  refine mm_s1 rfl ?_
  refine mm_s1 rfl ⟨fun c10 => ?_, fun c10 => ?_⟩
  · show mm_Go (mm_run 1) mc_M_takes _ (26, [(0, .inr (.inr 407))], [], M)
    refine mm_s1 rfl ?_
    refine mm_s1 rfl ?_
    refine mm_s1 rfl ⟨(nn_c407 NN).1, ?_⟩
    show mm_Go (mm_run 1) mc_M_takes _ (31, [(0, .inr (.inr 407))], [.inl (nn_rf M 407 4), .inr (.inr 407)], M)
    refine mm_s1 rfl ?_
    refine mm_s1 rfl ?_
    replace h := h.2.1 (Or.inl c10)
    refine mm_s1 rfl ⟨(nn_c407 NN).1, ?_⟩
    show mm_Go (mm_run 1) mc_M_takes _ (36, [(0, .inr (.inr 407))], [], (nn_uf M 407 4 (mm_w ((nn_rf M 407 4) + 1))))
    have L : nn_L (nn_uf M 407 4 (mm_w ((nn_rf M 407 4) + 1))) := nn_L_up L (nn_c407 NN).1 rfl
    have N : (nn_uf M 407 4 (mm_w ((nn_rf M 407 4) + 1))).1 = n := N
    generalize e_M33 : (nn_uf M 407 4 (mm_w ((nn_rf M 407 4) + 1))) = M33 at L N ⊢
    replace h := h _ e_M33.symm
    show mm_Go (mm_run 1) mc_M_takes _ (36, [(0, .inr (.inr 407))], [], M33)
    refine mm_s1 rfl ?_
    show mm_Go (mm_run 1) mc_M_takes _ (0, [(0, .inr (.inr 407))], [], M33)
    exact nn_go_ext (nn_xc rfl nn_xn) (h n L N)
  · show mm_Go (mm_run 1) mc_M_takes _ (13, [(0, .inr (.inr 407))], [], M)
    refine mm_s1 rfl ?_
    refine mm_s1 rfl ?_
    refine mm_s1 rfl ⟨(nn_c407 NN).1, ?_⟩
    show mm_Go (mm_run 1) mc_M_takes _ (18, [(0, .inr (.inr 407))], [.inl (nn_rf M 407 4), .inr (.inr 407)], M)
    have b18 := h.1 c10
    refine mm_s1 rfl ⟨(nn_c407 NN).1, ?_⟩
    refine np_M_byteAt (by decide) L N b18 ?_
    show mm_Go (mm_run 1) mc_M_takes _ (21, [(0, .inr (.inr 407))], [.inl (nf_M_byteAt (nn_rf M 407 4) M)], M)
    refine mm_s1 rfl ?_
    refine mm_s1 rfl ⟨fun c23 => ?_, fun c23 => ?_⟩
    · show mm_Go (mm_run 1) mc_M_takes _ (39, [(0, .inr (.inr 407))], [], M)
      refine mm_s1 rfl ?_
      refine mm_s1 rfl ?_
      refine mm_s1 rfl ⟨(nn_c407 NN).1, ?_⟩
      show mm_Go (mm_run 1) mc_M_takes _ (44, [(0, .inr (.inr 407))], [.inl (nn_rf M 407 4), .inr (.inr 407)], M)
      replace h := h.2.2 ⟨c10, c23⟩
      refine mm_s1 rfl ⟨(nn_c407 NN).1, ?_⟩
      show mm_Go (mm_run 1) mc_M_takes _ (47, [(0, .inr (.inr 407))], [], (nn_uf M 407 6 (nn_rf M 407 4)))
      have L : nn_L (nn_uf M 407 6 (nn_rf M 407 4)) := nn_L_up L (nn_c407 NN).1 rfl
      have N : (nn_uf M 407 6 (nn_rf M 407 4)).1 = n := N
      generalize e_M44 : (nn_uf M 407 6 (nn_rf M 407 4)) = M44 at L N ⊢
      replace h := h _ e_M44.symm
      show mm_Go (mm_run 1) mc_M_takes _ (47, [(0, .inr (.inr 407))], [], M44)
      refine mm_s1 rfl ?_
      refine mm_s1 rfl ?_
      refine mm_s1 rfl ⟨(nn_c407 NN).1, ?_⟩
      show mm_Go (mm_run 1) mc_M_takes _ (52, [(0, .inr (.inr 407))], [.inl (nn_rf M44 407 4), .inr (.inr 407)], M44)
      obtain ⟨b52, h⟩ := h
      refine mm_s1 rfl ⟨(nn_c407 NN).1, ?_⟩
      refine np_M_byteAt (by decide) L N b52 ?_
      show mm_Go (mm_run 1) mc_M_takes _ (55, [(0, .inr (.inr 407))], [.inl (nf_M_byteAt (nn_rf M44 407 4) M44)], M44)
      refine mm_s1 rfl ?_
      show mm_Go (mm_run 1) mc_M_takes _ (56, [(0, .inr (.inr 407)), (1, .inl (nf_M_byteAt (nn_rf M44 407 4) M44))], [], M44)
      generalize e_x1_55 : (nf_M_byteAt (nn_rf M44 407 4) M44) = x1_55
      replace h := h _ e_x1_55.symm
      show mm_Go (mm_run 1) mc_M_takes _ (56, [(0, .inr (.inr 407)), (1, .inl x1_55)], [], M44)
      refine mm_s1 rfl ?_
      refine mm_s1 rfl ?_
      refine mm_s1 rfl ⟨(nn_c407 NN).1, ?_⟩
      show mm_Go (mm_run 1) mc_M_takes _ (61, [(0, .inr (.inr 407)), (1, .inl x1_55)], [], (nn_uf M44 407 9 0))
      have L : nn_L (nn_uf M44 407 9 0) := nn_L_up L (nn_c407 NN).1 rfl
      have N : (nn_uf M44 407 9 0).1 = n := N
      generalize e_M58 : (nn_uf M44 407 9 0) = M58 at L N ⊢
      replace h := h _ e_M58.symm
      show mm_Go (mm_run 1) mc_M_takes _ (61, [(0, .inr (.inr 407)), (1, .inl x1_55)], [], M58)
      refine mm_s1 rfl ?_
      refine mm_s1 rfl ⟨fun c62 => ?_, fun c62 => ?_⟩
      · show mm_Go (mm_run 1) mc_M_takes _ (73, [(0, .inr (.inr 407)), (1, .inl x1_55)], [], M58)
        replace h := h.1 c62
        refine mm_s1 rfl ?_
        refine mm_s1 rfl ⟨trivial, ?_⟩
        refine np_M_isLetter (by decide) L N ?_
        show mm_Go (mm_run 1) mc_M_takes _ (77, [(0, .inr (.inr 407)), (1, .inl x1_55)], [.inl (nf_M_isLetter x1_55)], M58)
        refine mm_s1 rfl ⟨fun c77 => ?_, fun c77 => ?_⟩
        · show mm_Go (mm_run 1) mc_M_takes _ (161, [(0, .inr (.inr 407)), (1, .inl x1_55)], [], M58)
          replace h := h.1 c77
          refine mm_s1 rfl ?_
          refine mm_s1 rfl ⟨trivial, ?_⟩
          refine np_M_isDigit (by decide) L N ?_
          show mm_Go (mm_run 1) mc_M_takes _ (165, [(0, .inr (.inr 407)), (1, .inl x1_55)], [.inl (nf_M_isDigit x1_55)], M58)
          refine mm_s1 rfl ⟨fun c165 => ?_, fun c165 => ?_⟩
          · show mm_Go (mm_run 1) mc_M_takes _ (266, [(0, .inr (.inr 407)), (1, .inl x1_55)], [], M58)
            replace h := h.1 c165
            refine mm_s1 rfl ?_
            refine mm_s1 rfl ?_
            refine mm_s1 rfl ⟨(nn_c407 NN).1, ?_⟩
            show mm_Go (mm_run 1) mc_M_takes _ (271, [(0, .inr (.inr 407)), (1, .inl x1_55)], [.inl (nn_rf M58 407 4), .inr (.inr 407)], M58)
            refine mm_s1 rfl ?_
            refine mm_s1 rfl ?_
            refine mm_s1 rfl ⟨(nn_c407 NN).1, ?_⟩
            show mm_Go (mm_run 1) mc_M_takes _ (276, [(0, .inr (.inr 407)), (1, .inl x1_55)], [], (nn_uf M58 407 4 (mm_w ((nn_rf M58 407 4) + 1))))
            have L : nn_L (nn_uf M58 407 4 (mm_w ((nn_rf M58 407 4) + 1))) := nn_L_up L (nn_c407 NN).1 rfl
            have N : (nn_uf M58 407 4 (mm_w ((nn_rf M58 407 4) + 1))).1 = n := N
            generalize e_M273 : (nn_uf M58 407 4 (mm_w ((nn_rf M58 407 4) + 1))) = M273 at L N ⊢
            replace h := h _ e_M273.symm
            show mm_Go (mm_run 1) mc_M_takes _ (276, [(0, .inr (.inr 407)), (1, .inl x1_55)], [], M273)
            refine mm_s1 rfl ?_
            refine mm_s1 rfl ?_
            refine mm_s1 rfl ?_
            refine mm_s1 rfl ⟨(nn_c407 NN).1, ?_⟩
            show mm_Go (mm_run 1) mc_M_takes _ (282, [(0, .inr (.inr 407)), (1, .inl x1_55)], [], (nn_uf M273 407 9 x1_55))
            have L : nn_L (nn_uf M273 407 9 x1_55) := nn_L_up L (nn_c407 NN).1 rfl
            have N : (nn_uf M273 407 9 x1_55).1 = n := N
            generalize e_M279 : (nn_uf M273 407 9 x1_55) = M279 at L N ⊢
            replace h := h _ e_M279.symm
            show mm_Go (mm_run 1) mc_M_takes _ (282, [(0, .inr (.inr 407)), (1, .inl x1_55)], [], M279)
            refine mm_s1 rfl ?_
            refine mm_s1 rfl ?_
            refine mm_s1 rfl ?_
            refine mm_s1 rfl ⟨fun c286 => ?_, fun c286 => ?_⟩
            · show mm_Go (mm_run 1) mc_M_takes _ (313, [(0, .inr (.inr 407)), (1, .inl x1_55)], [.inr (.inr 407)], M279)
              refine mm_s1 rfl ?_
              refine mm_s1 rfl ?_
              show mm_Go (mm_run 1) mc_M_takes _ (318, [(0, .inr (.inr 407)), (1, .inl x1_55)], [.inl 3, .inr (.inr 407)], M279)
              replace h := h.1 (Or.inl c286)
              refine mm_s1 rfl ⟨(nn_c407 NN).1, ?_⟩
              show mm_Go (mm_run 1) mc_M_takes _ (321, [(0, .inr (.inr 407)), (1, .inl x1_55)], [], (nn_uf M279 407 5 3))
              have L : nn_L (nn_uf M279 407 5 3) := nn_L_up L (nn_c407 NN).1 rfl
              have N : (nn_uf M279 407 5 3).1 = n := N
              generalize e_M318 : (nn_uf M279 407 5 3) = M318 at L N ⊢
              replace h := h _ e_M318.symm
              show mm_Go (mm_run 1) mc_M_takes _ (321, [(0, .inr (.inr 407)), (1, .inl x1_55)], [], M318)
              exact mm_s1 rfl ⟨rfl, L, N, h⟩
            · show mm_Go (mm_run 1) mc_M_takes _ (289, [(0, .inr (.inr 407)), (1, .inl x1_55)], [.inr (.inr 407)], M279)
              refine mm_s1 rfl ?_
              refine mm_s1 rfl ?_
              refine mm_s1 rfl ⟨fun c292 => ?_, fun c292 => ?_⟩
              · show mm_Go (mm_run 1) mc_M_takes _ (313, [(0, .inr (.inr 407)), (1, .inl x1_55)], [.inr (.inr 407)], M279)
                refine mm_s1 rfl ?_
                refine mm_s1 rfl ?_
                show mm_Go (mm_run 1) mc_M_takes _ (318, [(0, .inr (.inr 407)), (1, .inl x1_55)], [.inl 3, .inr (.inr 407)], M279)
                replace h := h.1 (Or.inr (Or.inl c292))
                refine mm_s1 rfl ⟨(nn_c407 NN).1, ?_⟩
                show mm_Go (mm_run 1) mc_M_takes _ (321, [(0, .inr (.inr 407)), (1, .inl x1_55)], [], (nn_uf M279 407 5 3))
                have L : nn_L (nn_uf M279 407 5 3) := nn_L_up L (nn_c407 NN).1 rfl
                have N : (nn_uf M279 407 5 3).1 = n := N
                generalize e_M318 : (nn_uf M279 407 5 3) = M318 at L N ⊢
                replace h := h _ e_M318.symm
                show mm_Go (mm_run 1) mc_M_takes _ (321, [(0, .inr (.inr 407)), (1, .inl x1_55)], [], M318)
                exact mm_s1 rfl ⟨rfl, L, N, h⟩
              · show mm_Go (mm_run 1) mc_M_takes _ (295, [(0, .inr (.inr 407)), (1, .inl x1_55)], [.inr (.inr 407)], M279)
                refine mm_s1 rfl ?_
                refine mm_s1 rfl ?_
                refine mm_s1 rfl ⟨fun c298 => ?_, fun c298 => ?_⟩
                · show mm_Go (mm_run 1) mc_M_takes _ (313, [(0, .inr (.inr 407)), (1, .inl x1_55)], [.inr (.inr 407)], M279)
                  refine mm_s1 rfl ?_
                  refine mm_s1 rfl ?_
                  show mm_Go (mm_run 1) mc_M_takes _ (318, [(0, .inr (.inr 407)), (1, .inl x1_55)], [.inl 3, .inr (.inr 407)], M279)
                  replace h := h.1 (Or.inr (Or.inr (Or.inl c298)))
                  refine mm_s1 rfl ⟨(nn_c407 NN).1, ?_⟩
                  show mm_Go (mm_run 1) mc_M_takes _ (321, [(0, .inr (.inr 407)), (1, .inl x1_55)], [], (nn_uf M279 407 5 3))
                  have L : nn_L (nn_uf M279 407 5 3) := nn_L_up L (nn_c407 NN).1 rfl
                  have N : (nn_uf M279 407 5 3).1 = n := N
                  generalize e_M318 : (nn_uf M279 407 5 3) = M318 at L N ⊢
                  replace h := h _ e_M318.symm
                  show mm_Go (mm_run 1) mc_M_takes _ (321, [(0, .inr (.inr 407)), (1, .inl x1_55)], [], M318)
                  exact mm_s1 rfl ⟨rfl, L, N, h⟩
                · show mm_Go (mm_run 1) mc_M_takes _ (301, [(0, .inr (.inr 407)), (1, .inl x1_55)], [.inr (.inr 407)], M279)
                  refine mm_s1 rfl ?_
                  refine mm_s1 rfl ?_
                  refine mm_s1 rfl ⟨fun c304 => ?_, fun c304 => ?_⟩
                  · show mm_Go (mm_run 1) mc_M_takes _ (313, [(0, .inr (.inr 407)), (1, .inl x1_55)], [.inr (.inr 407)], M279)
                    refine mm_s1 rfl ?_
                    refine mm_s1 rfl ?_
                    show mm_Go (mm_run 1) mc_M_takes _ (318, [(0, .inr (.inr 407)), (1, .inl x1_55)], [.inl 3, .inr (.inr 407)], M279)
                    replace h := h.1 (Or.inr (Or.inr (Or.inr (Or.inl c304))))
                    refine mm_s1 rfl ⟨(nn_c407 NN).1, ?_⟩
                    show mm_Go (mm_run 1) mc_M_takes _ (321, [(0, .inr (.inr 407)), (1, .inl x1_55)], [], (nn_uf M279 407 5 3))
                    have L : nn_L (nn_uf M279 407 5 3) := nn_L_up L (nn_c407 NN).1 rfl
                    have N : (nn_uf M279 407 5 3).1 = n := N
                    generalize e_M318 : (nn_uf M279 407 5 3) = M318 at L N ⊢
                    replace h := h _ e_M318.symm
                    show mm_Go (mm_run 1) mc_M_takes _ (321, [(0, .inr (.inr 407)), (1, .inl x1_55)], [], M318)
                    exact mm_s1 rfl ⟨rfl, L, N, h⟩
                  · show mm_Go (mm_run 1) mc_M_takes _ (307, [(0, .inr (.inr 407)), (1, .inl x1_55)], [.inr (.inr 407)], M279)
                    refine mm_s1 rfl ?_
                    refine mm_s1 rfl ?_
                    refine mm_s1 rfl ⟨fun c310 => ?_, fun c310 => ?_⟩
                    · show mm_Go (mm_run 1) mc_M_takes _ (317, [(0, .inr (.inr 407)), (1, .inl x1_55)], [.inr (.inr 407)], M279)
                      refine mm_s1 rfl ?_
                      replace h := h.2 ⟨c286, ⟨c292, ⟨c298, ⟨c304, c310⟩⟩⟩⟩
                      refine mm_s1 rfl ⟨(nn_c407 NN).1, ?_⟩
                      show mm_Go (mm_run 1) mc_M_takes _ (321, [(0, .inr (.inr 407)), (1, .inl x1_55)], [], (nn_uf M279 407 5 4))
                      have L : nn_L (nn_uf M279 407 5 4) := nn_L_up L (nn_c407 NN).1 rfl
                      have N : (nn_uf M279 407 5 4).1 = n := N
                      generalize e_M318 : (nn_uf M279 407 5 4) = M318 at L N ⊢
                      replace h := h _ e_M318.symm
                      show mm_Go (mm_run 1) mc_M_takes _ (321, [(0, .inr (.inr 407)), (1, .inl x1_55)], [], M318)
                      exact mm_s1 rfl ⟨rfl, L, N, h⟩
                    · show mm_Go (mm_run 1) mc_M_takes _ (313, [(0, .inr (.inr 407)), (1, .inl x1_55)], [.inr (.inr 407)], M279)
                      replace c310 := Decidable.not_not.mp c310
                      refine mm_s1 rfl ?_
                      refine mm_s1 rfl ?_
                      show mm_Go (mm_run 1) mc_M_takes _ (318, [(0, .inr (.inr 407)), (1, .inl x1_55)], [.inl 3, .inr (.inr 407)], M279)
                      replace h := h.1 (Or.inr (Or.inr (Or.inr (Or.inr c310))))
                      refine mm_s1 rfl ⟨(nn_c407 NN).1, ?_⟩
                      show mm_Go (mm_run 1) mc_M_takes _ (321, [(0, .inr (.inr 407)), (1, .inl x1_55)], [], (nn_uf M279 407 5 3))
                      have L : nn_L (nn_uf M279 407 5 3) := nn_L_up L (nn_c407 NN).1 rfl
                      have N : (nn_uf M279 407 5 3).1 = n := N
                      generalize e_M318 : (nn_uf M279 407 5 3) = M318 at L N ⊢
                      replace h := h _ e_M318.symm
                      show mm_Go (mm_run 1) mc_M_takes _ (321, [(0, .inr (.inr 407)), (1, .inl x1_55)], [], M318)
                      exact mm_s1 rfl ⟨rfl, L, N, h⟩
          · show mm_Go (mm_run 1) mc_M_takes _ (168, [(0, .inr (.inr 407)), (1, .inl x1_55)], [], M58)
            replace h := h.2 c165
            exact nn_go_ext (nn_xc rfl nn_xn) (h n L N)
        · show mm_Go (mm_run 1) mc_M_takes _ (80, [(0, .inr (.inr 407)), (1, .inl x1_55)], [], M58)
          replace h := h.2 c77
          refine mm_s1 rfl ?_
          refine mm_s1 rfl ?_
          refine mm_s1 rfl ⟨(nn_c407 NN).1, ?_⟩
          show mm_Go (mm_run 1) mc_M_takes _ (85, [(0, .inr (.inr 407)), (1, .inl x1_55)], [], (nn_uf M58 407 5 1))
          have L : nn_L (nn_uf M58 407 5 1) := nn_L_up L (nn_c407 NN).1 rfl
          have N : (nn_uf M58 407 5 1).1 = n := N
          generalize e_M82 : (nn_uf M58 407 5 1) = M82 at L N ⊢
          replace h := h _ e_M82.symm
          show mm_Go (mm_run 1) mc_M_takes _ (85, [(0, .inr (.inr 407)), (1, .inl x1_55)], [], M82)
          exact nn_go_ext (nn_xc rfl nn_xn) (h n L N)
      · show mm_Go (mm_run 1) mc_M_takes _ (65, [(0, .inr (.inr 407)), (1, .inl x1_55)], [], M58)
        replace c62 := Int.not_le.mp c62
        replace h := h.2 c62
        refine mm_s1 rfl ?_
        refine mm_s1 rfl ?_
        refine mm_s1 rfl ⟨(nn_c407 NN).1, ?_⟩
        show mm_Go (mm_run 1) mc_M_takes _ (70, [(0, .inr (.inr 407)), (1, .inl x1_55)], [], (nn_uf M58 407 5 0))
        have L : nn_L (nn_uf M58 407 5 0) := nn_L_up L (nn_c407 NN).1 rfl
        have N : (nn_uf M58 407 5 0).1 = n := N
        generalize e_M67 : (nn_uf M58 407 5 0) = M67 at L N ⊢
        replace h := h _ e_M67.symm
        show mm_Go (mm_run 1) mc_M_takes _ (70, [(0, .inr (.inr 407)), (1, .inl x1_55)], [], M67)
        refine mm_s1 rfl ?_
        show mm_Go (mm_run 1) mc_M_takes _ (321, [(0, .inr (.inr 407)), (1, .inl x1_55)], [], M67)
        exact mm_s1 rfl ⟨rfl, L, N, h⟩
    · show mm_Go (mm_run 1) mc_M_takes _ (26, [(0, .inr (.inr 407))], [], M)
      replace c23 := Decidable.not_not.mp c23
      refine mm_s1 rfl ?_
      refine mm_s1 rfl ?_
      refine mm_s1 rfl ⟨(nn_c407 NN).1, ?_⟩
      show mm_Go (mm_run 1) mc_M_takes _ (31, [(0, .inr (.inr 407))], [.inl (nn_rf M 407 4), .inr (.inr 407)], M)
      refine mm_s1 rfl ?_
      refine mm_s1 rfl ?_
      replace h := h.2.1 (Or.inr c23)
      refine mm_s1 rfl ⟨(nn_c407 NN).1, ?_⟩
      show mm_Go (mm_run 1) mc_M_takes _ (36, [(0, .inr (.inr 407))], [], (nn_uf M 407 4 (mm_w ((nn_rf M 407 4) + 1))))
      have L : nn_L (nn_uf M 407 4 (mm_w ((nn_rf M 407 4) + 1))) := nn_L_up L (nn_c407 NN).1 rfl
      have N : (nn_uf M 407 4 (mm_w ((nn_rf M 407 4) + 1))).1 = n := N
      generalize e_M33 : (nn_uf M 407 4 (mm_w ((nn_rf M 407 4) + 1))) = M33 at L N ⊢
      replace h := h _ e_M33.symm
      show mm_Go (mm_run 1) mc_M_takes _ (36, [(0, .inr (.inr 407))], [], M33)
      refine mm_s1 rfl ?_
      show mm_Go (mm_run 1) mc_M_takes _ (0, [(0, .inr (.inr 407))], [], M33)
      exact nn_go_ext (nn_xc rfl nn_xn) (h n L N)
set_option maxRecDepth 20000 in
theorem ng_M_takes_168  (M : mm_M) (R : mm_M → Prop) (h : ((nc_M_byteAt (nn_rf M 407 4) M) ∧ (((nf_M_isDigit (nf_M_byteAt (nn_rf M 407 4) M)) = 0 → (((mm_w ((nn_rf M 407 4) - (nn_rf M 407 6))) ≤ 2 → (∀ M260 : mm_M, M260 = nn_uf M 407 5 2 → R M260)) ∧ (2 < (mm_w ((nn_rf M 407 4) - (nn_rf M 407 6))) → (∀ M260 : mm_M, M260 = nn_uf M 407 5 4 → R M260)))) ∧ ((nf_M_isDigit (nf_M_byteAt (nn_rf M 407 4) M)) ≠ 0 → ((2 ≤ (mm_w ((nn_rf M 407 4) - (nn_rf M 407 6))) → (∀ M225 : mm_M, M225 = nn_uf M 407 9 (nn_rf M 407 9) → (∀ M235 : mm_M, M235 = nn_uf M225 407 4 (mm_w ((nn_rf M225 407 4) + 1)) → nk_M_takes_168 M235 R))) ∧ ((mm_w ((nn_rf M 407 4) - (nn_rf M 407 6))) < 2 → ((nc_M_byteAt (nn_rf M 407 4) M) ∧ (∀ M225 : mm_M, M225 = nn_uf M 407 9 (mm_w64 ((mm_w64 ((mm_w64 (10 * (nn_rf M 407 9))) + (nf_M_byteAt (nn_rf M 407 4) M))) - 48)) → (∀ M235 : mm_M, M235 = nn_uf M225 407 4 (mm_w ((nn_rf M225 407 4) + 1)) → nk_M_takes_168 M235 R))))))))) : nk_M_takes_168  M R := by
  intro n L N 
  have NN := nn_L_n L N
  show mm_Go (mm_run 1) mc_M_takes _ (168, [(0, .inr (.inr 407))], [], M)
  refine mm_s1 rfl ?_
  refine mm_s1 rfl ?_
  refine mm_s1 rfl ⟨(nn_c407 NN).1, ?_⟩
  show mm_Go (mm_run 1) mc_M_takes _ (173, [(0, .inr (.inr 407))], [.inl (nn_rf M 407 4), .inr (.inr 407)], M)
  obtain ⟨b173, h⟩ := h
  refine mm_s1 rfl ⟨(nn_c407 NN).1, ?_⟩
  refine np_M_byteAt (by decide) L N b173 ?_
  show mm_Go (mm_run 1) mc_M_takes _ (176, [(0, .inr (.inr 407))], [.inl (nf_M_byteAt (nn_rf M 407 4) M)], M)
  refine mm_s1 rfl ⟨trivial, ?_⟩
  refine np_M_isDigit (by decide) L N ?_
  show mm_Go (mm_run 1) mc_M_takes _ (179, [(0, .inr (.inr 407))], [.inl (nf_M_isDigit (nf_M_byteAt (nn_rf M 407 4) M))], M)
  refine mm_s1 rfl ⟨fun c179 => ?_, fun c179 => ?_⟩
  · show mm_Go (mm_run 1) mc_M_takes _ (241, [(0, .inr (.inr 407))], [], M)
    replace h := h.1 c179
    refine mm_s1 rfl ?_
    refine mm_s1 rfl ?_
    refine mm_s1 rfl ⟨(nn_c407 NN).1, ?_⟩
    show mm_Go (mm_run 1) mc_M_takes _ (246, [(0, .inr (.inr 407))], [.inl (nn_rf M 407 4), .inr (.inr 407)], M)
    refine mm_s1 rfl ?_
    refine mm_s1 rfl ⟨(nn_c407 NN).1, ?_⟩
    show mm_Go (mm_run 1) mc_M_takes _ (250, [(0, .inr (.inr 407))], [.inl (nn_rf M 407 6), .inl (nn_rf M 407 4), .inr (.inr 407)], M)
    refine mm_s1 rfl ?_
    refine mm_s1 rfl ?_
    refine mm_s1 rfl ⟨fun c252 => ?_, fun c252 => ?_⟩
    · show mm_Go (mm_run 1) mc_M_takes _ (259, [(0, .inr (.inr 407))], [.inr (.inr 407)], M)
      replace h := h.1 c252
      refine mm_s1 rfl ?_
      refine mm_s1 rfl ⟨(nn_c407 NN).1, ?_⟩
      show mm_Go (mm_run 1) mc_M_takes _ (263, [(0, .inr (.inr 407))], [], (nn_uf M 407 5 2))
      have L : nn_L (nn_uf M 407 5 2) := nn_L_up L (nn_c407 NN).1 rfl
      have N : (nn_uf M 407 5 2).1 = n := N
      generalize e_M260 : (nn_uf M 407 5 2) = M260 at L N ⊢
      replace h := h _ e_M260.symm
      show mm_Go (mm_run 1) mc_M_takes _ (263, [(0, .inr (.inr 407))], [], M260)
      refine mm_s1 rfl ?_
      show mm_Go (mm_run 1) mc_M_takes _ (321, [(0, .inr (.inr 407))], [], M260)
      exact mm_s1 rfl ⟨rfl, L, N, h⟩
    · show mm_Go (mm_run 1) mc_M_takes _ (255, [(0, .inr (.inr 407))], [.inr (.inr 407)], M)
      replace c252 := Int.not_le.mp c252
      replace h := h.2 c252
      refine mm_s1 rfl ?_
      refine mm_s1 rfl ?_
      show mm_Go (mm_run 1) mc_M_takes _ (260, [(0, .inr (.inr 407))], [.inl 4, .inr (.inr 407)], M)
      refine mm_s1 rfl ⟨(nn_c407 NN).1, ?_⟩
      show mm_Go (mm_run 1) mc_M_takes _ (263, [(0, .inr (.inr 407))], [], (nn_uf M 407 5 4))
      have L : nn_L (nn_uf M 407 5 4) := nn_L_up L (nn_c407 NN).1 rfl
      have N : (nn_uf M 407 5 4).1 = n := N
      generalize e_M260 : (nn_uf M 407 5 4) = M260 at L N ⊢
      replace h := h _ e_M260.symm
      show mm_Go (mm_run 1) mc_M_takes _ (263, [(0, .inr (.inr 407))], [], M260)
      refine mm_s1 rfl ?_
      show mm_Go (mm_run 1) mc_M_takes _ (321, [(0, .inr (.inr 407))], [], M260)
      exact mm_s1 rfl ⟨rfl, L, N, h⟩
  · show mm_Go (mm_run 1) mc_M_takes _ (182, [(0, .inr (.inr 407))], [], M)
    replace h := h.2 c179
    refine mm_s1 rfl ?_
    refine mm_s1 rfl ?_
    refine mm_s1 rfl ⟨(nn_c407 NN).1, ?_⟩
    show mm_Go (mm_run 1) mc_M_takes _ (187, [(0, .inr (.inr 407))], [.inl (nn_rf M 407 4), .inr (.inr 407)], M)
    refine mm_s1 rfl ?_
    refine mm_s1 rfl ⟨(nn_c407 NN).1, ?_⟩
    show mm_Go (mm_run 1) mc_M_takes _ (191, [(0, .inr (.inr 407))], [.inl (nn_rf M 407 6), .inl (nn_rf M 407 4), .inr (.inr 407)], M)
    refine mm_s1 rfl ?_
    refine mm_s1 rfl ?_
    refine mm_s1 rfl ⟨fun c193 => ?_, fun c193 => ?_⟩
    · show mm_Go (mm_run 1) mc_M_takes _ (221, [(0, .inr (.inr 407))], [.inr (.inr 407)], M)
      replace h := h.1 c193
      refine mm_s1 rfl ?_
      refine mm_s1 rfl ⟨(nn_c407 NN).1, ?_⟩
      show mm_Go (mm_run 1) mc_M_takes _ (225, [(0, .inr (.inr 407))], [.inr (.inl (nn_rf M 407 9)), .inr (.inr 407)], M)
      refine mm_s1 rfl ⟨(nn_c407 NN).1, ?_⟩
      show mm_Go (mm_run 1) mc_M_takes _ (228, [(0, .inr (.inr 407))], [], (nn_uf M 407 9 (nn_rf M 407 9)))
      have L : nn_L (nn_uf M 407 9 (nn_rf M 407 9)) := nn_L_up L (nn_c407 NN).1 rfl
      have N : (nn_uf M 407 9 (nn_rf M 407 9)).1 = n := N
      generalize e_M225 : (nn_uf M 407 9 (nn_rf M 407 9)) = M225 at L N ⊢
      replace h := h _ e_M225.symm
      show mm_Go (mm_run 1) mc_M_takes _ (228, [(0, .inr (.inr 407))], [], M225)
      refine mm_s1 rfl ?_
      refine mm_s1 rfl ?_
      refine mm_s1 rfl ⟨(nn_c407 NN).1, ?_⟩
      show mm_Go (mm_run 1) mc_M_takes _ (233, [(0, .inr (.inr 407))], [.inl (nn_rf M225 407 4), .inr (.inr 407)], M225)
      refine mm_s1 rfl ?_
      refine mm_s1 rfl ?_
      refine mm_s1 rfl ⟨(nn_c407 NN).1, ?_⟩
      show mm_Go (mm_run 1) mc_M_takes _ (238, [(0, .inr (.inr 407))], [], (nn_uf M225 407 4 (mm_w ((nn_rf M225 407 4) + 1))))
      have L : nn_L (nn_uf M225 407 4 (mm_w ((nn_rf M225 407 4) + 1))) := nn_L_up L (nn_c407 NN).1 rfl
      have N : (nn_uf M225 407 4 (mm_w ((nn_rf M225 407 4) + 1))).1 = n := N
      generalize e_M235 : (nn_uf M225 407 4 (mm_w ((nn_rf M225 407 4) + 1))) = M235 at L N ⊢
      replace h := h _ e_M235.symm
      show mm_Go (mm_run 1) mc_M_takes _ (238, [(0, .inr (.inr 407))], [], M235)
      refine mm_s1 rfl ?_
      show mm_Go (mm_run 1) mc_M_takes _ (168, [(0, .inr (.inr 407))], [], M235)
      exact nn_go_ext (nn_xc rfl nn_xn) (h n L N)
    · show mm_Go (mm_run 1) mc_M_takes _ (196, [(0, .inr (.inr 407))], [.inr (.inr 407)], M)
      replace c193 := Int.not_le.mp c193
      replace h := h.2 c193
      refine mm_s1 rfl ?_
      refine mm_s1 rfl ?_
      refine mm_s1 rfl ⟨(nn_c407 NN).1, ?_⟩
      show mm_Go (mm_run 1) mc_M_takes _ (203, [(0, .inr (.inr 407))], [.inr (.inl (nn_rf M 407 9)), .inr (.inl 10), .inr (.inr 407)], M)
      refine mm_s1 rfl ?_
      refine mm_s1 rfl ?_
      refine mm_s1 rfl ?_
      refine mm_s1 rfl ⟨(nn_c407 NN).1, ?_⟩
      show mm_Go (mm_run 1) mc_M_takes _ (209, [(0, .inr (.inr 407))], [.inl (nn_rf M 407 4), .inr (.inr 407), .inr (.inl (mm_w64 (10 * (nn_rf M 407 9)))), .inr (.inr 407)], M)
      obtain ⟨b209, h⟩ := h
      refine mm_s1 rfl ⟨(nn_c407 NN).1, ?_⟩
      refine np_M_byteAt (by decide) L N b209 ?_
      show mm_Go (mm_run 1) mc_M_takes _ (212, [(0, .inr (.inr 407))], [.inl (nf_M_byteAt (nn_rf M 407 4) M), .inr (.inl (mm_w64 (10 * (nn_rf M 407 9)))), .inr (.inr 407)], M)
      refine mm_s1 rfl ?_
      refine mm_s1 rfl ?_
      refine mm_s1 rfl ?_
      refine mm_s1 rfl ?_
      refine mm_s1 rfl ?_
      show mm_Go (mm_run 1) mc_M_takes _ (225, [(0, .inr (.inr 407))], [.inr (.inl (mm_w64 ((mm_w64 ((mm_w64 (10 * (nn_rf M 407 9))) + (nf_M_byteAt (nn_rf M 407 4) M))) - 48))), .inr (.inr 407)], M)
      refine mm_s1 rfl ⟨(nn_c407 NN).1, ?_⟩
      show mm_Go (mm_run 1) mc_M_takes _ (228, [(0, .inr (.inr 407))], [], (nn_uf M 407 9 (mm_w64 ((mm_w64 ((mm_w64 (10 * (nn_rf M 407 9))) + (nf_M_byteAt (nn_rf M 407 4) M))) - 48))))
      have L : nn_L (nn_uf M 407 9 (mm_w64 ((mm_w64 ((mm_w64 (10 * (nn_rf M 407 9))) + (nf_M_byteAt (nn_rf M 407 4) M))) - 48))) := nn_L_up L (nn_c407 NN).1 rfl
      have N : (nn_uf M 407 9 (mm_w64 ((mm_w64 ((mm_w64 (10 * (nn_rf M 407 9))) + (nf_M_byteAt (nn_rf M 407 4) M))) - 48))).1 = n := N
      generalize e_M225 : (nn_uf M 407 9 (mm_w64 ((mm_w64 ((mm_w64 (10 * (nn_rf M 407 9))) + (nf_M_byteAt (nn_rf M 407 4) M))) - 48))) = M225 at L N ⊢
      replace h := h _ e_M225.symm
      show mm_Go (mm_run 1) mc_M_takes _ (228, [(0, .inr (.inr 407))], [], M225)
      refine mm_s1 rfl ?_
      refine mm_s1 rfl ?_
      refine mm_s1 rfl ⟨(nn_c407 NN).1, ?_⟩
      show mm_Go (mm_run 1) mc_M_takes _ (233, [(0, .inr (.inr 407))], [.inl (nn_rf M225 407 4), .inr (.inr 407)], M225)
      refine mm_s1 rfl ?_
      refine mm_s1 rfl ?_
      refine mm_s1 rfl ⟨(nn_c407 NN).1, ?_⟩
      show mm_Go (mm_run 1) mc_M_takes _ (238, [(0, .inr (.inr 407))], [], (nn_uf M225 407 4 (mm_w ((nn_rf M225 407 4) + 1))))
      have L : nn_L (nn_uf M225 407 4 (mm_w ((nn_rf M225 407 4) + 1))) := nn_L_up L (nn_c407 NN).1 rfl
      have N : (nn_uf M225 407 4 (mm_w ((nn_rf M225 407 4) + 1))).1 = n := N
      generalize e_M235 : (nn_uf M225 407 4 (mm_w ((nn_rf M225 407 4) + 1))) = M235 at L N ⊢
      replace h := h _ e_M235.symm
      show mm_Go (mm_run 1) mc_M_takes _ (238, [(0, .inr (.inr 407))], [], M235)
      refine mm_s1 rfl ?_
      show mm_Go (mm_run 1) mc_M_takes _ (168, [(0, .inr (.inr 407))], [], M235)
      exact nn_go_ext (nn_xc rfl nn_xn) (h n L N)
set_option maxRecDepth 20000 in
theorem ng_M_takes_85  (M : mm_M) (R : mm_M → Prop) (h : ((nc_M_byteAt (nn_rf M 407 4) M) ∧ (((nf_M_isLetter (nf_M_byteAt (nn_rf M 407 4) M)) = 0 → R M) ∧ ((nf_M_isLetter (nf_M_byteAt (nn_rf M 407 4) M)) ≠ 0 → ((7 ≤ (mm_w ((nn_rf M 407 4) - (nn_rf M 407 6))) → (∀ M145 : mm_M, M145 = nn_uf M 407 9 (nn_rf M 407 9) → (∀ M155 : mm_M, M155 = nn_uf M145 407 4 (mm_w ((nn_rf M145 407 4) + 1)) → nk_M_takes_85 M155 R))) ∧ ((mm_w ((nn_rf M 407 4) - (nn_rf M 407 6))) < 7 → ((nc_M_byteAt (nn_rf M 407 4) M) ∧ (∀ M145 : mm_M, M145 = nn_uf M 407 9 (mm_w64 ((mm_w64 ((mm_w64 ((mm_w64 (27 * (nn_rf M 407 9))) + (nf_M_byteAt (nn_rf M 407 4) M))) - 97)) + 1)) → (∀ M155 : mm_M, M155 = nn_uf M145 407 4 (mm_w ((nn_rf M145 407 4) + 1)) → nk_M_takes_85 M155 R))))))))) : nk_M_takes_85  M R := by
  intro n L N 
  have NN := nn_L_n L N
  show mm_Go (mm_run 1) mc_M_takes _ (85, [(0, .inr (.inr 407))], [], M)
  refine mm_s1 rfl ?_
  refine mm_s1 rfl ?_
  refine mm_s1 rfl ⟨(nn_c407 NN).1, ?_⟩
  show mm_Go (mm_run 1) mc_M_takes _ (90, [(0, .inr (.inr 407))], [.inl (nn_rf M 407 4), .inr (.inr 407)], M)
  obtain ⟨b90, h⟩ := h
  refine mm_s1 rfl ⟨(nn_c407 NN).1, ?_⟩
  refine np_M_byteAt (by decide) L N b90 ?_
  show mm_Go (mm_run 1) mc_M_takes _ (93, [(0, .inr (.inr 407))], [.inl (nf_M_byteAt (nn_rf M 407 4) M)], M)
  refine mm_s1 rfl ⟨trivial, ?_⟩
  refine np_M_isLetter (by decide) L N ?_
  show mm_Go (mm_run 1) mc_M_takes _ (96, [(0, .inr (.inr 407))], [.inl (nf_M_isLetter (nf_M_byteAt (nn_rf M 407 4) M))], M)
  refine mm_s1 rfl ⟨fun c96 => ?_, fun c96 => ?_⟩
  · show mm_Go (mm_run 1) mc_M_takes _ (321, [(0, .inr (.inr 407))], [], M)
    replace h := h.1 c96
    exact mm_s1 rfl ⟨rfl, L, N, h⟩
  · show mm_Go (mm_run 1) mc_M_takes _ (99, [(0, .inr (.inr 407))], [], M)
    replace h := h.2 c96
    refine mm_s1 rfl ?_
    refine mm_s1 rfl ?_
    refine mm_s1 rfl ⟨(nn_c407 NN).1, ?_⟩
    show mm_Go (mm_run 1) mc_M_takes _ (104, [(0, .inr (.inr 407))], [.inl (nn_rf M 407 4), .inr (.inr 407)], M)
    refine mm_s1 rfl ?_
    refine mm_s1 rfl ⟨(nn_c407 NN).1, ?_⟩
    show mm_Go (mm_run 1) mc_M_takes _ (108, [(0, .inr (.inr 407))], [.inl (nn_rf M 407 6), .inl (nn_rf M 407 4), .inr (.inr 407)], M)
    refine mm_s1 rfl ?_
    refine mm_s1 rfl ?_
    refine mm_s1 rfl ⟨fun c111 => ?_, fun c111 => ?_⟩
    · show mm_Go (mm_run 1) mc_M_takes _ (141, [(0, .inr (.inr 407))], [.inr (.inr 407)], M)
      replace h := h.1 c111
      refine mm_s1 rfl ?_
      refine mm_s1 rfl ⟨(nn_c407 NN).1, ?_⟩
      show mm_Go (mm_run 1) mc_M_takes _ (145, [(0, .inr (.inr 407))], [.inr (.inl (nn_rf M 407 9)), .inr (.inr 407)], M)
      refine mm_s1 rfl ⟨(nn_c407 NN).1, ?_⟩
      show mm_Go (mm_run 1) mc_M_takes _ (148, [(0, .inr (.inr 407))], [], (nn_uf M 407 9 (nn_rf M 407 9)))
      have L : nn_L (nn_uf M 407 9 (nn_rf M 407 9)) := nn_L_up L (nn_c407 NN).1 rfl
      have N : (nn_uf M 407 9 (nn_rf M 407 9)).1 = n := N
      generalize e_M145 : (nn_uf M 407 9 (nn_rf M 407 9)) = M145 at L N ⊢
      replace h := h _ e_M145.symm
      show mm_Go (mm_run 1) mc_M_takes _ (148, [(0, .inr (.inr 407))], [], M145)
      refine mm_s1 rfl ?_
      refine mm_s1 rfl ?_
      refine mm_s1 rfl ⟨(nn_c407 NN).1, ?_⟩
      show mm_Go (mm_run 1) mc_M_takes _ (153, [(0, .inr (.inr 407))], [.inl (nn_rf M145 407 4), .inr (.inr 407)], M145)
      refine mm_s1 rfl ?_
      refine mm_s1 rfl ?_
      refine mm_s1 rfl ⟨(nn_c407 NN).1, ?_⟩
      show mm_Go (mm_run 1) mc_M_takes _ (158, [(0, .inr (.inr 407))], [], (nn_uf M145 407 4 (mm_w ((nn_rf M145 407 4) + 1))))
      have L : nn_L (nn_uf M145 407 4 (mm_w ((nn_rf M145 407 4) + 1))) := nn_L_up L (nn_c407 NN).1 rfl
      have N : (nn_uf M145 407 4 (mm_w ((nn_rf M145 407 4) + 1))).1 = n := N
      generalize e_M155 : (nn_uf M145 407 4 (mm_w ((nn_rf M145 407 4) + 1))) = M155 at L N ⊢
      replace h := h _ e_M155.symm
      show mm_Go (mm_run 1) mc_M_takes _ (158, [(0, .inr (.inr 407))], [], M155)
      refine mm_s1 rfl ?_
      show mm_Go (mm_run 1) mc_M_takes _ (85, [(0, .inr (.inr 407))], [], M155)
      exact nn_go_ext (nn_xc rfl nn_xn) (h n L N)
    · show mm_Go (mm_run 1) mc_M_takes _ (114, [(0, .inr (.inr 407))], [.inr (.inr 407)], M)
      replace c111 := Int.not_le.mp c111
      replace h := h.2 c111
      refine mm_s1 rfl ?_
      refine mm_s1 rfl ?_
      refine mm_s1 rfl ⟨(nn_c407 NN).1, ?_⟩
      show mm_Go (mm_run 1) mc_M_takes _ (121, [(0, .inr (.inr 407))], [.inr (.inl (nn_rf M 407 9)), .inr (.inl 27), .inr (.inr 407)], M)
      refine mm_s1 rfl ?_
      refine mm_s1 rfl ?_
      refine mm_s1 rfl ?_
      refine mm_s1 rfl ⟨(nn_c407 NN).1, ?_⟩
      show mm_Go (mm_run 1) mc_M_takes _ (127, [(0, .inr (.inr 407))], [.inl (nn_rf M 407 4), .inr (.inr 407), .inr (.inl (mm_w64 (27 * (nn_rf M 407 9)))), .inr (.inr 407)], M)
      obtain ⟨b127, h⟩ := h
      refine mm_s1 rfl ⟨(nn_c407 NN).1, ?_⟩
      refine np_M_byteAt (by decide) L N b127 ?_
      show mm_Go (mm_run 1) mc_M_takes _ (130, [(0, .inr (.inr 407))], [.inl (nf_M_byteAt (nn_rf M 407 4) M), .inr (.inl (mm_w64 (27 * (nn_rf M 407 9)))), .inr (.inr 407)], M)
      refine mm_s1 rfl ?_
      refine mm_s1 rfl ?_
      refine mm_s1 rfl ?_
      refine mm_s1 rfl ?_
      refine mm_s1 rfl ?_
      show mm_Go (mm_run 1) mc_M_takes _ (137, [(0, .inr (.inr 407))], [.inr (.inl 1), .inr (.inl (mm_w64 ((mm_w64 ((mm_w64 (27 * (nn_rf M 407 9))) + (nf_M_byteAt (nn_rf M 407 4) M))) - 97))), .inr (.inr 407)], M)
      refine mm_s1 rfl ?_
      refine mm_s1 rfl ?_
      show mm_Go (mm_run 1) mc_M_takes _ (145, [(0, .inr (.inr 407))], [.inr (.inl (mm_w64 ((mm_w64 ((mm_w64 ((mm_w64 (27 * (nn_rf M 407 9))) + (nf_M_byteAt (nn_rf M 407 4) M))) - 97)) + 1))), .inr (.inr 407)], M)
      refine mm_s1 rfl ⟨(nn_c407 NN).1, ?_⟩
      show mm_Go (mm_run 1) mc_M_takes _ (148, [(0, .inr (.inr 407))], [], (nn_uf M 407 9 (mm_w64 ((mm_w64 ((mm_w64 ((mm_w64 (27 * (nn_rf M 407 9))) + (nf_M_byteAt (nn_rf M 407 4) M))) - 97)) + 1))))
      have L : nn_L (nn_uf M 407 9 (mm_w64 ((mm_w64 ((mm_w64 ((mm_w64 (27 * (nn_rf M 407 9))) + (nf_M_byteAt (nn_rf M 407 4) M))) - 97)) + 1))) := nn_L_up L (nn_c407 NN).1 rfl
      have N : (nn_uf M 407 9 (mm_w64 ((mm_w64 ((mm_w64 ((mm_w64 (27 * (nn_rf M 407 9))) + (nf_M_byteAt (nn_rf M 407 4) M))) - 97)) + 1))).1 = n := N
      generalize e_M145 : (nn_uf M 407 9 (mm_w64 ((mm_w64 ((mm_w64 ((mm_w64 (27 * (nn_rf M 407 9))) + (nf_M_byteAt (nn_rf M 407 4) M))) - 97)) + 1))) = M145 at L N ⊢
      replace h := h _ e_M145.symm
      show mm_Go (mm_run 1) mc_M_takes _ (148, [(0, .inr (.inr 407))], [], M145)
      refine mm_s1 rfl ?_
      refine mm_s1 rfl ?_
      refine mm_s1 rfl ⟨(nn_c407 NN).1, ?_⟩
      show mm_Go (mm_run 1) mc_M_takes _ (153, [(0, .inr (.inr 407))], [.inl (nn_rf M145 407 4), .inr (.inr 407)], M145)
      refine mm_s1 rfl ?_
      refine mm_s1 rfl ?_
      refine mm_s1 rfl ⟨(nn_c407 NN).1, ?_⟩
      show mm_Go (mm_run 1) mc_M_takes _ (158, [(0, .inr (.inr 407))], [], (nn_uf M145 407 4 (mm_w ((nn_rf M145 407 4) + 1))))
      have L : nn_L (nn_uf M145 407 4 (mm_w ((nn_rf M145 407 4) + 1))) := nn_L_up L (nn_c407 NN).1 rfl
      have N : (nn_uf M145 407 4 (mm_w ((nn_rf M145 407 4) + 1))).1 = n := N
      generalize e_M155 : (nn_uf M145 407 4 (mm_w ((nn_rf M145 407 4) + 1))) = M155 at L N ⊢
      replace h := h _ e_M155.symm
      show mm_Go (mm_run 1) mc_M_takes _ (158, [(0, .inr (.inr 407))], [], M155)
      refine mm_s1 rfl ?_
      show mm_Go (mm_run 1) mc_M_takes _ (85, [(0, .inr (.inr 407))], [], M155)
      exact nn_go_ext (nn_xc rfl nn_xn) (h n L N)
