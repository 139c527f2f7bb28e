/-! methods walked by program (wip/whole/dec.py) -/
def nr_M_repairs (v1 : Int) (v2 : Int) (M : mm_M) (R : Int → mm_M → Prop) : Prop := ∀ n, nn_L M → M.1 = n → mm_run 5 mi_M_repairs [.inr (.inr 407), .inl v1, .inl v2] M (nw_I n R)
def nk_M_repairs_30 (v1 : Int) (v3 : Int) (v4 : Int) (v5 : Int) (M : mm_M) (R : Int → mm_M → Prop) : Prop := ∀ n, nn_L M → M.1 = n → mm_Go (mm_run 4) mc_M_repairs (nw_I n R) (30, [(0, .inr (.inr 407)), (1, .inl v1), (3, .inl v3), (4, .inl v4), (5, .inl v5)], [], M)
def nk_M_repairs_88 (v1 : Int) (v3 : Int) (v4 : Int) (v5 : Int) (M : mm_M) (R : Int → mm_M → Prop) : Prop := ∀ n, nn_L M → M.1 = n → mm_Go (mm_run 4) mc_M_repairs (nw_I n R) (88, [(0, .inr (.inr 407)), (1, .inl v1), (3, .inl v3), (4, .inl v4), (5, .inl v5)], [], M)
set_option maxRecDepth 20000 in
theorem ng_M_repairs (v1 : Int) (v2 : Int) (M : mm_M) (R : Int → mm_M → Prop) (h : (((0 : Int) ≤ (mm_w ((nf_M_at v1 v2) + 6)) ∧ (mm_w ((nf_M_at v1 v2) + 6)) < (32844 : Int)) ∧ (∀ x4_15 : Int, x4_15 = nn_ri M 408 (mm_w ((nf_M_at v1 v2) + 6)) → (((0 : Int) ≤ (mm_w ((nf_M_at v1 v2) + 6)) ∧ (mm_w ((nf_M_at v1 v2) + 6)) < (32844 : Int)) ∧ (∀ x5_28 : Int, x5_28 = mm_w ((nn_ri M 408 (mm_w ((nf_M_at v1 v2) + 6))) - 1) → nk_M_repairs_30 v1 (nf_M_at v1 v2) x4_15 x5_28 M R))))) : nr_M_repairs v1 v2 M R := by
  intro n L N 
  have NN := nn_L_n L N
  show mm_Go (mm_run 4) mc_M_repairs _ (0, [(0, .inr (.inr 407)), (1, .inl v1), (2, .inl v2)], [], M)
  refine mm_s1 rfl ?_
  refine mm_s1 rfl ?_
  refine mm_s1 rfl ⟨trivial, ?_⟩
  refine np_M_at (by decide) L N ?_
  show mm_Go (mm_run 4) mc_M_repairs _ (5, [(0, .inr (.inr 407)), (1, .inl v1), (2, .inl v2)], [.inl (nf_M_at v1 v2)], M)
  refine mm_s1 rfl ?_
  show mm_Go (mm_run 4) mc_M_repairs _ (6, [(0, .inr (.inr 407)), (1, .inl v1), (2, .inl v2), (3, .inl (nf_M_at v1 v2))], [], M)
  refine mm_s1 rfl ?_
  refine nn_getr rfl (nn_c407 NN).1 (lf_13_0 L N (nn_c407 NN)) ?_
  refine mm_s1 rfl ?_
  refine mm_s1 rfl ?_
  refine mm_s1 rfl ?_
  show mm_Go (mm_run 4) mc_M_repairs _ (14, [(0, .inr (.inr 407)), (1, .inl v1), (2, .inl v2), (3, .inl (nf_M_at v1 v2))], [.inl (mm_w ((nf_M_at v1 v2) + 6)), .inr (.inr 408)], M)
  obtain ⟨b14, h⟩ := h
  refine mm_s1 rfl ⟨nn_bd (na_13_0 NN (nn_c407 NN)) b14, ?_⟩
  show mm_Go (mm_run 4) mc_M_repairs _ (15, [(0, .inr (.inr 407)), (1, .inl v1), (2, .inl v2), (3, .inl (nf_M_at v1 v2))], [.inl (nn_ri M 408 (mm_w ((nf_M_at v1 v2) + 6)))], M)
  refine mm_s1 rfl ?_
  show mm_Go (mm_run 4) mc_M_repairs _ (17, [(0, .inr (.inr 407)), (1, .inl v1), (2, .inl v2), (3, .inl (nf_M_at v1 v2)), (4, .inl (nn_ri M 408 (mm_w ((nf_M_at v1 v2) + 6))))], [], M)
  generalize e_x4_15 : (nn_ri M 408 (mm_w ((nf_M_at v1 v2) + 6))) = x4_15
  replace h := h _ e_x4_15.symm
  show mm_Go (mm_run 4) mc_M_repairs _ (17, [(0, .inr (.inr 407)), (1, .inl v1), (2, .inl v2), (3, .inl (nf_M_at v1 v2)), (4, .inl x4_15)], [], M)
  refine mm_s1 rfl ?_
  refine nn_getr rfl (nn_c407 NN).1 (lf_13_0 L N (nn_c407 NN)) ?_
  refine mm_s1 rfl ?_
  refine mm_s1 rfl ?_
  refine mm_s1 rfl ?_
  show mm_Go (mm_run 4) mc_M_repairs _ (25, [(0, .inr (.inr 407)), (1, .inl v1), (2, .inl v2), (3, .inl (nf_M_at v1 v2)), (4, .inl x4_15)], [.inl (mm_w ((nf_M_at v1 v2) + 6)), .inr (.inr 408)], M)
  obtain ⟨b25, h⟩ := h
  refine mm_s1 rfl ⟨nn_bd (na_13_0 NN (nn_c407 NN)) b25, ?_⟩
  show mm_Go (mm_run 4) mc_M_repairs _ (26, [(0, .inr (.inr 407)), (1, .inl v1), (2, .inl v2), (3, .inl (nf_M_at v1 v2)), (4, .inl x4_15)], [.inl (nn_ri M 408 (mm_w ((nf_M_at v1 v2) + 6)))], M)
  refine mm_s1 rfl ?_
  refine mm_s1 rfl ?_
  refine mm_s1 rfl ?_
  show mm_Go (mm_run 4) mc_M_repairs _ (30, [(0, .inr (.inr 407)), (1, .inl v1), (2, .inl v2), (3, .inl (nf_M_at v1 v2)), (4, .inl x4_15), (5, .inl (mm_w ((nn_ri M 408 (mm_w ((nf_M_at v1 v2) + 6))) - 1)))], [], M)
  generalize e_x5_28 : (mm_w ((nn_ri M 408 (mm_w ((nf_M_at v1 v2) + 6))) - 1)) = x5_28
  replace h := h _ e_x5_28.symm
  show mm_Go (mm_run 4) mc_M_repairs _ (30, [(0, .inr (.inr 407)), (1, .inl v1), (2, .inl v2), (3, .inl (nf_M_at v1 v2)), (4, .inl x4_15), (5, .inl x5_28)], [], M)
  exact nn_go_ext (nn_xc rfl (nn_xc rfl (nn_xc rfl (nn_xc rfl (nn_xc rfl nn_xn))))) (h n L N)
set_option maxRecDepth 20000 in
theorem ng_M_repairs_30 (v1 : Int) (v3 : Int) (v4 : Int) (v5 : Int) (M : mm_M) (R : Int → mm_M → Prop) (h : ((v5 < 0 → (((0 : Int) ≤ (mm_w (v3 + 5)) ∧ (mm_w (v3 + 5)) < (32844 : Int)) ∧ (∀ x5_86 : Int, x5_86 = mm_w ((nn_ri M 408 (mm_w (v3 + 5))) - 1) → nk_M_repairs_88 v1 v3 v4 x5_86 M R))) ∧ (0 ≤ v5 → (((0 : Int) ≤ (nf_M_entryAt v3 v5) ∧ (nf_M_entryAt v3 v5) < (32844 : Int)) ∧ (((nn_ri M 408 (nf_M_entryAt v3 v5)) ≤ 0 → nk_M_repairs_30 v1 v3 v4 (mm_w (v5 + (-1))) M R) ∧ (0 < (nn_ri M 408 (nf_M_entryAt v3 v5)) → (nr_M_isStale v1 (nf_M_entryAt v3 v5) M (fun r57 M57 => ((r57 = 0 → nk_M_repairs_30 v1 v3 v4 (mm_w (v5 + (-1))) M57 R) ∧ (r57 ≠ 0 → (nr_M_drops v3 v5 M57 (fun M67 => nk_M_repairs_30 v1 v3 v4 (mm_w (v5 + (-1))) M67 R)))))))))))) : nk_M_repairs_30 v1 v3 v4 v5 M R := by
  intro n L N 
  have NN := nn_L_n L N
  show mm_Go (mm_run 4) mc_M_repairs _ (30, [(0, .inr (.inr 407)), (1, .inl v1), (3, .inl v3), (4, .inl v4), (5, .inl v5)], [], M)
  refine mm_s1 rfl ?_
  refine mm_s1 rfl ⟨fun c32 => ?_, fun c32 => ?_⟩
  · show mm_Go (mm_run 4) mc_M_repairs _ (76, [(0, .inr (.inr 407)), (1, .inl v1), (3, .inl v3), (4, .inl v4), (5, .inl v5)], [], M)
    replace h := h.1 c32
    refine mm_s1 rfl ?_
    refine nn_getr rfl (nn_c407 NN).1 (lf_13_0 L N (nn_c407 NN)) ?_
    refine mm_s1 rfl ?_
    refine mm_s1 rfl ?_
    refine mm_s1 rfl ?_
    show mm_Go (mm_run 4) mc_M_repairs _ (83, [(0, .inr (.inr 407)), (1, .inl v1), (3, .inl v3), (4, .inl v4), (5, .inl v5)], [.inl (mm_w (v3 + 5)), .inr (.inr 408)], M)
    obtain ⟨b83, h⟩ := h
    refine mm_s1 rfl ⟨nn_bd (na_13_0 NN (nn_c407 NN)) b83, ?_⟩
    show mm_Go (mm_run 4) mc_M_repairs _ (84, [(0, .inr (.inr 407)), (1, .inl v1), (3, .inl v3), (4, .inl v4), (5, .inl v5)], [.inl (nn_ri M 408 (mm_w (v3 + 5)))], M)
    refine mm_s1 rfl ?_
    refine mm_s1 rfl ?_
    refine mm_s1 rfl ?_
    show mm_Go (mm_run 4) mc_M_repairs _ (88, [(0, .inr (.inr 407)), (1, .inl v1), (3, .inl v3), (4, .inl v4), (5, .inl (mm_w ((nn_ri M 408 (mm_w (v3 + 5))) - 1)))], [], M)
    generalize e_x5_86 : (mm_w ((nn_ri M 408 (mm_w (v3 + 5))) - 1)) = x5_86
    replace h := h _ e_x5_86.symm
    show mm_Go (mm_run 4) mc_M_repairs _ (88, [(0, .inr (.inr 407)), (1, .inl v1), (3, .inl v3), (4, .inl v4), (5, .inl x5_86)], [], M)
    exact nn_go_ext (nn_xc rfl (nn_xc rfl (nn_xc rfl (nn_xc rfl (nn_xc rfl nn_xn))))) (h n L N)
  · show mm_Go (mm_run 4) mc_M_repairs _ (35, [(0, .inr (.inr 407)), (1, .inl v1), (3, .inl v3), (4, .inl v4), (5, .inl v5)], [], M)
    replace c32 := Int.not_lt.mp c32
    replace h := h.2 c32
    refine mm_s1 rfl ?_
    refine nn_getr rfl (nn_c407 NN).1 (lf_13_0 L N (nn_c407 NN)) ?_
    refine mm_s1 rfl ?_
    refine mm_s1 rfl ?_
    refine mm_s1 rfl ⟨trivial, ?_⟩
    refine np_M_entryAt (by decide) L N ?_
    show mm_Go (mm_run 4) mc_M_repairs _ (45, [(0, .inr (.inr 407)), (1, .inl v1), (3, .inl v3), (4, .inl v4), (5, .inl v5)], [.inl (nf_M_entryAt v3 v5), .inr (.inr 408)], M)
    obtain ⟨b45, h⟩ := h
    refine mm_s1 rfl ⟨nn_bd (na_13_0 NN (nn_c407 NN)) b45, ?_⟩
    show mm_Go (mm_run 4) mc_M_repairs _ (46, [(0, .inr (.inr 407)), (1, .inl v1), (3, .inl v3), (4, .inl v4), (5, .inl v5)], [.inl (nn_ri M 408 (nf_M_entryAt v3 v5))], M)
    refine mm_s1 rfl ⟨fun c46 => ?_, fun c46 => ?_⟩
    · show mm_Go (mm_run 4) mc_M_repairs _ (70, [(0, .inr (.inr 407)), (1, .inl v1), (3, .inl v3), (4, .inl v4), (5, .inl v5)], [], M)
      replace h := h.1 c46
      refine mm_s1 rfl ?_
      show mm_Go (mm_run 4) mc_M_repairs _ (73, [(0, .inr (.inr 407)), (1, .inl v1), (3, .inl v3), (4, .inl v4), (5, .inl (mm_w (v5 + (-1))))], [], M)
      refine mm_s1 rfl ?_
      show mm_Go (mm_run 4) mc_M_repairs _ (30, [(0, .inr (.inr 407)), (1, .inl v1), (3, .inl v3), (4, .inl v4), (5, .inl (mm_w (v5 + (-1))))], [], M)
      exact nn_go_ext (nn_xc rfl (nn_xc rfl (nn_xc rfl (nn_xc rfl (nn_xc rfl nn_xn))))) (h n L N)
    · show mm_Go (mm_run 4) mc_M_repairs _ (49, [(0, .inr (.inr 407)), (1, .inl v1), (3, .inl v3), (4, .inl v4), (5, .inl v5)], [], M)
      replace c46 := Int.not_le.mp c46
      replace h := h.2 c46
      refine mm_s1 rfl ?_
      refine mm_s1 rfl ?_
      refine mm_s1 rfl ?_
      refine mm_s1 rfl ?_
      refine mm_s1 rfl ⟨trivial, ?_⟩
      refine np_M_entryAt (by decide) L N ?_
      show mm_Go (mm_run 4) mc_M_repairs _ (57, [(0, .inr (.inr 407)), (1, .inl v1), (3, .inl v3), (4, .inl v4), (5, .inl v5)], [.inl (nf_M_entryAt v3 v5), .inl v1, .inr (.inr 407)], M)
      refine mm_s1 rfl ⟨(nn_c407 NN).1, ?_⟩
      refine nn_call (D := 4) (by decide) (h n L N) ?_
      intro v M57 q; clear L N h
      obtain ⟨r57, rfl, q57, L, N, h⟩ := q
      show mm_Go (mm_run 4) mc_M_repairs _ (60, [(0, .inr (.inr 407)), (1, .inl v1), (3, .inl v3), (4, .inl v4), (5, .inl v5)], [.inl r57], M57)
      refine mm_s1 rfl ⟨fun c60 => ?_, fun c60 => ?_⟩
      · show mm_Go (mm_run 4) mc_M_repairs _ (70, [(0, .inr (.inr 407)), (1, .inl v1), (3, .inl v3), (4, .inl v4), (5, .inl v5)], [], M57)
        replace h := h.1 c60
        refine mm_s1 rfl ?_
        show mm_Go (mm_run 4) mc_M_repairs _ (73, [(0, .inr (.inr 407)), (1, .inl v1), (3, .inl v3), (4, .inl v4), (5, .inl (mm_w (v5 + (-1))))], [], M57)
        refine mm_s1 rfl ?_
        show mm_Go (mm_run 4) mc_M_repairs _ (30, [(0, .inr (.inr 407)), (1, .inl v1), (3, .inl v3), (4, .inl v4), (5, .inl (mm_w (v5 + (-1))))], [], M57)
        exact nn_go_ext (nn_xc rfl (nn_xc rfl (nn_xc rfl (nn_xc rfl (nn_xc rfl nn_xn))))) (h n L N)
      · show mm_Go (mm_run 4) mc_M_repairs _ (63, [(0, .inr (.inr 407)), (1, .inl v1), (3, .inl v3), (4, .inl v4), (5, .inl v5)], [], M57)
        replace h := h.2 c60
        refine mm_s1 rfl ?_
        refine mm_s1 rfl ?_
        refine mm_s1 rfl ?_
        refine mm_s1 rfl ⟨(nn_c407 NN).1, ?_⟩
        refine nn_call (D := 2) (by decide) (h n L N) ?_
        intro v M67 q; clear L N h
        obtain ⟨rfl, L, N, h⟩ := q
        show mm_Go (mm_run 4) mc_M_repairs _ (70, [(0, .inr (.inr 407)), (1, .inl v1), (3, .inl v3), (4, .inl v4), (5, .inl v5)], [], M67)
        refine mm_s1 rfl ?_
        show mm_Go (mm_run 4) mc_M_repairs _ (73, [(0, .inr (.inr 407)), (1, .inl v1), (3, .inl v3), (4, .inl v4), (5, .inl (mm_w (v5 + (-1))))], [], M67)
        refine mm_s1 rfl ?_
        show mm_Go (mm_run 4) mc_M_repairs _ (30, [(0, .inr (.inr 407)), (1, .inl v1), (3, .inl v3), (4, .inl v4), (5, .inl (mm_w (v5 + (-1))))], [], M67)
        exact nn_go_ext (nn_xc rfl (nn_xc rfl (nn_xc rfl (nn_xc rfl (nn_xc rfl nn_xn))))) (h n L N)
set_option maxRecDepth 20000 in
theorem ng_M_repairs_88 (v1 : Int) (v3 : Int) (v4 : Int) (v5 : Int) (M : mm_M) (R : Int → mm_M → Prop) (h : ((v5 < 0 → (((0 : Int) ≤ (mm_w (v3 + 6)) ∧ (mm_w (v3 + 6)) < (32844 : Int)) ∧ R (mm_w (v4 - (nn_ri M 408 (mm_w (v3 + 6))))) M)) ∧ (0 ≤ v5 → (((0 : Int) ≤ (mm_w ((nf_M_head v3 v5) + 1)) ∧ (mm_w ((nf_M_head v3 v5) + 1)) < (32844 : Int)) ∧ (((0 : Int) ≤ (mm_w (v1 + 0)) ∧ (mm_w (v1 + 0)) < (32844 : Int)) ∧ (nr_M_lays v1 v3 v5 (nn_ri M 408 (mm_w ((nf_M_head v3 v5) + 1))) (nn_ri M 408 (mm_w (v1 + 0))) M (fun M119 => (nr_M_entriesOf v3 (mm_w (v5 + 1)) M119 (fun r128 M128 => ((r128 ≠ 0 → nk_M_repairs_88 v1 v3 v4 (mm_w (v5 + (-1))) M128 R) ∧ (r128 = 0 → (nr_M_runGoes v3 v5 M128 (fun M138 => nk_M_repairs_88 v1 v3 v4 (mm_w (v5 + (-1))) M138 R))))))))))))) : nk_M_repairs_88 v1 v3 v4 v5 M R := by
  intro n L N 
  have NN := nn_L_n L N
  show mm_Go (mm_run 4) mc_M_repairs _ (88, [(0, .inr (.inr 407)), (1, .inl v1), (3, .inl v3), (4, .inl v4), (5, .inl v5)], [], M)
  refine mm_s1 rfl ?_
  refine mm_s1 rfl ⟨fun c90 => ?_, fun c90 => ?_⟩
  · show mm_Go (mm_run 4) mc_M_repairs _ (147, [(0, .inr (.inr 407)), (1, .inl v1), (3, .inl v3), (4, .inl v4), (5, .inl v5)], [], M)
    replace h := h.1 c90
    refine mm_s1 rfl ?_
    refine mm_s1 rfl ?_
    refine nn_getr rfl (nn_c407 NN).1 (lf_13_0 L N (nn_c407 NN)) ?_
    refine mm_s1 rfl ?_
    refine mm_s1 rfl ?_
    show mm_Go (mm_run 4) mc_M_repairs _ (156, [(0, .inr (.inr 407)), (1, .inl v1), (3, .inl v3), (4, .inl v4), (5, .inl v5)], [.inl 6, .inl v3, .inr (.inr 408), .inl v4], M)
    refine mm_s1 rfl ?_
    obtain ⟨b157, h⟩ := h
    refine mm_s1 rfl ⟨nn_bd (na_13_0 NN (nn_c407 NN)) b157, ?_⟩
    show mm_Go (mm_run 4) mc_M_repairs _ (158, [(0, .inr (.inr 407)), (1, .inl v1), (3, .inl v3), (4, .inl v4), (5, .inl v5)], [.inl (nn_ri M 408 (mm_w (v3 + 6))), .inl v4], M)
    refine mm_s1 rfl ?_
    exact mm_s1 rfl ⟨_, rfl, L, N, h⟩
  · show mm_Go (mm_run 4) mc_M_repairs _ (93, [(0, .inr (.inr 407)), (1, .inl v1), (3, .inl v3), (4, .inl v4), (5, .inl v5)], [], M)
    replace c90 := Int.not_lt.mp c90
    replace h := h.2 c90
    refine mm_s1 rfl ?_
    refine mm_s1 rfl ?_
    refine mm_s1 rfl ?_
    refine mm_s1 rfl ?_
    refine mm_s1 rfl ?_
    show mm_Go (mm_run 4) mc_M_repairs _ (99, [(0, .inr (.inr 407)), (1, .inl v1), (3, .inl v3), (4, .inl v4), (5, .inl v5)], [.inr (.inr 407), .inl v5, .inl v3, .inl v1, .inr (.inr 407)], M)
    refine nn_getr rfl (nn_c407 NN).1 (lf_13_0 L N (nn_c407 NN)) ?_
    refine mm_s1 rfl ?_
    refine mm_s1 rfl ?_
    refine mm_s1 rfl ⟨trivial, ?_⟩
    refine np_M_head (by decide) L N ?_
    show mm_Go (mm_run 4) mc_M_repairs _ (108, [(0, .inr (.inr 407)), (1, .inl v1), (3, .inl v3), (4, .inl v4), (5, .inl v5)], [.inl (nf_M_head v3 v5), .inr (.inr 408), .inl v5, .inl v3, .inl v1, .inr (.inr 407)], M)
    refine mm_s1 rfl ?_
    refine mm_s1 rfl ?_
    obtain ⟨b110, h⟩ := h
    refine mm_s1 rfl ⟨nn_bd (na_13_0 NN (nn_c407 NN)) b110, ?_⟩
    show mm_Go (mm_run 4) mc_M_repairs _ (111, [(0, .inr (.inr 407)), (1, .inl v1), (3, .inl v3), (4, .inl v4), (5, .inl v5)], [.inl (nn_ri M 408 (mm_w ((nf_M_head v3 v5) + 1))), .inl v5, .inl v3, .inl v1, .inr (.inr 407)], M)
    refine mm_s1 rfl ?_
    refine nn_getr rfl (nn_c407 NN).1 (lf_13_0 L N (nn_c407 NN)) ?_
    refine mm_s1 rfl ?_
    refine mm_s1 rfl ?_
    refine mm_s1 rfl ?_
    show mm_Go (mm_run 4) mc_M_repairs _ (118, [(0, .inr (.inr 407)), (1, .inl v1), (3, .inl v3), (4, .inl v4), (5, .inl v5)], [.inl (mm_w (v1 + 0)), .inr (.inr 408), .inl (nn_ri M 408 (mm_w ((nf_M_head v3 v5) + 1))), .inl v5, .inl v3, .inl v1, .inr (.inr 407)], M)
    obtain ⟨b118, h⟩ := h
    refine mm_s1 rfl ⟨nn_bd (na_13_0 NN (nn_c407 NN)) b118, ?_⟩
    show mm_Go (mm_run 4) mc_M_repairs _ (119, [(0, .inr (.inr 407)), (1, .inl v1), (3, .inl v3), (4, .inl v4), (5, .inl v5)], [.inl (nn_ri M 408 (mm_w (v1 + 0))), .inl (nn_ri M 408 (mm_w ((nf_M_head v3 v5) + 1))), .inl v5, .inl v3, .inl v1, .inr (.inr 407)], M)
    refine mm_s1 rfl ⟨(nn_c407 NN).1, ?_⟩
    refine nn_call (D := 2) (by decide) (h n L N) ?_
    intro v M119 q; clear L N h
    obtain ⟨rfl, L, N, h⟩ := q
    show mm_Go (mm_run 4) mc_M_repairs _ (122, [(0, .inr (.inr 407)), (1, .inl v1), (3, .inl v3), (4, .inl v4), (5, .inl v5)], [], M119)
    refine mm_s1 rfl ?_
    refine mm_s1 rfl ?_
    refine mm_s1 rfl ?_
    refine mm_s1 rfl ?_
    refine mm_s1 rfl ?_
    show mm_Go (mm_run 4) mc_M_repairs _ (128, [(0, .inr (.inr 407)), (1, .inl v1), (3, .inl v3), (4, .inl v4), (5, .inl v5)], [.inl (mm_w (v5 + 1)), .inl v3, .inr (.inr 407)], M119)
    refine mm_s1 rfl ⟨(nn_c407 NN).1, ?_⟩
    refine nn_call (D := 2) (by decide) (h n L N) ?_
    intro v M128 q; clear L N h
    obtain ⟨r128, rfl, L, N, h⟩ := q
    show mm_Go (mm_run 4) mc_M_repairs _ (131, [(0, .inr (.inr 407)), (1, .inl v1), (3, .inl v3), (4, .inl v4), (5, .inl v5)], [.inl r128], M128)
    refine mm_s1 rfl ⟨fun c131 => ?_, fun c131 => ?_⟩
    · show mm_Go (mm_run 4) mc_M_repairs _ (141, [(0, .inr (.inr 407)), (1, .inl v1), (3, .inl v3), (4, .inl v4), (5, .inl v5)], [], M128)
      replace h := h.1 c131
      refine mm_s1 rfl ?_
      show mm_Go (mm_run 4) mc_M_repairs _ (144, [(0, .inr (.inr 407)), (1, .inl v1), (3, .inl v3), (4, .inl v4), (5, .inl (mm_w (v5 + (-1))))], [], M128)
      refine mm_s1 rfl ?_
      show mm_Go (mm_run 4) mc_M_repairs _ (88, [(0, .inr (.inr 407)), (1, .inl v1), (3, .inl v3), (4, .inl v4), (5, .inl (mm_w (v5 + (-1))))], [], M128)
      exact nn_go_ext (nn_xc rfl (nn_xc rfl (nn_xc rfl (nn_xc rfl (nn_xc rfl nn_xn))))) (h n L N)
    · show mm_Go (mm_run 4) mc_M_repairs _ (134, [(0, .inr (.inr 407)), (1, .inl v1), (3, .inl v3), (4, .inl v4), (5, .inl v5)], [], M128)
      replace c131 := Decidable.not_not.mp c131
      replace h := h.2 c131
      refine mm_s1 rfl ?_
      refine mm_s1 rfl ?_
      refine mm_s1 rfl ?_
      refine mm_s1 rfl ⟨(nn_c407 NN).1, ?_⟩
      refine nn_call (D := 2) (by decide) (h n L N) ?_
      intro v M138 q; clear L N h
      obtain ⟨rfl, L, N, h⟩ := q
      show mm_Go (mm_run 4) mc_M_repairs _ (141, [(0, .inr (.inr 407)), (1, .inl v1), (3, .inl v3), (4, .inl v4), (5, .inl v5)], [], M138)
      refine mm_s1 rfl ?_
      show mm_Go (mm_run 4) mc_M_repairs _ (144, [(0, .inr (.inr 407)), (1, .inl v1), (3, .inl v3), (4, .inl v4), (5, .inl (mm_w (v5 + (-1))))], [], M138)
      refine mm_s1 rfl ?_
      show mm_Go (mm_run 4) mc_M_repairs _ (88, [(0, .inr (.inr 407)), (1, .inl v1), (3, .inl v3), (4, .inl v4), (5, .inl (mm_w (v5 + (-1))))], [], M138)
      exact nn_go_ext (nn_xc rfl (nn_xc rfl (nn_xc rfl (nn_xc rfl (nn_xc rfl nn_xn))))) (h n L N)
def nr_M_keeps (v1 : Int) (v2 : Int) (M : mm_M) (R : mm_M → Prop) : Prop := ∀ n, nn_L M → M.1 = n → mm_run 5 mi_M_keeps [.inr (.inr 407), .inl v1, .inl v2] M (nw_V n R)
set_option maxRecDepth 20000 in
theorem ng_M_keeps (v1 : Int) (v2 : Int) (M : mm_M) (R : mm_M → Prop) (h : (nr_M_isWanted 0 v1 v2 M (fun r4 M4 => ((r4 ≠ 0 → (((0 : Int) ≤ (mm_w (v1 + 7)) ∧ (mm_w (v1 + 7)) < (32844 : Int)) ∧ (∀ x3_27 : Int, x3_27 = mm_w ((mm_w (v1 + 47)) + (mm_w (3 * (nn_ri M4 408 (mm_w (v1 + 7)))))) → (nr_M_rowOf 0 v2 M4 (fun r38 M38 => (nr_M_valueOf v1 r38 M38 (fun r41 M41 => (((0 : Int) ≤ x3_27 ∧ x3_27 < (32844 : Int)) ∧ (∀ M44 : mm_M, M44 = nn_ui M41 408 x3_27 r41 → (((0 : Int) ≤ (mm_w (x3_27 + 1)) ∧ (mm_w (x3_27 + 1)) < (32844 : Int)) ∧ (∀ M53 : mm_M, M53 = nn_ui M44 408 (mm_w (x3_27 + 1)) v2 → (nr_M_stampOf 0 v2 M53 (fun r64 M64 => (((0 : Int) ≤ (mm_w (x3_27 + 2)) ∧ (mm_w (x3_27 + 2)) < (32844 : Int)) ∧ (∀ M67 : mm_M, M67 = nn_ui M64 408 (mm_w (x3_27 + 2)) r64 → (((0 : Int) ≤ (mm_w (v1 + 7)) ∧ (mm_w (v1 + 7)) < (32844 : Int)) ∧ (((0 : Int) ≤ (mm_w (v1 + 7)) ∧ (mm_w (v1 + 7)) < (32844 : Int)) ∧ (∀ M80 : mm_M, M80 = nn_ui M67 408 (mm_w (v1 + 7)) (mm_w ((nn_ri M67 408 (mm_w (v1 + 7))) + 1)) → R M80)))))))))))))))))) ∧ (r4 = 0 → R M4))))) : nr_M_keeps v1 v2 M R := by
  intro n L N 
  have NN := nn_L_n L N
  show mm_Go (mm_run 4) mc_M_keeps _ (0, [(0, .inr (.inr 407)), (1, .inl v1), (2, .inl v2)], [], M)
  refine mm_s1 rfl ?_
  refine mm_s1 rfl ?_
  refine mm_s1 rfl ?_
  refine mm_s1 rfl ?_
  refine mm_s1 rfl ⟨(nn_c407 NN).1, ?_⟩
  refine nn_call (D := 4) (by decide) (h n L N) ?_
  intro v M4 q; clear L N h
  obtain ⟨r4, rfl, q4, L, N, h⟩ := q
  show mm_Go (mm_run 4) mc_M_keeps _ (7, [(0, .inr (.inr 407)), (1, .inl v1), (2, .inl v2)], [.inl r4], M4)
  refine mm_s1 rfl ⟨fun c7 => ?_, fun c7 => ?_⟩
  · show mm_Go (mm_run 4) mc_M_keeps _ (11, [(0, .inr (.inr 407)), (1, .inl v1), (2, .inl v2)], [], M4)
    replace h := h.1 c7
    refine mm_s1 rfl ?_
    refine mm_s1 rfl ?_
    refine mm_s1 rfl ?_
    refine mm_s1 rfl ?_
    refine mm_s1 rfl ?_
    show mm_Go (mm_run 4) mc_M_keeps _ (17, [(0, .inr (.inr 407)), (1, .inl v1), (2, .inl v2)], [.inr (.inr 407), .inl 3, .inl (mm_w (v1 + 47))], M4)
    refine nn_getr rfl (nn_c407 NN).1 (lf_13_0 L N (nn_c407 NN)) ?_
    refine mm_s1 rfl ?_
    refine mm_s1 rfl ?_
    refine mm_s1 rfl ?_
    obtain ⟨b24, h⟩ := h
    refine mm_s1 rfl ⟨nn_bd (na_13_0 NN (nn_c407 NN)) b24, ?_⟩
    show mm_Go (mm_run 4) mc_M_keeps _ (25, [(0, .inr (.inr 407)), (1, .inl v1), (2, .inl v2)], [.inl (nn_ri M4 408 (mm_w (v1 + 7))), .inl 3, .inl (mm_w (v1 + 47))], M4)
    refine mm_s1 rfl ?_
    refine mm_s1 rfl ?_
    refine mm_s1 rfl ?_
    show mm_Go (mm_run 4) mc_M_keeps _ (28, [(0, .inr (.inr 407)), (1, .inl v1), (2, .inl v2), (3, .inl (mm_w ((mm_w (v1 + 47)) + (mm_w (3 * (nn_ri M4 408 (mm_w (v1 + 7))))))))], [], M4)
    generalize e_x3_27 : (mm_w ((mm_w (v1 + 47)) + (mm_w (3 * (nn_ri M4 408 (mm_w (v1 + 7))))))) = x3_27
    replace h := h _ e_x3_27.symm
    show mm_Go (mm_run 4) mc_M_keeps _ (28, [(0, .inr (.inr 407)), (1, .inl v1), (2, .inl v2), (3, .inl x3_27)], [], M4)
    refine mm_s1 rfl ?_
    refine nn_getr rfl (nn_c407 NN).1 (lf_13_0 L N (nn_c407 NN)) ?_
    refine mm_s1 rfl ?_
    refine mm_s1 rfl ?_
    refine mm_s1 rfl ?_
    show mm_Go (mm_run 4) mc_M_keeps _ (35, [(0, .inr (.inr 407)), (1, .inl v1), (2, .inl v2), (3, .inl x3_27)], [.inl v1, .inr (.inr 407), .inl x3_27, .inr (.inr 408)], M4)
    refine mm_s1 rfl ?_
    refine mm_s1 rfl ?_
    refine mm_s1 rfl ?_
    refine mm_s1 rfl ⟨(nn_c407 NN).1, ?_⟩
    refine nn_call (D := 3) (by decide) (h n L N) ?_
    intro v M38 q; clear L N h
    obtain ⟨r38, rfl, L, N, h⟩ := q
    show mm_Go (mm_run 4) mc_M_keeps _ (41, [(0, .inr (.inr 407)), (1, .inl v1), (2, .inl v2), (3, .inl x3_27)], [.inl r38, .inl v1, .inr (.inr 407), .inl x3_27, .inr (.inr 408)], M38)
    refine mm_s1 rfl ⟨(nn_c407 NN).1, ?_⟩
    refine nn_call (D := 3) (by decide) (h n L N) ?_
    intro v M41 q; clear L N h
    obtain ⟨r41, rfl, L, N, h⟩ := q
    show mm_Go (mm_run 4) mc_M_keeps _ (44, [(0, .inr (.inr 407)), (1, .inl v1), (2, .inl v2), (3, .inl x3_27)], [.inl r41, .inl x3_27, .inr (.inr 408)], M41)
    obtain ⟨b44, h⟩ := h
    refine mm_s1 rfl ⟨nn_bd (na_13_0 NN (nn_c407 NN)) b44, ?_⟩
    show mm_Go (mm_run 4) mc_M_keeps _ (45, [(0, .inr (.inr 407)), (1, .inl v1), (2, .inl v2), (3, .inl x3_27)], [], (nn_ui M41 408 x3_27 r41))
    have L : nn_L (nn_ui M41 408 x3_27 r41) := nn_L_ua L (congrArg Prod.fst (na_13_0 NN (nn_c407 NN))) (by decide)
    have N : (nn_ui M41 408 x3_27 r41).1 = n := N
    generalize e_M44 : (nn_ui M41 408 x3_27 r41) = M44 at L N ⊢
    replace h := h _ e_M44.symm
    show mm_Go (mm_run 4) mc_M_keeps _ (45, [(0, .inr (.inr 407)), (1, .inl v1), (2, .inl v2), (3, .inl x3_27)], [], M44)
    refine mm_s1 rfl ?_
    refine nn_getr rfl (nn_c407 NN).1 (lf_13_0 L N (nn_c407 NN)) ?_
    refine mm_s1 rfl ?_
    refine mm_s1 rfl ?_
    refine mm_s1 rfl ?_
    show mm_Go (mm_run 4) mc_M_keeps _ (52, [(0, .inr (.inr 407)), (1, .inl v1), (2, .inl v2), (3, .inl x3_27)], [.inl (mm_w (x3_27 + 1)), .inr (.inr 408)], M44)
    refine mm_s1 rfl ?_
    obtain ⟨b53, h⟩ := h
    refine mm_s1 rfl ⟨nn_bd (na_13_0 NN (nn_c407 NN)) b53, ?_⟩
    show mm_Go (mm_run 4) mc_M_keeps _ (54, [(0, .inr (.inr 407)), (1, .inl v1), (2, .inl v2), (3, .inl x3_27)], [], (nn_ui M44 408 (mm_w (x3_27 + 1)) v2))
    have L : nn_L (nn_ui M44 408 (mm_w (x3_27 + 1)) v2) := nn_L_ua L (congrArg Prod.fst (na_13_0 NN (nn_c407 NN))) (by decide)
    have N : (nn_ui M44 408 (mm_w (x3_27 + 1)) v2).1 = n := N
    generalize e_M53 : (nn_ui M44 408 (mm_w (x3_27 + 1)) v2) = M53 at L N ⊢
    replace h := h _ e_M53.symm
    show mm_Go (mm_run 4) mc_M_keeps _ (54, [(0, .inr (.inr 407)), (1, .inl v1), (2, .inl v2), (3, .inl x3_27)], [], M53)
    refine mm_s1 rfl ?_
    refine nn_getr rfl (nn_c407 NN).1 (lf_13_0 L N (nn_c407 NN)) ?_
    refine mm_s1 rfl ?_
    refine mm_s1 rfl ?_
    refine mm_s1 rfl ?_
    show mm_Go (mm_run 4) mc_M_keeps _ (61, [(0, .inr (.inr 407)), (1, .inl v1), (2, .inl v2), (3, .inl x3_27)], [.inl (mm_w (x3_27 + 2)), .inr (.inr 408)], M53)
    refine mm_s1 rfl ?_
    refine mm_s1 rfl ?_
    refine mm_s1 rfl ?_
    refine mm_s1 rfl ⟨(nn_c407 NN).1, ?_⟩
    refine nn_call (D := 3) (by decide) (h n L N) ?_
    intro v M64 q; clear L N h
    obtain ⟨r64, rfl, L, N, h⟩ := q
    show mm_Go (mm_run 4) mc_M_keeps _ (67, [(0, .inr (.inr 407)), (1, .inl v1), (2, .inl v2), (3, .inl x3_27)], [.inl r64, .inl (mm_w (x3_27 + 2)), .inr (.inr 408)], M64)
    obtain ⟨b67, h⟩ := h
    refine mm_s1 rfl ⟨nn_bd (na_13_0 NN (nn_c407 NN)) b67, ?_⟩
    show mm_Go (mm_run 4) mc_M_keeps _ (68, [(0, .inr (.inr 407)), (1, .inl v1), (2, .inl v2), (3, .inl x3_27)], [], (nn_ui M64 408 (mm_w (x3_27 + 2)) r64))
    have L : nn_L (nn_ui M64 408 (mm_w (x3_27 + 2)) r64) := nn_L_ua L (congrArg Prod.fst (na_13_0 NN (nn_c407 NN))) (by decide)
    have N : (nn_ui M64 408 (mm_w (x3_27 + 2)) r64).1 = n := N
    generalize e_M67 : (nn_ui M64 408 (mm_w (x3_27 + 2)) r64) = M67 at L N ⊢
    replace h := h _ e_M67.symm
    show mm_Go (mm_run 4) mc_M_keeps _ (68, [(0, .inr (.inr 407)), (1, .inl v1), (2, .inl v2), (3, .inl x3_27)], [], M67)
    refine mm_s1 rfl ?_
    refine nn_getr rfl (nn_c407 NN).1 (lf_13_0 L N (nn_c407 NN)) ?_
    refine mm_s1 rfl ?_
    refine mm_s1 rfl ?_
    refine mm_s1 rfl ?_
    show mm_Go (mm_run 4) mc_M_keeps _ (76, [(0, .inr (.inr 407)), (1, .inl v1), (2, .inl v2), (3, .inl x3_27)], [.inl (mm_w (v1 + 7)), .inr (.inr 408)], M67)
    refine mm_s1 rfl ?_
    obtain ⟨b77, h⟩ := h
    refine mm_s1 rfl ⟨nn_bd (na_13_0 NN (nn_c407 NN)) b77, ?_⟩
    show mm_Go (mm_run 4) mc_M_keeps _ (78, [(0, .inr (.inr 407)), (1, .inl v1), (2, .inl v2), (3, .inl x3_27)], [.inl (nn_ri M67 408 (mm_w (v1 + 7))), .inl (mm_w (v1 + 7)), .inr (.inr 408)], M67)
    refine mm_s1 rfl ?_
    refine mm_s1 rfl ?_
    obtain ⟨b80, h⟩ := h
    refine mm_s1 rfl ⟨nn_bd (na_13_0 NN (nn_c407 NN)) b80, ?_⟩
    show mm_Go (mm_run 4) mc_M_keeps _ (81, [(0, .inr (.inr 407)), (1, .inl v1), (2, .inl v2), (3, .inl x3_27)], [], (nn_ui M67 408 (mm_w (v1 + 7)) (mm_w ((nn_ri M67 408 (mm_w (v1 + 7))) + 1))))
    have L : nn_L (nn_ui M67 408 (mm_w (v1 + 7)) (mm_w ((nn_ri M67 408 (mm_w (v1 + 7))) + 1))) := nn_L_ua L (congrArg Prod.fst (na_13_0 NN (nn_c407 NN))) (by decide)
    have N : (nn_ui M67 408 (mm_w (v1 + 7)) (mm_w ((nn_ri M67 408 (mm_w (v1 + 7))) + 1))).1 = n := N
    generalize e_M80 : (nn_ui M67 408 (mm_w (v1 + 7)) (mm_w ((nn_ri M67 408 (mm_w (v1 + 7))) + 1))) = M80 at L N ⊢
    replace h := h _ e_M80.symm
    show mm_Go (mm_run 4) mc_M_keeps _ (81, [(0, .inr (.inr 407)), (1, .inl v1), (2, .inl v2), (3, .inl x3_27)], [], M80)
    exact mm_s1 rfl ⟨rfl, L, N, h⟩
  · show mm_Go (mm_run 4) mc_M_keeps _ (10, [(0, .inr (.inr 407)), (1, .inl v1), (2, .inl v2)], [], M4)
    replace c7 := Decidable.not_not.mp c7
    replace h := h.2 c7
    exact mm_s1 rfl ⟨rfl, L, N, h⟩
def nr_M_costs (v1 : Int) (v2 : Int) (v3 : Int) (M : mm_M) (R : mm_M → Prop) : Prop := ∀ n, nn_L M → M.1 = n → mm_run 5 mi_M_costs [.inr (.inr 407), .inl v1, .inl v2, .inl v3] M (nw_V n R)
def nk_M_costs_21 (v2 : Int) (v3 : Int) (v4 : Int) (v5 : Int) (v7 : Int) (M : mm_M) (R : mm_M → Prop) : Prop := ∀ n, nn_L M → M.1 = n → mm_Go (mm_run 4) mc_M_costs (nw_V n R) (21, [(0, .inr (.inr 407)), (2, .inl v2), (3, .inl v3), (4, .inl v4), (5, .inr (.inl v5)), (7, .inl v7)], [], M)
def nk_M_costs_47 (v2 : Int) (v3 : Int) (v4 : Int) (v5 : Int) (v7 : Int) (M : mm_M) (R : mm_M → Prop) : Prop := ∀ n, nn_L M → M.1 = n → mm_Go (mm_run 4) mc_M_costs (nw_V n R) (47, [(0, .inr (.inr 407)), (2, .inl v2), (3, .inl v3), (4, .inl v4), (5, .inr (.inl v5)), (7, .inl v7)], [], M)
set_option maxRecDepth 20000 in
theorem ng_M_costs (v1 : Int) (v2 : Int) (v3 : Int) (M : mm_M) (R : mm_M → Prop) (h : (∀ M17 : mm_M, M17 = nn_ui M 408 15 1 → nk_M_costs_21 v2 v3 (nf_M_at 0 v1) 0 0 M17 R)) : nr_M_costs v1 v2 v3 M R := by
  intro n L N 
  have NN := nn_L_n L N
  show mm_Go (mm_run 4) mc_M_costs _ (0, [(0, .inr (.inr 407)), (1, .inl v1), (2, .inl v2), (3, .inl v3)], [], M)
  refine mm_s1 rfl ?_
  refine mm_s1 rfl ?_
  refine mm_s1 rfl ⟨trivial, ?_⟩
  refine np_M_at (by decide) L N ?_
  show mm_Go (mm_run 4) mc_M_costs _ (5, [(0, .inr (.inr 407)), (1, .inl v1), (2, .inl v2), (3, .inl v3)], [.inl (nf_M_at 0 v1)], M)
  refine mm_s1 rfl ?_
  show mm_Go (mm_run 4) mc_M_costs _ (7, [(0, .inr (.inr 407)), (1, .inl v1), (2, .inl v2), (3, .inl v3), (4, .inl (nf_M_at 0 v1))], [], M)
  refine mm_s1 rfl ?_
  refine mm_s1 rfl ?_
  show mm_Go (mm_run 4) mc_M_costs _ (10, [(0, .inr (.inr 407)), (1, .inl v1), (2, .inl v2), (3, .inl v3), (4, .inl (nf_M_at 0 v1)), (5, .inr (.inl 0))], [], M)
  refine mm_s1 rfl ?_
  refine nn_getr rfl (nn_c407 NN).1 (lf_13_0 L N (nn_c407 NN)) ?_
  refine mm_s1 rfl ?_
  refine mm_s1 rfl ?_
  refine mm_s1 rfl ⟨nn_bd (na_13_0 NN (nn_c407 NN)) (show (0 : Int) ≤ 15 ∧ (15 : Int) < 32844 by decide), ?_⟩
  show mm_Go (mm_run 4) mc_M_costs _ (18, [(0, .inr (.inr 407)), (1, .inl v1), (2, .inl v2), (3, .inl v3), (4, .inl (nf_M_at 0 v1)), (5, .inr (.inl 0))], [], (nn_ui M 408 15 1))
  have L : nn_L (nn_ui M 408 15 1) := nn_L_ua L (congrArg Prod.fst (na_13_0 NN (nn_c407 NN))) (by decide)
  have N : (nn_ui M 408 15 1).1 = n := N
  generalize e_M17 : (nn_ui M 408 15 1) = M17 at L N ⊢
  replace h := h _ e_M17.symm
  show mm_Go (mm_run 4) mc_M_costs _ (18, [(0, .inr (.inr 407)), (1, .inl v1), (2, .inl v2), (3, .inl v3), (4, .inl (nf_M_at 0 v1)), (5, .inr (.inl 0))], [], M17)
  refine mm_s1 rfl ?_
  refine mm_s1 rfl ?_
  show mm_Go (mm_run 4) mc_M_costs _ (21, [(0, .inr (.inr 407)), (1, .inl v1), (2, .inl v2), (3, .inl v3), (4, .inl (nf_M_at 0 v1)), (5, .inr (.inl 0)), (7, .inl 0)], [], M17)
  exact nn_go_ext (nn_xc rfl (nn_xc rfl (nn_xc rfl (nn_xc rfl (nn_xc rfl (nn_xc rfl nn_xn)))))) (h n L N)
set_option maxRecDepth 20000 in
theorem ng_M_costs_21 (v2 : Int) (v3 : Int) (v4 : Int) (v5 : Int) (v7 : Int) (M : mm_M) (R : mm_M → Prop) (h : ((4 ≤ v7 → nk_M_costs_47 v2 v3 v4 v5 0 M R) ∧ (v7 < 4 → (((0 : Int) ≤ (mm_w (16 + v7)) ∧ (mm_w (16 + v7)) < (32844 : Int)) ∧ (∀ M37 : mm_M, M37 = nn_ui M 408 (mm_w (16 + v7)) 0 → nk_M_costs_21 v2 v3 v4 v5 (mm_w (v7 + 1)) M37 R))))) : nk_M_costs_21 v2 v3 v4 v5 v7 M R := by
  intro n L N 
  have NN := nn_L_n L N
  show mm_Go (mm_run 4) mc_M_costs _ (21, [(0, .inr (.inr 407)), (2, .inl v2), (3, .inl v3), (4, .inl v4), (5, .inr (.inl v5)), (7, .inl v7)], [], M)
  refine mm_s1 rfl ?_
  refine mm_s1 rfl ?_
  refine mm_s1 rfl ⟨fun c24 => ?_, fun c24 => ?_⟩
  · show mm_Go (mm_run 4) mc_M_costs _ (44, [(0, .inr (.inr 407)), (2, .inl v2), (3, .inl v3), (4, .inl v4), (5, .inr (.inl v5)), (7, .inl v7)], [], M)
    replace h := h.1 c24
    refine mm_s1 rfl ?_
    refine mm_s1 rfl ?_
    show mm_Go (mm_run 4) mc_M_costs _ (47, [(0, .inr (.inr 407)), (2, .inl v2), (3, .inl v3), (4, .inl v4), (5, .inr (.inl v5)), (7, .inl 0)], [], M)
    exact nn_go_ext (nn_xc rfl (nn_xc rfl (nn_xc rfl (nn_xc rfl (nn_xc rfl (nn_xc rfl nn_xn)))))) (h n L N)
  · show mm_Go (mm_run 4) mc_M_costs _ (27, [(0, .inr (.inr 407)), (2, .inl v2), (3, .inl v3), (4, .inl v4), (5, .inr (.inl v5)), (7, .inl v7)], [], M)
    replace c24 := Int.not_le.mp c24
    replace h := h.2 c24
    refine mm_s1 rfl ?_
    refine nn_getr rfl (nn_c407 NN).1 (lf_13_0 L N (nn_c407 NN)) ?_
    refine mm_s1 rfl ?_
    refine mm_s1 rfl ?_
    refine mm_s1 rfl ?_
    show mm_Go (mm_run 4) mc_M_costs _ (36, [(0, .inr (.inr 407)), (2, .inl v2), (3, .inl v3), (4, .inl v4), (5, .inr (.inl v5)), (7, .inl v7)], [.inl (mm_w (16 + v7)), .inr (.inr 408)], M)
    refine mm_s1 rfl ?_
    obtain ⟨b37, h⟩ := h
    refine mm_s1 rfl ⟨nn_bd (na_13_0 NN (nn_c407 NN)) b37, ?_⟩
    show mm_Go (mm_run 4) mc_M_costs _ (38, [(0, .inr (.inr 407)), (2, .inl v2), (3, .inl v3), (4, .inl v4), (5, .inr (.inl v5)), (7, .inl v7)], [], (nn_ui M 408 (mm_w (16 + v7)) 0))
    have L : nn_L (nn_ui M 408 (mm_w (16 + v7)) 0) := nn_L_ua L (congrArg Prod.fst (na_13_0 NN (nn_c407 NN))) (by decide)
    have N : (nn_ui M 408 (mm_w (16 + v7)) 0).1 = n := N
    generalize e_M37 : (nn_ui M 408 (mm_w (16 + v7)) 0) = M37 at L N ⊢
    replace h := h _ e_M37.symm
    show mm_Go (mm_run 4) mc_M_costs _ (38, [(0, .inr (.inr 407)), (2, .inl v2), (3, .inl v3), (4, .inl v4), (5, .inr (.inl v5)), (7, .inl v7)], [], M37)
    refine mm_s1 rfl ?_
    show mm_Go (mm_run 4) mc_M_costs _ (41, [(0, .inr (.inr 407)), (2, .inl v2), (3, .inl v3), (4, .inl v4), (5, .inr (.inl v5)), (7, .inl (mm_w (v7 + 1)))], [], M37)
    refine mm_s1 rfl ?_
    show mm_Go (mm_run 4) mc_M_costs _ (21, [(0, .inr (.inr 407)), (2, .inl v2), (3, .inl v3), (4, .inl v4), (5, .inr (.inl v5)), (7, .inl (mm_w (v7 + 1)))], [], M37)
    exact nn_go_ext (nn_xc rfl (nn_xc rfl (nn_xc rfl (nn_xc rfl (nn_xc rfl (nn_xc rfl nn_xn)))))) (h n L N)
set_option maxRecDepth 20000 in
theorem ng_M_costs_47 (v2 : Int) (v3 : Int) (v4 : Int) (v5 : Int) (v7 : Int) (M : mm_M) (R : mm_M → Prop) (h : (((0 : Int) ≤ (mm_w (v4 + 6)) ∧ (mm_w (v4 + 6)) < (32844 : Int)) ∧ (((nn_ri M 408 (mm_w (v4 + 6))) ≤ v7 → R M) ∧ (v7 < (nn_ri M 408 (mm_w (v4 + 6))) → (((0 : Int) ≤ (mm_w ((nf_M_entryAt v4 v7) + 1)) ∧ (mm_w ((nf_M_entryAt v4 v7) + 1)) < (32844 : Int)) ∧ (((nf_M_isIn (nn_ri M 408 (mm_w ((nf_M_entryAt v4 v7) + 1))) v2 v3) ≠ 0 → (∀ M101 : mm_M, M101 = nn_ui M 408 16 (mm_w ((nn_ri M 408 16) + 1)) → (((0 : Int) ≤ (mm_w ((nf_M_entryAt v4 v7) + 2)) ∧ (mm_w ((nf_M_entryAt v4 v7) + 2)) < (32844 : Int)) ∧ (((mm_lcmp (mm_land (mm_lshr v5 (nn_ri M101 408 (mm_w ((nf_M_entryAt v4 v7) + 2)))) 1) 1) ≠ 0 → (nr_M_looks v4 (nf_M_entryAt v4 v7) M101 (fun r148 M148 => (∀ M152 : mm_M, M152 = nn_ui M148 408 19 (mm_w ((nn_ri M101 408 19) + r148)) → (nr_M_isStale 0 (nf_M_entryAt v4 v7) M152 (fun r157 M157 => ((r157 = 0 → (((0 : Int) ≤ (mm_w ((nf_M_entryAt v4 v7) + 2)) ∧ (mm_w ((nf_M_entryAt v4 v7) + 2)) < (32844 : Int)) ∧ (∀ x5_191 : Int, x5_191 = mm_lor v5 (mm_lshl 1 (nn_ri M157 408 (mm_w ((nf_M_entryAt v4 v7) + 2)))) → nk_M_costs_47 v2 v3 v4 x5_191 (mm_w (v7 + 1)) M157 R))) ∧ (r157 ≠ 0 → (∀ M173 : mm_M, M173 = nn_ui M157 408 17 (mm_w ((nn_ri M157 408 17) + 1)) → nk_M_costs_47 v2 v3 v4 v5 (mm_w (v7 + 1)) M173 R))))))))) ∧ ((mm_lcmp (mm_land (mm_lshr v5 (nn_ri M101 408 (mm_w ((nf_M_entryAt v4 v7) + 2)))) 1) 1) = 0 → (∀ M131 : mm_M, M131 = nn_ui M101 408 18 (mm_w ((nn_ri M101 408 18) + 1)) → nk_M_costs_47 v2 v3 v4 v5 (mm_w (v7 + 1)) M131 R)))))) ∧ ((nf_M_isIn (nn_ri M 408 (mm_w ((nf_M_entryAt v4 v7) + 1))) v2 v3) = 0 → nk_M_costs_47 v2 v3 v4 v5 (mm_w (v7 + 1)) M R))))))) : nk_M_costs_47 v2 v3 v4 v5 v7 M R := by
  intro n L N 
  have NN := nn_L_n L N
  show mm_Go (mm_run 4) mc_M_costs _ (47, [(0, .inr (.inr 407)), (2, .inl v2), (3, .inl v3), (4, .inl v4), (5, .inr (.inl v5)), (7, .inl v7)], [], M)
  refine mm_s1 rfl ?_
  refine mm_s1 rfl ?_
  refine nn_getr rfl (nn_c407 NN).1 (lf_13_0 L N (nn_c407 NN)) ?_
  refine mm_s1 rfl ?_
  refine mm_s1 rfl ?_
  show mm_Go (mm_run 4) mc_M_costs _ (57, [(0, .inr (.inr 407)), (2, .inl v2), (3, .inl v3), (4, .inl v4), (5, .inr (.inl v5)), (7, .inl v7)], [.inl 6, .inl v4, .inr (.inr 408), .inl v7], M)
  refine mm_s1 rfl ?_
  obtain ⟨b58, h⟩ := h
  refine mm_s1 rfl ⟨nn_bd (na_13_0 NN (nn_c407 NN)) b58, ?_⟩
  show mm_Go (mm_run 4) mc_M_costs _ (59, [(0, .inr (.inr 407)), (2, .inl v2), (3, .inl v3), (4, .inl v4), (5, .inr (.inl v5)), (7, .inl v7)], [.inl (nn_ri M 408 (mm_w (v4 + 6))), .inl v7], M)
  refine mm_s1 rfl ⟨fun c59 => ?_, fun c59 => ?_⟩
  · show mm_Go (mm_run 4) mc_M_costs _ (199, [(0, .inr (.inr 407)), (2, .inl v2), (3, .inl v3), (4, .inl v4), (5, .inr (.inl v5)), (7, .inl v7)], [], M)
    replace h := h.1 c59
    exact mm_s1 rfl ⟨rfl, L, N, h⟩
  · show mm_Go (mm_run 4) mc_M_costs _ (62, [(0, .inr (.inr 407)), (2, .inl v2), (3, .inl v3), (4, .inl v4), (5, .inr (.inl v5)), (7, .inl v7)], [], M)
    replace c59 := Int.not_le.mp c59
    replace h := h.2 c59
    refine mm_s1 rfl ?_
    refine mm_s1 rfl ?_
    refine mm_s1 rfl ⟨trivial, ?_⟩
    refine np_M_entryAt (by decide) L N ?_
    show mm_Go (mm_run 4) mc_M_costs _ (69, [(0, .inr (.inr 407)), (2, .inl v2), (3, .inl v3), (4, .inl v4), (5, .inr (.inl v5)), (7, .inl v7)], [.inl (nf_M_entryAt v4 v7)], M)
    refine mm_s1 rfl ?_
    show mm_Go (mm_run 4) mc_M_costs _ (71, [(0, .inr (.inr 407)), (2, .inl v2), (3, .inl v3), (4, .inl v4), (5, .inr (.inl v5)), (7, .inl v7), (8, .inl (nf_M_entryAt v4 v7))], [], M)
    refine mm_s1 rfl ?_
    refine nn_getr rfl (nn_c407 NN).1 (lf_13_0 L N (nn_c407 NN)) ?_
    refine mm_s1 rfl ?_
    refine mm_s1 rfl ?_
    refine mm_s1 rfl ?_
    show mm_Go (mm_run 4) mc_M_costs _ (79, [(0, .inr (.inr 407)), (2, .inl v2), (3, .inl v3), (4, .inl v4), (5, .inr (.inl v5)), (7, .inl v7), (8, .inl (nf_M_entryAt v4 v7))], [.inl (mm_w ((nf_M_entryAt v4 v7) + 1)), .inr (.inr 408)], M)
    obtain ⟨b79, h⟩ := h
    refine mm_s1 rfl ⟨nn_bd (na_13_0 NN (nn_c407 NN)) b79, ?_⟩
    show mm_Go (mm_run 4) mc_M_costs _ (80, [(0, .inr (.inr 407)), (2, .inl v2), (3, .inl v3), (4, .inl v4), (5, .inr (.inl v5)), (7, .inl v7), (8, .inl (nf_M_entryAt v4 v7))], [.inl (nn_ri M 408 (mm_w ((nf_M_entryAt v4 v7) + 1)))], M)
    refine mm_s1 rfl ?_
    refine mm_s1 rfl ?_
    refine mm_s1 rfl ⟨trivial, ?_⟩
    refine np_M_isIn (by decide) L N ?_
    show mm_Go (mm_run 4) mc_M_costs _ (85, [(0, .inr (.inr 407)), (2, .inl v2), (3, .inl v3), (4, .inl v4), (5, .inr (.inl v5)), (7, .inl v7), (8, .inl (nf_M_entryAt v4 v7))], [.inl (nf_M_isIn (nn_ri M 408 (mm_w ((nf_M_entryAt v4 v7) + 1))) v2 v3)], M)
    refine mm_s1 rfl ⟨fun c85 => ?_, fun c85 => ?_⟩
    · show mm_Go (mm_run 4) mc_M_costs _ (91, [(0, .inr (.inr 407)), (2, .inl v2), (3, .inl v3), (4, .inl v4), (5, .inr (.inl v5)), (7, .inl v7), (8, .inl (nf_M_entryAt v4 v7))], [], M)
      replace h := h.1 c85
      refine mm_s1 rfl ?_
      refine nn_getr rfl (nn_c407 NN).1 (lf_13_0 L N (nn_c407 NN)) ?_
      refine mm_s1 rfl ?_
      refine mm_s1 rfl ?_
      refine mm_s1 rfl ⟨nn_bd (na_13_0 NN (nn_c407 NN)) (by decide), ?_⟩
      show mm_Go (mm_run 4) mc_M_costs _ (99, [(0, .inr (.inr 407)), (2, .inl v2), (3, .inl v3), (4, .inl v4), (5, .inr (.inl v5)), (7, .inl v7), (8, .inl (nf_M_entryAt v4 v7))], [.inl (nn_ri M 408 16), .inl 16, .inr (.inr 408)], M)
      refine mm_s1 rfl ?_
      refine mm_s1 rfl ?_
      refine mm_s1 rfl ⟨nn_bd (na_13_0 NN (nn_c407 NN)) (show (0 : Int) ≤ 16 ∧ (16 : Int) < 32844 by decide), ?_⟩
      show mm_Go (mm_run 4) mc_M_costs _ (102, [(0, .inr (.inr 407)), (2, .inl v2), (3, .inl v3), (4, .inl v4), (5, .inr (.inl v5)), (7, .inl v7), (8, .inl (nf_M_entryAt v4 v7))], [], (nn_ui M 408 16 (mm_w ((nn_ri M 408 16) + 1))))
      have L : nn_L (nn_ui M 408 16 (mm_w ((nn_ri M 408 16) + 1))) := nn_L_ua L (congrArg Prod.fst (na_13_0 NN (nn_c407 NN))) (by decide)
      have N : (nn_ui M 408 16 (mm_w ((nn_ri M 408 16) + 1))).1 = n := N
      generalize e_M101 : (nn_ui M 408 16 (mm_w ((nn_ri M 408 16) + 1))) = M101 at L N ⊢
      replace h := h _ e_M101.symm
      show mm_Go (mm_run 4) mc_M_costs _ (102, [(0, .inr (.inr 407)), (2, .inl v2), (3, .inl v3), (4, .inl v4), (5, .inr (.inl v5)), (7, .inl v7), (8, .inl (nf_M_entryAt v4 v7))], [], M101)
      refine mm_s1 rfl ?_
      refine mm_s1 rfl ?_
      refine nn_getr rfl (nn_c407 NN).1 (lf_13_0 L N (nn_c407 NN)) ?_
      refine mm_s1 rfl ?_
      refine mm_s1 rfl ?_
      show mm_Go (mm_run 4) mc_M_costs _ (111, [(0, .inr (.inr 407)), (2, .inl v2), (3, .inl v3), (4, .inl v4), (5, .inr (.inl v5)), (7, .inl v7), (8, .inl (nf_M_entryAt v4 v7))], [.inl 2, .inl (nf_M_entryAt v4 v7), .inr (.inr 408), .inr (.inl v5)], M101)
      refine mm_s1 rfl ?_
      obtain ⟨b112, h⟩ := h
      refine mm_s1 rfl ⟨nn_bd (na_13_0 NN (nn_c407 NN)) b112, ?_⟩
      show mm_Go (mm_run 4) mc_M_costs _ (113, [(0, .inr (.inr 407)), (2, .inl v2), (3, .inl v3), (4, .inl v4), (5, .inr (.inl v5)), (7, .inl v7), (8, .inl (nf_M_entryAt v4 v7))], [.inl (nn_ri M101 408 (mm_w ((nf_M_entryAt v4 v7) + 2))), .inr (.inl v5)], M101)
      refine mm_s1 rfl ?_
      refine mm_s1 rfl ?_
      refine mm_s1 rfl ?_
      refine mm_s1 rfl ?_
      refine mm_s1 rfl ?_
      show mm_Go (mm_run 4) mc_M_costs _ (118, [(0, .inr (.inr 407)), (2, .inl v2), (3, .inl v3), (4, .inl v4), (5, .inr (.inl v5)), (7, .inl v7), (8, .inl (nf_M_entryAt v4 v7))], [.inl (mm_lcmp (mm_land (mm_lshr v5 (nn_ri M101 408 (mm_w ((nf_M_entryAt v4 v7) + 2)))) 1) 1)], M101)
      refine mm_s1 rfl ⟨fun c118 => ?_, fun c118 => ?_⟩
      · show mm_Go (mm_run 4) mc_M_costs _ (135, [(0, .inr (.inr 407)), (2, .inl v2), (3, .inl v3), (4, .inl v4), (5, .inr (.inl v5)), (7, .inl v7), (8, .inl (nf_M_entryAt v4 v7))], [], M101)
        replace h := h.1 c118
        refine mm_s1 rfl ?_
        refine nn_getr rfl (nn_c407 NN).1 (lf_13_0 L N (nn_c407 NN)) ?_
        refine mm_s1 rfl ?_
        refine mm_s1 rfl ?_
        refine mm_s1 rfl ⟨nn_bd (na_13_0 NN (nn_c407 NN)) (by decide), ?_⟩
        show mm_Go (mm_run 4) mc_M_costs _ (143, [(0, .inr (.inr 407)), (2, .inl v2), (3, .inl v3), (4, .inl v4), (5, .inr (.inl v5)), (7, .inl v7), (8, .inl (nf_M_entryAt v4 v7))], [.inl (nn_ri M101 408 19), .inl 19, .inr (.inr 408)], M101)
        refine mm_s1 rfl ?_
        refine mm_s1 rfl ?_
        refine mm_s1 rfl ?_
        refine mm_s1 rfl ⟨(nn_c407 NN).1, ?_⟩
        refine nn_call (D := 3) (by decide) (h n L N) ?_
        intro v M148 q; clear L N h
        obtain ⟨r148, rfl, L, N, h⟩ := q
        show mm_Go (mm_run 4) mc_M_costs _ (151, [(0, .inr (.inr 407)), (2, .inl v2), (3, .inl v3), (4, .inl v4), (5, .inr (.inl v5)), (7, .inl v7), (8, .inl (nf_M_entryAt v4 v7))], [.inl r148, .inl (nn_ri M101 408 19), .inl 19, .inr (.inr 408)], M148)
        refine mm_s1 rfl ?_
        refine mm_s1 rfl ⟨nn_bd (na_13_0 NN (nn_c407 NN)) (show (0 : Int) ≤ 19 ∧ (19 : Int) < 32844 by decide), ?_⟩
        show mm_Go (mm_run 4) mc_M_costs _ (153, [(0, .inr (.inr 407)), (2, .inl v2), (3, .inl v3), (4, .inl v4), (5, .inr (.inl v5)), (7, .inl v7), (8, .inl (nf_M_entryAt v4 v7))], [], (nn_ui M148 408 19 (mm_w ((nn_ri M101 408 19) + r148))))
        have L : nn_L (nn_ui M148 408 19 (mm_w ((nn_ri M101 408 19) + r148))) := nn_L_ua L (congrArg Prod.fst (na_13_0 NN (nn_c407 NN))) (by decide)
        have N : (nn_ui M148 408 19 (mm_w ((nn_ri M101 408 19) + r148))).1 = n := N
        generalize e_M152 : (nn_ui M148 408 19 (mm_w ((nn_ri M101 408 19) + r148))) = M152 at L N ⊢
        replace h := h _ e_M152.symm
        show mm_Go (mm_run 4) mc_M_costs _ (153, [(0, .inr (.inr 407)), (2, .inl v2), (3, .inl v3), (4, .inl v4), (5, .inr (.inl v5)), (7, .inl v7), (8, .inl (nf_M_entryAt v4 v7))], [], M152)
        refine mm_s1 rfl ?_
        refine mm_s1 rfl ?_
        refine mm_s1 rfl ?_
        refine mm_s1 rfl ⟨(nn_c407 NN).1, ?_⟩
        refine nn_call (D := 4) (by decide) (h n L N) ?_
        intro v M157 q; clear L N h
        obtain ⟨r157, rfl, q157, L, N, h⟩ := q
        show mm_Go (mm_run 4) mc_M_costs _ (160, [(0, .inr (.inr 407)), (2, .inl v2), (3, .inl v3), (4, .inl v4), (5, .inr (.inl v5)), (7, .inl v7), (8, .inl (nf_M_entryAt v4 v7))], [.inl r157], M157)
        refine mm_s1 rfl ⟨fun c160 => ?_, fun c160 => ?_⟩
        · show mm_Go (mm_run 4) mc_M_costs _ (177, [(0, .inr (.inr 407)), (2, .inl v2), (3, .inl v3), (4, .inl v4), (5, .inr (.inl v5)), (7, .inl v7), (8, .inl (nf_M_entryAt v4 v7))], [], M157)
          replace h := h.1 c160
          refine mm_s1 rfl ?_
          refine mm_s1 rfl ?_
          refine mm_s1 rfl ?_
          refine nn_getr rfl (nn_c407 NN).1 (lf_13_0 L N (nn_c407 NN)) ?_
          refine mm_s1 rfl ?_
          show mm_Go (mm_run 4) mc_M_costs _ (186, [(0, .inr (.inr 407)), (2, .inl v2), (3, .inl v3), (4, .inl v4), (5, .inr (.inl v5)), (7, .inl v7), (8, .inl (nf_M_entryAt v4 v7))], [.inl (nf_M_entryAt v4 v7), .inr (.inr 408), .inr (.inl 1), .inr (.inl v5)], M157)
          refine mm_s1 rfl ?_
          refine mm_s1 rfl ?_
          obtain ⟨b188, h⟩ := h
          refine mm_s1 rfl ⟨nn_bd (na_13_0 NN (nn_c407 NN)) b188, ?_⟩
          show mm_Go (mm_run 4) mc_M_costs _ (189, [(0, .inr (.inr 407)), (2, .inl v2), (3, .inl v3), (4, .inl v4), (5, .inr (.inl v5)), (7, .inl v7), (8, .inl (nf_M_entryAt v4 v7))], [.inl (nn_ri M157 408 (mm_w ((nf_M_entryAt v4 v7) + 2))), .inr (.inl 1), .inr (.inl v5)], M157)
          refine mm_s1 rfl ?_
          refine mm_s1 rfl ?_
          refine mm_s1 rfl ?_
          show mm_Go (mm_run 4) mc_M_costs _ (193, [(0, .inr (.inr 407)), (2, .inl v2), (3, .inl v3), (4, .inl v4), (5, .inr (.inl (mm_lor v5 (mm_lshl 1 (nn_ri M157 408 (mm_w ((nf_M_entryAt v4 v7) + 2))))))), (7, .inl v7), (8, .inl (nf_M_entryAt v4 v7))], [], M157)
          generalize e_x5_191 : (mm_lor v5 (mm_lshl 1 (nn_ri M157 408 (mm_w ((nf_M_entryAt v4 v7) + 2))))) = x5_191
          replace h := h _ e_x5_191.symm
          show mm_Go (mm_run 4) mc_M_costs _ (193, [(0, .inr (.inr 407)), (2, .inl v2), (3, .inl v3), (4, .inl v4), (5, .inr (.inl x5_191)), (7, .inl v7), (8, .inl (nf_M_entryAt v4 v7))], [], M157)
          refine mm_s1 rfl ?_
          show mm_Go (mm_run 4) mc_M_costs _ (196, [(0, .inr (.inr 407)), (2, .inl v2), (3, .inl v3), (4, .inl v4), (5, .inr (.inl x5_191)), (7, .inl (mm_w (v7 + 1))), (8, .inl (nf_M_entryAt v4 v7))], [], M157)
          refine mm_s1 rfl ?_
          show mm_Go (mm_run 4) mc_M_costs _ (47, [(0, .inr (.inr 407)), (2, .inl v2), (3, .inl v3), (4, .inl v4), (5, .inr (.inl x5_191)), (7, .inl (mm_w (v7 + 1))), (8, .inl (nf_M_entryAt v4 v7))], [], M157)
          exact nn_go_ext (nn_xc rfl (nn_xc rfl (nn_xc rfl (nn_xc rfl (nn_xc rfl (nn_xc rfl nn_xn)))))) (h n L N)
        · show mm_Go (mm_run 4) mc_M_costs _ (163, [(0, .inr (.inr 407)), (2, .inl v2), (3, .inl v3), (4, .inl v4), (5, .inr (.inl v5)), (7, .inl v7), (8, .inl (nf_M_entryAt v4 v7))], [], M157)
          replace h := h.2 c160
          refine mm_s1 rfl ?_
          refine nn_getr rfl (nn_c407 NN).1 (lf_13_0 L N (nn_c407 NN)) ?_
          refine mm_s1 rfl ?_
          refine mm_s1 rfl ?_
          refine mm_s1 rfl ⟨nn_bd (na_13_0 NN (nn_c407 NN)) (by decide), ?_⟩
          show mm_Go (mm_run 4) mc_M_costs _ (171, [(0, .inr (.inr 407)), (2, .inl v2), (3, .inl v3), (4, .inl v4), (5, .inr (.inl v5)), (7, .inl v7), (8, .inl (nf_M_entryAt v4 v7))], [.inl (nn_ri M157 408 17), .inl 17, .inr (.inr 408)], M157)
          refine mm_s1 rfl ?_
          refine mm_s1 rfl ?_
          refine mm_s1 rfl ⟨nn_bd (na_13_0 NN (nn_c407 NN)) (show (0 : Int) ≤ 17 ∧ (17 : Int) < 32844 by decide), ?_⟩
          show mm_Go (mm_run 4) mc_M_costs _ (174, [(0, .inr (.inr 407)), (2, .inl v2), (3, .inl v3), (4, .inl v4), (5, .inr (.inl v5)), (7, .inl v7), (8, .inl (nf_M_entryAt v4 v7))], [], (nn_ui M157 408 17 (mm_w ((nn_ri M157 408 17) + 1))))
          have L : nn_L (nn_ui M157 408 17 (mm_w ((nn_ri M157 408 17) + 1))) := nn_L_ua L (congrArg Prod.fst (na_13_0 NN (nn_c407 NN))) (by decide)
          have N : (nn_ui M157 408 17 (mm_w ((nn_ri M157 408 17) + 1))).1 = n := N
          generalize e_M173 : (nn_ui M157 408 17 (mm_w ((nn_ri M157 408 17) + 1))) = M173 at L N ⊢
          replace h := h _ e_M173.symm
          show mm_Go (mm_run 4) mc_M_costs _ (174, [(0, .inr (.inr 407)), (2, .inl v2), (3, .inl v3), (4, .inl v4), (5, .inr (.inl v5)), (7, .inl v7), (8, .inl (nf_M_entryAt v4 v7))], [], M173)
          refine mm_s1 rfl ?_
          show mm_Go (mm_run 4) mc_M_costs _ (193, [(0, .inr (.inr 407)), (2, .inl v2), (3, .inl v3), (4, .inl v4), (5, .inr (.inl v5)), (7, .inl v7), (8, .inl (nf_M_entryAt v4 v7))], [], M173)
          refine mm_s1 rfl ?_
          show mm_Go (mm_run 4) mc_M_costs _ (196, [(0, .inr (.inr 407)), (2, .inl v2), (3, .inl v3), (4, .inl v4), (5, .inr (.inl v5)), (7, .inl (mm_w (v7 + 1))), (8, .inl (nf_M_entryAt v4 v7))], [], M173)
          refine mm_s1 rfl ?_
          show mm_Go (mm_run 4) mc_M_costs _ (47, [(0, .inr (.inr 407)), (2, .inl v2), (3, .inl v3), (4, .inl v4), (5, .inr (.inl v5)), (7, .inl (mm_w (v7 + 1))), (8, .inl (nf_M_entryAt v4 v7))], [], M173)
          exact nn_go_ext (nn_xc rfl (nn_xc rfl (nn_xc rfl (nn_xc rfl (nn_xc rfl (nn_xc rfl nn_xn)))))) (h n L N)
      · show mm_Go (mm_run 4) mc_M_costs _ (121, [(0, .inr (.inr 407)), (2, .inl v2), (3, .inl v3), (4, .inl v4), (5, .inr (.inl v5)), (7, .inl v7), (8, .inl (nf_M_entryAt v4 v7))], [], M101)
        replace c118 := Decidable.not_not.mp c118
        replace h := h.2 c118
        refine mm_s1 rfl ?_
        refine nn_getr rfl (nn_c407 NN).1 (lf_13_0 L N (nn_c407 NN)) ?_
        refine mm_s1 rfl ?_
        refine mm_s1 rfl ?_
        refine mm_s1 rfl ⟨nn_bd (na_13_0 NN (nn_c407 NN)) (by decide), ?_⟩
        show mm_Go (mm_run 4) mc_M_costs _ (129, [(0, .inr (.inr 407)), (2, .inl v2), (3, .inl v3), (4, .inl v4), (5, .inr (.inl v5)), (7, .inl v7), (8, .inl (nf_M_entryAt v4 v7))], [.inl (nn_ri M101 408 18), .inl 18, .inr (.inr 408)], M101)
        refine mm_s1 rfl ?_
        refine mm_s1 rfl ?_
        refine mm_s1 rfl ⟨nn_bd (na_13_0 NN (nn_c407 NN)) (show (0 : Int) ≤ 18 ∧ (18 : Int) < 32844 by decide), ?_⟩
        show mm_Go (mm_run 4) mc_M_costs _ (132, [(0, .inr (.inr 407)), (2, .inl v2), (3, .inl v3), (4, .inl v4), (5, .inr (.inl v5)), (7, .inl v7), (8, .inl (nf_M_entryAt v4 v7))], [], (nn_ui M101 408 18 (mm_w ((nn_ri M101 408 18) + 1))))
        have L : nn_L (nn_ui M101 408 18 (mm_w ((nn_ri M101 408 18) + 1))) := nn_L_ua L (congrArg Prod.fst (na_13_0 NN (nn_c407 NN))) (by decide)
        have N : (nn_ui M101 408 18 (mm_w ((nn_ri M101 408 18) + 1))).1 = n := N
        generalize e_M131 : (nn_ui M101 408 18 (mm_w ((nn_ri M101 408 18) + 1))) = M131 at L N ⊢
        replace h := h _ e_M131.symm
        show mm_Go (mm_run 4) mc_M_costs _ (132, [(0, .inr (.inr 407)), (2, .inl v2), (3, .inl v3), (4, .inl v4), (5, .inr (.inl v5)), (7, .inl v7), (8, .inl (nf_M_entryAt v4 v7))], [], M131)
        refine mm_s1 rfl ?_
        show mm_Go (mm_run 4) mc_M_costs _ (193, [(0, .inr (.inr 407)), (2, .inl v2), (3, .inl v3), (4, .inl v4), (5, .inr (.inl v5)), (7, .inl v7), (8, .inl (nf_M_entryAt v4 v7))], [], M131)
        refine mm_s1 rfl ?_
        show mm_Go (mm_run 4) mc_M_costs _ (196, [(0, .inr (.inr 407)), (2, .inl v2), (3, .inl v3), (4, .inl v4), (5, .inr (.inl v5)), (7, .inl (mm_w (v7 + 1))), (8, .inl (nf_M_entryAt v4 v7))], [], M131)
        refine mm_s1 rfl ?_
        show mm_Go (mm_run 4) mc_M_costs _ (47, [(0, .inr (.inr 407)), (2, .inl v2), (3, .inl v3), (4, .inl v4), (5, .inr (.inl v5)), (7, .inl (mm_w (v7 + 1))), (8, .inl (nf_M_entryAt v4 v7))], [], M131)
        exact nn_go_ext (nn_xc rfl (nn_xc rfl (nn_xc rfl (nn_xc rfl (nn_xc rfl (nn_xc rfl nn_xn)))))) (h n L N)
    · show mm_Go (mm_run 4) mc_M_costs _ (88, [(0, .inr (.inr 407)), (2, .inl v2), (3, .inl v3), (4, .inl v4), (5, .inr (.inl v5)), (7, .inl v7), (8, .inl (nf_M_entryAt v4 v7))], [], M)
      replace c85 := Decidable.not_not.mp c85
      replace h := h.2 c85
      refine mm_s1 rfl ?_
      show mm_Go (mm_run 4) mc_M_costs _ (193, [(0, .inr (.inr 407)), (2, .inl v2), (3, .inl v3), (4, .inl v4), (5, .inr (.inl v5)), (7, .inl v7), (8, .inl (nf_M_entryAt v4 v7))], [], M)
      refine mm_s1 rfl ?_
      show mm_Go (mm_run 4) mc_M_costs _ (196, [(0, .inr (.inr 407)), (2, .inl v2), (3, .inl v3), (4, .inl v4), (5, .inr (.inl v5)), (7, .inl (mm_w (v7 + 1))), (8, .inl (nf_M_entryAt v4 v7))], [], M)
      refine mm_s1 rfl ?_
      show mm_Go (mm_run 4) mc_M_costs _ (47, [(0, .inr (.inr 407)), (2, .inl v2), (3, .inl v3), (4, .inl v4), (5, .inr (.inl v5)), (7, .inl (mm_w (v7 + 1))), (8, .inl (nf_M_entryAt v4 v7))], [], M)
      exact nn_go_ext (nn_xc rfl (nn_xc rfl (nn_xc rfl (nn_xc rfl (nn_xc rfl (nn_xc rfl nn_xn)))))) (h n L N)
def nr_M_asks (v1 : Int) (v2 : Int) (v3 : Int) (v4 : Int) (M : mm_M) (R : Int → mm_M → Prop) : Prop := ∀ n, nn_L M → M.1 = n → mm_run 5 mi_M_asks [.inr (.inr 407), .inl v1, .inl v2, .inl v3, .inl v4] M (nw_I n R)
def nk_M_asks_13 (v1 : Int) (v3 : Int) (v4 : Int) (v5 : Int) (v6 : Int) (v7 : Int) (M : mm_M) (R : Int → mm_M → Prop) : Prop := ∀ n, nn_L M → M.1 = n → mm_Go (mm_run 4) mc_M_asks (nw_I n R) (13, [(0, .inr (.inr 407)), (1, .inl v1), (3, .inl v3), (4, .inl v4), (5, .inl v5), (6, .inl v6), (7, .inl v7)], [], M)
def nk_M_asks_68 (v1 : Int) (v3 : Int) (v4 : Int) (v5 : Int) (v6 : Int) (v7 : Int) (v8 : Int) (v9 : Int) (M : mm_M) (R : Int → mm_M → Prop) : Prop := ∀ n, nn_L M → M.1 = n → mm_Go (mm_run 4) mc_M_asks (nw_I n R) (68, [(0, .inr (.inr 407)), (1, .inl v1), (3, .inl v3), (4, .inl v4), (5, .inl v5), (6, .inl v6), (7, .inl v7), (8, .inl v8), (9, .inl v9)], [], M)
set_option maxRecDepth 20000 in
theorem ng_M_asks (v1 : Int) (v2 : Int) (v3 : Int) (v4 : Int) (M : mm_M) (R : Int → mm_M → Prop) (h : nk_M_asks_13 v1 v3 v4 (nf_M_at v1 v2) 0 0 M R) : nr_M_asks v1 v2 v3 v4 M R := by
  intro n L N 
  have NN := nn_L_n L N
  show mm_Go (mm_run 4) mc_M_asks _ (0, [(0, .inr (.inr 407)), (1, .inl v1), (2, .inl v2), (3, .inl v3), (4, .inl v4)], [], M)
  refine mm_s1 rfl ?_
  refine mm_s1 rfl ?_
  refine mm_s1 rfl ⟨trivial, ?_⟩
  refine np_M_at (by decide) L N ?_
  show mm_Go (mm_run 4) mc_M_asks _ (5, [(0, .inr (.inr 407)), (1, .inl v1), (2, .inl v2), (3, .inl v3), (4, .inl v4)], [.inl (nf_M_at v1 v2)], M)
  refine mm_s1 rfl ?_
  show mm_Go (mm_run 4) mc_M_asks _ (7, [(0, .inr (.inr 407)), (1, .inl v1), (2, .inl v2), (3, .inl v3), (4, .inl v4), (5, .inl (nf_M_at v1 v2))], [], M)
  refine mm_s1 rfl ?_
  refine mm_s1 rfl ?_
  show mm_Go (mm_run 4) mc_M_asks _ (10, [(0, .inr (.inr 407)), (1, .inl v1), (2, .inl v2), (3, .inl v3), (4, .inl v4), (5, .inl (nf_M_at v1 v2)), (6, .inl 0)], [], M)
  refine mm_s1 rfl ?_
  refine mm_s1 rfl ?_
  show mm_Go (mm_run 4) mc_M_asks _ (13, [(0, .inr (.inr 407)), (1, .inl v1), (2, .inl v2), (3, .inl v3), (4, .inl v4), (5, .inl (nf_M_at v1 v2)), (6, .inl 0), (7, .inl 0)], [], M)
  exact nn_go_ext (nn_xc rfl (nn_xc rfl (nn_xc rfl (nn_xc rfl (nn_xc rfl (nn_xc rfl (nn_xc rfl nn_xn))))))) (h n L N)
set_option maxRecDepth 20000 in
theorem ng_M_asks_13 (v1 : Int) (v3 : Int) (v4 : Int) (v5 : Int) (v6 : Int) (v7 : Int) (M : mm_M) (R : Int → mm_M → Prop) (h : ((32 ≤ v7 → R v6 M) ∧ (v7 < 32 → (nr_M_isWanted v1 v5 v7 M (fun r26 M26 => ((r26 ≠ 0 → (nr_M_rowOf v1 v7 M26 (fun r42 M42 => (nr_M_valueOf v5 r42 M42 (fun r45 M45 => (((nf_M_isIn r45 v3 v4) ≠ 0 → nk_M_asks_68 v1 v3 v4 v5 v6 v7 r45 v6 M45 R) ∧ ((nf_M_isIn r45 v3 v4) = 0 → nk_M_asks_13 v1 v3 v4 v5 v6 (mm_w (v7 + 1)) M45 R))))))) ∧ (r26 = 0 → nk_M_asks_13 v1 v3 v4 v5 v6 (mm_w (v7 + 1)) M26 R))))))) : nk_M_asks_13 v1 v3 v4 v5 v6 v7 M R := by
  intro n L N 
  have NN := nn_L_n L N
  show mm_Go (mm_run 4) mc_M_asks _ (13, [(0, .inr (.inr 407)), (1, .inl v1), (3, .inl v3), (4, .inl v4), (5, .inl v5), (6, .inl v6), (7, .inl v7)], [], M)
  refine mm_s1 rfl ?_
  refine mm_s1 rfl ?_
  refine mm_s1 rfl ⟨fun c17 => ?_, fun c17 => ?_⟩
  · show mm_Go (mm_run 4) mc_M_asks _ (138, [(0, .inr (.inr 407)), (1, .inl v1), (3, .inl v3), (4, .inl v4), (5, .inl v5), (6, .inl v6), (7, .inl v7)], [], M)
    replace h := h.1 c17
    refine mm_s1 rfl ?_
    exact mm_s1 rfl ⟨_, rfl, L, N, h⟩
  · show mm_Go (mm_run 4) mc_M_asks _ (20, [(0, .inr (.inr 407)), (1, .inl v1), (3, .inl v3), (4, .inl v4), (5, .inl v5), (6, .inl v6), (7, .inl v7)], [], M)
    replace c17 := Int.not_le.mp c17
    replace h := h.2 c17
    refine mm_s1 rfl ?_
    refine mm_s1 rfl ?_
    refine mm_s1 rfl ?_
    refine mm_s1 rfl ?_
    refine mm_s1 rfl ⟨(nn_c407 NN).1, ?_⟩
    refine nn_call (D := 4) (by decide) (h n L N) ?_
    intro v M26 q; clear L N h
    obtain ⟨r26, rfl, q26, L, N, h⟩ := q
    show mm_Go (mm_run 4) mc_M_asks _ (29, [(0, .inr (.inr 407)), (1, .inl v1), (3, .inl v3), (4, .inl v4), (5, .inl v5), (6, .inl v6), (7, .inl v7)], [.inl r26], M26)
    refine mm_s1 rfl ⟨fun c29 => ?_, fun c29 => ?_⟩
    · show mm_Go (mm_run 4) mc_M_asks _ (35, [(0, .inr (.inr 407)), (1, .inl v1), (3, .inl v3), (4, .inl v4), (5, .inl v5), (6, .inl v6), (7, .inl v7)], [], M26)
      replace h := h.1 c29
      refine mm_s1 rfl ?_
      refine mm_s1 rfl ?_
      refine mm_s1 rfl ?_
      refine mm_s1 rfl ?_
      refine mm_s1 rfl ?_
      show mm_Go (mm_run 4) mc_M_asks _ (42, [(0, .inr (.inr 407)), (1, .inl v1), (3, .inl v3), (4, .inl v4), (5, .inl v5), (6, .inl v6), (7, .inl v7)], [.inl v7, .inl v1, .inr (.inr 407), .inl v5, .inr (.inr 407)], M26)
      refine mm_s1 rfl ⟨(nn_c407 NN).1, ?_⟩
      refine nn_call (D := 3) (by decide) (h n L N) ?_
      intro v M42 q; clear L N h
      obtain ⟨r42, rfl, L, N, h⟩ := q
      show mm_Go (mm_run 4) mc_M_asks _ (45, [(0, .inr (.inr 407)), (1, .inl v1), (3, .inl v3), (4, .inl v4), (5, .inl v5), (6, .inl v6), (7, .inl v7)], [.inl r42, .inl v5, .inr (.inr 407)], M42)
      refine mm_s1 rfl ⟨(nn_c407 NN).1, ?_⟩
      refine nn_call (D := 3) (by decide) (h n L N) ?_
      intro v M45 q; clear L N h
      obtain ⟨r45, rfl, L, N, h⟩ := q
      show mm_Go (mm_run 4) mc_M_asks _ (48, [(0, .inr (.inr 407)), (1, .inl v1), (3, .inl v3), (4, .inl v4), (5, .inl v5), (6, .inl v6), (7, .inl v7)], [.inl r45], M45)
      refine mm_s1 rfl ?_
      show mm_Go (mm_run 4) mc_M_asks _ (50, [(0, .inr (.inr 407)), (1, .inl v1), (3, .inl v3), (4, .inl v4), (5, .inl v5), (6, .inl v6), (7, .inl v7), (8, .inl r45)], [], M45)
      refine mm_s1 rfl ?_
      refine mm_s1 rfl ?_
      refine mm_s1 rfl ?_
      refine mm_s1 rfl ⟨trivial, ?_⟩
      refine np_M_isIn (by decide) L N ?_
      show mm_Go (mm_run 4) mc_M_asks _ (58, [(0, .inr (.inr 407)), (1, .inl v1), (3, .inl v3), (4, .inl v4), (5, .inl v5), (6, .inl v6), (7, .inl v7), (8, .inl r45)], [.inl (nf_M_isIn r45 v3 v4)], M45)
      refine mm_s1 rfl ⟨fun c58 => ?_, fun c58 => ?_⟩
      · show mm_Go (mm_run 4) mc_M_asks _ (64, [(0, .inr (.inr 407)), (1, .inl v1), (3, .inl v3), (4, .inl v4), (5, .inl v5), (6, .inl v6), (7, .inl v7), (8, .inl r45)], [], M45)
        replace h := h.1 c58
        refine mm_s1 rfl ?_
        refine mm_s1 rfl ?_
        show mm_Go (mm_run 4) mc_M_asks _ (68, [(0, .inr (.inr 407)), (1, .inl v1), (3, .inl v3), (4, .inl v4), (5, .inl v5), (6, .inl v6), (7, .inl v7), (8, .inl r45), (9, .inl v6)], [], M45)
        exact nn_go_ext (nn_xc rfl (nn_xc rfl (nn_xc rfl (nn_xc rfl (nn_xc rfl (nn_xc rfl (nn_xc rfl (nn_xc rfl (nn_xc rfl nn_xn))))))))) (h n L N)
      · show mm_Go (mm_run 4) mc_M_asks _ (61, [(0, .inr (.inr 407)), (1, .inl v1), (3, .inl v3), (4, .inl v4), (5, .inl v5), (6, .inl v6), (7, .inl v7), (8, .inl r45)], [], M45)
        replace c58 := Decidable.not_not.mp c58
        replace h := h.2 c58
        refine mm_s1 rfl ?_
        show mm_Go (mm_run 4) mc_M_asks _ (132, [(0, .inr (.inr 407)), (1, .inl v1), (3, .inl v3), (4, .inl v4), (5, .inl v5), (6, .inl v6), (7, .inl v7), (8, .inl r45)], [], M45)
        refine mm_s1 rfl ?_
        show mm_Go (mm_run 4) mc_M_asks _ (135, [(0, .inr (.inr 407)), (1, .inl v1), (3, .inl v3), (4, .inl v4), (5, .inl v5), (6, .inl v6), (7, .inl (mm_w (v7 + 1))), (8, .inl r45)], [], M45)
        refine mm_s1 rfl ?_
        show mm_Go (mm_run 4) mc_M_asks _ (13, [(0, .inr (.inr 407)), (1, .inl v1), (3, .inl v3), (4, .inl v4), (5, .inl v5), (6, .inl v6), (7, .inl (mm_w (v7 + 1))), (8, .inl r45)], [], M45)
        exact nn_go_ext (nn_xc rfl (nn_xc rfl (nn_xc rfl (nn_xc rfl (nn_xc rfl (nn_xc rfl (nn_xc rfl nn_xn))))))) (h n L N)
    · show mm_Go (mm_run 4) mc_M_asks _ (32, [(0, .inr (.inr 407)), (1, .inl v1), (3, .inl v3), (4, .inl v4), (5, .inl v5), (6, .inl v6), (7, .inl v7)], [], M26)
      replace c29 := Decidable.not_not.mp c29
      replace h := h.2 c29
      refine mm_s1 rfl ?_
      show mm_Go (mm_run 4) mc_M_asks _ (132, [(0, .inr (.inr 407)), (1, .inl v1), (3, .inl v3), (4, .inl v4), (5, .inl v5), (6, .inl v6), (7, .inl v7)], [], M26)
      refine mm_s1 rfl ?_
      show mm_Go (mm_run 4) mc_M_asks _ (135, [(0, .inr (.inr 407)), (1, .inl v1), (3, .inl v3), (4, .inl v4), (5, .inl v5), (6, .inl v6), (7, .inl (mm_w (v7 + 1)))], [], M26)
      refine mm_s1 rfl ?_
      show mm_Go (mm_run 4) mc_M_asks _ (13, [(0, .inr (.inr 407)), (1, .inl v1), (3, .inl v3), (4, .inl v4), (5, .inl v5), (6, .inl v6), (7, .inl (mm_w (v7 + 1)))], [], M26)
      exact nn_go_ext (nn_xc rfl (nn_xc rfl (nn_xc rfl (nn_xc rfl (nn_xc rfl (nn_xc rfl (nn_xc rfl nn_xn))))))) (h n L N)
set_option maxRecDepth 20000 in
theorem ng_M_asks_68 (v1 : Int) (v3 : Int) (v4 : Int) (v5 : Int) (v6 : Int) (v7 : Int) (v8 : Int) (v9 : Int) (M : mm_M) (R : Int → mm_M → Prop) (h : ((v9 ≤ 0 → (((0 : Int) ≤ v9 ∧ v9 < (32 : Int)) ∧ (∀ M128 : mm_M, M128 = nn_ui M 410 v9 v7 → nk_M_asks_13 v1 v3 v4 v5 (mm_w (v6 + 1)) (mm_w (v7 + 1)) M128 R))) ∧ (0 < v9 → (((0 : Int) ≤ (mm_w (v9 - 1)) ∧ (mm_w (v9 - 1)) < (32 : Int)) ∧ (nr_M_rowOf v1 (nn_ri M 410 (mm_w (v9 - 1))) M (fun r87 M87 => (nr_M_valueOf v5 r87 M87 (fun r90 M90 => ((r90 ≤ v8 → (((0 : Int) ≤ v9 ∧ v9 < (32 : Int)) ∧ (∀ M128 : mm_M, M128 = nn_ui M90 410 v9 v7 → nk_M_asks_13 v1 v3 v4 v5 (mm_w (v6 + 1)) (mm_w (v7 + 1)) M128 R))) ∧ (v8 < r90 → (((0 : Int) ≤ (mm_w (v9 - 1)) ∧ (mm_w (v9 - 1)) < (32 : Int)) ∧ (((0 : Int) ≤ v9 ∧ v9 < (32 : Int)) ∧ (∀ M113 : mm_M, M113 = nn_ui M90 410 v9 (nn_ri M90 410 (mm_w (v9 - 1))) → nk_M_asks_68 v1 v3 v4 v5 v6 v7 v8 (mm_w (v9 + (-1))) M113 R))))))))))))) : nk_M_asks_68 v1 v3 v4 v5 v6 v7 v8 v9 M R := by
  intro n L N 
  have NN := nn_L_n L N
  show mm_Go (mm_run 4) mc_M_asks _ (68, [(0, .inr (.inr 407)), (1, .inl v1), (3, .inl v3), (4, .inl v4), (5, .inl v5), (6, .inl v6), (7, .inl v7), (8, .inl v8), (9, .inl v9)], [], M)
  refine mm_s1 rfl ?_
  refine mm_s1 rfl ⟨fun c70 => ?_, fun c70 => ?_⟩
  · show mm_Go (mm_run 4) mc_M_asks _ (120, [(0, .inr (.inr 407)), (1, .inl v1), (3, .inl v3), (4, .inl v4), (5, .inl v5), (6, .inl v6), (7, .inl v7), (8, .inl v8), (9, .inl v9)], [], M)
    replace h := h.1 c70
    refine mm_s1 rfl ?_
    refine nn_getr rfl (nn_c407 NN).1 (lf_13_10 L N (nn_c407 NN)) ?_
    refine mm_s1 rfl ?_
    refine mm_s1 rfl ?_
    obtain ⟨b128, h⟩ := h
    refine mm_s1 rfl ⟨nn_bd (na_13_10 NN (nn_c407 NN)) b128, ?_⟩
    show mm_Go (mm_run 4) mc_M_asks _ (129, [(0, .inr (.inr 407)), (1, .inl v1), (3, .inl v3), (4, .inl v4), (5, .inl v5), (6, .inl v6), (7, .inl v7), (8, .inl v8), (9, .inl v9)], [], (nn_ui M 410 v9 v7))
    have L : nn_L (nn_ui M 410 v9 v7) := nn_L_ua L (congrArg Prod.fst (na_13_10 NN (nn_c407 NN))) (by decide)
    have N : (nn_ui M 410 v9 v7).1 = n := N
    generalize e_M128 : (nn_ui M 410 v9 v7) = M128 at L N ⊢
    replace h := h _ e_M128.symm
    show mm_Go (mm_run 4) mc_M_asks _ (129, [(0, .inr (.inr 407)), (1, .inl v1), (3, .inl v3), (4, .inl v4), (5, .inl v5), (6, .inl v6), (7, .inl v7), (8, .inl v8), (9, .inl v9)], [], M128)
    refine mm_s1 rfl ?_
    show mm_Go (mm_run 4) mc_M_asks _ (132, [(0, .inr (.inr 407)), (1, .inl v1), (3, .inl v3), (4, .inl v4), (5, .inl v5), (6, .inl (mm_w (v6 + 1))), (7, .inl v7), (8, .inl v8), (9, .inl v9)], [], M128)
    refine mm_s1 rfl ?_
    show mm_Go (mm_run 4) mc_M_asks _ (135, [(0, .inr (.inr 407)), (1, .inl v1), (3, .inl v3), (4, .inl v4), (5, .inl v5), (6, .inl (mm_w (v6 + 1))), (7, .inl (mm_w (v7 + 1))), (8, .inl v8), (9, .inl v9)], [], M128)
    refine mm_s1 rfl ?_
    show mm_Go (mm_run 4) mc_M_asks _ (13, [(0, .inr (.inr 407)), (1, .inl v1), (3, .inl v3), (4, .inl v4), (5, .inl v5), (6, .inl (mm_w (v6 + 1))), (7, .inl (mm_w (v7 + 1))), (8, .inl v8), (9, .inl v9)], [], M128)
    exact nn_go_ext (nn_xc rfl (nn_xc rfl (nn_xc rfl (nn_xc rfl (nn_xc rfl (nn_xc rfl (nn_xc rfl nn_xn))))))) (h n L N)
  · show mm_Go (mm_run 4) mc_M_asks _ (73, [(0, .inr (.inr 407)), (1, .inl v1), (3, .inl v3), (4, .inl v4), (5, .inl v5), (6, .inl v6), (7, .inl v7), (8, .inl v8), (9, .inl v9)], [], M)
    replace c70 := Int.not_le.mp c70
    replace h := h.2 c70
    refine mm_s1 rfl ?_
    refine mm_s1 rfl ?_
    refine mm_s1 rfl ?_
    refine mm_s1 rfl ?_
    refine mm_s1 rfl ?_
    show mm_Go (mm_run 4) mc_M_asks _ (79, [(0, .inr (.inr 407)), (1, .inl v1), (3, .inl v3), (4, .inl v4), (5, .inl v5), (6, .inl v6), (7, .inl v7), (8, .inl v8), (9, .inl v9)], [.inr (.inr 407), .inl v1, .inr (.inr 407), .inl v5, .inr (.inr 407)], M)
    refine nn_getr rfl (nn_c407 NN).1 (lf_13_10 L N (nn_c407 NN)) ?_
    refine mm_s1 rfl ?_
    refine mm_s1 rfl ?_
    refine mm_s1 rfl ?_
    obtain ⟨b86, h⟩ := h
    refine mm_s1 rfl ⟨nn_bd (na_13_10 NN (nn_c407 NN)) b86, ?_⟩
    show mm_Go (mm_run 4) mc_M_asks _ (87, [(0, .inr (.inr 407)), (1, .inl v1), (3, .inl v3), (4, .inl v4), (5, .inl v5), (6, .inl v6), (7, .inl v7), (8, .inl v8), (9, .inl v9)], [.inl (nn_ri M 410 (mm_w (v9 - 1))), .inl v1, .inr (.inr 407), .inl v5, .inr (.inr 407)], M)
    refine mm_s1 rfl ⟨(nn_c407 NN).1, ?_⟩
    refine nn_call (D := 3) (by decide) (h n L N) ?_
    intro v M87 q; clear L N h
    obtain ⟨r87, rfl, L, N, h⟩ := q
    show mm_Go (mm_run 4) mc_M_asks _ (90, [(0, .inr (.inr 407)), (1, .inl v1), (3, .inl v3), (4, .inl v4), (5, .inl v5), (6, .inl v6), (7, .inl v7), (8, .inl v8), (9, .inl v9)], [.inl r87, .inl v5, .inr (.inr 407)], M87)
    refine mm_s1 rfl ⟨(nn_c407 NN).1, ?_⟩
    refine nn_call (D := 3) (by decide) (h n L N) ?_
    intro v M90 q; clear L N h
    obtain ⟨r90, rfl, L, N, h⟩ := q
    show mm_Go (mm_run 4) mc_M_asks _ (93, [(0, .inr (.inr 407)), (1, .inl v1), (3, .inl v3), (4, .inl v4), (5, .inl v5), (6, .inl v6), (7, .inl v7), (8, .inl v8), (9, .inl v9)], [.inl r90], M90)
    refine mm_s1 rfl ?_
    refine mm_s1 rfl ⟨fun c95 => ?_, fun c95 => ?_⟩
    · show mm_Go (mm_run 4) mc_M_asks _ (120, [(0, .inr (.inr 407)), (1, .inl v1), (3, .inl v3), (4, .inl v4), (5, .inl v5), (6, .inl v6), (7, .inl v7), (8, .inl v8), (9, .inl v9)], [], M90)
      replace h := h.1 c95
      refine mm_s1 rfl ?_
      refine nn_getr rfl (nn_c407 NN).1 (lf_13_10 L N (nn_c407 NN)) ?_
      refine mm_s1 rfl ?_
      refine mm_s1 rfl ?_
      obtain ⟨b128, h⟩ := h
      refine mm_s1 rfl ⟨nn_bd (na_13_10 NN (nn_c407 NN)) b128, ?_⟩
      show mm_Go (mm_run 4) mc_M_asks _ (129, [(0, .inr (.inr 407)), (1, .inl v1), (3, .inl v3), (4, .inl v4), (5, .inl v5), (6, .inl v6), (7, .inl v7), (8, .inl v8), (9, .inl v9)], [], (nn_ui M90 410 v9 v7))
      have L : nn_L (nn_ui M90 410 v9 v7) := nn_L_ua L (congrArg Prod.fst (na_13_10 NN (nn_c407 NN))) (by decide)
      have N : (nn_ui M90 410 v9 v7).1 = n := N
      generalize e_M128 : (nn_ui M90 410 v9 v7) = M128 at L N ⊢
      replace h := h _ e_M128.symm
      show mm_Go (mm_run 4) mc_M_asks _ (129, [(0, .inr (.inr 407)), (1, .inl v1), (3, .inl v3), (4, .inl v4), (5, .inl v5), (6, .inl v6), (7, .inl v7), (8, .inl v8), (9, .inl v9)], [], M128)
      refine mm_s1 rfl ?_
      show mm_Go (mm_run 4) mc_M_asks _ (132, [(0, .inr (.inr 407)), (1, .inl v1), (3, .inl v3), (4, .inl v4), (5, .inl v5), (6, .inl (mm_w (v6 + 1))), (7, .inl v7), (8, .inl v8), (9, .inl v9)], [], M128)
      refine mm_s1 rfl ?_
      show mm_Go (mm_run 4) mc_M_asks _ (135, [(0, .inr (.inr 407)), (1, .inl v1), (3, .inl v3), (4, .inl v4), (5, .inl v5), (6, .inl (mm_w (v6 + 1))), (7, .inl (mm_w (v7 + 1))), (8, .inl v8), (9, .inl v9)], [], M128)
      refine mm_s1 rfl ?_
      show mm_Go (mm_run 4) mc_M_asks _ (13, [(0, .inr (.inr 407)), (1, .inl v1), (3, .inl v3), (4, .inl v4), (5, .inl v5), (6, .inl (mm_w (v6 + 1))), (7, .inl (mm_w (v7 + 1))), (8, .inl v8), (9, .inl v9)], [], M128)
      exact nn_go_ext (nn_xc rfl (nn_xc rfl (nn_xc rfl (nn_xc rfl (nn_xc rfl (nn_xc rfl (nn_xc rfl nn_xn))))))) (h n L N)
    · show mm_Go (mm_run 4) mc_M_asks _ (98, [(0, .inr (.inr 407)), (1, .inl v1), (3, .inl v3), (4, .inl v4), (5, .inl v5), (6, .inl v6), (7, .inl v7), (8, .inl v8), (9, .inl v9)], [], M90)
      replace c95 := Int.not_le.mp c95
      replace h := h.2 c95
      refine mm_s1 rfl ?_
      refine nn_getr rfl (nn_c407 NN).1 (lf_13_10 L N (nn_c407 NN)) ?_
      refine mm_s1 rfl ?_
      refine mm_s1 rfl ?_
      refine nn_getr rfl (nn_c407 NN).1 (lf_13_10 L N (nn_c407 NN)) ?_
      show mm_Go (mm_run 4) mc_M_asks _ (108, [(0, .inr (.inr 407)), (1, .inl v1), (3, .inl v3), (4, .inl v4), (5, .inl v5), (6, .inl v6), (7, .inl v7), (8, .inl v8), (9, .inl v9)], [.inr (.inr 410), .inl v9, .inr (.inr 410)], M90)
      refine mm_s1 rfl ?_
      refine mm_s1 rfl ?_
      refine mm_s1 rfl ?_
      obtain ⟨b112, h⟩ := h
      refine mm_s1 rfl ⟨nn_bd (na_13_10 NN (nn_c407 NN)) b112, ?_⟩
      show mm_Go (mm_run 4) mc_M_asks _ (113, [(0, .inr (.inr 407)), (1, .inl v1), (3, .inl v3), (4, .inl v4), (5, .inl v5), (6, .inl v6), (7, .inl v7), (8, .inl v8), (9, .inl v9)], [.inl (nn_ri M90 410 (mm_w (v9 - 1))), .inl v9, .inr (.inr 410)], M90)
      obtain ⟨b113, h⟩ := h
      refine mm_s1 rfl ⟨nn_bd (na_13_10 NN (nn_c407 NN)) b113, ?_⟩
      show mm_Go (mm_run 4) mc_M_asks _ (114, [(0, .inr (.inr 407)), (1, .inl v1), (3, .inl v3), (4, .inl v4), (5, .inl v5), (6, .inl v6), (7, .inl v7), (8, .inl v8), (9, .inl v9)], [], (nn_ui M90 410 v9 (nn_ri M90 410 (mm_w (v9 - 1)))))
      have L : nn_L (nn_ui M90 410 v9 (nn_ri M90 410 (mm_w (v9 - 1)))) := nn_L_ua L (congrArg Prod.fst (na_13_10 NN (nn_c407 NN))) (by decide)
      have N : (nn_ui M90 410 v9 (nn_ri M90 410 (mm_w (v9 - 1)))).1 = n := N
      generalize e_M113 : (nn_ui M90 410 v9 (nn_ri M90 410 (mm_w (v9 - 1)))) = M113 at L N ⊢
      replace h := h _ e_M113.symm
      show mm_Go (mm_run 4) mc_M_asks _ (114, [(0, .inr (.inr 407)), (1, .inl v1), (3, .inl v3), (4, .inl v4), (5, .inl v5), (6, .inl v6), (7, .inl v7), (8, .inl v8), (9, .inl v9)], [], M113)
      refine mm_s1 rfl ?_
      show mm_Go (mm_run 4) mc_M_asks _ (117, [(0, .inr (.inr 407)), (1, .inl v1), (3, .inl v3), (4, .inl v4), (5, .inl v5), (6, .inl v6), (7, .inl v7), (8, .inl v8), (9, .inl (mm_w (v9 + (-1))))], [], M113)
      refine mm_s1 rfl ?_
      show mm_Go (mm_run 4) mc_M_asks _ (68, [(0, .inr (.inr 407)), (1, .inl v1), (3, .inl v3), (4, .inl v4), (5, .inl v5), (6, .inl v6), (7, .inl v7), (8, .inl v8), (9, .inl (mm_w (v9 + (-1))))], [], M113)
      exact nn_go_ext (nn_xc rfl (nn_xc rfl (nn_xc rfl (nn_xc rfl (nn_xc rfl (nn_xc rfl (nn_xc rfl (nn_xc rfl (nn_xc rfl nn_xn))))))))) (h n L N)
def nr_M_isWith (v1 : Int) (v2 : Int) (v3 : Int) (M : mm_M) (R : Int → mm_M → Prop) : Prop := ∀ n, nn_L M → M.1 = n → mm_run 5 mi_M_isWith [.inr (.inr 407), .inl v1, .inl v2, .inl v3] M (nw_Z n R)
set_option maxRecDepth 20000 in
theorem ng_M_isWith (v1 : Int) (v2 : Int) (v3 : Int) (M : mm_M) (R : Int → mm_M → Prop) (h : (nr_M_isWanted 0 (nf_M_at 0 v1) v2 M (fun r8 M8 => ((r8 = 0 → R 0 M8) ∧ (r8 ≠ 0 → (nr_M_rowOf 0 v2 M8 (fun r23 M23 => (nr_M_valueOf (nf_M_at 0 v1) r23 M23 (fun r26 M26 => ((r26 ≠ v3 → R 0 M26) ∧ (r26 = v3 → R 1 M26))))))))))) : nr_M_isWith v1 v2 v3 M R := by
  intro n L N 
  have NN := nn_L_n L N
  show mm_Go (mm_run 4) mc_M_isWith _ (0, [(0, .inr (.inr 407)), (1, .inl v1), (2, .inl v2), (3, .inl v3)], [], M)
  refine mm_s1 rfl ?_
  refine mm_s1 rfl ?_
  refine mm_s1 rfl ?_
  refine mm_s1 rfl ?_
  refine mm_s1 rfl ⟨trivial, ?_⟩
  refine np_M_at (by decide) L N ?_
  show mm_Go (mm_run 4) mc_M_isWith _ (7, [(0, .inr (.inr 407)), (1, .inl v1), (2, .inl v2), (3, .inl v3)], [.inl (nf_M_at 0 v1), .inl 0, .inr (.inr 407)], M)
  refine mm_s1 rfl ?_
  refine mm_s1 rfl ⟨(nn_c407 NN).1, ?_⟩
  refine nn_call (D := 4) (by decide) (h n L N) ?_
  intro v M8 q; clear L N h
  obtain ⟨r8, rfl, q8, L, N, h⟩ := q
  show mm_Go (mm_run 4) mc_M_isWith _ (11, [(0, .inr (.inr 407)), (1, .inl v1), (2, .inl v2), (3, .inl v3)], [.inl r8], M8)
  refine mm_s1 rfl ⟨fun c11 => ?_, fun c11 => ?_⟩
  · show mm_Go (mm_run 4) mc_M_isWith _ (37, [(0, .inr (.inr 407)), (1, .inl v1), (2, .inl v2), (3, .inl v3)], [], M8)
    replace h := h.1 c11
    refine mm_s1 rfl ?_
    exact mm_s1 rfl ⟨(Or.inl rfl), _, rfl, (Or.inl rfl), L, N, h⟩
  · show mm_Go (mm_run 4) mc_M_isWith _ (14, [(0, .inr (.inr 407)), (1, .inl v1), (2, .inl v2), (3, .inl v3)], [], M8)
    replace h := h.2 c11
    refine mm_s1 rfl ?_
    refine mm_s1 rfl ?_
    refine mm_s1 rfl ?_
    refine mm_s1 rfl ⟨trivial, ?_⟩
    refine np_M_at (by decide) L N ?_
    show mm_Go (mm_run 4) mc_M_isWith _ (20, [(0, .inr (.inr 407)), (1, .inl v1), (2, .inl v2), (3, .inl v3)], [.inl (nf_M_at 0 v1), .inr (.inr 407)], M8)
    refine mm_s1 rfl ?_
    refine mm_s1 rfl ?_
    refine mm_s1 rfl ?_
    refine mm_s1 rfl ⟨(nn_c407 NN).1, ?_⟩
    refine nn_call (D := 3) (by decide) (h n L N) ?_
    intro v M23 q; clear L N h
    obtain ⟨r23, rfl, L, N, h⟩ := q
    show mm_Go (mm_run 4) mc_M_isWith _ (26, [(0, .inr (.inr 407)), (1, .inl v1), (2, .inl v2), (3, .inl v3)], [.inl r23, .inl (nf_M_at 0 v1), .inr (.inr 407)], M23)
    refine mm_s1 rfl ⟨(nn_c407 NN).1, ?_⟩
    refine nn_call (D := 3) (by decide) (h n L N) ?_
    intro v M26 q; clear L N h
    obtain ⟨r26, rfl, L, N, h⟩ := q
    show mm_Go (mm_run 4) mc_M_isWith _ (29, [(0, .inr (.inr 407)), (1, .inl v1), (2, .inl v2), (3, .inl v3)], [.inl r26], M26)
    refine mm_s1 rfl ?_
    refine mm_s1 rfl ⟨fun c30 => ?_, fun c30 => ?_⟩
    · show mm_Go (mm_run 4) mc_M_isWith _ (37, [(0, .inr (.inr 407)), (1, .inl v1), (2, .inl v2), (3, .inl v3)], [], M26)
      replace h := h.1 c30
      refine mm_s1 rfl ?_
      exact mm_s1 rfl ⟨(Or.inl rfl), _, rfl, (Or.inl rfl), L, N, h⟩
    · show mm_Go (mm_run 4) mc_M_isWith _ (33, [(0, .inr (.inr 407)), (1, .inl v1), (2, .inl v2), (3, .inl v3)], [], M26)
      replace c30 := Decidable.not_not.mp c30
      replace h := h.2 c30
      refine mm_s1 rfl ?_
      refine mm_s1 rfl ?_
      show mm_Go (mm_run 4) mc_M_isWith _ (38, [(0, .inr (.inr 407)), (1, .inl v1), (2, .inl v2), (3, .inl v3)], [.inl 1], M26)
      exact mm_s1 rfl ⟨(Or.inr rfl), _, rfl, (Or.inr rfl), L, N, h⟩
def nr_M_stales (v1 : Int) (v2 : Int) (v3 : Int) (M : mm_M) (R : Int → mm_M → Prop) : Prop := ∀ n, nn_L M → M.1 = n → mm_run 5 mi_M_stales [.inr (.inr 407), .inl v1, .inl v2, .inl v3] M (nw_I n R)
def nk_M_stales_13 (v1 : Int) (v3 : Int) (v4 : Int) (v5 : Int) (v6 : Int) (M : mm_M) (R : Int → mm_M → Prop) : Prop := ∀ n, nn_L M → M.1 = n → mm_Go (mm_run 4) mc_M_stales (nw_I n R) (13, [(0, .inr (.inr 407)), (1, .inl v1), (3, .inl v3), (4, .inl v4), (5, .inl v5), (6, .inl v6)], [], M)
set_option maxRecDepth 20000 in
theorem ng_M_stales (v1 : Int) (v2 : Int) (v3 : Int) (M : mm_M) (R : Int → mm_M → Prop) (h : nk_M_stales_13 v1 v3 (nf_M_at v1 v2) 0 0 M R) : nr_M_stales v1 v2 v3 M R := by
  intro n L N 
  have NN := nn_L_n L N
  show mm_Go (mm_run 4) mc_M_stales _ (0, [(0, .inr (.inr 407)), (1, .inl v1), (2, .inl v2), (3, .inl v3)], [], M)
  refine mm_s1 rfl ?_
  refine mm_s1 rfl ?_
  refine mm_s1 rfl ⟨trivial, ?_⟩
  refine np_M_at (by decide) L N ?_
  show mm_Go (mm_run 4) mc_M_stales _ (5, [(0, .inr (.inr 407)), (1, .inl v1), (2, .inl v2), (3, .inl v3)], [.inl (nf_M_at v1 v2)], M)
  refine mm_s1 rfl ?_
  show mm_Go (mm_run 4) mc_M_stales _ (7, [(0, .inr (.inr 407)), (1, .inl v1), (2, .inl v2), (3, .inl v3), (4, .inl (nf_M_at v1 v2))], [], M)
  refine mm_s1 rfl ?_
  refine mm_s1 rfl ?_
  show mm_Go (mm_run 4) mc_M_stales _ (10, [(0, .inr (.inr 407)), (1, .inl v1), (2, .inl v2), (3, .inl v3), (4, .inl (nf_M_at v1 v2)), (5, .inl 0)], [], M)
  refine mm_s1 rfl ?_
  refine mm_s1 rfl ?_
  show mm_Go (mm_run 4) mc_M_stales _ (13, [(0, .inr (.inr 407)), (1, .inl v1), (2, .inl v2), (3, .inl v3), (4, .inl (nf_M_at v1 v2)), (5, .inl 0), (6, .inl 0)], [], M)
  exact nn_go_ext (nn_xc rfl (nn_xc rfl (nn_xc rfl (nn_xc rfl (nn_xc rfl (nn_xc rfl nn_xn)))))) (h n L N)
set_option maxRecDepth 20000 in
theorem ng_M_stales_13 (v1 : Int) (v3 : Int) (v4 : Int) (v5 : Int) (v6 : Int) (M : mm_M) (R : Int → mm_M → Prop) (h : (((0 : Int) ≤ (mm_w (v4 + 6)) ∧ (mm_w (v4 + 6)) < (32844 : Int)) ∧ (((nn_ri M 408 (mm_w (v4 + 6))) ≤ v6 → R v5 M) ∧ (v6 < (nn_ri M 408 (mm_w (v4 + 6))) → (((v3 ≠ (-2)) → ((0 : Int) ≤ (nf_M_entryAt v4 v6) ∧ (nf_M_entryAt v4 v6) < (32844 : Int))) ∧ ((v3 = (-2) ∨ ((nn_ri M 408 (nf_M_entryAt v4 v6)) = (mm_w (v3 + 1)))) → (nr_M_isStale v1 (nf_M_entryAt v4 v6) M (fun r63 M63 => ((r63 = 0 → nk_M_stales_13 v1 v3 v4 (mm_w (v5 + 0)) (mm_w (v6 + 1)) M63 R) ∧ (r63 ≠ 0 → nk_M_stales_13 v1 v3 v4 (mm_w (v5 + 1)) (mm_w (v6 + 1)) M63 R))))) ∧ ((v3 ≠ (-2) ∧ ((nn_ri M 408 (nf_M_entryAt v4 v6)) ≠ (mm_w (v3 + 1)))) → nk_M_stales_13 v1 v3 v4 (mm_w (v5 + 0)) (mm_w (v6 + 1)) M R)))))) : nk_M_stales_13 v1 v3 v4 v5 v6 M R := by
  intro n L N 
  have NN := nn_L_n L N
  show mm_Go (mm_run 4) mc_M_stales _ (13, [(0, .inr (.inr 407)), (1, .inl v1), (3, .inl v3), (4, .inl v4), (5, .inl v5), (6, .inl v6)], [], M)
  refine mm_s1 rfl ?_
  refine mm_s1 rfl ?_
  refine nn_getr rfl (nn_c407 NN).1 (lf_13_0 L N (nn_c407 NN)) ?_
  refine mm_s1 rfl ?_
  refine mm_s1 rfl ?_
  show mm_Go (mm_run 4) mc_M_stales _ (23, [(0, .inr (.inr 407)), (1, .inl v1), (3, .inl v3), (4, .inl v4), (5, .inl v5), (6, .inl v6)], [.inl 6, .inl v4, .inr (.inr 408), .inl v6], M)
  refine mm_s1 rfl ?_
  obtain ⟨b24, h⟩ := h
  refine mm_s1 rfl ⟨nn_bd (na_13_0 NN (nn_c407 NN)) b24, ?_⟩
  show mm_Go (mm_run 4) mc_M_stales _ (25, [(0, .inr (.inr 407)), (1, .inl v1), (3, .inl v3), (4, .inl v4), (5, .inl v5), (6, .inl v6)], [.inl (nn_ri M 408 (mm_w (v4 + 6))), .inl v6], M)
  refine mm_s1 rfl ⟨fun c25 => ?_, fun c25 => ?_⟩
  · show mm_Go (mm_run 4) mc_M_stales _ (83, [(0, .inr (.inr 407)), (1, .inl v1), (3, .inl v3), (4, .inl v4), (5, .inl v5), (6, .inl v6)], [], M)
    replace h := h.1 c25
    refine mm_s1 rfl ?_
    exact mm_s1 rfl ⟨_, rfl, L, N, h⟩
  · show mm_Go (mm_run 4) mc_M_stales _ (28, [(0, .inr (.inr 407)), (1, .inl v1), (3, .inl v3), (4, .inl v4), (5, .inl v5), (6, .inl v6)], [], M)
    replace c25 := Int.not_le.mp c25
    replace h := h.2 c25
    refine mm_s1 rfl ?_
    refine mm_s1 rfl ?_
    refine mm_s1 rfl ?_
    refine mm_s1 rfl ⟨fun c33 => ?_, fun c33 => ?_⟩
    · show mm_Go (mm_run 4) mc_M_stales _ (54, [(0, .inr (.inr 407)), (1, .inl v1), (3, .inl v3), (4, .inl v4), (5, .inl v5), (6, .inl v6)], [.inl v5], M)
      refine mm_s1 rfl ?_
      refine mm_s1 rfl ?_
      refine mm_s1 rfl ?_
      refine mm_s1 rfl ?_
      refine mm_s1 rfl ⟨trivial, ?_⟩
      refine np_M_entryAt (by decide) L N ?_
      show mm_Go (mm_run 4) mc_M_stales _ (63, [(0, .inr (.inr 407)), (1, .inl v1), (3, .inl v3), (4, .inl v4), (5, .inl v5), (6, .inl v6)], [.inl (nf_M_entryAt v4 v6), .inl v1, .inr (.inr 407), .inl v5], M)
      replace h := h.2.1 (Or.inl c33)
      refine mm_s1 rfl ⟨(nn_c407 NN).1, ?_⟩
      refine nn_call (D := 4) (by decide) (h n L N) ?_
      intro v M63 q; clear L N h
      obtain ⟨r63, rfl, q63, L, N, h⟩ := q
      show mm_Go (mm_run 4) mc_M_stales _ (66, [(0, .inr (.inr 407)), (1, .inl v1), (3, .inl v3), (4, .inl v4), (5, .inl v5), (6, .inl v6)], [.inl r63, .inl v5], M63)
      refine mm_s1 rfl ⟨fun c66 => ?_, fun c66 => ?_⟩
      · show mm_Go (mm_run 4) mc_M_stales _ (73, [(0, .inr (.inr 407)), (1, .inl v1), (3, .inl v3), (4, .inl v4), (5, .inl v5), (6, .inl v6)], [.inl v5], M63)
        replace h := h.1 c66
        refine mm_s1 rfl ?_
        refine mm_s1 rfl ?_
        refine mm_s1 rfl ?_
        show mm_Go (mm_run 4) mc_M_stales _ (77, [(0, .inr (.inr 407)), (1, .inl v1), (3, .inl v3), (4, .inl v4), (5, .inl (mm_w (v5 + 0))), (6, .inl v6)], [], M63)
        refine mm_s1 rfl ?_
        show mm_Go (mm_run 4) mc_M_stales _ (80, [(0, .inr (.inr 407)), (1, .inl v1), (3, .inl v3), (4, .inl v4), (5, .inl (mm_w (v5 + 0))), (6, .inl (mm_w (v6 + 1)))], [], M63)
        refine mm_s1 rfl ?_
        show mm_Go (mm_run 4) mc_M_stales _ (13, [(0, .inr (.inr 407)), (1, .inl v1), (3, .inl v3), (4, .inl v4), (5, .inl (mm_w (v5 + 0))), (6, .inl (mm_w (v6 + 1)))], [], M63)
        exact nn_go_ext (nn_xc rfl (nn_xc rfl (nn_xc rfl (nn_xc rfl (nn_xc rfl (nn_xc rfl nn_xn)))))) (h n L N)
      · show mm_Go (mm_run 4) mc_M_stales _ (69, [(0, .inr (.inr 407)), (1, .inl v1), (3, .inl v3), (4, .inl v4), (5, .inl v5), (6, .inl v6)], [.inl v5], M63)
        replace h := h.2 c66
        refine mm_s1 rfl ?_
        refine mm_s1 rfl ?_
        show mm_Go (mm_run 4) mc_M_stales _ (74, [(0, .inr (.inr 407)), (1, .inl v1), (3, .inl v3), (4, .inl v4), (5, .inl v5), (6, .inl v6)], [.inl 1, .inl v5], M63)
        refine mm_s1 rfl ?_
        refine mm_s1 rfl ?_
        show mm_Go (mm_run 4) mc_M_stales _ (77, [(0, .inr (.inr 407)), (1, .inl v1), (3, .inl v3), (4, .inl v4), (5, .inl (mm_w (v5 + 1))), (6, .inl v6)], [], M63)
        refine mm_s1 rfl ?_
        show mm_Go (mm_run 4) mc_M_stales _ (80, [(0, .inr (.inr 407)), (1, .inl v1), (3, .inl v3), (4, .inl v4), (5, .inl (mm_w (v5 + 1))), (6, .inl (mm_w (v6 + 1)))], [], M63)
        refine mm_s1 rfl ?_
        show mm_Go (mm_run 4) mc_M_stales _ (13, [(0, .inr (.inr 407)), (1, .inl v1), (3, .inl v3), (4, .inl v4), (5, .inl (mm_w (v5 + 1))), (6, .inl (mm_w (v6 + 1)))], [], M63)
        exact nn_go_ext (nn_xc rfl (nn_xc rfl (nn_xc rfl (nn_xc rfl (nn_xc rfl (nn_xc rfl nn_xn)))))) (h n L N)
    · show mm_Go (mm_run 4) mc_M_stales _ (36, [(0, .inr (.inr 407)), (1, .inl v1), (3, .inl v3), (4, .inl v4), (5, .inl v5), (6, .inl v6)], [.inl v5], M)
      refine mm_s1 rfl ?_
      refine nn_getr rfl (nn_c407 NN).1 (lf_13_0 L N (nn_c407 NN)) ?_
      refine mm_s1 rfl ?_
      refine mm_s1 rfl ?_
      refine mm_s1 rfl ⟨trivial, ?_⟩
      refine np_M_entryAt (by decide) L N ?_
      show mm_Go (mm_run 4) mc_M_stales _ (47, [(0, .inr (.inr 407)), (1, .inl v1), (3, .inl v3), (4, .inl v4), (5, .inl v5), (6, .inl v6)], [.inl (nf_M_entryAt v4 v6), .inr (.inr 408), .inl v5], M)
      have b47 := h.1 c33
      refine mm_s1 rfl ⟨nn_bd (na_13_0 NN (nn_c407 NN)) b47, ?_⟩
      show mm_Go (mm_run 4) mc_M_stales _ (48, [(0, .inr (.inr 407)), (1, .inl v1), (3, .inl v3), (4, .inl v4), (5, .inl v5), (6, .inl v6)], [.inl (nn_ri M 408 (nf_M_entryAt v4 v6)), .inl v5], M)
      refine mm_s1 rfl ?_
      refine mm_s1 rfl ?_
      refine mm_s1 rfl ?_
      refine mm_s1 rfl ⟨fun c51 => ?_, fun c51 => ?_⟩
      · show mm_Go (mm_run 4) mc_M_stales _ (73, [(0, .inr (.inr 407)), (1, .inl v1), (3, .inl v3), (4, .inl v4), (5, .inl v5), (6, .inl v6)], [.inl v5], M)
        refine mm_s1 rfl ?_
        refine mm_s1 rfl ?_
        refine mm_s1 rfl ?_
        show mm_Go (mm_run 4) mc_M_stales _ (77, [(0, .inr (.inr 407)), (1, .inl v1), (3, .inl v3), (4, .inl v4), (5, .inl (mm_w (v5 + 0))), (6, .inl v6)], [], M)
        refine mm_s1 rfl ?_
        show mm_Go (mm_run 4) mc_M_stales _ (80, [(0, .inr (.inr 407)), (1, .inl v1), (3, .inl v3), (4, .inl v4), (5, .inl (mm_w (v5 + 0))), (6, .inl (mm_w (v6 + 1)))], [], M)
        refine mm_s1 rfl ?_
        show mm_Go (mm_run 4) mc_M_stales _ (13, [(0, .inr (.inr 407)), (1, .inl v1), (3, .inl v3), (4, .inl v4), (5, .inl (mm_w (v5 + 0))), (6, .inl (mm_w (v6 + 1)))], [], M)
        replace h := h.2.2 ⟨c33, c51⟩
        exact nn_go_ext (nn_xc rfl (nn_xc rfl (nn_xc rfl (nn_xc rfl (nn_xc rfl (nn_xc rfl nn_xn)))))) (h n L N)
      · show mm_Go (mm_run 4) mc_M_stales _ (54, [(0, .inr (.inr 407)), (1, .inl v1), (3, .inl v3), (4, .inl v4), (5, .inl v5), (6, .inl v6)], [.inl v5], M)
        replace c51 := Decidable.not_not.mp c51
        refine mm_s1 rfl ?_
        refine mm_s1 rfl ?_
        refine mm_s1 rfl ?_
        refine mm_s1 rfl ?_
        refine mm_s1 rfl ⟨trivial, ?_⟩
        refine np_M_entryAt (by decide) L N ?_
        show mm_Go (mm_run 4) mc_M_stales _ (63, [(0, .inr (.inr 407)), (1, .inl v1), (3, .inl v3), (4, .inl v4), (5, .inl v5), (6, .inl v6)], [.inl (nf_M_entryAt v4 v6), .inl v1, .inr (.inr 407), .inl v5], M)
        replace h := h.2.1 (Or.inr c51)
        refine mm_s1 rfl ⟨(nn_c407 NN).1, ?_⟩
        refine nn_call (D := 4) (by decide) (h n L N) ?_
        intro v M63 q; clear L N h
        obtain ⟨r63, rfl, q63, L, N, h⟩ := q
        show mm_Go (mm_run 4) mc_M_stales _ (66, [(0, .inr (.inr 407)), (1, .inl v1), (3, .inl v3), (4, .inl v4), (5, .inl v5), (6, .inl v6)], [.inl r63, .inl v5], M63)
        refine mm_s1 rfl ⟨fun c66 => ?_, fun c66 => ?_⟩
        · show mm_Go (mm_run 4) mc_M_stales _ (73, [(0, .inr (.inr 407)), (1, .inl v1), (3, .inl v3), (4, .inl v4), (5, .inl v5), (6, .inl v6)], [.inl v5], M63)
          replace h := h.1 c66
          refine mm_s1 rfl ?_
          refine mm_s1 rfl ?_
          refine mm_s1 rfl ?_
          show mm_Go (mm_run 4) mc_M_stales _ (77, [(0, .inr (.inr 407)), (1, .inl v1), (3, .inl v3), (4, .inl v4), (5, .inl (mm_w (v5 + 0))), (6, .inl v6)], [], M63)
          refine mm_s1 rfl ?_
          show mm_Go (mm_run 4) mc_M_stales _ (80, [(0, .inr (.inr 407)), (1, .inl v1), (3, .inl v3), (4, .inl v4), (5, .inl (mm_w (v5 + 0))), (6, .inl (mm_w (v6 + 1)))], [], M63)
          refine mm_s1 rfl ?_
          show mm_Go (mm_run 4) mc_M_stales _ (13, [(0, .inr (.inr 407)), (1, .inl v1), (3, .inl v3), (4, .inl v4), (5, .inl (mm_w (v5 + 0))), (6, .inl (mm_w (v6 + 1)))], [], M63)
          exact nn_go_ext (nn_xc rfl (nn_xc rfl (nn_xc rfl (nn_xc rfl (nn_xc rfl (nn_xc rfl nn_xn)))))) (h n L N)
        · show mm_Go (mm_run 4) mc_M_stales _ (69, [(0, .inr (.inr 407)), (1, .inl v1), (3, .inl v3), (4, .inl v4), (5, .inl v5), (6, .inl v6)], [.inl v5], M63)
          replace h := h.2 c66
          refine mm_s1 rfl ?_
          refine mm_s1 rfl ?_
          show mm_Go (mm_run 4) mc_M_stales _ (74, [(0, .inr (.inr 407)), (1, .inl v1), (3, .inl v3), (4, .inl v4), (5, .inl v5), (6, .inl v6)], [.inl 1, .inl v5], M63)
          refine mm_s1 rfl ?_
          refine mm_s1 rfl ?_
          show mm_Go (mm_run 4) mc_M_stales _ (77, [(0, .inr (.inr 407)), (1, .inl v1), (3, .inl v3), (4, .inl v4), (5, .inl (mm_w (v5 + 1))), (6, .inl v6)], [], M63)
          refine mm_s1 rfl ?_
          show mm_Go (mm_run 4) mc_M_stales _ (80, [(0, .inr (.inr 407)), (1, .inl v1), (3, .inl v3), (4, .inl v4), (5, .inl (mm_w (v5 + 1))), (6, .inl (mm_w (v6 + 1)))], [], M63)
          refine mm_s1 rfl ?_
          show mm_Go (mm_run 4) mc_M_stales _ (13, [(0, .inr (.inr 407)), (1, .inl v1), (3, .inl v3), (4, .inl v4), (5, .inl (mm_w (v5 + 1))), (6, .inl (mm_w (v6 + 1)))], [], M63)
          exact nn_go_ext (nn_xc rfl (nn_xc rfl (nn_xc rfl (nn_xc rfl (nn_xc rfl (nn_xc rfl nn_xn)))))) (h n L N)
def nr_M_waste (v1 : Int) (v2 : Int) (M : mm_M) (R : Int → mm_M → Prop) : Prop := ∀ n, nn_L M → M.1 = n → mm_run 5 mi_M_waste [.inr (.inr 407), .inl v1, .inl v2] M (nw_I n R)
def nk_M_waste_12 (v1 : Int) (v3 : Int) (v4 : Int) (v5 : Int) (M : mm_M) (R : Int → mm_M → Prop) : Prop := ∀ n, nn_L M → M.1 = n → mm_Go (mm_run 4) mc_M_waste (nw_I n R) (12, [(0, .inr (.inr 407)), (1, .inl v1), (3, .inl v3), (4, .inl v4), (5, .inl v5)], [], M)
def nk_M_waste_46 (v1 : Int) (v3 : Int) (v4 : Int) (v5 : Int) (v6 : Int) (v7 : Int) (v8 : Int) (M : mm_M) (R : Int → mm_M → Prop) : Prop := ∀ n, nn_L M → M.1 = n → mm_Go (mm_run 4) mc_M_waste (nw_I n R) (46, [(0, .inr (.inr 407)), (1, .inl v1), (3, .inl v3), (4, .inl v4), (5, .inl v5), (6, .inl v6), (7, .inl v7), (8, .inl v8)], [], M)
set_option maxRecDepth 20000 in
theorem ng_M_waste (v1 : Int) (v2 : Int) (M : mm_M) (R : Int → mm_M → Prop) (h : nk_M_waste_12 v1 (nf_M_at v1 v2) 0 0 M R) : nr_M_waste v1 v2 M R := by
  intro n L N 
  have NN := nn_L_n L N
  show mm_Go (mm_run 4) mc_M_waste _ (0, [(0, .inr (.inr 407)), (1, .inl v1), (2, .inl v2)], [], M)
  refine mm_s1 rfl ?_
  refine mm_s1 rfl ?_
  refine mm_s1 rfl ⟨trivial, ?_⟩
  refine np_M_at (by decide) L N ?_
  show mm_Go (mm_run 4) mc_M_waste _ (5, [(0, .inr (.inr 407)), (1, .inl v1), (2, .inl v2)], [.inl (nf_M_at v1 v2)], M)
  refine mm_s1 rfl ?_
  show mm_Go (mm_run 4) mc_M_waste _ (6, [(0, .inr (.inr 407)), (1, .inl v1), (2, .inl v2), (3, .inl (nf_M_at v1 v2))], [], M)
  refine mm_s1 rfl ?_
  refine mm_s1 rfl ?_
  show mm_Go (mm_run 4) mc_M_waste _ (9, [(0, .inr (.inr 407)), (1, .inl v1), (2, .inl v2), (3, .inl (nf_M_at v1 v2)), (4, .inl 0)], [], M)
  refine mm_s1 rfl ?_
  refine mm_s1 rfl ?_
  show mm_Go (mm_run 4) mc_M_waste _ (12, [(0, .inr (.inr 407)), (1, .inl v1), (2, .inl v2), (3, .inl (nf_M_at v1 v2)), (4, .inl 0), (5, .inl 0)], [], M)
  exact nn_go_ext (nn_xc rfl (nn_xc rfl (nn_xc rfl (nn_xc rfl (nn_xc rfl nn_xn))))) (h n L N)
set_option maxRecDepth 20000 in
theorem ng_M_waste_12 (v1 : Int) (v3 : Int) (v4 : Int) (v5 : Int) (M : mm_M) (R : Int → mm_M → Prop) (h : (((0 : Int) ≤ (mm_w (v3 + 6)) ∧ (mm_w (v3 + 6)) < (32844 : Int)) ∧ (((nn_ri M 408 (mm_w (v3 + 6))) ≤ v5 → R v4 M) ∧ (v5 < (nn_ri M 408 (mm_w (v3 + 6))) → (nr_M_isStale v1 (nf_M_entryAt v3 v5) M (fun r38 M38 => nk_M_waste_46 v1 v3 v4 v5 (nf_M_entryAt v3 v5) r38 0 M38 R)))))) : nk_M_waste_12 v1 v3 v4 v5 M R := by
  intro n L N 
  have NN := nn_L_n L N
  show mm_Go (mm_run 4) mc_M_waste _ (12, [(0, .inr (.inr 407)), (1, .inl v1), (3, .inl v3), (4, .inl v4), (5, .inl v5)], [], M)
  refine mm_s1 rfl ?_
  refine mm_s1 rfl ?_
  refine nn_getr rfl (nn_c407 NN).1 (lf_13_0 L N (nn_c407 NN)) ?_
  refine mm_s1 rfl ?_
  refine mm_s1 rfl ?_
  show mm_Go (mm_run 4) mc_M_waste _ (21, [(0, .inr (.inr 407)), (1, .inl v1), (3, .inl v3), (4, .inl v4), (5, .inl v5)], [.inl 6, .inl v3, .inr (.inr 408), .inl v5], M)
  refine mm_s1 rfl ?_
  obtain ⟨b22, h⟩ := h
  refine mm_s1 rfl ⟨nn_bd (na_13_0 NN (nn_c407 NN)) b22, ?_⟩
  show mm_Go (mm_run 4) mc_M_waste _ (23, [(0, .inr (.inr 407)), (1, .inl v1), (3, .inl v3), (4, .inl v4), (5, .inl v5)], [.inl (nn_ri M 408 (mm_w (v3 + 6))), .inl v5], M)
  refine mm_s1 rfl ⟨fun c23 => ?_, fun c23 => ?_⟩
  · show mm_Go (mm_run 4) mc_M_waste _ (180, [(0, .inr (.inr 407)), (1, .inl v1), (3, .inl v3), (4, .inl v4), (5, .inl v5)], [], M)
    replace h := h.1 c23
    refine mm_s1 rfl ?_
    exact mm_s1 rfl ⟨_, rfl, L, N, h⟩
  · show mm_Go (mm_run 4) mc_M_waste _ (26, [(0, .inr (.inr 407)), (1, .inl v1), (3, .inl v3), (4, .inl v4), (5, .inl v5)], [], M)
    replace c23 := Int.not_le.mp c23
    replace h := h.2 c23
    refine mm_s1 rfl ?_
    refine mm_s1 rfl ?_
    refine mm_s1 rfl ⟨trivial, ?_⟩
    refine np_M_entryAt (by decide) L N ?_
    show mm_Go (mm_run 4) mc_M_waste _ (32, [(0, .inr (.inr 407)), (1, .inl v1), (3, .inl v3), (4, .inl v4), (5, .inl v5)], [.inl (nf_M_entryAt v3 v5)], M)
    refine mm_s1 rfl ?_
    show mm_Go (mm_run 4) mc_M_waste _ (34, [(0, .inr (.inr 407)), (1, .inl v1), (3, .inl v3), (4, .inl v4), (5, .inl v5), (6, .inl (nf_M_entryAt v3 v5))], [], M)
    refine mm_s1 rfl ?_
    refine mm_s1 rfl ?_
    refine mm_s1 rfl ?_
    refine mm_s1 rfl ⟨(nn_c407 NN).1, ?_⟩
    refine nn_call (D := 4) (by decide) (h n L N) ?_
    intro v M38 q; clear L N h
    obtain ⟨r38, rfl, q38, L, N, h⟩ := q
    show mm_Go (mm_run 4) mc_M_waste _ (41, [(0, .inr (.inr 407)), (1, .inl v1), (3, .inl v3), (4, .inl v4), (5, .inl v5), (6, .inl (nf_M_entryAt v3 v5))], [.inl r38], M38)
    refine mm_s1 rfl ?_
    show mm_Go (mm_run 4) mc_M_waste _ (43, [(0, .inr (.inr 407)), (1, .inl v1), (3, .inl v3), (4, .inl v4), (5, .inl v5), (6, .inl (nf_M_entryAt v3 v5)), (7, .inl r38)], [], M38)
    refine mm_s1 rfl ?_
    refine mm_s1 rfl ?_
    show mm_Go (mm_run 4) mc_M_waste _ (46, [(0, .inr (.inr 407)), (1, .inl v1), (3, .inl v3), (4, .inl v4), (5, .inl v5), (6, .inl (nf_M_entryAt v3 v5)), (7, .inl r38), (8, .inl 0)], [], M38)
    exact nn_go_ext (nn_xc rfl (nn_xc rfl (nn_xc rfl (nn_xc rfl (nn_xc rfl (nn_xc rfl (nn_xc rfl (nn_xc rfl nn_xn)))))))) (h n L N)
set_option maxRecDepth 20000 in
theorem ng_M_waste_46 (v1 : Int) (v3 : Int) (v4 : Int) (v5 : Int) (v6 : Int) (v7 : Int) (v8 : Int) (M : mm_M) (R : Int → mm_M → Prop) (h : ((v5 ≤ v8 → ((v7 = 0 → nk_M_waste_12 v1 v3 (mm_w (v4 + 0)) (mm_w (v5 + 1)) M R) ∧ (v7 ≠ 0 → nk_M_waste_12 v1 v3 (mm_w (v4 + 1)) (mm_w (v5 + 1)) M R))) ∧ (v8 < v5 → (((v7 = 0) → ((0 : Int) ≤ (nf_M_entryAt v3 v8) ∧ (nf_M_entryAt v3 v8) < (32844 : Int))) ∧ ((v7 = 0) → ((0 : Int) ≤ v6 ∧ v6 < (32844 : Int))) ∧ ((v7 = 0) ∧ ((nn_ri M 408 (nf_M_entryAt v3 v8)) < (nn_ri M 408 v6)) → ((0 : Int) ≤ (mm_w ((nf_M_entryAt v3 v8) + 1)) ∧ (mm_w ((nf_M_entryAt v3 v8) + 1)) < (32844 : Int))) ∧ ((v7 = 0) ∧ ((nn_ri M 408 (nf_M_entryAt v3 v8)) < (nn_ri M 408 v6)) → ((0 : Int) ≤ (mm_w (v6 + 1)) ∧ (mm_w (v6 + 1)) < (32844 : Int))) ∧ ((v7 = 0) ∧ ((nn_ri M 408 (nf_M_entryAt v3 v8)) < (nn_ri M 408 v6)) ∧ ((nn_ri M 408 (mm_w ((nf_M_entryAt v3 v8) + 1))) = (nn_ri M 408 (mm_w (v6 + 1)))) → ((0 : Int) ≤ (mm_w ((nf_M_entryAt v3 v8) + 2)) ∧ (mm_w ((nf_M_entryAt v3 v8) + 2)) < (32844 : Int))) ∧ ((v7 = 0) ∧ ((nn_ri M 408 (nf_M_entryAt v3 v8)) < (nn_ri M 408 v6)) ∧ ((nn_ri M 408 (mm_w ((nf_M_entryAt v3 v8) + 1))) = (nn_ri M 408 (mm_w (v6 + 1)))) → ((0 : Int) ≤ (mm_w (v6 + 2)) ∧ (mm_w (v6 + 2)) < (32844 : Int))) ∧ ((v7 = 0) ∧ ((nn_ri M 408 (nf_M_entryAt v3 v8)) < (nn_ri M 408 v6)) ∧ ((nn_ri M 408 (mm_w ((nf_M_entryAt v3 v8) + 1))) = (nn_ri M 408 (mm_w (v6 + 1)))) ∧ ((nn_ri M 408 (mm_w ((nf_M_entryAt v3 v8) + 2))) = (nn_ri M 408 (mm_w (v6 + 2)))) → ((0 : Int) ≤ (mm_w ((nf_M_entryAt v3 v8) + 3)) ∧ (mm_w ((nf_M_entryAt v3 v8) + 3)) < (32844 : Int))) ∧ ((v7 = 0) ∧ ((nn_ri M 408 (nf_M_entryAt v3 v8)) < (nn_ri M 408 v6)) ∧ ((nn_ri M 408 (mm_w ((nf_M_entryAt v3 v8) + 1))) = (nn_ri M 408 (mm_w (v6 + 1)))) ∧ ((nn_ri M 408 (mm_w ((nf_M_entryAt v3 v8) + 2))) = (nn_ri M 408 (mm_w (v6 + 2)))) → ((0 : Int) ≤ (mm_w (v6 + 3)) ∧ (mm_w (v6 + 3)) < (32844 : Int))) ∧ ((v7 ≠ 0 ∨ ((nn_ri M 408 (nf_M_entryAt v3 v8)) < (nn_ri M 408 v6) ∧ ((nn_ri M 408 (mm_w ((nf_M_entryAt v3 v8) + 1))) = (nn_ri M 408 (mm_w (v6 + 1))) ∧ ((nn_ri M 408 (mm_w ((nf_M_entryAt v3 v8) + 2))) = (nn_ri M 408 (mm_w (v6 + 2))) ∧ ((nn_ri M 408 (mm_w ((nf_M_entryAt v3 v8) + 3))) = (nn_ri M 408 (mm_w (v6 + 3)))))))) → nk_M_waste_46 v1 v3 v4 v5 v6 1 (mm_w (v8 + 1)) M R) ∧ ((v7 = 0 ∧ ((nn_ri M 408 v6) ≤ (nn_ri M 408 (nf_M_entryAt v3 v8)) ∨ ((nn_ri M 408 (mm_w ((nf_M_entryAt v3 v8) + 1))) ≠ (nn_ri M 408 (mm_w (v6 + 1))) ∨ ((nn_ri M 408 (mm_w ((nf_M_entryAt v3 v8) + 2))) ≠ (nn_ri M 408 (mm_w (v6 + 2))) ∨ ((nn_ri M 408 (mm_w ((nf_M_entryAt v3 v8) + 3))) ≠ (nn_ri M 408 (mm_w (v6 + 3)))))))) → nk_M_waste_46 v1 v3 v4 v5 v6 0 (mm_w (v8 + 1)) M R))))) : nk_M_waste_46 v1 v3 v4 v5 v6 v7 v8 M R := by
  intro n L N 
  have NN := nn_L_n L N
  show mm_Go (mm_run 4) mc_M_waste _ (46, [(0, .inr (.inr 407)), (1, .inl v1), (3, .inl v3), (4, .inl v4), (5, .inl v5), (6, .inl v6), (7, .inl v7), (8, .inl v8)], [], M)
  refine mm_s1 rfl ?_
  refine mm_s1 rfl ?_
  refine mm_s1 rfl ⟨fun c50 => ?_, fun c50 => ?_⟩
  · show mm_Go (mm_run 4) mc_M_waste _ (159, [(0, .inr (.inr 407)), (1, .inl v1), (3, .inl v3), (4, .inl v4), (5, .inl v5), (6, .inl v6), (7, .inl v7), (8, .inl v8)], [], M)
    replace h := h.1 c50
    refine mm_s1 rfl ?_
    refine mm_s1 rfl ?_
    refine mm_s1 rfl ⟨fun c163 => ?_, fun c163 => ?_⟩
    · show mm_Go (mm_run 4) mc_M_waste _ (170, [(0, .inr (.inr 407)), (1, .inl v1), (3, .inl v3), (4, .inl v4), (5, .inl v5), (6, .inl v6), (7, .inl v7), (8, .inl v8)], [.inl v4], M)
      replace h := h.1 c163
      refine mm_s1 rfl ?_
      refine mm_s1 rfl ?_
      refine mm_s1 rfl ?_
      show mm_Go (mm_run 4) mc_M_waste _ (174, [(0, .inr (.inr 407)), (1, .inl v1), (3, .inl v3), (4, .inl (mm_w (v4 + 0))), (5, .inl v5), (6, .inl v6), (7, .inl v7), (8, .inl v8)], [], M)
      refine mm_s1 rfl ?_
      show mm_Go (mm_run 4) mc_M_waste _ (177, [(0, .inr (.inr 407)), (1, .inl v1), (3, .inl v3), (4, .inl (mm_w (v4 + 0))), (5, .inl (mm_w (v5 + 1))), (6, .inl v6), (7, .inl v7), (8, .inl v8)], [], M)
      refine mm_s1 rfl ?_
      show mm_Go (mm_run 4) mc_M_waste _ (12, [(0, .inr (.inr 407)), (1, .inl v1), (3, .inl v3), (4, .inl (mm_w (v4 + 0))), (5, .inl (mm_w (v5 + 1))), (6, .inl v6), (7, .inl v7), (8, .inl v8)], [], M)
      exact nn_go_ext (nn_xc rfl (nn_xc rfl (nn_xc rfl (nn_xc rfl (nn_xc rfl nn_xn))))) (h n L N)
    · show mm_Go (mm_run 4) mc_M_waste _ (166, [(0, .inr (.inr 407)), (1, .inl v1), (3, .inl v3), (4, .inl v4), (5, .inl v5), (6, .inl v6), (7, .inl v7), (8, .inl v8)], [.inl v4], M)
      replace h := h.2 c163
      refine mm_s1 rfl ?_
      refine mm_s1 rfl ?_
      show mm_Go (mm_run 4) mc_M_waste _ (171, [(0, .inr (.inr 407)), (1, .inl v1), (3, .inl v3), (4, .inl v4), (5, .inl v5), (6, .inl v6), (7, .inl v7), (8, .inl v8)], [.inl 1, .inl v4], M)
      refine mm_s1 rfl ?_
      refine mm_s1 rfl ?_
      show mm_Go (mm_run 4) mc_M_waste _ (174, [(0, .inr (.inr 407)), (1, .inl v1), (3, .inl v3), (4, .inl (mm_w (v4 + 1))), (5, .inl v5), (6, .inl v6), (7, .inl v7), (8, .inl v8)], [], M)
      refine mm_s1 rfl ?_
      show mm_Go (mm_run 4) mc_M_waste _ (177, [(0, .inr (.inr 407)), (1, .inl v1), (3, .inl v3), (4, .inl (mm_w (v4 + 1))), (5, .inl (mm_w (v5 + 1))), (6, .inl v6), (7, .inl v7), (8, .inl v8)], [], M)
      refine mm_s1 rfl ?_
      show mm_Go (mm_run 4) mc_M_waste _ (12, [(0, .inr (.inr 407)), (1, .inl v1), (3, .inl v3), (4, .inl (mm_w (v4 + 1))), (5, .inl (mm_w (v5 + 1))), (6, .inl v6), (7, .inl v7), (8, .inl v8)], [], M)
      exact nn_go_ext (nn_xc rfl (nn_xc rfl (nn_xc rfl (nn_xc rfl (nn_xc rfl nn_xn))))) (h n L N)
  · show mm_Go (mm_run 4) mc_M_waste _ (53, [(0, .inr (.inr 407)), (1, .inl v1), (3, .inl v3), (4, .inl v4), (5, .inl v5), (6, .inl v6), (7, .inl v7), (8, .inl v8)], [], M)
    replace c50 := Int.not_le.mp c50
    replace h := h.2 c50
    refine mm_s1 rfl ?_
    refine mm_s1 rfl ?_
    refine mm_s1 rfl ⟨trivial, ?_⟩
    refine np_M_entryAt (by decide) L N ?_
    show mm_Go (mm_run 4) mc_M_waste _ (59, [(0, .inr (.inr 407)), (1, .inl v1), (3, .inl v3), (4, .inl v4), (5, .inl v5), (6, .inl v6), (7, .inl v7), (8, .inl v8)], [.inl (nf_M_entryAt v3 v8)], M)
    refine mm_s1 rfl ?_
    show mm_Go (mm_run 4) mc_M_waste _ (61, [(0, .inr (.inr 407)), (1, .inl v1), (3, .inl v3), (4, .inl v4), (5, .inl v5), (6, .inl v6), (7, .inl v7), (8, .inl v8), (9, .inl (nf_M_entryAt v3 v8))], [], M)
    refine mm_s1 rfl ?_
    refine mm_s1 rfl ⟨fun c63 => ?_, fun c63 => ?_⟩
    · show mm_Go (mm_run 4) mc_M_waste _ (146, [(0, .inr (.inr 407)), (1, .inl v1), (3, .inl v3), (4, .inl v4), (5, .inl v5), (6, .inl v6), (7, .inl v7), (8, .inl v8), (9, .inl (nf_M_entryAt v3 v8))], [], M)
      refine mm_s1 rfl ?_
      refine mm_s1 rfl ?_
      show mm_Go (mm_run 4) mc_M_waste _ (151, [(0, .inr (.inr 407)), (1, .inl v1), (3, .inl v3), (4, .inl v4), (5, .inl v5), (6, .inl v6), (7, .inl v7), (8, .inl v8), (9, .inl (nf_M_entryAt v3 v8))], [.inl 1], M)
      refine mm_s1 rfl ?_
      show mm_Go (mm_run 4) mc_M_waste _ (153, [(0, .inr (.inr 407)), (1, .inl v1), (3, .inl v3), (4, .inl v4), (5, .inl v5), (6, .inl v6), (7, .inl 1), (8, .inl v8), (9, .inl (nf_M_entryAt v3 v8))], [], M)
      refine mm_s1 rfl ?_
      show mm_Go (mm_run 4) mc_M_waste _ (156, [(0, .inr (.inr 407)), (1, .inl v1), (3, .inl v3), (4, .inl v4), (5, .inl v5), (6, .inl v6), (7, .inl 1), (8, .inl (mm_w (v8 + 1))), (9, .inl (nf_M_entryAt v3 v8))], [], M)
      refine mm_s1 rfl ?_
      show mm_Go (mm_run 4) mc_M_waste _ (46, [(0, .inr (.inr 407)), (1, .inl v1), (3, .inl v3), (4, .inl v4), (5, .inl v5), (6, .inl v6), (7, .inl 1), (8, .inl (mm_w (v8 + 1))), (9, .inl (nf_M_entryAt v3 v8))], [], M)
      replace h := h.2.2.2.2.2.2.2.2.1 (Or.inl c63)
      exact nn_go_ext (nn_xc rfl (nn_xc rfl (nn_xc rfl (nn_xc rfl (nn_xc rfl (nn_xc rfl (nn_xc rfl (nn_xc rfl nn_xn)))))))) (h n L N)
    · show mm_Go (mm_run 4) mc_M_waste _ (66, [(0, .inr (.inr 407)), (1, .inl v1), (3, .inl v3), (4, .inl v4), (5, .inl v5), (6, .inl v6), (7, .inl v7), (8, .inl v8), (9, .inl (nf_M_entryAt v3 v8))], [], M)
      replace c63 := Decidable.not_not.mp c63
      refine mm_s1 rfl ?_
      refine nn_getr rfl (nn_c407 NN).1 (lf_13_0 L N (nn_c407 NN)) ?_
      refine mm_s1 rfl ?_
      have b72 := h.1 c63
      refine mm_s1 rfl ⟨nn_bd (na_13_0 NN (nn_c407 NN)) b72, ?_⟩
      show mm_Go (mm_run 4) mc_M_waste _ (73, [(0, .inr (.inr 407)), (1, .inl v1), (3, .inl v3), (4, .inl v4), (5, .inl v5), (6, .inl v6), (7, .inl v7), (8, .inl v8), (9, .inl (nf_M_entryAt v3 v8))], [.inl (nn_ri M 408 (nf_M_entryAt v3 v8))], M)
      refine mm_s1 rfl ?_
      refine nn_getr rfl (nn_c407 NN).1 (lf_13_0 L N (nn_c407 NN)) ?_
      refine mm_s1 rfl ?_
      have b79 := h.2.1 c63
      refine mm_s1 rfl ⟨nn_bd (na_13_0 NN (nn_c407 NN)) b79, ?_⟩
      show mm_Go (mm_run 4) mc_M_waste _ (80, [(0, .inr (.inr 407)), (1, .inl v1), (3, .inl v3), (4, .inl v4), (5, .inl v5), (6, .inl v6), (7, .inl v7), (8, .inl v8), (9, .inl (nf_M_entryAt v3 v8))], [.inl (nn_ri M 408 v6), .inl (nn_ri M 408 (nf_M_entryAt v3 v8))], M)
      refine mm_s1 rfl ⟨fun c80 => ?_, fun c80 => ?_⟩
      · show mm_Go (mm_run 4) mc_M_waste _ (150, [(0, .inr (.inr 407)), (1, .inl v1), (3, .inl v3), (4, .inl v4), (5, .inl v5), (6, .inl v6), (7, .inl v7), (8, .inl v8), (9, .inl (nf_M_entryAt v3 v8))], [], M)
        refine mm_s1 rfl ?_
        refine mm_s1 rfl ?_
        show mm_Go (mm_run 4) mc_M_waste _ (153, [(0, .inr (.inr 407)), (1, .inl v1), (3, .inl v3), (4, .inl v4), (5, .inl v5), (6, .inl v6), (7, .inl 0), (8, .inl v8), (9, .inl (nf_M_entryAt v3 v8))], [], M)
        refine mm_s1 rfl ?_
        show mm_Go (mm_run 4) mc_M_waste _ (156, [(0, .inr (.inr 407)), (1, .inl v1), (3, .inl v3), (4, .inl v4), (5, .inl v5), (6, .inl v6), (7, .inl 0), (8, .inl (mm_w (v8 + 1))), (9, .inl (nf_M_entryAt v3 v8))], [], M)
        refine mm_s1 rfl ?_
        show mm_Go (mm_run 4) mc_M_waste _ (46, [(0, .inr (.inr 407)), (1, .inl v1), (3, .inl v3), (4, .inl v4), (5, .inl v5), (6, .inl v6), (7, .inl 0), (8, .inl (mm_w (v8 + 1))), (9, .inl (nf_M_entryAt v3 v8))], [], M)
        replace h := h.2.2.2.2.2.2.2.2.2 ⟨c63, (Or.inl c80)⟩
        exact nn_go_ext (nn_xc rfl (nn_xc rfl (nn_xc rfl (nn_xc rfl (nn_xc rfl (nn_xc rfl (nn_xc rfl (nn_xc rfl nn_xn)))))))) (h n L N)
      · show mm_Go (mm_run 4) mc_M_waste _ (83, [(0, .inr (.inr 407)), (1, .inl v1), (3, .inl v3), (4, .inl v4), (5, .inl v5), (6, .inl v6), (7, .inl v7), (8, .inl v8), (9, .inl (nf_M_entryAt v3 v8))], [], M)
        replace c80 := Int.not_le.mp c80
        refine mm_s1 rfl ?_
        refine nn_getr rfl (nn_c407 NN).1 (lf_13_0 L N (nn_c407 NN)) ?_
        refine mm_s1 rfl ?_
        refine mm_s1 rfl ?_
        refine mm_s1 rfl ?_
        show mm_Go (mm_run 4) mc_M_waste _ (91, [(0, .inr (.inr 407)), (1, .inl v1), (3, .inl v3), (4, .inl v4), (5, .inl v5), (6, .inl v6), (7, .inl v7), (8, .inl v8), (9, .inl (nf_M_entryAt v3 v8))], [.inl (mm_w ((nf_M_entryAt v3 v8) + 1)), .inr (.inr 408)], M)
        have b91 := h.2.2.1 ⟨c63, c80⟩
        refine mm_s1 rfl ⟨nn_bd (na_13_0 NN (nn_c407 NN)) b91, ?_⟩
        show mm_Go (mm_run 4) mc_M_waste _ (92, [(0, .inr (.inr 407)), (1, .inl v1), (3, .inl v3), (4, .inl v4), (5, .inl v5), (6, .inl v6), (7, .inl v7), (8, .inl v8), (9, .inl (nf_M_entryAt v3 v8))], [.inl (nn_ri M 408 (mm_w ((nf_M_entryAt v3 v8) + 1)))], M)
        refine mm_s1 rfl ?_
        refine nn_getr rfl (nn_c407 NN).1 (lf_13_0 L N (nn_c407 NN)) ?_
        refine mm_s1 rfl ?_
        refine mm_s1 rfl ?_
        refine mm_s1 rfl ?_
        show mm_Go (mm_run 4) mc_M_waste _ (100, [(0, .inr (.inr 407)), (1, .inl v1), (3, .inl v3), (4, .inl v4), (5, .inl v5), (6, .inl v6), (7, .inl v7), (8, .inl v8), (9, .inl (nf_M_entryAt v3 v8))], [.inl (mm_w (v6 + 1)), .inr (.inr 408), .inl (nn_ri M 408 (mm_w ((nf_M_entryAt v3 v8) + 1)))], M)
        have b100 := h.2.2.2.1 ⟨c63, c80⟩
        refine mm_s1 rfl ⟨nn_bd (na_13_0 NN (nn_c407 NN)) b100, ?_⟩
        show mm_Go (mm_run 4) mc_M_waste _ (101, [(0, .inr (.inr 407)), (1, .inl v1), (3, .inl v3), (4, .inl v4), (5, .inl v5), (6, .inl v6), (7, .inl v7), (8, .inl v8), (9, .inl (nf_M_entryAt v3 v8))], [.inl (nn_ri M 408 (mm_w (v6 + 1))), .inl (nn_ri M 408 (mm_w ((nf_M_entryAt v3 v8) + 1)))], M)
        refine mm_s1 rfl ⟨fun c101 => ?_, fun c101 => ?_⟩
        · show mm_Go (mm_run 4) mc_M_waste _ (150, [(0, .inr (.inr 407)), (1, .inl v1), (3, .inl v3), (4, .inl v4), (5, .inl v5), (6, .inl v6), (7, .inl v7), (8, .inl v8), (9, .inl (nf_M_entryAt v3 v8))], [], M)
          refine mm_s1 rfl ?_
          refine mm_s1 rfl ?_
          show mm_Go (mm_run 4) mc_M_waste _ (153, [(0, .inr (.inr 407)), (1, .inl v1), (3, .inl v3), (4, .inl v4), (5, .inl v5), (6, .inl v6), (7, .inl 0), (8, .inl v8), (9, .inl (nf_M_entryAt v3 v8))], [], M)
          refine mm_s1 rfl ?_
          show mm_Go (mm_run 4) mc_M_waste _ (156, [(0, .inr (.inr 407)), (1, .inl v1), (3, .inl v3), (4, .inl v4), (5, .inl v5), (6, .inl v6), (7, .inl 0), (8, .inl (mm_w (v8 + 1))), (9, .inl (nf_M_entryAt v3 v8))], [], M)
          refine mm_s1 rfl ?_
          show mm_Go (mm_run 4) mc_M_waste _ (46, [(0, .inr (.inr 407)), (1, .inl v1), (3, .inl v3), (4, .inl v4), (5, .inl v5), (6, .inl v6), (7, .inl 0), (8, .inl (mm_w (v8 + 1))), (9, .inl (nf_M_entryAt v3 v8))], [], M)
          replace h := h.2.2.2.2.2.2.2.2.2 ⟨c63, (Or.inr (Or.inl c101))⟩
          exact nn_go_ext (nn_xc rfl (nn_xc rfl (nn_xc rfl (nn_xc rfl (nn_xc rfl (nn_xc rfl (nn_xc rfl (nn_xc rfl nn_xn)))))))) (h n L N)
        · show mm_Go (mm_run 4) mc_M_waste _ (104, [(0, .inr (.inr 407)), (1, .inl v1), (3, .inl v3), (4, .inl v4), (5, .inl v5), (6, .inl v6), (7, .inl v7), (8, .inl v8), (9, .inl (nf_M_entryAt v3 v8))], [], M)
          replace c101 := Decidable.not_not.mp c101
          refine mm_s1 rfl ?_
          refine nn_getr rfl (nn_c407 NN).1 (lf_13_0 L N (nn_c407 NN)) ?_
          refine mm_s1 rfl ?_
          refine mm_s1 rfl ?_
          refine mm_s1 rfl ?_
          show mm_Go (mm_run 4) mc_M_waste _ (112, [(0, .inr (.inr 407)), (1, .inl v1), (3, .inl v3), (4, .inl v4), (5, .inl v5), (6, .inl v6), (7, .inl v7), (8, .inl v8), (9, .inl (nf_M_entryAt v3 v8))], [.inl (mm_w ((nf_M_entryAt v3 v8) + 2)), .inr (.inr 408)], M)
          have b112 := h.2.2.2.2.1 ⟨c63, c80, c101⟩
          refine mm_s1 rfl ⟨nn_bd (na_13_0 NN (nn_c407 NN)) b112, ?_⟩
          show mm_Go (mm_run 4) mc_M_waste _ (113, [(0, .inr (.inr 407)), (1, .inl v1), (3, .inl v3), (4, .inl v4), (5, .inl v5), (6, .inl v6), (7, .inl v7), (8, .inl v8), (9, .inl (nf_M_entryAt v3 v8))], [.inl (nn_ri M 408 (mm_w ((nf_M_entryAt v3 v8) + 2)))], M)
          refine mm_s1 rfl ?_
          refine nn_getr rfl (nn_c407 NN).1 (lf_13_0 L N (nn_c407 NN)) ?_
          refine mm_s1 rfl ?_
          refine mm_s1 rfl ?_
          refine mm_s1 rfl ?_
          show mm_Go (mm_run 4) mc_M_waste _ (121, [(0, .inr (.inr 407)), (1, .inl v1), (3, .inl v3), (4, .inl v4), (5, .inl v5), (6, .inl v6), (7, .inl v7), (8, .inl v8), (9, .inl (nf_M_entryAt v3 v8))], [.inl (mm_w (v6 + 2)), .inr (.inr 408), .inl (nn_ri M 408 (mm_w ((nf_M_entryAt v3 v8) + 2)))], M)
          have b121 := h.2.2.2.2.2.1 ⟨c63, c80, c101⟩
          refine mm_s1 rfl ⟨nn_bd (na_13_0 NN (nn_c407 NN)) b121, ?_⟩
          show mm_Go (mm_run 4) mc_M_waste _ (122, [(0, .inr (.inr 407)), (1, .inl v1), (3, .inl v3), (4, .inl v4), (5, .inl v5), (6, .inl v6), (7, .inl v7), (8, .inl v8), (9, .inl (nf_M_entryAt v3 v8))], [.inl (nn_ri M 408 (mm_w (v6 + 2))), .inl (nn_ri M 408 (mm_w ((nf_M_entryAt v3 v8) + 2)))], M)
          refine mm_s1 rfl ⟨fun c122 => ?_, fun c122 => ?_⟩
          · show mm_Go (mm_run 4) mc_M_waste _ (150, [(0, .inr (.inr 407)), (1, .inl v1), (3, .inl v3), (4, .inl v4), (5, .inl v5), (6, .inl v6), (7, .inl v7), (8, .inl v8), (9, .inl (nf_M_entryAt v3 v8))], [], M)
            refine mm_s1 rfl ?_
            refine mm_s1 rfl ?_
            show mm_Go (mm_run 4) mc_M_waste _ (153, [(0, .inr (.inr 407)), (1, .inl v1), (3, .inl v3), (4, .inl v4), (5, .inl v5), (6, .inl v6), (7, .inl 0), (8, .inl v8), (9, .inl (nf_M_entryAt v3 v8))], [], M)
            refine mm_s1 rfl ?_
            show mm_Go (mm_run 4) mc_M_waste _ (156, [(0, .inr (.inr 407)), (1, .inl v1), (3, .inl v3), (4, .inl v4), (5, .inl v5), (6, .inl v6), (7, .inl 0), (8, .inl (mm_w (v8 + 1))), (9, .inl (nf_M_entryAt v3 v8))], [], M)
            refine mm_s1 rfl ?_
            show mm_Go (mm_run 4) mc_M_waste _ (46, [(0, .inr (.inr 407)), (1, .inl v1), (3, .inl v3), (4, .inl v4), (5, .inl v5), (6, .inl v6), (7, .inl 0), (8, .inl (mm_w (v8 + 1))), (9, .inl (nf_M_entryAt v3 v8))], [], M)
            replace h := h.2.2.2.2.2.2.2.2.2 ⟨c63, (Or.inr (Or.inr (Or.inl c122)))⟩
            exact nn_go_ext (nn_xc rfl (nn_xc rfl (nn_xc rfl (nn_xc rfl (nn_xc rfl (nn_xc rfl (nn_xc rfl (nn_xc rfl nn_xn)))))))) (h n L N)
          · show mm_Go (mm_run 4) mc_M_waste _ (125, [(0, .inr (.inr 407)), (1, .inl v1), (3, .inl v3), (4, .inl v4), (5, .inl v5), (6, .inl v6), (7, .inl v7), (8, .inl v8), (9, .inl (nf_M_entryAt v3 v8))], [], M)
            replace c122 := Decidable.not_not.mp c122
            refine mm_s1 rfl ?_
            refine nn_getr rfl (nn_c407 NN).1 (lf_13_0 L N (nn_c407 NN)) ?_
            refine mm_s1 rfl ?_
            refine mm_s1 rfl ?_
            refine mm_s1 rfl ?_
            show mm_Go (mm_run 4) mc_M_waste _ (133, [(0, .inr (.inr 407)), (1, .inl v1), (3, .inl v3), (4, .inl v4), (5, .inl v5), (6, .inl v6), (7, .inl v7), (8, .inl v8), (9, .inl (nf_M_entryAt v3 v8))], [.inl (mm_w ((nf_M_entryAt v3 v8) + 3)), .inr (.inr 408)], M)
            have b133 := h.2.2.2.2.2.2.1 ⟨c63, c80, c101, c122⟩
            refine mm_s1 rfl ⟨nn_bd (na_13_0 NN (nn_c407 NN)) b133, ?_⟩
            show mm_Go (mm_run 4) mc_M_waste _ (134, [(0, .inr (.inr 407)), (1, .inl v1), (3, .inl v3), (4, .inl v4), (5, .inl v5), (6, .inl v6), (7, .inl v7), (8, .inl v8), (9, .inl (nf_M_entryAt v3 v8))], [.inl (nn_ri M 408 (mm_w ((nf_M_entryAt v3 v8) + 3)))], M)
            refine mm_s1 rfl ?_
            refine nn_getr rfl (nn_c407 NN).1 (lf_13_0 L N (nn_c407 NN)) ?_
            refine mm_s1 rfl ?_
            refine mm_s1 rfl ?_
            refine mm_s1 rfl ?_
            show mm_Go (mm_run 4) mc_M_waste _ (142, [(0, .inr (.inr 407)), (1, .inl v1), (3, .inl v3), (4, .inl v4), (5, .inl v5), (6, .inl v6), (7, .inl v7), (8, .inl v8), (9, .inl (nf_M_entryAt v3 v8))], [.inl (mm_w (v6 + 3)), .inr (.inr 408), .inl (nn_ri M 408 (mm_w ((nf_M_entryAt v3 v8) + 3)))], M)
            have b142 := h.2.2.2.2.2.2.2.1 ⟨c63, c80, c101, c122⟩
            refine mm_s1 rfl ⟨nn_bd (na_13_0 NN (nn_c407 NN)) b142, ?_⟩
            show mm_Go (mm_run 4) mc_M_waste _ (143, [(0, .inr (.inr 407)), (1, .inl v1), (3, .inl v3), (4, .inl v4), (5, .inl v5), (6, .inl v6), (7, .inl v7), (8, .inl v8), (9, .inl (nf_M_entryAt v3 v8))], [.inl (nn_ri M 408 (mm_w (v6 + 3))), .inl (nn_ri M 408 (mm_w ((nf_M_entryAt v3 v8) + 3)))], M)
            refine mm_s1 rfl ⟨fun c143 => ?_, fun c143 => ?_⟩
            · show mm_Go (mm_run 4) mc_M_waste _ (150, [(0, .inr (.inr 407)), (1, .inl v1), (3, .inl v3), (4, .inl v4), (5, .inl v5), (6, .inl v6), (7, .inl v7), (8, .inl v8), (9, .inl (nf_M_entryAt v3 v8))], [], M)
              refine mm_s1 rfl ?_
              refine mm_s1 rfl ?_
              show mm_Go (mm_run 4) mc_M_waste _ (153, [(0, .inr (.inr 407)), (1, .inl v1), (3, .inl v3), (4, .inl v4), (5, .inl v5), (6, .inl v6), (7, .inl 0), (8, .inl v8), (9, .inl (nf_M_entryAt v3 v8))], [], M)
              refine mm_s1 rfl ?_
              show mm_Go (mm_run 4) mc_M_waste _ (156, [(0, .inr (.inr 407)), (1, .inl v1), (3, .inl v3), (4, .inl v4), (5, .inl v5), (6, .inl v6), (7, .inl 0), (8, .inl (mm_w (v8 + 1))), (9, .inl (nf_M_entryAt v3 v8))], [], M)
              refine mm_s1 rfl ?_
              show mm_Go (mm_run 4) mc_M_waste _ (46, [(0, .inr (.inr 407)), (1, .inl v1), (3, .inl v3), (4, .inl v4), (5, .inl v5), (6, .inl v6), (7, .inl 0), (8, .inl (mm_w (v8 + 1))), (9, .inl (nf_M_entryAt v3 v8))], [], M)
              replace h := h.2.2.2.2.2.2.2.2.2 ⟨c63, (Or.inr (Or.inr (Or.inr c143)))⟩
              exact nn_go_ext (nn_xc rfl (nn_xc rfl (nn_xc rfl (nn_xc rfl (nn_xc rfl (nn_xc rfl (nn_xc rfl (nn_xc rfl nn_xn)))))))) (h n L N)
            · show mm_Go (mm_run 4) mc_M_waste _ (146, [(0, .inr (.inr 407)), (1, .inl v1), (3, .inl v3), (4, .inl v4), (5, .inl v5), (6, .inl v6), (7, .inl v7), (8, .inl v8), (9, .inl (nf_M_entryAt v3 v8))], [], M)
              replace c143 := Decidable.not_not.mp c143
              refine mm_s1 rfl ?_
              refine mm_s1 rfl ?_
              show mm_Go (mm_run 4) mc_M_waste _ (151, [(0, .inr (.inr 407)), (1, .inl v1), (3, .inl v3), (4, .inl v4), (5, .inl v5), (6, .inl v6), (7, .inl v7), (8, .inl v8), (9, .inl (nf_M_entryAt v3 v8))], [.inl 1], M)
              refine mm_s1 rfl ?_
              show mm_Go (mm_run 4) mc_M_waste _ (153, [(0, .inr (.inr 407)), (1, .inl v1), (3, .inl v3), (4, .inl v4), (5, .inl v5), (6, .inl v6), (7, .inl 1), (8, .inl v8), (9, .inl (nf_M_entryAt v3 v8))], [], M)
              refine mm_s1 rfl ?_
              show mm_Go (mm_run 4) mc_M_waste _ (156, [(0, .inr (.inr 407)), (1, .inl v1), (3, .inl v3), (4, .inl v4), (5, .inl v5), (6, .inl v6), (7, .inl 1), (8, .inl (mm_w (v8 + 1))), (9, .inl (nf_M_entryAt v3 v8))], [], M)
              refine mm_s1 rfl ?_
              show mm_Go (mm_run 4) mc_M_waste _ (46, [(0, .inr (.inr 407)), (1, .inl v1), (3, .inl v3), (4, .inl v4), (5, .inl v5), (6, .inl v6), (7, .inl 1), (8, .inl (mm_w (v8 + 1))), (9, .inl (nf_M_entryAt v3 v8))], [], M)
              replace h := h.2.2.2.2.2.2.2.2.1 (Or.inr ⟨c80, ⟨c101, ⟨c122, c143⟩⟩⟩)
              exact nn_go_ext (nn_xc rfl (nn_xc rfl (nn_xc rfl (nn_xc rfl (nn_xc rfl (nn_xc rfl (nn_xc rfl (nn_xc rfl nn_xn)))))))) (h n L N)
