/-! methods walked by program (wip/whole/dec.py) -/
def nr_M_index (v1 : Int) (v2 : Int) (M : mm_M) (R : Int → mm_M → Prop) : Prop := ∀ n, nn_L M → M.1 = n → mm_run 8 mi_M_index [.inr (.inr 407), .inl v1, .inl v2] M (nw_I n R)
def nk_M_index_55 (v1 : Int) (v2 : Int) (v3 : Int) (M : mm_M) (R : Int → mm_M → Prop) : Prop := ∀ n, nn_L M → M.1 = n → mm_Go (mm_run 7) mc_M_index (nw_I n R) (55, [(0, .inr (.inr 407)), (1, .inl v1), (2, .inl v2), (3, .inl v3)], [], M)
set_option maxRecDepth 20000 in
theorem ng_M_index (v1 : Int) (v2 : Int) (M : mm_M) (R : Int → mm_M → Prop) (h : ((nc_M_isIndex v1 M) ∧ ((((nf_M_isIndex v1 M) ≠ 0) ∧ (0 ≤ v2) ∧ ((nf_M_isIn v2 14 19) = 0) ∧ (9 < v2) ∧ (v2 < 13) → (nc_M_isBuilt v1 M)) ∧ (((nf_M_isIndex v1 M) = 0 ∨ (v2 < 0 ∨ ((nf_M_isIn v2 14 19) ≠ 0 ∨ (9 < v2 ∧ (v2 < 13 ∧ ((nf_M_isBuilt v1 M) = 0)))))) → R (-2) M) ∧ (((nf_M_isIndex v1 M) ≠ 0 ∧ (0 ≤ v2 ∧ ((nf_M_isIn v2 14 19) = 0 ∧ (v2 ≤ 9 ∨ (13 ≤ v2 ∨ ((nf_M_isBuilt v1 M) ≠ 0)))))) → nk_M_index_55 v1 v2 (nf_M_at 0 v1) M R)))) : nr_M_index v1 v2 M R := by
  intro n L N 
  have NN := nn_L_n L N
  show mm_Go (mm_run 7) mc_M_index _ (0, [(0, .inr (.inr 407)), (1, .inl v1), (2, .inl v2)], [], M)
  refine mm_s1 rfl ?_
  refine mm_s1 rfl ?_
  obtain ⟨b2, h⟩ := h
  refine mm_s1 rfl ⟨(nn_c407 NN).1, ?_⟩
  refine np_M_isIndex (by decide) L N b2 ?_
  show mm_Go (mm_run 7) mc_M_index _ (5, [(0, .inr (.inr 407)), (1, .inl v1), (2, .inl v2)], [.inl (nf_M_isIndex v1 M)], M)
  refine mm_s1 rfl ⟨fun c5 => ?_, fun c5 => ?_⟩
  · show mm_Go (mm_run 7) mc_M_index _ (23, [(0, .inr (.inr 407)), (1, .inl v1), (2, .inl v2)], [], M)
    refine mm_s1 rfl ?_
    replace h := h.2.1 (Or.inl c5)
    exact mm_s1 rfl ⟨_, rfl, L, N, h⟩
  · show mm_Go (mm_run 7) mc_M_index _ (8, [(0, .inr (.inr 407)), (1, .inl v1), (2, .inl v2)], [], M)
    refine mm_s1 rfl ?_
    refine mm_s1 rfl ⟨fun c9 => ?_, fun c9 => ?_⟩
    · show mm_Go (mm_run 7) mc_M_index _ (23, [(0, .inr (.inr 407)), (1, .inl v1), (2, .inl v2)], [], M)
      refine mm_s1 rfl ?_
      replace h := h.2.1 (Or.inr (Or.inl c9))
      exact mm_s1 rfl ⟨_, rfl, L, N, h⟩
    · show mm_Go (mm_run 7) mc_M_index _ (12, [(0, .inr (.inr 407)), (1, .inl v1), (2, .inl v2)], [], M)
      replace c9 := Int.not_lt.mp c9
      refine mm_s1 rfl ?_
      refine mm_s1 rfl ?_
      refine mm_s1 rfl ?_
      refine mm_s1 rfl ⟨trivial, ?_⟩
      refine np_M_isIn (by decide) L N ?_
      show mm_Go (mm_run 7) mc_M_index _ (20, [(0, .inr (.inr 407)), (1, .inl v1), (2, .inl v2)], [.inl (nf_M_isIn v2 14 19)], M)
      refine mm_s1 rfl ⟨fun c20 => ?_, fun c20 => ?_⟩
      · show mm_Go (mm_run 7) mc_M_index _ (26, [(0, .inr (.inr 407)), (1, .inl v1), (2, .inl v2)], [], M)
        refine mm_s1 rfl ?_
        refine mm_s1 rfl ?_
        refine mm_s1 rfl ⟨trivial, ?_⟩
        refine np_M_at (by decide) L N ?_
        show mm_Go (mm_run 7) mc_M_index _ (31, [(0, .inr (.inr 407)), (1, .inl v1), (2, .inl v2)], [.inl (nf_M_at 0 v1)], M)
        refine mm_s1 rfl ?_
        show mm_Go (mm_run 7) mc_M_index _ (32, [(0, .inr (.inr 407)), (1, .inl v1), (2, .inl v2), (3, .inl (nf_M_at 0 v1))], [], M)
        refine mm_s1 rfl ?_
        refine mm_s1 rfl ?_
        refine mm_s1 rfl ⟨fun c35 => ?_, fun c35 => ?_⟩
        · show mm_Go (mm_run 7) mc_M_index _ (55, [(0, .inr (.inr 407)), (1, .inl v1), (2, .inl v2), (3, .inl (nf_M_at 0 v1))], [], M)
          replace h := h.2.2 ⟨c5, ⟨c9, ⟨c20, (Or.inl c35)⟩⟩⟩
          exact nn_go_ext (nn_xc rfl (nn_xc rfl (nn_xc rfl (nn_xc rfl nn_xn)))) (h n L N)
        · show mm_Go (mm_run 7) mc_M_index _ (38, [(0, .inr (.inr 407)), (1, .inl v1), (2, .inl v2), (3, .inl (nf_M_at 0 v1))], [], M)
          replace c35 := Int.not_le.mp c35
          refine mm_s1 rfl ?_
          refine mm_s1 rfl ?_
          refine mm_s1 rfl ⟨fun c41 => ?_, fun c41 => ?_⟩
          · show mm_Go (mm_run 7) mc_M_index _ (55, [(0, .inr (.inr 407)), (1, .inl v1), (2, .inl v2), (3, .inl (nf_M_at 0 v1))], [], M)
            replace h := h.2.2 ⟨c5, ⟨c9, ⟨c20, (Or.inr (Or.inl c41))⟩⟩⟩
            exact nn_go_ext (nn_xc rfl (nn_xc rfl (nn_xc rfl (nn_xc rfl nn_xn)))) (h n L N)
          · show mm_Go (mm_run 7) mc_M_index _ (44, [(0, .inr (.inr 407)), (1, .inl v1), (2, .inl v2), (3, .inl (nf_M_at 0 v1))], [], M)
            replace c41 := Int.not_le.mp c41
            refine mm_s1 rfl ?_
            refine mm_s1 rfl ?_
            have b46 := h.1 ⟨c5, c9, c20, c35, c41⟩
            refine mm_s1 rfl ⟨(nn_c407 NN).1, ?_⟩
            refine np_M_isBuilt (by decide) L N b46 ?_
            show mm_Go (mm_run 7) mc_M_index _ (49, [(0, .inr (.inr 407)), (1, .inl v1), (2, .inl v2), (3, .inl (nf_M_at 0 v1))], [.inl (nf_M_isBuilt v1 M)], M)
            refine mm_s1 rfl ⟨fun c49 => ?_, fun c49 => ?_⟩
            · show mm_Go (mm_run 7) mc_M_index _ (55, [(0, .inr (.inr 407)), (1, .inl v1), (2, .inl v2), (3, .inl (nf_M_at 0 v1))], [], M)
              replace h := h.2.2 ⟨c5, ⟨c9, ⟨c20, (Or.inr (Or.inr c49))⟩⟩⟩
              exact nn_go_ext (nn_xc rfl (nn_xc rfl (nn_xc rfl (nn_xc rfl nn_xn)))) (h n L N)
            · show mm_Go (mm_run 7) mc_M_index _ (52, [(0, .inr (.inr 407)), (1, .inl v1), (2, .inl v2), (3, .inl (nf_M_at 0 v1))], [], M)
              replace c49 := Decidable.not_not.mp c49
              refine mm_s1 rfl ?_
              replace h := h.2.1 (Or.inr (Or.inr (Or.inr ⟨c35, ⟨c41, c49⟩⟩)))
              exact mm_s1 rfl ⟨_, rfl, L, N, h⟩
      · show mm_Go (mm_run 7) mc_M_index _ (23, [(0, .inr (.inr 407)), (1, .inl v1), (2, .inl v2)], [], M)
        refine mm_s1 rfl ?_
        replace h := h.2.1 (Or.inr (Or.inr (Or.inl c20)))
        exact mm_s1 rfl ⟨_, rfl, L, N, h⟩
set_option maxRecDepth 20000 in
theorem ng_M_index_55 (v1 : Int) (v2 : Int) (v3 : Int) (M : mm_M) (R : Int → mm_M → Prop) (h : ((v2 < 20 → ((v2 = 0 → (((0 : Int) ≤ (mm_w (v3 + 0)) ∧ (mm_w (v3 + 0)) < (32844 : Int)) ∧ R (nn_ri M 408 (mm_w (v3 + 0))) M)) ∧ (v2 = 1 → (((0 : Int) ≤ (mm_w (v3 + 1)) ∧ (mm_w (v3 + 1)) < (32844 : Int)) ∧ R (nn_ri M 408 (mm_w (v3 + 1))) M)) ∧ (v2 = 2 → (((0 : Int) ≤ (mm_w (v3 + 2)) ∧ (mm_w (v3 + 2)) < (32844 : Int)) ∧ R (nn_ri M 408 (mm_w (v3 + 2))) M)) ∧ (v2 = 3 → (((0 : Int) ≤ (mm_w (v3 + 5)) ∧ (mm_w (v3 + 5)) < (32844 : Int)) ∧ R (nn_ri M 408 (mm_w (v3 + 5))) M)) ∧ (v2 = 4 → (((0 : Int) ≤ (mm_w (v3 + 6)) ∧ (mm_w (v3 + 6)) < (32844 : Int)) ∧ R (nn_ri M 408 (mm_w (v3 + 6))) M)) ∧ (v2 = 5 → (nr_M_stales 0 v1 (-2) M (fun r187 M187 => R r187 M187))) ∧ (v2 = 6 → (nr_M_waste 0 v1 M (fun r194 M194 => R r194 M194))) ∧ (v2 = 7 → (((0 : Int) ≤ (mm_w (v3 + 0)) ∧ (mm_w (v3 + 0)) < (32844 : Int)) ∧ (((nn_ri M 408 (mm_w (v3 + 0))) ≠ 2 → (((0 : Int) ≤ (mm_w (v3 + 4)) ∧ (mm_w (v3 + 4)) < (32844 : Int)) ∧ R (mm_w (32 - (nn_ri M 408 (mm_w (v3 + 4))))) M)) ∧ ((nn_ri M 408 (mm_w (v3 + 0))) = 2 → R 0 M)))) ∧ (v2 = 8 → (nr_M_oldest 0 v1 M (fun r229 M229 => R r229 M229))) ∧ (v2 = 9 → (((0 : Int) ≤ (mm_w (v3 + 7)) ∧ (mm_w (v3 + 7)) < (32844 : Int)) ∧ R (nn_ri M 408 (mm_w (v3 + 7))) M)) ∧ (v2 = 10 → (nr_M_unused v1 M (fun r245 M245 => R r245 M245))) ∧ (v2 = 11 → (nr_M_crowded v1 M (fun r251 M251 => R r251 M251))) ∧ (v2 = 12 → (nr_M_crowded v1 M (fun r257 M257 => ((r257 ≠ (-1) → (nr_M_crowded v1 M257 (fun r272 M272 => (nr_M_withValue v1 r272 M272 (fun r275 M275 => R r275 M275))))) ∧ (r257 = (-1) → R 0 M257))))) ∧ ((v2 < 0 ∨ 12 < v2) → (nr_M_worst v1 M (fun r281 M281 => R r281 M281))))) ∧ (20 ≤ v2 → (nr_M_ofRuns v1 v2 M (fun r64 M64 => R r64 M64))))) : nk_M_index_55 v1 v2 v3 M R := by
  intro n L N 
  have NN := nn_L_n L N
  show mm_Go (mm_run 7) mc_M_index _ (55, [(0, .inr (.inr 407)), (1, .inl v1), (2, .inl v2), (3, .inl v3)], [], M)
  refine mm_s1 rfl ?_
  refine mm_s1 rfl ?_
  refine mm_s1 rfl ⟨fun c58 => ?_, fun c58 => ?_⟩
  · show mm_Go (mm_run 7) mc_M_index _ (68, [(0, .inr (.inr 407)), (1, .inl v1), (2, .inl v2), (3, .inl v3)], [], M)
    replace h := h.1 c58
    refine mm_s1 rfl ?_
    refine nn_sw rfl (by decide) (fun k hk hx => ?_) (fun c69 => ?_)
    · match k, hk, hx with
      | 0, _, hx =>
        have c69 : v2 = 0 := hx.trans (by decide)
        replace h := h.1 c69
        show mm_Go (mm_run 7) mc_M_index _ (136, [(0, .inr (.inr 407)), (1, .inl v1), (2, .inl v2), (3, .inl v3)], [], M)
        refine mm_s1 rfl ?_
        refine nn_getr rfl (nn_c407 NN).1 (lf_13_0 L N (nn_c407 NN)) ?_
        refine mm_s1 rfl ?_
        refine mm_s1 rfl ?_
        refine mm_s1 rfl ?_
        show mm_Go (mm_run 7) mc_M_index _ (143, [(0, .inr (.inr 407)), (1, .inl v1), (2, .inl v2), (3, .inl v3)], [.inl (mm_w (v3 + 0)), .inr (.inr 408)], M)
        obtain ⟨b143, h⟩ := h
        refine mm_s1 rfl ⟨nn_bd (na_13_0 NN (nn_c407 NN)) b143, ?_⟩
        show mm_Go (mm_run 7) mc_M_index _ (144, [(0, .inr (.inr 407)), (1, .inl v1), (2, .inl v2), (3, .inl v3)], [.inl (nn_ri M 408 (mm_w (v3 + 0)))], M)
        exact mm_s1 rfl ⟨_, rfl, L, N, h⟩
      | 1, _, hx =>
        have c69 : v2 = 1 := hx.trans (by decide)
        replace h := h.2.1 c69
        show mm_Go (mm_run 7) mc_M_index _ (145, [(0, .inr (.inr 407)), (1, .inl v1), (2, .inl v2), (3, .inl v3)], [], M)
        refine mm_s1 rfl ?_
        refine nn_getr rfl (nn_c407 NN).1 (lf_13_0 L N (nn_c407 NN)) ?_
        refine mm_s1 rfl ?_
        refine mm_s1 rfl ?_
        refine mm_s1 rfl ?_
        show mm_Go (mm_run 7) mc_M_index _ (152, [(0, .inr (.inr 407)), (1, .inl v1), (2, .inl v2), (3, .inl v3)], [.inl (mm_w (v3 + 1)), .inr (.inr 408)], M)
        obtain ⟨b152, h⟩ := h
        refine mm_s1 rfl ⟨nn_bd (na_13_0 NN (nn_c407 NN)) b152, ?_⟩
        show mm_Go (mm_run 7) mc_M_index _ (153, [(0, .inr (.inr 407)), (1, .inl v1), (2, .inl v2), (3, .inl v3)], [.inl (nn_ri M 408 (mm_w (v3 + 1)))], M)
        exact mm_s1 rfl ⟨_, rfl, L, N, h⟩
      | 2, _, hx =>
        have c69 : v2 = 2 := hx.trans (by decide)
        replace h := h.2.2.1 c69
        show mm_Go (mm_run 7) mc_M_index _ (154, [(0, .inr (.inr 407)), (1, .inl v1), (2, .inl v2), (3, .inl v3)], [], M)
        refine mm_s1 rfl ?_
        refine nn_getr rfl (nn_c407 NN).1 (lf_13_0 L N (nn_c407 NN)) ?_
        refine mm_s1 rfl ?_
        refine mm_s1 rfl ?_
        refine mm_s1 rfl ?_
        show mm_Go (mm_run 7) mc_M_index _ (161, [(0, .inr (.inr 407)), (1, .inl v1), (2, .inl v2), (3, .inl v3)], [.inl (mm_w (v3 + 2)), .inr (.inr 408)], M)
        obtain ⟨b161, h⟩ := h
        refine mm_s1 rfl ⟨nn_bd (na_13_0 NN (nn_c407 NN)) b161, ?_⟩
        show mm_Go (mm_run 7) mc_M_index _ (162, [(0, .inr (.inr 407)), (1, .inl v1), (2, .inl v2), (3, .inl v3)], [.inl (nn_ri M 408 (mm_w (v3 + 2)))], M)
        exact mm_s1 rfl ⟨_, rfl, L, N, h⟩
      | 3, _, hx =>
        have c69 : v2 = 3 := hx.trans (by decide)
        replace h := h.2.2.2.1 c69
        show mm_Go (mm_run 7) mc_M_index _ (163, [(0, .inr (.inr 407)), (1, .inl v1), (2, .inl v2), (3, .inl v3)], [], M)
        refine mm_s1 rfl ?_
        refine nn_getr rfl (nn_c407 NN).1 (lf_13_0 L N (nn_c407 NN)) ?_
        refine mm_s1 rfl ?_
        refine mm_s1 rfl ?_
        refine mm_s1 rfl ?_
        show mm_Go (mm_run 7) mc_M_index _ (170, [(0, .inr (.inr 407)), (1, .inl v1), (2, .inl v2), (3, .inl v3)], [.inl (mm_w (v3 + 5)), .inr (.inr 408)], M)
        obtain ⟨b170, h⟩ := h
        refine mm_s1 rfl ⟨nn_bd (na_13_0 NN (nn_c407 NN)) b170, ?_⟩
        show mm_Go (mm_run 7) mc_M_index _ (171, [(0, .inr (.inr 407)), (1, .inl v1), (2, .inl v2), (3, .inl v3)], [.inl (nn_ri M 408 (mm_w (v3 + 5)))], M)
        exact mm_s1 rfl ⟨_, rfl, L, N, h⟩
      | 4, _, hx =>
        have c69 : v2 = 4 := hx.trans (by decide)
        replace h := h.2.2.2.2.1 c69
        show mm_Go (mm_run 7) mc_M_index _ (172, [(0, .inr (.inr 407)), (1, .inl v1), (2, .inl v2), (3, .inl v3)], [], M)
        refine mm_s1 rfl ?_
        refine nn_getr rfl (nn_c407 NN).1 (lf_13_0 L N (nn_c407 NN)) ?_
        refine mm_s1 rfl ?_
        refine mm_s1 rfl ?_
        refine mm_s1 rfl ?_
        show mm_Go (mm_run 7) mc_M_index _ (180, [(0, .inr (.inr 407)), (1, .inl v1), (2, .inl v2), (3, .inl v3)], [.inl (mm_w (v3 + 6)), .inr (.inr 408)], M)
        obtain ⟨b180, h⟩ := h
        refine mm_s1 rfl ⟨nn_bd (na_13_0 NN (nn_c407 NN)) b180, ?_⟩
        show mm_Go (mm_run 7) mc_M_index _ (181, [(0, .inr (.inr 407)), (1, .inl v1), (2, .inl v2), (3, .inl v3)], [.inl (nn_ri M 408 (mm_w (v3 + 6)))], M)
        exact mm_s1 rfl ⟨_, rfl, L, N, h⟩
      | 5, _, hx =>
        have c69 : v2 = 5 := hx.trans (by decide)
        replace h := h.2.2.2.2.2.1 c69
        show mm_Go (mm_run 7) mc_M_index _ (182, [(0, .inr (.inr 407)), (1, .inl v1), (2, .inl v2), (3, .inl v3)], [], M)
        refine mm_s1 rfl ?_
        refine mm_s1 rfl ?_
        refine mm_s1 rfl ?_
        refine mm_s1 rfl ?_
        refine mm_s1 rfl ⟨(nn_c407 NN).1, ?_⟩
        refine nn_call (D := 5) (by decide) (h n L N) ?_
        intro v M187 q; clear L N h
        obtain ⟨r187, rfl, L, N, h⟩ := q
        show mm_Go (mm_run 7) mc_M_index _ (190, [(0, .inr (.inr 407)), (1, .inl v1), (2, .inl v2), (3, .inl v3)], [.inl r187], M187)
        exact mm_s1 rfl ⟨_, rfl, L, N, h⟩
      | 6, _, hx =>
        have c69 : v2 = 6 := hx.trans (by decide)
        replace h := h.2.2.2.2.2.2.1 c69
        show mm_Go (mm_run 7) mc_M_index _ (191, [(0, .inr (.inr 407)), (1, .inl v1), (2, .inl v2), (3, .inl v3)], [], M)
        refine mm_s1 rfl ?_
        refine mm_s1 rfl ?_
        refine mm_s1 rfl ?_
        refine mm_s1 rfl ⟨(nn_c407 NN).1, ?_⟩
        refine nn_call (D := 5) (by decide) (h n L N) ?_
        intro v M194 q; clear L N h
        obtain ⟨r194, rfl, L, N, h⟩ := q
        show mm_Go (mm_run 7) mc_M_index _ (197, [(0, .inr (.inr 407)), (1, .inl v1), (2, .inl v2), (3, .inl v3)], [.inl r194], M194)
        exact mm_s1 rfl ⟨_, rfl, L, N, h⟩
      | 7, _, hx =>
        have c69 : v2 = 7 := hx.trans (by decide)
        replace h := h.2.2.2.2.2.2.2.1 c69
        show mm_Go (mm_run 7) mc_M_index _ (198, [(0, .inr (.inr 407)), (1, .inl v1), (2, .inl v2), (3, .inl v3)], [], M)
        refine mm_s1 rfl ?_
        refine nn_getr rfl (nn_c407 NN).1 (lf_13_0 L N (nn_c407 NN)) ?_
        refine mm_s1 rfl ?_
        refine mm_s1 rfl ?_
        refine mm_s1 rfl ?_
        show mm_Go (mm_run 7) mc_M_index _ (205, [(0, .inr (.inr 407)), (1, .inl v1), (2, .inl v2), (3, .inl v3)], [.inl (mm_w (v3 + 0)), .inr (.inr 408)], M)
        obtain ⟨b205, h⟩ := h
        refine mm_s1 rfl ⟨nn_bd (na_13_0 NN (nn_c407 NN)) b205, ?_⟩
        show mm_Go (mm_run 7) mc_M_index _ (206, [(0, .inr (.inr 407)), (1, .inl v1), (2, .inl v2), (3, .inl v3)], [.inl (nn_ri M 408 (mm_w (v3 + 0)))], M)
        refine mm_s1 rfl ?_
        refine mm_s1 rfl ⟨fun c207 => ?_, fun c207 => ?_⟩
        · show mm_Go (mm_run 7) mc_M_index _ (214, [(0, .inr (.inr 407)), (1, .inl v1), (2, .inl v2), (3, .inl v3)], [], M)
          replace h := h.1 c207
          refine mm_s1 rfl ?_
          refine mm_s1 rfl ?_
          refine nn_getr rfl (nn_c407 NN).1 (lf_13_0 L N (nn_c407 NN)) ?_
          refine mm_s1 rfl ?_
          refine mm_s1 rfl ?_
          show mm_Go (mm_run 7) mc_M_index _ (222, [(0, .inr (.inr 407)), (1, .inl v1), (2, .inl v2), (3, .inl v3)], [.inl 4, .inl v3, .inr (.inr 408), .inl 32], M)
          refine mm_s1 rfl ?_
          obtain ⟨b223, h⟩ := h
          refine mm_s1 rfl ⟨nn_bd (na_13_0 NN (nn_c407 NN)) b223, ?_⟩
          show mm_Go (mm_run 7) mc_M_index _ (224, [(0, .inr (.inr 407)), (1, .inl v1), (2, .inl v2), (3, .inl v3)], [.inl (nn_ri M 408 (mm_w (v3 + 4))), .inl 32], M)
          refine mm_s1 rfl ?_
          exact mm_s1 rfl ⟨_, rfl, L, N, h⟩
        · show mm_Go (mm_run 7) mc_M_index _ (210, [(0, .inr (.inr 407)), (1, .inl v1), (2, .inl v2), (3, .inl v3)], [], M)
          replace c207 := Decidable.not_not.mp c207
          replace h := h.2 c207
          refine mm_s1 rfl ?_
          refine mm_s1 rfl ?_
          show mm_Go (mm_run 7) mc_M_index _ (225, [(0, .inr (.inr 407)), (1, .inl v1), (2, .inl v2), (3, .inl v3)], [.inl 0], M)
          exact mm_s1 rfl ⟨_, rfl, L, N, h⟩
      | 8, _, hx =>
        have c69 : v2 = 8 := hx.trans (by decide)
        replace h := h.2.2.2.2.2.2.2.2.1 c69
        show mm_Go (mm_run 7) mc_M_index _ (226, [(0, .inr (.inr 407)), (1, .inl v1), (2, .inl v2), (3, .inl v3)], [], M)
        refine mm_s1 rfl ?_
        refine mm_s1 rfl ?_
        refine mm_s1 rfl ?_
        refine mm_s1 rfl ⟨(nn_c407 NN).1, ?_⟩
        refine nn_call (D := 2) (by decide) (h n L N) ?_
        intro v M229 q; clear L N h
        obtain ⟨r229, rfl, L, N, h⟩ := q
        show mm_Go (mm_run 7) mc_M_index _ (232, [(0, .inr (.inr 407)), (1, .inl v1), (2, .inl v2), (3, .inl v3)], [.inl r229], M229)
        exact mm_s1 rfl ⟨_, rfl, L, N, h⟩
      | 9, _, hx =>
        have c69 : v2 = 9 := hx.trans (by decide)
        replace h := h.2.2.2.2.2.2.2.2.2.1 c69
        show mm_Go (mm_run 7) mc_M_index _ (233, [(0, .inr (.inr 407)), (1, .inl v1), (2, .inl v2), (3, .inl v3)], [], M)
        refine mm_s1 rfl ?_
        refine nn_getr rfl (nn_c407 NN).1 (lf_13_0 L N (nn_c407 NN)) ?_
        refine mm_s1 rfl ?_
        refine mm_s1 rfl ?_
        refine mm_s1 rfl ?_
        show mm_Go (mm_run 7) mc_M_index _ (241, [(0, .inr (.inr 407)), (1, .inl v1), (2, .inl v2), (3, .inl v3)], [.inl (mm_w (v3 + 7)), .inr (.inr 408)], M)
        obtain ⟨b241, h⟩ := h
        refine mm_s1 rfl ⟨nn_bd (na_13_0 NN (nn_c407 NN)) b241, ?_⟩
        show mm_Go (mm_run 7) mc_M_index _ (242, [(0, .inr (.inr 407)), (1, .inl v1), (2, .inl v2), (3, .inl v3)], [.inl (nn_ri M 408 (mm_w (v3 + 7)))], M)
        exact mm_s1 rfl ⟨_, rfl, L, N, h⟩
      | 10, _, hx =>
        have c69 : v2 = 10 := hx.trans (by decide)
        replace h := h.2.2.2.2.2.2.2.2.2.2.1 c69
        show mm_Go (mm_run 7) mc_M_index _ (243, [(0, .inr (.inr 407)), (1, .inl v1), (2, .inl v2), (3, .inl v3)], [], M)
        refine mm_s1 rfl ?_
        refine mm_s1 rfl ?_
        refine mm_s1 rfl ⟨(nn_c407 NN).1, ?_⟩
        refine nn_call (D := 7) (by decide) (h n L N) ?_
        intro v M245 q; clear L N h
        obtain ⟨r245, rfl, L, N, h⟩ := q
        show mm_Go (mm_run 7) mc_M_index _ (248, [(0, .inr (.inr 407)), (1, .inl v1), (2, .inl v2), (3, .inl v3)], [.inl r245], M245)
        exact mm_s1 rfl ⟨_, rfl, L, N, h⟩
      | 11, _, hx =>
        have c69 : v2 = 11 := hx.trans (by decide)
        replace h := h.2.2.2.2.2.2.2.2.2.2.2.1 c69
        show mm_Go (mm_run 7) mc_M_index _ (249, [(0, .inr (.inr 407)), (1, .inl v1), (2, .inl v2), (3, .inl v3)], [], M)
        refine mm_s1 rfl ?_
        refine mm_s1 rfl ?_
        refine mm_s1 rfl ⟨(nn_c407 NN).1, ?_⟩
        refine nn_call (D := 7) (by decide) (h n L N) ?_
        intro v M251 q; clear L N h
        obtain ⟨r251, rfl, L, N, h⟩ := q
        show mm_Go (mm_run 7) mc_M_index _ (254, [(0, .inr (.inr 407)), (1, .inl v1), (2, .inl v2), (3, .inl v3)], [.inl r251], M251)
        exact mm_s1 rfl ⟨_, rfl, L, N, h⟩
      | 12, _, hx =>
        have c69 : v2 = 12 := hx.trans (by decide)
        replace h := h.2.2.2.2.2.2.2.2.2.2.2.2.1 c69
        show mm_Go (mm_run 7) mc_M_index _ (255, [(0, .inr (.inr 407)), (1, .inl v1), (2, .inl v2), (3, .inl v3)], [], M)
        refine mm_s1 rfl ?_
        refine mm_s1 rfl ?_
        refine mm_s1 rfl ⟨(nn_c407 NN).1, ?_⟩
        refine nn_call (D := 7) (by decide) (h n L N) ?_
        intro v M257 q; clear L N h
        obtain ⟨r257, rfl, L, N, h⟩ := q
        show mm_Go (mm_run 7) mc_M_index _ (260, [(0, .inr (.inr 407)), (1, .inl v1), (2, .inl v2), (3, .inl v3)], [.inl r257], M257)
        refine mm_s1 rfl ?_
        refine mm_s1 rfl ⟨fun c261 => ?_, fun c261 => ?_⟩
        · show mm_Go (mm_run 7) mc_M_index _ (268, [(0, .inr (.inr 407)), (1, .inl v1), (2, .inl v2), (3, .inl v3)], [], M257)
          replace h := h.1 c261
          refine mm_s1 rfl ?_
          refine mm_s1 rfl ?_
          refine mm_s1 rfl ?_
          refine mm_s1 rfl ?_
          refine mm_s1 rfl ⟨(nn_c407 NN).1, ?_⟩
          refine nn_call (D := 7) (by decide) (h n L N) ?_
          intro v M272 q; clear L N h
          obtain ⟨r272, rfl, L, N, h⟩ := q
          show mm_Go (mm_run 7) mc_M_index _ (275, [(0, .inr (.inr 407)), (1, .inl v1), (2, .inl v2), (3, .inl v3)], [.inl r272, .inl v1, .inr (.inr 407)], M272)
          refine mm_s1 rfl ⟨(nn_c407 NN).1, ?_⟩
          refine nn_call (D := 6) (by decide) (h n L N) ?_
          intro v M275 q; clear L N h
          obtain ⟨r275, rfl, L, N, h⟩ := q
          show mm_Go (mm_run 7) mc_M_index _ (278, [(0, .inr (.inr 407)), (1, .inl v1), (2, .inl v2), (3, .inl v3)], [.inl r275], M275)
          exact mm_s1 rfl ⟨_, rfl, L, N, h⟩
        · show mm_Go (mm_run 7) mc_M_index _ (264, [(0, .inr (.inr 407)), (1, .inl v1), (2, .inl v2), (3, .inl v3)], [], M257)
          replace c261 := Decidable.not_not.mp c261
          replace h := h.2 c261
          refine mm_s1 rfl ?_
          refine mm_s1 rfl ?_
          show mm_Go (mm_run 7) mc_M_index _ (278, [(0, .inr (.inr 407)), (1, .inl v1), (2, .inl v2), (3, .inl v3)], [.inl 0], M257)
          exact mm_s1 rfl ⟨_, rfl, L, N, h⟩
      | k + 13, hk, _ => exact absurd hk (by show ¬ (k + 13 < 13); omega)
    · replace h := h.2.2.2.2.2.2.2.2.2.2.2.2.2 c69
      show mm_Go (mm_run 7) mc_M_index _ (279, [(0, .inr (.inr 407)), (1, .inl v1), (2, .inl v2), (3, .inl v3)], [], M)
      refine mm_s1 rfl ?_
      refine mm_s1 rfl ?_
      refine mm_s1 rfl ⟨(nn_c407 NN).1, ?_⟩
      refine nn_call (D := 6) (by decide) (h n L N) ?_
      intro v M281 q; clear L N h
      obtain ⟨r281, rfl, L, N, h⟩ := q
      show mm_Go (mm_run 7) mc_M_index _ (284, [(0, .inr (.inr 407)), (1, .inl v1), (2, .inl v2), (3, .inl v3)], [.inl r281], M281)
      exact mm_s1 rfl ⟨_, rfl, L, N, h⟩
  · show mm_Go (mm_run 7) mc_M_index _ (61, [(0, .inr (.inr 407)), (1, .inl v1), (2, .inl v2), (3, .inl v3)], [], M)
    replace c58 := Int.not_lt.mp c58
    replace h := h.2 c58
    refine mm_s1 rfl ?_
    refine mm_s1 rfl ?_
    refine mm_s1 rfl ?_
    refine mm_s1 rfl ⟨(nn_c407 NN).1, ?_⟩
    refine nn_call (D := 3) (by decide) (h n L N) ?_
    intro v M64 q; clear L N h
    obtain ⟨r64, rfl, L, N, h⟩ := q
    show mm_Go (mm_run 7) mc_M_index _ (67, [(0, .inr (.inr 407)), (1, .inl v1), (2, .inl v2), (3, .inl v3)], [.inl r64], M64)
    exact mm_s1 rfl ⟨_, rfl, L, N, h⟩
def nr_Reader_name (v1 : Int) (v2 : Int) (v3 : Nat) (v4 : Int) (M : mm_M) (R : mm_M → Prop) : Prop := ∀ n, nn_L M → M.1 = n → nn_C 20 v3 n → mm_run 9 mi_Reader_name [.inr (.inr 402), .inl v1, .inl v2, .inr (.inr v3), .inl v4] M (nw_V n R)
def nk_Reader_name_96 (v1 : Int) (v3 : Nat) (v4 : Int) (v5 : Int) (v6 : Int) (M : mm_M) (R : mm_M → Prop) : Prop := ∀ n, nn_L M → M.1 = n → nn_C 20 v3 n → mm_Go (mm_run 8) mc_Reader_name (nw_V n R) (96, [(0, .inr (.inr 402)), (1, .inl v1), (3, .inr (.inr v3)), (4, .inl v4), (5, .inl v5), (6, .inl v6)], [], M)
set_option maxRecDepth 20000 in
theorem ng_Reader_name (v1 : Int) (v2 : Int) (v3 : Nat) (v4 : Int) (M : mm_M) (R : mm_M → Prop) (h : (((0 : Int) ≤ v1 ∧ v1 < (201 : Int)) ∧ (((0 : Int) ≤ v1 ∧ v1 < (201 : Int)) ∧ (∀ M14 : mm_M, M14 = nn_ui M 405 v1 0 → ((v2 ≠ 1 → ((v2 ≠ 3 → (((mm_w (v4 - (nn_ri M 404 v1))) ≤ 2 → (((0 : Int) ≤ v1 ∧ v1 < (201 : Int)) ∧ (∀ M91 : mm_M, M91 = nn_ui M14 403 v1 1 → nk_Reader_name_96 v1 v3 v4 (nn_ri M 404 v1) (nn_ri M 404 v1) M91 R))) ∧ (2 < (mm_w (v4 - (nn_ri M 404 v1))) → (((0 : Int) ≤ v1 ∧ v1 < (201 : Int)) ∧ (∀ M91 : mm_M, M91 = nn_ui M14 403 v1 13 → nk_Reader_name_96 v1 v3 v4 (nn_ri M 404 v1) (nn_ri M 404 v1) M91 R))))) ∧ (v2 = 3 → (((0 : Int) ≤ (nn_ri M 404 v1) ∧ (nn_ri M 404 v1) < ((mm_kd v3).2 : Int)) ∧ (((0 : Int) ≤ v1 ∧ v1 < (201 : Int)) ∧ (∀ M67 : mm_M, M67 = nn_ui M14 403 v1 (nf_Reader_sign (nn_ri M14 v3 (nn_ri M 404 v1))) → R M67)))))) ∧ (v2 = 1 → (nr_Reader_word v3 (nn_ri M 404 v1) v4 M14 (fun r30 M30 => (((0 : Int) ≤ v1 ∧ v1 < (201 : Int)) ∧ (∀ M33 : mm_M, M33 = nn_ui M30 403 v1 r30 → (((0 : Int) ≤ (nn_ri M 404 v1) ∧ (nn_ri M 404 v1) < ((mm_kd v3).2 : Int)) ∧ (((0 : Int) ≤ v1 ∧ v1 < (201 : Int)) ∧ (∀ M46 : mm_M, M46 = nn_ui M33 405 v1 (mm_w ((nn_ri M33 v3 (nn_ri M 404 v1)) - 97)) → R M46))))))))))))) : nr_Reader_name v1 v2 v3 v4 M R := by
  intro n L N C3
  have NN := nn_L_n L N
  show mm_Go (mm_run 8) mc_Reader_name _ (0, [(0, .inr (.inr 402)), (1, .inl v1), (2, .inl v2), (3, .inr (.inr v3)), (4, .inl v4)], [], M)
  refine mm_s1 rfl ?_
  refine nn_getr rfl (nn_c402 NN).1 (lf_7_1 L N (nn_c402 NN)) ?_
  refine mm_s1 rfl ?_
  obtain ⟨b5, h⟩ := h
  refine mm_s1 rfl ⟨nn_bd (na_7_1 NN (nn_c402 NN)) b5, ?_⟩
  show mm_Go (mm_run 8) mc_Reader_name _ (6, [(0, .inr (.inr 402)), (1, .inl v1), (2, .inl v2), (3, .inr (.inr v3)), (4, .inl v4)], [.inl (nn_ri M 404 v1)], M)
  refine mm_s1 rfl ?_
  show mm_Go (mm_run 8) mc_Reader_name _ (8, [(0, .inr (.inr 402)), (1, .inl v1), (2, .inl v2), (3, .inr (.inr v3)), (4, .inl v4), (5, .inl (nn_ri M 404 v1))], [], M)
  refine mm_s1 rfl ?_
  refine nn_getr rfl (nn_c402 NN).1 (lf_7_2 L N (nn_c402 NN)) ?_
  refine mm_s1 rfl ?_
  refine mm_s1 rfl ?_
  obtain ⟨b14, h⟩ := h
  refine mm_s1 rfl ⟨nn_bd (na_7_2 NN (nn_c402 NN)) b14, ?_⟩
  show mm_Go (mm_run 8) mc_Reader_name _ (15, [(0, .inr (.inr 402)), (1, .inl v1), (2, .inl v2), (3, .inr (.inr v3)), (4, .inl v4), (5, .inl (nn_ri M 404 v1))], [], (nn_ui M 405 v1 0))
  have L : nn_L (nn_ui M 405 v1 0) := nn_L_ua L (congrArg Prod.fst (na_7_2 NN (nn_c402 NN))) (by decide)
  have N : (nn_ui M 405 v1 0).1 = n := N
  generalize e_M14 : (nn_ui M 405 v1 0) = M14 at L N ⊢
  replace h := h _ e_M14.symm
  show mm_Go (mm_run 8) mc_Reader_name _ (15, [(0, .inr (.inr 402)), (1, .inl v1), (2, .inl v2), (3, .inr (.inr v3)), (4, .inl v4), (5, .inl (nn_ri M 404 v1))], [], M14)
  refine mm_s1 rfl ?_
  refine mm_s1 rfl ?_
  refine mm_s1 rfl ⟨fun c17 => ?_, fun c17 => ?_⟩
  · show mm_Go (mm_run 8) mc_Reader_name _ (50, [(0, .inr (.inr 402)), (1, .inl v1), (2, .inl v2), (3, .inr (.inr v3)), (4, .inl v4), (5, .inl (nn_ri M 404 v1))], [], M14)
    replace h := h.1 c17
    refine mm_s1 rfl ?_
    refine mm_s1 rfl ?_
    refine mm_s1 rfl ⟨fun c52 => ?_, fun c52 => ?_⟩
    · show mm_Go (mm_run 8) mc_Reader_name _ (71, [(0, .inr (.inr 402)), (1, .inl v1), (2, .inl v2), (3, .inr (.inr v3)), (4, .inl v4), (5, .inl (nn_ri M 404 v1))], [], M14)
      replace h := h.1 c52
      refine mm_s1 rfl ?_
      refine nn_getr rfl (nn_c402 NN).1 (lf_7_0 L N (nn_c402 NN)) ?_
      refine mm_s1 rfl ?_
      refine mm_s1 rfl ?_
      refine mm_s1 rfl ?_
      show mm_Go (mm_run 8) mc_Reader_name _ (80, [(0, .inr (.inr 402)), (1, .inl v1), (2, .inl v2), (3, .inr (.inr v3)), (4, .inl v4), (5, .inl (nn_ri M 404 v1))], [.inl (nn_ri M 404 v1), .inl v4, .inl v1, .inr (.inr 403)], M14)
      refine mm_s1 rfl ?_
      refine mm_s1 rfl ?_
      refine mm_s1 rfl ⟨fun c82 => ?_, fun c82 => ?_⟩
      · show mm_Go (mm_run 8) mc_Reader_name _ (90, [(0, .inr (.inr 402)), (1, .inl v1), (2, .inl v2), (3, .inr (.inr v3)), (4, .inl v4), (5, .inl (nn_ri M 404 v1))], [.inl v1, .inr (.inr 403)], M14)
        replace h := h.1 c82
        refine mm_s1 rfl ?_
        obtain ⟨b91, h⟩ := h
        refine mm_s1 rfl ⟨nn_bd (na_7_0 NN (nn_c402 NN)) b91, ?_⟩
        show mm_Go (mm_run 8) mc_Reader_name _ (92, [(0, .inr (.inr 402)), (1, .inl v1), (2, .inl v2), (3, .inr (.inr v3)), (4, .inl v4), (5, .inl (nn_ri M 404 v1))], [], (nn_ui M14 403 v1 1))
        have L : nn_L (nn_ui M14 403 v1 1) := nn_L_ua L (congrArg Prod.fst (na_7_0 NN (nn_c402 NN))) (by decide)
        have N : (nn_ui M14 403 v1 1).1 = n := N
        generalize e_M91 : (nn_ui M14 403 v1 1) = M91 at L N ⊢
        replace h := h _ e_M91.symm
        show mm_Go (mm_run 8) mc_Reader_name _ (92, [(0, .inr (.inr 402)), (1, .inl v1), (2, .inl v2), (3, .inr (.inr v3)), (4, .inl v4), (5, .inl (nn_ri M 404 v1))], [], M91)
        refine mm_s1 rfl ?_
        refine mm_s1 rfl ?_
        show mm_Go (mm_run 8) mc_Reader_name _ (96, [(0, .inr (.inr 402)), (1, .inl v1), (2, .inl v2), (3, .inr (.inr v3)), (4, .inl v4), (5, .inl (nn_ri M 404 v1)), (6, .inl (nn_ri M 404 v1))], [], M91)
        exact nn_go_ext (nn_xc rfl (nn_xc rfl (nn_xc rfl (nn_xc rfl (nn_xc rfl (nn_xc rfl nn_xn)))))) (h n L N C3)
      · show mm_Go (mm_run 8) mc_Reader_name _ (85, [(0, .inr (.inr 402)), (1, .inl v1), (2, .inl v2), (3, .inr (.inr v3)), (4, .inl v4), (5, .inl (nn_ri M 404 v1))], [.inl v1, .inr (.inr 403)], M14)
        replace c82 := Int.not_le.mp c82
        replace h := h.2 c82
        refine mm_s1 rfl ?_
        refine mm_s1 rfl ?_
        show mm_Go (mm_run 8) mc_Reader_name _ (91, [(0, .inr (.inr 402)), (1, .inl v1), (2, .inl v2), (3, .inr (.inr v3)), (4, .inl v4), (5, .inl (nn_ri M 404 v1))], [.inl 13, .inl v1, .inr (.inr 403)], M14)
        obtain ⟨b91, h⟩ := h
        refine mm_s1 rfl ⟨nn_bd (na_7_0 NN (nn_c402 NN)) b91, ?_⟩
        show mm_Go (mm_run 8) mc_Reader_name _ (92, [(0, .inr (.inr 402)), (1, .inl v1), (2, .inl v2), (3, .inr (.inr v3)), (4, .inl v4), (5, .inl (nn_ri M 404 v1))], [], (nn_ui M14 403 v1 13))
        have L : nn_L (nn_ui M14 403 v1 13) := nn_L_ua L (congrArg Prod.fst (na_7_0 NN (nn_c402 NN))) (by decide)
        have N : (nn_ui M14 403 v1 13).1 = n := N
        generalize e_M91 : (nn_ui M14 403 v1 13) = M91 at L N ⊢
        replace h := h _ e_M91.symm
        show mm_Go (mm_run 8) mc_Reader_name _ (92, [(0, .inr (.inr 402)), (1, .inl v1), (2, .inl v2), (3, .inr (.inr v3)), (4, .inl v4), (5, .inl (nn_ri M 404 v1))], [], M91)
        refine mm_s1 rfl ?_
        refine mm_s1 rfl ?_
        show mm_Go (mm_run 8) mc_Reader_name _ (96, [(0, .inr (.inr 402)), (1, .inl v1), (2, .inl v2), (3, .inr (.inr v3)), (4, .inl v4), (5, .inl (nn_ri M 404 v1)), (6, .inl (nn_ri M 404 v1))], [], M91)
        exact nn_go_ext (nn_xc rfl (nn_xc rfl (nn_xc rfl (nn_xc rfl (nn_xc rfl (nn_xc rfl nn_xn)))))) (h n L N C3)
    · show mm_Go (mm_run 8) mc_Reader_name _ (55, [(0, .inr (.inr 402)), (1, .inl v1), (2, .inl v2), (3, .inr (.inr v3)), (4, .inl v4), (5, .inl (nn_ri M 404 v1))], [], M14)
      replace c52 := Decidable.not_not.mp c52
      replace h := h.2 c52
      refine mm_s1 rfl ?_
      refine nn_getr rfl (nn_c402 NN).1 (lf_7_0 L N (nn_c402 NN)) ?_
      refine mm_s1 rfl ?_
      refine mm_s1 rfl ?_
      refine mm_s1 rfl ?_
      show mm_Go (mm_run 8) mc_Reader_name _ (63, [(0, .inr (.inr 402)), (1, .inl v1), (2, .inl v2), (3, .inr (.inr v3)), (4, .inl v4), (5, .inl (nn_ri M 404 v1))], [.inl (nn_ri M 404 v1), .inr (.inr v3), .inl v1, .inr (.inr 403)], M14)
      obtain ⟨b63, h⟩ := h
      refine mm_s1 rfl ⟨⟨C3.1, b63⟩, ?_⟩
      show mm_Go (mm_run 8) mc_Reader_name _ (64, [(0, .inr (.inr 402)), (1, .inl v1), (2, .inl v2), (3, .inr (.inr v3)), (4, .inl v4), (5, .inl (nn_ri M 404 v1))], [.inl (nn_ri M14 v3 (nn_ri M 404 v1)), .inl v1, .inr (.inr 403)], M14)
      refine mm_s1 rfl ⟨trivial, ?_⟩
      refine np_Reader_sign (by decide) L N ?_
      show mm_Go (mm_run 8) mc_Reader_name _ (67, [(0, .inr (.inr 402)), (1, .inl v1), (2, .inl v2), (3, .inr (.inr v3)), (4, .inl v4), (5, .inl (nn_ri M 404 v1))], [.inl (nf_Reader_sign (nn_ri M14 v3 (nn_ri M 404 v1))), .inl v1, .inr (.inr 403)], M14)
      obtain ⟨b67, h⟩ := h
      refine mm_s1 rfl ⟨nn_bd (na_7_0 NN (nn_c402 NN)) b67, ?_⟩
      show mm_Go (mm_run 8) mc_Reader_name _ (68, [(0, .inr (.inr 402)), (1, .inl v1), (2, .inl v2), (3, .inr (.inr v3)), (4, .inl v4), (5, .inl (nn_ri M 404 v1))], [], (nn_ui M14 403 v1 (nf_Reader_sign (nn_ri M14 v3 (nn_ri M 404 v1)))))
      have L : nn_L (nn_ui M14 403 v1 (nf_Reader_sign (nn_ri M14 v3 (nn_ri M 404 v1)))) := nn_L_ua L (congrArg Prod.fst (na_7_0 NN (nn_c402 NN))) (by decide)
      have N : (nn_ui M14 403 v1 (nf_Reader_sign (nn_ri M14 v3 (nn_ri M 404 v1)))).1 = n := N
      generalize e_M67 : (nn_ui M14 403 v1 (nf_Reader_sign (nn_ri M14 v3 (nn_ri M 404 v1)))) = M67 at L N ⊢
      replace h := h _ e_M67.symm
      show mm_Go (mm_run 8) mc_Reader_name _ (68, [(0, .inr (.inr 402)), (1, .inl v1), (2, .inl v2), (3, .inr (.inr v3)), (4, .inl v4), (5, .inl (nn_ri M 404 v1))], [], M67)
      refine mm_s1 rfl ?_
      show mm_Go (mm_run 8) mc_Reader_name _ (141, [(0, .inr (.inr 402)), (1, .inl v1), (2, .inl v2), (3, .inr (.inr v3)), (4, .inl v4), (5, .inl (nn_ri M 404 v1))], [], M67)
      exact mm_s1 rfl ⟨rfl, L, N, h⟩
  · show mm_Go (mm_run 8) mc_Reader_name _ (20, [(0, .inr (.inr 402)), (1, .inl v1), (2, .inl v2), (3, .inr (.inr v3)), (4, .inl v4), (5, .inl (nn_ri M 404 v1))], [], M14)
    replace c17 := Decidable.not_not.mp c17
    replace h := h.2 c17
    refine mm_s1 rfl ?_
    refine nn_getr rfl (nn_c402 NN).1 (lf_7_0 L N (nn_c402 NN)) ?_
    refine mm_s1 rfl ?_
    refine mm_s1 rfl ?_
    refine mm_s1 rfl ?_
    show mm_Go (mm_run 8) mc_Reader_name _ (28, [(0, .inr (.inr 402)), (1, .inl v1), (2, .inl v2), (3, .inr (.inr v3)), (4, .inl v4), (5, .inl (nn_ri M 404 v1))], [.inl (nn_ri M 404 v1), .inr (.inr v3), .inl v1, .inr (.inr 403)], M14)
    refine mm_s1 rfl ?_
    refine mm_s1 rfl ⟨trivial, ?_⟩
    refine nn_call (D := 8) (by decide) (h n L N C3) ?_
    intro v M30 q; clear L N h
    obtain ⟨r30, rfl, L, N, h⟩ := q
    show mm_Go (mm_run 8) mc_Reader_name _ (33, [(0, .inr (.inr 402)), (1, .inl v1), (2, .inl v2), (3, .inr (.inr v3)), (4, .inl v4), (5, .inl (nn_ri M 404 v1))], [.inl r30, .inl v1, .inr (.inr 403)], M30)
    obtain ⟨b33, h⟩ := h
    refine mm_s1 rfl ⟨nn_bd (na_7_0 NN (nn_c402 NN)) b33, ?_⟩
    show mm_Go (mm_run 8) mc_Reader_name _ (34, [(0, .inr (.inr 402)), (1, .inl v1), (2, .inl v2), (3, .inr (.inr v3)), (4, .inl v4), (5, .inl (nn_ri M 404 v1))], [], (nn_ui M30 403 v1 r30))
    have L : nn_L (nn_ui M30 403 v1 r30) := nn_L_ua L (congrArg Prod.fst (na_7_0 NN (nn_c402 NN))) (by decide)
    have N : (nn_ui M30 403 v1 r30).1 = n := N
    generalize e_M33 : (nn_ui M30 403 v1 r30) = M33 at L N ⊢
    replace h := h _ e_M33.symm
    show mm_Go (mm_run 8) mc_Reader_name _ (34, [(0, .inr (.inr 402)), (1, .inl v1), (2, .inl v2), (3, .inr (.inr v3)), (4, .inl v4), (5, .inl (nn_ri M 404 v1))], [], M33)
    refine mm_s1 rfl ?_
    refine nn_getr rfl (nn_c402 NN).1 (lf_7_2 L N (nn_c402 NN)) ?_
    refine mm_s1 rfl ?_
    refine mm_s1 rfl ?_
    refine mm_s1 rfl ?_
    show mm_Go (mm_run 8) mc_Reader_name _ (42, [(0, .inr (.inr 402)), (1, .inl v1), (2, .inl v2), (3, .inr (.inr v3)), (4, .inl v4), (5, .inl (nn_ri M 404 v1))], [.inl (nn_ri M 404 v1), .inr (.inr v3), .inl v1, .inr (.inr 405)], M33)
    obtain ⟨b42, h⟩ := h
    refine mm_s1 rfl ⟨⟨C3.1, b42⟩, ?_⟩
    show mm_Go (mm_run 8) mc_Reader_name _ (43, [(0, .inr (.inr 402)), (1, .inl v1), (2, .inl v2), (3, .inr (.inr v3)), (4, .inl v4), (5, .inl (nn_ri M 404 v1))], [.inl (nn_ri M33 v3 (nn_ri M 404 v1)), .inl v1, .inr (.inr 405)], M33)
    refine mm_s1 rfl ?_
    refine mm_s1 rfl ?_
    obtain ⟨b46, h⟩ := h
    refine mm_s1 rfl ⟨nn_bd (na_7_2 NN (nn_c402 NN)) b46, ?_⟩
    show mm_Go (mm_run 8) mc_Reader_name _ (47, [(0, .inr (.inr 402)), (1, .inl v1), (2, .inl v2), (3, .inr (.inr v3)), (4, .inl v4), (5, .inl (nn_ri M 404 v1))], [], (nn_ui M33 405 v1 (mm_w ((nn_ri M33 v3 (nn_ri M 404 v1)) - 97))))
    have L : nn_L (nn_ui M33 405 v1 (mm_w ((nn_ri M33 v3 (nn_ri M 404 v1)) - 97))) := nn_L_ua L (congrArg Prod.fst (na_7_2 NN (nn_c402 NN))) (by decide)
    have N : (nn_ui M33 405 v1 (mm_w ((nn_ri M33 v3 (nn_ri M 404 v1)) - 97))).1 = n := N
    generalize e_M46 : (nn_ui M33 405 v1 (mm_w ((nn_ri M33 v3 (nn_ri M 404 v1)) - 97))) = M46 at L N ⊢
    replace h := h _ e_M46.symm
    show mm_Go (mm_run 8) mc_Reader_name _ (47, [(0, .inr (.inr 402)), (1, .inl v1), (2, .inl v2), (3, .inr (.inr v3)), (4, .inl v4), (5, .inl (nn_ri M 404 v1))], [], M46)
    refine mm_s1 rfl ?_
    show mm_Go (mm_run 8) mc_Reader_name _ (141, [(0, .inr (.inr 402)), (1, .inl v1), (2, .inl v2), (3, .inr (.inr v3)), (4, .inl v4), (5, .inl (nn_ri M 404 v1))], [], M46)
    exact mm_s1 rfl ⟨rfl, L, N, h⟩
set_option maxRecDepth 20000 in
theorem ng_Reader_name_96 (v1 : Int) (v3 : Nat) (v4 : Int) (v5 : Int) (v6 : Int) (M : mm_M) (R : mm_M → Prop) (h : (((v6 < v4) ∧ ((mm_w (v4 - v5)) ≤ 2) → ((0 : Int) ≤ v1 ∧ v1 < (201 : Int))) ∧ ((v6 < v4) ∧ ((mm_w (v4 - v5)) ≤ 2) → ((0 : Int) ≤ v6 ∧ v6 < ((mm_kd v3).2 : Int))) ∧ ((v6 < v4) ∧ ((mm_w (v4 - v5)) ≤ 2) → ((0 : Int) ≤ v1 ∧ v1 < (201 : Int))) ∧ ((v4 ≤ v6 ∨ (2 < (mm_w (v4 - v5)))) → R M) ∧ ((v6 < v4 ∧ ((mm_w (v4 - v5)) ≤ 2)) → (∀ M134 : mm_M, M134 = nn_ui M 405 v1 (mm_w ((mm_w ((mm_w ((nn_ri M 405 v1) * 10)) + (nn_ri M v3 v6))) - 48)) → nk_Reader_name_96 v1 v3 v4 v5 (mm_w (v6 + 1)) M134 R)))) : nk_Reader_name_96 v1 v3 v4 v5 v6 M R := by
  intro n L N C3
  have NN := nn_L_n L N
  show mm_Go (mm_run 8) mc_Reader_name _ (96, [(0, .inr (.inr 402)), (1, .inl v1), (3, .inr (.inr v3)), (4, .inl v4), (5, .inl v5), (6, .inl v6)], [], M)
  refine mm_s1 rfl ?_
  refine mm_s1 rfl ?_
  refine mm_s1 rfl ⟨fun c100 => ?_, fun c100 => ?_⟩
  · show mm_Go (mm_run 8) mc_Reader_name _ (141, [(0, .inr (.inr 402)), (1, .inl v1), (3, .inr (.inr v3)), (4, .inl v4), (5, .inl v5), (6, .inl v6)], [], M)
    replace h := h.2.2.2.1 (Or.inl c100)
    exact mm_s1 rfl ⟨rfl, L, N, h⟩
  · show mm_Go (mm_run 8) mc_Reader_name _ (103, [(0, .inr (.inr 402)), (1, .inl v1), (3, .inr (.inr v3)), (4, .inl v4), (5, .inl v5), (6, .inl v6)], [], M)
    replace c100 := Int.not_le.mp c100
    refine mm_s1 rfl ?_
    refine mm_s1 rfl ?_
    refine mm_s1 rfl ?_
    refine mm_s1 rfl ?_
    refine mm_s1 rfl ⟨fun c109 => ?_, fun c109 => ?_⟩
    · show mm_Go (mm_run 8) mc_Reader_name _ (141, [(0, .inr (.inr 402)), (1, .inl v1), (3, .inr (.inr v3)), (4, .inl v4), (5, .inl v5), (6, .inl v6)], [], M)
      replace h := h.2.2.2.1 (Or.inr c109)
      exact mm_s1 rfl ⟨rfl, L, N, h⟩
    · show mm_Go (mm_run 8) mc_Reader_name _ (112, [(0, .inr (.inr 402)), (1, .inl v1), (3, .inr (.inr v3)), (4, .inl v4), (5, .inl v5), (6, .inl v6)], [], M)
      replace c109 := Int.not_lt.mp c109
      refine mm_s1 rfl ?_
      refine nn_getr rfl (nn_c402 NN).1 (lf_7_2 L N (nn_c402 NN)) ?_
      refine mm_s1 rfl ?_
      refine mm_s1 rfl ?_
      refine nn_getr rfl (nn_c402 NN).1 (lf_7_2 L N (nn_c402 NN)) ?_
      show mm_Go (mm_run 8) mc_Reader_name _ (121, [(0, .inr (.inr 402)), (1, .inl v1), (3, .inr (.inr v3)), (4, .inl v4), (5, .inl v5), (6, .inl v6)], [.inr (.inr 405), .inl v1, .inr (.inr 405)], M)
      refine mm_s1 rfl ?_
      have b122 := h.1 ⟨c100, c109⟩
      refine mm_s1 rfl ⟨nn_bd (na_7_2 NN (nn_c402 NN)) b122, ?_⟩
      show mm_Go (mm_run 8) mc_Reader_name _ (123, [(0, .inr (.inr 402)), (1, .inl v1), (3, .inr (.inr v3)), (4, .inl v4), (5, .inl v5), (6, .inl v6)], [.inl (nn_ri M 405 v1), .inl v1, .inr (.inr 405)], M)
      refine mm_s1 rfl ?_
      refine mm_s1 rfl ?_
      refine mm_s1 rfl ?_
      refine mm_s1 rfl ?_
      have b129 := h.2.1 ⟨c100, c109⟩
      refine mm_s1 rfl ⟨⟨C3.1, b129⟩, ?_⟩
      show mm_Go (mm_run 8) mc_Reader_name _ (130, [(0, .inr (.inr 402)), (1, .inl v1), (3, .inr (.inr v3)), (4, .inl v4), (5, .inl v5), (6, .inl v6)], [.inl (nn_ri M v3 v6), .inl (mm_w ((nn_ri M 405 v1) * 10)), .inl v1, .inr (.inr 405)], M)
      refine mm_s1 rfl ?_
      refine mm_s1 rfl ?_
      refine mm_s1 rfl ?_
      have b134 := h.2.2.1 ⟨c100, c109⟩
      replace h := h.2.2.2.2 ⟨c100, c109⟩
      refine mm_s1 rfl ⟨nn_bd (na_7_2 NN (nn_c402 NN)) b134, ?_⟩
      show mm_Go (mm_run 8) mc_Reader_name _ (135, [(0, .inr (.inr 402)), (1, .inl v1), (3, .inr (.inr v3)), (4, .inl v4), (5, .inl v5), (6, .inl v6)], [], (nn_ui M 405 v1 (mm_w ((mm_w ((mm_w ((nn_ri M 405 v1) * 10)) + (nn_ri M v3 v6))) - 48))))
      have L : nn_L (nn_ui M 405 v1 (mm_w ((mm_w ((mm_w ((nn_ri M 405 v1) * 10)) + (nn_ri M v3 v6))) - 48))) := nn_L_ua L (congrArg Prod.fst (na_7_2 NN (nn_c402 NN))) (by decide)
      have N : (nn_ui M 405 v1 (mm_w ((mm_w ((mm_w ((nn_ri M 405 v1) * 10)) + (nn_ri M v3 v6))) - 48))).1 = n := N
      generalize e_M134 : (nn_ui M 405 v1 (mm_w ((mm_w ((mm_w ((nn_ri M 405 v1) * 10)) + (nn_ri M v3 v6))) - 48))) = M134 at L N ⊢
      replace h := h _ e_M134.symm
      show mm_Go (mm_run 8) mc_Reader_name _ (135, [(0, .inr (.inr 402)), (1, .inl v1), (3, .inr (.inr v3)), (4, .inl v4), (5, .inl v5), (6, .inl v6)], [], M134)
      refine mm_s1 rfl ?_
      show mm_Go (mm_run 8) mc_Reader_name _ (138, [(0, .inr (.inr 402)), (1, .inl v1), (3, .inr (.inr v3)), (4, .inl v4), (5, .inl v5), (6, .inl (mm_w (v6 + 1)))], [], M134)
      refine mm_s1 rfl ?_
      show mm_Go (mm_run 8) mc_Reader_name _ (96, [(0, .inr (.inr 402)), (1, .inl v1), (3, .inr (.inr v3)), (4, .inl v4), (5, .inl v5), (6, .inl (mm_w (v6 + 1)))], [], M134)
      exact nn_go_ext (nn_xc rfl (nn_xc rfl (nn_xc rfl (nn_xc rfl (nn_xc rfl (nn_xc rfl nn_xn)))))) (h n L N C3)
def nr_M_writes (v1 : Int) (v2 : Int) (v3 : Int) (M : mm_M) (R : Int → mm_M → Prop) : Prop := ∀ n, nn_L M → M.1 = n → mm_run 9 mi_M_writes [.inr (.inr 407), .inl v1, .inl v2, .inl v3] M (nw_I n R)
def nk_M_writes_109 (v1 : Int) (v2 : Int) (v3 : Int) (v4 : Int) (v5 : Int) (M : mm_M) (R : Int → mm_M → Prop) : Prop := ∀ n, nn_L M → M.1 = n → mm_Go (mm_run 8) mc_M_writes (nw_I n R) (109, [(0, .inr (.inr 407)), (1, .inl v1), (2, .inl v2), (3, .inl v3), (4, .inl v4), (5, .inl v5)], [], M)
def nk_M_writes_210 (v1 : Int) (v4 : Int) (v5 : Int) (M : mm_M) (R : Int → mm_M → Prop) : Prop := ∀ n, nn_L M → M.1 = n → mm_Go (mm_run 8) mc_M_writes (nw_I n R) (210, [(0, .inr (.inr 407)), (1, .inl v1), (4, .inl v4), (5, .inl v5)], [], M)
def nk_M_writes_255 (v1 : Int) (v4 : Int) (v5 : Int) (M : mm_M) (R : Int → mm_M → Prop) : Prop := ∀ n, nn_L M → M.1 = n → mm_Go (mm_run 8) mc_M_writes (nw_I n R) (255, [(0, .inr (.inr 407)), (1, .inl v1), (4, .inl v4), (5, .inl v5)], [], M)
set_option maxRecDepth 20000 in
theorem ng_M_writes (v1 : Int) (v2 : Int) (v3 : Int) (M : mm_M) (R : Int → mm_M → Prop) (h : (((0 : Int) ≤ (mm_w (v1 + 0)) ∧ (mm_w (v1 + 0)) < (32844 : Int)) ∧ (((0 : Int) ≤ (mm_w (v1 + 0)) ∧ (mm_w (v1 + 0)) < (32844 : Int)) ∧ (∀ M11 : mm_M, M11 = nn_ui M 408 (mm_w (v1 + 0)) (mm_w ((nn_ri M 408 (mm_w (v1 + 0))) + 1)) → (((0 : Int) ≤ (mm_w (v1 + 1)) ∧ (mm_w (v1 + 1)) < (32844 : Int)) ∧ (((nn_ri M11 408 (mm_w (v1 + 1))) ≠ 0 → (((0 : Int) ≤ (mm_w (v1 + 2)) ∧ (mm_w (v1 + 2)) < (32844 : Int)) ∧ (((0 : Int) ≤ (mm_w (v1 + 2)) ∧ (mm_w (v1 + 2)) < (32844 : Int)) ∧ (∀ M49 : mm_M, M49 = nn_ui M11 408 (mm_w (v1 + 2)) (nn_ri M11 408 (mm_w (v1 + 2))) → (((0 : Int) ≤ (mm_w (v1 + 1)) ∧ (mm_w (v1 + 1)) < (32844 : Int)) ∧ (((0 : Int) ≤ (mm_w (v1 + 1)) ∧ (mm_w (v1 + 1)) < (32844 : Int)) ∧ (∀ M61 : mm_M, M61 = nn_ui M49 408 (mm_w (v1 + 1)) (mm_w ((nn_ri M49 408 (mm_w (v1 + 1))) + 1)) → (((0 : Int) ≤ (mm_w (v1 + 0)) ∧ (mm_w (v1 + 0)) < (32844 : Int)) ∧ (((0 : Int) ≤ (mm_w ((mm_w (v1 + 24)) + v2)) ∧ (mm_w ((mm_w (v1 + 24)) + v2)) < (32844 : Int)) ∧ (∀ M80 : mm_M, M80 = nn_ui M61 408 (mm_w ((mm_w (v1 + 24)) + v2)) (nn_ri M61 408 (mm_w (v1 + 0))) → (((0 : Int) ≤ (mm_w ((mm_w ((mm_w (v1 + 24)) + 32)) + v2)) ∧ (mm_w ((mm_w ((mm_w (v1 + 24)) + 32)) + v2)) < (32844 : Int)) ∧ (∀ M95 : mm_M, M95 = nn_ui M80 408 (mm_w ((mm_w ((mm_w (v1 + 24)) + 32)) + v2)) v3 → (((0 : Int) ≤ (mm_w (v1 + 0)) ∧ (mm_w (v1 + 0)) < (32844 : Int)) ∧ (∀ x4_104 : Int, x4_104 = nn_ri M95 408 (mm_w (v1 + 0)) → nk_M_writes_109 v1 v2 v3 x4_104 0 M95 R)))))))))))))) ∧ ((nn_ri M11 408 (mm_w (v1 + 1))) = 0 → (((0 : Int) ≤ (mm_w (v1 + 0)) ∧ (mm_w (v1 + 0)) < (32844 : Int)) ∧ (((0 : Int) ≤ (mm_w (v1 + 2)) ∧ (mm_w (v1 + 2)) < (32844 : Int)) ∧ (∀ M49 : mm_M, M49 = nn_ui M11 408 (mm_w (v1 + 2)) (nn_ri M11 408 (mm_w (v1 + 0))) → (((0 : Int) ≤ (mm_w (v1 + 1)) ∧ (mm_w (v1 + 1)) < (32844 : Int)) ∧ (((0 : Int) ≤ (mm_w (v1 + 1)) ∧ (mm_w (v1 + 1)) < (32844 : Int)) ∧ (∀ M61 : mm_M, M61 = nn_ui M49 408 (mm_w (v1 + 1)) (mm_w ((nn_ri M49 408 (mm_w (v1 + 1))) + 1)) → (((0 : Int) ≤ (mm_w (v1 + 0)) ∧ (mm_w (v1 + 0)) < (32844 : Int)) ∧ (((0 : Int) ≤ (mm_w ((mm_w (v1 + 24)) + v2)) ∧ (mm_w ((mm_w (v1 + 24)) + v2)) < (32844 : Int)) ∧ (∀ M80 : mm_M, M80 = nn_ui M61 408 (mm_w ((mm_w (v1 + 24)) + v2)) (nn_ri M61 408 (mm_w (v1 + 0))) → (((0 : Int) ≤ (mm_w ((mm_w ((mm_w (v1 + 24)) + 32)) + v2)) ∧ (mm_w ((mm_w ((mm_w (v1 + 24)) + 32)) + v2)) < (32844 : Int)) ∧ (∀ M95 : mm_M, M95 = nn_ui M80 408 (mm_w ((mm_w ((mm_w (v1 + 24)) + 32)) + v2)) v3 → (((0 : Int) ≤ (mm_w (v1 + 0)) ∧ (mm_w (v1 + 0)) < (32844 : Int)) ∧ (∀ x4_104 : Int, x4_104 = nn_ri M95 408 (mm_w (v1 + 0)) → nk_M_writes_109 v1 v2 v3 x4_104 0 M95 R)))))))))))))))))))) : nr_M_writes v1 v2 v3 M R := by
  intro n L N 
  have NN := nn_L_n L N
  show mm_Go (mm_run 8) mc_M_writes _ (0, [(0, .inr (.inr 407)), (1, .inl v1), (2, .inl v2), (3, .inl v3)], [], M)
  refine mm_s1 rfl ?_
  refine nn_getr rfl (nn_c407 NN).1 (lf_13_0 L N (nn_c407 NN)) ?_
  refine mm_s1 rfl ?_
  refine mm_s1 rfl ?_
  refine mm_s1 rfl ?_
  show mm_Go (mm_run 8) mc_M_writes _ (7, [(0, .inr (.inr 407)), (1, .inl v1), (2, .inl v2), (3, .inl v3)], [.inl (mm_w (v1 + 0)), .inr (.inr 408)], M)
  refine mm_s1 rfl ?_
  obtain ⟨b8, h⟩ := h
  refine mm_s1 rfl ⟨nn_bd (na_13_0 NN (nn_c407 NN)) b8, ?_⟩
  show mm_Go (mm_run 8) mc_M_writes _ (9, [(0, .inr (.inr 407)), (1, .inl v1), (2, .inl v2), (3, .inl v3)], [.inl (nn_ri M 408 (mm_w (v1 + 0))), .inl (mm_w (v1 + 0)), .inr (.inr 408)], M)
  refine mm_s1 rfl ?_
  refine mm_s1 rfl ?_
  obtain ⟨b11, h⟩ := h
  refine mm_s1 rfl ⟨nn_bd (na_13_0 NN (nn_c407 NN)) b11, ?_⟩
  show mm_Go (mm_run 8) mc_M_writes _ (12, [(0, .inr (.inr 407)), (1, .inl v1), (2, .inl v2), (3, .inl v3)], [], (nn_ui M 408 (mm_w (v1 + 0)) (mm_w ((nn_ri M 408 (mm_w (v1 + 0))) + 1))))
  have L : nn_L (nn_ui M 408 (mm_w (v1 + 0)) (mm_w ((nn_ri M 408 (mm_w (v1 + 0))) + 1))) := nn_L_ua L (congrArg Prod.fst (na_13_0 NN (nn_c407 NN))) (by decide)
  have N : (nn_ui M 408 (mm_w (v1 + 0)) (mm_w ((nn_ri M 408 (mm_w (v1 + 0))) + 1))).1 = n := N
  generalize e_M11 : (nn_ui M 408 (mm_w (v1 + 0)) (mm_w ((nn_ri M 408 (mm_w (v1 + 0))) + 1))) = M11 at L N ⊢
  replace h := h _ e_M11.symm
  show mm_Go (mm_run 8) mc_M_writes _ (12, [(0, .inr (.inr 407)), (1, .inl v1), (2, .inl v2), (3, .inl v3)], [], M11)
  refine mm_s1 rfl ?_
  refine nn_getr rfl (nn_c407 NN).1 (lf_13_0 L N (nn_c407 NN)) ?_
  refine mm_s1 rfl ?_
  refine mm_s1 rfl ?_
  refine mm_s1 rfl ?_
  show mm_Go (mm_run 8) mc_M_writes _ (19, [(0, .inr (.inr 407)), (1, .inl v1), (2, .inl v2), (3, .inl v3)], [.inl (mm_w (v1 + 2)), .inr (.inr 408)], M11)
  refine mm_s1 rfl ?_
  refine nn_getr rfl (nn_c407 NN).1 (lf_13_0 L N (nn_c407 NN)) ?_
  refine mm_s1 rfl ?_
  refine mm_s1 rfl ?_
  refine mm_s1 rfl ?_
  show mm_Go (mm_run 8) mc_M_writes _ (26, [(0, .inr (.inr 407)), (1, .inl v1), (2, .inl v2), (3, .inl v3)], [.inl (mm_w (v1 + 1)), .inr (.inr 408), .inl (mm_w (v1 + 2)), .inr (.inr 408)], M11)
  obtain ⟨b26, h⟩ := h
  refine mm_s1 rfl ⟨nn_bd (na_13_0 NN (nn_c407 NN)) b26, ?_⟩
  show mm_Go (mm_run 8) mc_M_writes _ (27, [(0, .inr (.inr 407)), (1, .inl v1), (2, .inl v2), (3, .inl v3)], [.inl (nn_ri M11 408 (mm_w (v1 + 1))), .inl (mm_w (v1 + 2)), .inr (.inr 408)], M11)
  refine mm_s1 rfl ⟨fun c27 => ?_, fun c27 => ?_⟩
  · show mm_Go (mm_run 8) mc_M_writes _ (41, [(0, .inr (.inr 407)), (1, .inl v1), (2, .inl v2), (3, .inl v3)], [.inl (mm_w (v1 + 2)), .inr (.inr 408)], M11)
    replace h := h.1 c27
    refine mm_s1 rfl ?_
    refine nn_getr rfl (nn_c407 NN).1 (lf_13_0 L N (nn_c407 NN)) ?_
    refine mm_s1 rfl ?_
    refine mm_s1 rfl ?_
    refine mm_s1 rfl ?_
    show mm_Go (mm_run 8) mc_M_writes _ (48, [(0, .inr (.inr 407)), (1, .inl v1), (2, .inl v2), (3, .inl v3)], [.inl (mm_w (v1 + 2)), .inr (.inr 408), .inl (mm_w (v1 + 2)), .inr (.inr 408)], M11)
    obtain ⟨b48, h⟩ := h
    refine mm_s1 rfl ⟨nn_bd (na_13_0 NN (nn_c407 NN)) b48, ?_⟩
    show mm_Go (mm_run 8) mc_M_writes _ (49, [(0, .inr (.inr 407)), (1, .inl v1), (2, .inl v2), (3, .inl v3)], [.inl (nn_ri M11 408 (mm_w (v1 + 2))), .inl (mm_w (v1 + 2)), .inr (.inr 408)], M11)
    obtain ⟨b49, h⟩ := h
    refine mm_s1 rfl ⟨nn_bd (na_13_0 NN (nn_c407 NN)) b49, ?_⟩
    show mm_Go (mm_run 8) mc_M_writes _ (50, [(0, .inr (.inr 407)), (1, .inl v1), (2, .inl v2), (3, .inl v3)], [], (nn_ui M11 408 (mm_w (v1 + 2)) (nn_ri M11 408 (mm_w (v1 + 2)))))
    have L : nn_L (nn_ui M11 408 (mm_w (v1 + 2)) (nn_ri M11 408 (mm_w (v1 + 2)))) := nn_L_ua L (congrArg Prod.fst (na_13_0 NN (nn_c407 NN))) (by decide)
    have N : (nn_ui M11 408 (mm_w (v1 + 2)) (nn_ri M11 408 (mm_w (v1 + 2)))).1 = n := N
    generalize e_M49 : (nn_ui M11 408 (mm_w (v1 + 2)) (nn_ri M11 408 (mm_w (v1 + 2)))) = M49 at L N ⊢
    replace h := h _ e_M49.symm
    show mm_Go (mm_run 8) mc_M_writes _ (50, [(0, .inr (.inr 407)), (1, .inl v1), (2, .inl v2), (3, .inl v3)], [], M49)
    refine mm_s1 rfl ?_
    refine nn_getr rfl (nn_c407 NN).1 (lf_13_0 L N (nn_c407 NN)) ?_
    refine mm_s1 rfl ?_
    refine mm_s1 rfl ?_
    refine mm_s1 rfl ?_
    show mm_Go (mm_run 8) mc_M_writes _ (57, [(0, .inr (.inr 407)), (1, .inl v1), (2, .inl v2), (3, .inl v3)], [.inl (mm_w (v1 + 1)), .inr (.inr 408)], M49)
    refine mm_s1 rfl ?_
    obtain ⟨b58, h⟩ := h
    refine mm_s1 rfl ⟨nn_bd (na_13_0 NN (nn_c407 NN)) b58, ?_⟩
    show mm_Go (mm_run 8) mc_M_writes _ (59, [(0, .inr (.inr 407)), (1, .inl v1), (2, .inl v2), (3, .inl v3)], [.inl (nn_ri M49 408 (mm_w (v1 + 1))), .inl (mm_w (v1 + 1)), .inr (.inr 408)], M49)
    refine mm_s1 rfl ?_
    refine mm_s1 rfl ?_
    obtain ⟨b61, h⟩ := h
    refine mm_s1 rfl ⟨nn_bd (na_13_0 NN (nn_c407 NN)) b61, ?_⟩
    show mm_Go (mm_run 8) mc_M_writes _ (62, [(0, .inr (.inr 407)), (1, .inl v1), (2, .inl v2), (3, .inl v3)], [], (nn_ui M49 408 (mm_w (v1 + 1)) (mm_w ((nn_ri M49 408 (mm_w (v1 + 1))) + 1))))
    have L : nn_L (nn_ui M49 408 (mm_w (v1 + 1)) (mm_w ((nn_ri M49 408 (mm_w (v1 + 1))) + 1))) := nn_L_ua L (congrArg Prod.fst (na_13_0 NN (nn_c407 NN))) (by decide)
    have N : (nn_ui M49 408 (mm_w (v1 + 1)) (mm_w ((nn_ri M49 408 (mm_w (v1 + 1))) + 1))).1 = n := N
    generalize e_M61 : (nn_ui M49 408 (mm_w (v1 + 1)) (mm_w ((nn_ri M49 408 (mm_w (v1 + 1))) + 1))) = M61 at L N ⊢
    replace h := h _ e_M61.symm
    show mm_Go (mm_run 8) mc_M_writes _ (62, [(0, .inr (.inr 407)), (1, .inl v1), (2, .inl v2), (3, .inl v3)], [], M61)
    refine mm_s1 rfl ?_
    refine nn_getr rfl (nn_c407 NN).1 (lf_13_0 L N (nn_c407 NN)) ?_
    refine mm_s1 rfl ?_
    refine mm_s1 rfl ?_
    refine mm_s1 rfl ?_
    show mm_Go (mm_run 8) mc_M_writes _ (70, [(0, .inr (.inr 407)), (1, .inl v1), (2, .inl v2), (3, .inl v3)], [.inl (mm_w (v1 + 24)), .inr (.inr 408)], M61)
    refine mm_s1 rfl ?_
    refine mm_s1 rfl ?_
    refine mm_s1 rfl ?_
    refine nn_getr rfl (nn_c407 NN).1 (lf_13_0 L N (nn_c407 NN)) ?_
    refine mm_s1 rfl ?_
    show mm_Go (mm_run 8) mc_M_writes _ (77, [(0, .inr (.inr 407)), (1, .inl v1), (2, .inl v2), (3, .inl v3)], [.inl v1, .inr (.inr 408), .inl (mm_w ((mm_w (v1 + 24)) + v2)), .inr (.inr 408)], M61)
    refine mm_s1 rfl ?_
    refine mm_s1 rfl ?_
    obtain ⟨b79, h⟩ := h
    refine mm_s1 rfl ⟨nn_bd (na_13_0 NN (nn_c407 NN)) b79, ?_⟩
    show mm_Go (mm_run 8) mc_M_writes _ (80, [(0, .inr (.inr 407)), (1, .inl v1), (2, .inl v2), (3, .inl v3)], [.inl (nn_ri M61 408 (mm_w (v1 + 0))), .inl (mm_w ((mm_w (v1 + 24)) + v2)), .inr (.inr 408)], M61)
    obtain ⟨b80, h⟩ := h
    refine mm_s1 rfl ⟨nn_bd (na_13_0 NN (nn_c407 NN)) b80, ?_⟩
    show mm_Go (mm_run 8) mc_M_writes _ (81, [(0, .inr (.inr 407)), (1, .inl v1), (2, .inl v2), (3, .inl v3)], [], (nn_ui M61 408 (mm_w ((mm_w (v1 + 24)) + v2)) (nn_ri M61 408 (mm_w (v1 + 0)))))
    have L : nn_L (nn_ui M61 408 (mm_w ((mm_w (v1 + 24)) + v2)) (nn_ri M61 408 (mm_w (v1 + 0)))) := nn_L_ua L (congrArg Prod.fst (na_13_0 NN (nn_c407 NN))) (by decide)
    have N : (nn_ui M61 408 (mm_w ((mm_w (v1 + 24)) + v2)) (nn_ri M61 408 (mm_w (v1 + 0)))).1 = n := N
    generalize e_M80 : (nn_ui M61 408 (mm_w ((mm_w (v1 + 24)) + v2)) (nn_ri M61 408 (mm_w (v1 + 0)))) = M80 at L N ⊢
    replace h := h _ e_M80.symm
    show mm_Go (mm_run 8) mc_M_writes _ (81, [(0, .inr (.inr 407)), (1, .inl v1), (2, .inl v2), (3, .inl v3)], [], M80)
    refine mm_s1 rfl ?_
    refine nn_getr rfl (nn_c407 NN).1 (lf_13_0 L N (nn_c407 NN)) ?_
    refine mm_s1 rfl ?_
    refine mm_s1 rfl ?_
    refine mm_s1 rfl ?_
    show mm_Go (mm_run 8) mc_M_writes _ (89, [(0, .inr (.inr 407)), (1, .inl v1), (2, .inl v2), (3, .inl v3)], [.inl (mm_w (v1 + 24)), .inr (.inr 408)], M80)
    refine mm_s1 rfl ?_
    refine mm_s1 rfl ?_
    refine mm_s1 rfl ?_
    refine mm_s1 rfl ?_
    refine mm_s1 rfl ?_
    show mm_Go (mm_run 8) mc_M_writes _ (95, [(0, .inr (.inr 407)), (1, .inl v1), (2, .inl v2), (3, .inl v3)], [.inl v3, .inl (mm_w ((mm_w ((mm_w (v1 + 24)) + 32)) + v2)), .inr (.inr 408)], M80)
    obtain ⟨b95, h⟩ := h
    refine mm_s1 rfl ⟨nn_bd (na_13_0 NN (nn_c407 NN)) b95, ?_⟩
    show mm_Go (mm_run 8) mc_M_writes _ (96, [(0, .inr (.inr 407)), (1, .inl v1), (2, .inl v2), (3, .inl v3)], [], (nn_ui M80 408 (mm_w ((mm_w ((mm_w (v1 + 24)) + 32)) + v2)) v3))
    have L : nn_L (nn_ui M80 408 (mm_w ((mm_w ((mm_w (v1 + 24)) + 32)) + v2)) v3) := nn_L_ua L (congrArg Prod.fst (na_13_0 NN (nn_c407 NN))) (by decide)
    have N : (nn_ui M80 408 (mm_w ((mm_w ((mm_w (v1 + 24)) + 32)) + v2)) v3).1 = n := N
    generalize e_M95 : (nn_ui M80 408 (mm_w ((mm_w ((mm_w (v1 + 24)) + 32)) + v2)) v3) = M95 at L N ⊢
    replace h := h _ e_M95.symm
    show mm_Go (mm_run 8) mc_M_writes _ (96, [(0, .inr (.inr 407)), (1, .inl v1), (2, .inl v2), (3, .inl v3)], [], M95)
    refine mm_s1 rfl ?_
    refine nn_getr rfl (nn_c407 NN).1 (lf_13_0 L N (nn_c407 NN)) ?_
    refine mm_s1 rfl ?_
    refine mm_s1 rfl ?_
    refine mm_s1 rfl ?_
    show mm_Go (mm_run 8) mc_M_writes _ (103, [(0, .inr (.inr 407)), (1, .inl v1), (2, .inl v2), (3, .inl v3)], [.inl (mm_w (v1 + 0)), .inr (.inr 408)], M95)
    obtain ⟨b103, h⟩ := h
    refine mm_s1 rfl ⟨nn_bd (na_13_0 NN (nn_c407 NN)) b103, ?_⟩
    show mm_Go (mm_run 8) mc_M_writes _ (104, [(0, .inr (.inr 407)), (1, .inl v1), (2, .inl v2), (3, .inl v3)], [.inl (nn_ri M95 408 (mm_w (v1 + 0)))], M95)
    refine mm_s1 rfl ?_
    show mm_Go (mm_run 8) mc_M_writes _ (106, [(0, .inr (.inr 407)), (1, .inl v1), (2, .inl v2), (3, .inl v3), (4, .inl (nn_ri M95 408 (mm_w (v1 + 0))))], [], M95)
    generalize e_x4_104 : (nn_ri M95 408 (mm_w (v1 + 0))) = x4_104
    replace h := h _ e_x4_104.symm
    show mm_Go (mm_run 8) mc_M_writes _ (106, [(0, .inr (.inr 407)), (1, .inl v1), (2, .inl v2), (3, .inl v3), (4, .inl x4_104)], [], M95)
    refine mm_s1 rfl ?_
    refine mm_s1 rfl ?_
    show mm_Go (mm_run 8) mc_M_writes _ (109, [(0, .inr (.inr 407)), (1, .inl v1), (2, .inl v2), (3, .inl v3), (4, .inl x4_104), (5, .inl 0)], [], M95)
    exact nn_go_ext (nn_xc rfl (nn_xc rfl (nn_xc rfl (nn_xc rfl (nn_xc rfl (nn_xc rfl nn_xn)))))) (h n L N)
  · show mm_Go (mm_run 8) mc_M_writes _ (30, [(0, .inr (.inr 407)), (1, .inl v1), (2, .inl v2), (3, .inl v3)], [.inl (mm_w (v1 + 2)), .inr (.inr 408)], M11)
    replace c27 := Decidable.not_not.mp c27
    replace h := h.2 c27
    refine mm_s1 rfl ?_
    refine nn_getr rfl (nn_c407 NN).1 (lf_13_0 L N (nn_c407 NN)) ?_
    refine mm_s1 rfl ?_
    refine mm_s1 rfl ?_
    refine mm_s1 rfl ?_
    show mm_Go (mm_run 8) mc_M_writes _ (37, [(0, .inr (.inr 407)), (1, .inl v1), (2, .inl v2), (3, .inl v3)], [.inl (mm_w (v1 + 0)), .inr (.inr 408), .inl (mm_w (v1 + 2)), .inr (.inr 408)], M11)
    obtain ⟨b37, h⟩ := h
    refine mm_s1 rfl ⟨nn_bd (na_13_0 NN (nn_c407 NN)) b37, ?_⟩
    show mm_Go (mm_run 8) mc_M_writes _ (38, [(0, .inr (.inr 407)), (1, .inl v1), (2, .inl v2), (3, .inl v3)], [.inl (nn_ri M11 408 (mm_w (v1 + 0))), .inl (mm_w (v1 + 2)), .inr (.inr 408)], M11)
    refine mm_s1 rfl ?_
    show mm_Go (mm_run 8) mc_M_writes _ (49, [(0, .inr (.inr 407)), (1, .inl v1), (2, .inl v2), (3, .inl v3)], [.inl (nn_ri M11 408 (mm_w (v1 + 0))), .inl (mm_w (v1 + 2)), .inr (.inr 408)], M11)
    obtain ⟨b49, h⟩ := h
    refine mm_s1 rfl ⟨nn_bd (na_13_0 NN (nn_c407 NN)) b49, ?_⟩
    show mm_Go (mm_run 8) mc_M_writes _ (50, [(0, .inr (.inr 407)), (1, .inl v1), (2, .inl v2), (3, .inl v3)], [], (nn_ui M11 408 (mm_w (v1 + 2)) (nn_ri M11 408 (mm_w (v1 + 0)))))
    have L : nn_L (nn_ui M11 408 (mm_w (v1 + 2)) (nn_ri M11 408 (mm_w (v1 + 0)))) := nn_L_ua L (congrArg Prod.fst (na_13_0 NN (nn_c407 NN))) (by decide)
    have N : (nn_ui M11 408 (mm_w (v1 + 2)) (nn_ri M11 408 (mm_w (v1 + 0)))).1 = n := N
    generalize e_M49 : (nn_ui M11 408 (mm_w (v1 + 2)) (nn_ri M11 408 (mm_w (v1 + 0)))) = M49 at L N ⊢
    replace h := h _ e_M49.symm
    show mm_Go (mm_run 8) mc_M_writes _ (50, [(0, .inr (.inr 407)), (1, .inl v1), (2, .inl v2), (3, .inl v3)], [], M49)
    refine mm_s1 rfl ?_
    refine nn_getr rfl (nn_c407 NN).1 (lf_13_0 L N (nn_c407 NN)) ?_
    refine mm_s1 rfl ?_
    refine mm_s1 rfl ?_
    refine mm_s1 rfl ?_
    show mm_Go (mm_run 8) mc_M_writes _ (57, [(0, .inr (.inr 407)), (1, .inl v1), (2, .inl v2), (3, .inl v3)], [.inl (mm_w (v1 + 1)), .inr (.inr 408)], M49)
    refine mm_s1 rfl ?_
    obtain ⟨b58, h⟩ := h
    refine mm_s1 rfl ⟨nn_bd (na_13_0 NN (nn_c407 NN)) b58, ?_⟩
    show mm_Go (mm_run 8) mc_M_writes _ (59, [(0, .inr (.inr 407)), (1, .inl v1), (2, .inl v2), (3, .inl v3)], [.inl (nn_ri M49 408 (mm_w (v1 + 1))), .inl (mm_w (v1 + 1)), .inr (.inr 408)], M49)
    refine mm_s1 rfl ?_
    refine mm_s1 rfl ?_
    obtain ⟨b61, h⟩ := h
    refine mm_s1 rfl ⟨nn_bd (na_13_0 NN (nn_c407 NN)) b61, ?_⟩
    show mm_Go (mm_run 8) mc_M_writes _ (62, [(0, .inr (.inr 407)), (1, .inl v1), (2, .inl v2), (3, .inl v3)], [], (nn_ui M49 408 (mm_w (v1 + 1)) (mm_w ((nn_ri M49 408 (mm_w (v1 + 1))) + 1))))
    have L : nn_L (nn_ui M49 408 (mm_w (v1 + 1)) (mm_w ((nn_ri M49 408 (mm_w (v1 + 1))) + 1))) := nn_L_ua L (congrArg Prod.fst (na_13_0 NN (nn_c407 NN))) (by decide)
    have N : (nn_ui M49 408 (mm_w (v1 + 1)) (mm_w ((nn_ri M49 408 (mm_w (v1 + 1))) + 1))).1 = n := N
    generalize e_M61 : (nn_ui M49 408 (mm_w (v1 + 1)) (mm_w ((nn_ri M49 408 (mm_w (v1 + 1))) + 1))) = M61 at L N ⊢
    replace h := h _ e_M61.symm
    show mm_Go (mm_run 8) mc_M_writes _ (62, [(0, .inr (.inr 407)), (1, .inl v1), (2, .inl v2), (3, .inl v3)], [], M61)
    refine mm_s1 rfl ?_
    refine nn_getr rfl (nn_c407 NN).1 (lf_13_0 L N (nn_c407 NN)) ?_
    refine mm_s1 rfl ?_
    refine mm_s1 rfl ?_
    refine mm_s1 rfl ?_
    show mm_Go (mm_run 8) mc_M_writes _ (70, [(0, .inr (.inr 407)), (1, .inl v1), (2, .inl v2), (3, .inl v3)], [.inl (mm_w (v1 + 24)), .inr (.inr 408)], M61)
    refine mm_s1 rfl ?_
    refine mm_s1 rfl ?_
    refine mm_s1 rfl ?_
    refine nn_getr rfl (nn_c407 NN).1 (lf_13_0 L N (nn_c407 NN)) ?_
    refine mm_s1 rfl ?_
    show mm_Go (mm_run 8) mc_M_writes _ (77, [(0, .inr (.inr 407)), (1, .inl v1), (2, .inl v2), (3, .inl v3)], [.inl v1, .inr (.inr 408), .inl (mm_w ((mm_w (v1 + 24)) + v2)), .inr (.inr 408)], M61)
    refine mm_s1 rfl ?_
    refine mm_s1 rfl ?_
    obtain ⟨b79, h⟩ := h
    refine mm_s1 rfl ⟨nn_bd (na_13_0 NN (nn_c407 NN)) b79, ?_⟩
    show mm_Go (mm_run 8) mc_M_writes _ (80, [(0, .inr (.inr 407)), (1, .inl v1), (2, .inl v2), (3, .inl v3)], [.inl (nn_ri M61 408 (mm_w (v1 + 0))), .inl (mm_w ((mm_w (v1 + 24)) + v2)), .inr (.inr 408)], M61)
    obtain ⟨b80, h⟩ := h
    refine mm_s1 rfl ⟨nn_bd (na_13_0 NN (nn_c407 NN)) b80, ?_⟩
    show mm_Go (mm_run 8) mc_M_writes _ (81, [(0, .inr (.inr 407)), (1, .inl v1), (2, .inl v2), (3, .inl v3)], [], (nn_ui M61 408 (mm_w ((mm_w (v1 + 24)) + v2)) (nn_ri M61 408 (mm_w (v1 + 0)))))
    have L : nn_L (nn_ui M61 408 (mm_w ((mm_w (v1 + 24)) + v2)) (nn_ri M61 408 (mm_w (v1 + 0)))) := nn_L_ua L (congrArg Prod.fst (na_13_0 NN (nn_c407 NN))) (by decide)
    have N : (nn_ui M61 408 (mm_w ((mm_w (v1 + 24)) + v2)) (nn_ri M61 408 (mm_w (v1 + 0)))).1 = n := N
    generalize e_M80 : (nn_ui M61 408 (mm_w ((mm_w (v1 + 24)) + v2)) (nn_ri M61 408 (mm_w (v1 + 0)))) = M80 at L N ⊢
    replace h := h _ e_M80.symm
    show mm_Go (mm_run 8) mc_M_writes _ (81, [(0, .inr (.inr 407)), (1, .inl v1), (2, .inl v2), (3, .inl v3)], [], M80)
    refine mm_s1 rfl ?_
    refine nn_getr rfl (nn_c407 NN).1 (lf_13_0 L N (nn_c407 NN)) ?_
    refine mm_s1 rfl ?_
    refine mm_s1 rfl ?_
    refine mm_s1 rfl ?_
    show mm_Go (mm_run 8) mc_M_writes _ (89, [(0, .inr (.inr 407)), (1, .inl v1), (2, .inl v2), (3, .inl v3)], [.inl (mm_w (v1 + 24)), .inr (.inr 408)], M80)
    refine mm_s1 rfl ?_
    refine mm_s1 rfl ?_
    refine mm_s1 rfl ?_
    refine mm_s1 rfl ?_
    refine mm_s1 rfl ?_
    show mm_Go (mm_run 8) mc_M_writes _ (95, [(0, .inr (.inr 407)), (1, .inl v1), (2, .inl v2), (3, .inl v3)], [.inl v3, .inl (mm_w ((mm_w ((mm_w (v1 + 24)) + 32)) + v2)), .inr (.inr 408)], M80)
    obtain ⟨b95, h⟩ := h
    refine mm_s1 rfl ⟨nn_bd (na_13_0 NN (nn_c407 NN)) b95, ?_⟩
    show mm_Go (mm_run 8) mc_M_writes _ (96, [(0, .inr (.inr 407)), (1, .inl v1), (2, .inl v2), (3, .inl v3)], [], (nn_ui M80 408 (mm_w ((mm_w ((mm_w (v1 + 24)) + 32)) + v2)) v3))
    have L : nn_L (nn_ui M80 408 (mm_w ((mm_w ((mm_w (v1 + 24)) + 32)) + v2)) v3) := nn_L_ua L (congrArg Prod.fst (na_13_0 NN (nn_c407 NN))) (by decide)
    have N : (nn_ui M80 408 (mm_w ((mm_w ((mm_w (v1 + 24)) + 32)) + v2)) v3).1 = n := N
    generalize e_M95 : (nn_ui M80 408 (mm_w ((mm_w ((mm_w (v1 + 24)) + 32)) + v2)) v3) = M95 at L N ⊢
    replace h := h _ e_M95.symm
    show mm_Go (mm_run 8) mc_M_writes _ (96, [(0, .inr (.inr 407)), (1, .inl v1), (2, .inl v2), (3, .inl v3)], [], M95)
    refine mm_s1 rfl ?_
    refine nn_getr rfl (nn_c407 NN).1 (lf_13_0 L N (nn_c407 NN)) ?_
    refine mm_s1 rfl ?_
    refine mm_s1 rfl ?_
    refine mm_s1 rfl ?_
    show mm_Go (mm_run 8) mc_M_writes _ (103, [(0, .inr (.inr 407)), (1, .inl v1), (2, .inl v2), (3, .inl v3)], [.inl (mm_w (v1 + 0)), .inr (.inr 408)], M95)
    obtain ⟨b103, h⟩ := h
    refine mm_s1 rfl ⟨nn_bd (na_13_0 NN (nn_c407 NN)) b103, ?_⟩
    show mm_Go (mm_run 8) mc_M_writes _ (104, [(0, .inr (.inr 407)), (1, .inl v1), (2, .inl v2), (3, .inl v3)], [.inl (nn_ri M95 408 (mm_w (v1 + 0)))], M95)
    refine mm_s1 rfl ?_
    show mm_Go (mm_run 8) mc_M_writes _ (106, [(0, .inr (.inr 407)), (1, .inl v1), (2, .inl v2), (3, .inl v3), (4, .inl (nn_ri M95 408 (mm_w (v1 + 0))))], [], M95)
    generalize e_x4_104 : (nn_ri M95 408 (mm_w (v1 + 0))) = x4_104
    replace h := h _ e_x4_104.symm
    show mm_Go (mm_run 8) mc_M_writes _ (106, [(0, .inr (.inr 407)), (1, .inl v1), (2, .inl v2), (3, .inl v3), (4, .inl x4_104)], [], M95)
    refine mm_s1 rfl ?_
    refine mm_s1 rfl ?_
    show mm_Go (mm_run 8) mc_M_writes _ (109, [(0, .inr (.inr 407)), (1, .inl v1), (2, .inl v2), (3, .inl v3), (4, .inl x4_104), (5, .inl 0)], [], M95)
    exact nn_go_ext (nn_xc rfl (nn_xc rfl (nn_xc rfl (nn_xc rfl (nn_xc rfl (nn_xc rfl nn_xn)))))) (h n L N)
set_option maxRecDepth 20000 in
theorem ng_M_writes_109 (v1 : Int) (v2 : Int) (v3 : Int) (v4 : Int) (v5 : Int) (M : mm_M) (R : Int → mm_M → Prop) (h : ((4 ≤ v5 → (((0 : Int) ≤ (mm_w (v1 + 1)) ∧ (mm_w (v1 + 1)) < (32844 : Int)) ∧ (((0 : Int) ≤ (mm_w (v1 + 3)) ∧ (mm_w (v1 + 3)) < (32844 : Int)) ∧ (((nn_ri M 408 (mm_w (v1 + 1))) < (nn_ri M 408 (mm_w (v1 + 3))) → nk_M_writes_210 v1 v4 0 M R) ∧ ((nn_ri M 408 (mm_w (v1 + 3))) ≤ (nn_ri M 408 (mm_w (v1 + 1))) → (nr_M_flushes v1 M (fun r203 M203 => nk_M_writes_210 v1 v4 0 M203 R))))))) ∧ (v5 < 4 → (((0 : Int) ≤ (mm_w ((nf_M_at v1 v5) + 0)) ∧ (mm_w ((nf_M_at v1 v5) + 0)) < (32844 : Int)) ∧ ((((nn_ri M 408 (mm_w ((nf_M_at v1 v5) + 0))) = 0 ∨ (v3 = (-1))) → nk_M_writes_109 v1 v2 v3 v4 (mm_w (v5 + 1)) M R) ∧ (((nn_ri M 408 (mm_w ((nf_M_at v1 v5) + 0))) ≠ 0 ∧ (v3 ≠ (-1))) → (nr_M_wants (nf_M_at v1 v5) v3 M (fun r144 M144 => ((r144 ≠ 0 → (nr_M_valueOf (nf_M_at v1 v5) v3 M144 (fun r161 M161 => (nr_M_adds (nf_M_at v1 v5) 0 r161 v2 v4 M161 (fun M167 => (nr_M_sorts (nf_M_at v1 v5) M167 (fun M173 => nk_M_writes_109 v1 v2 v3 v4 (mm_w (v5 + 1)) M173 R))))))) ∧ (r144 = 0 → nk_M_writes_109 v1 v2 v3 v4 (mm_w (v5 + 1)) M144 R)))))))))) : nk_M_writes_109 v1 v2 v3 v4 v5 M R := by
  intro n L N 
  have NN := nn_L_n L N
  show mm_Go (mm_run 8) mc_M_writes _ (109, [(0, .inr (.inr 407)), (1, .inl v1), (2, .inl v2), (3, .inl v3), (4, .inl v4), (5, .inl v5)], [], M)
  refine mm_s1 rfl ?_
  refine mm_s1 rfl ?_
  refine mm_s1 rfl ⟨fun c112 => ?_, fun c112 => ?_⟩
  · show mm_Go (mm_run 8) mc_M_writes _ (182, [(0, .inr (.inr 407)), (1, .inl v1), (2, .inl v2), (3, .inl v3), (4, .inl v4), (5, .inl v5)], [], M)
    replace h := h.1 c112
    refine mm_s1 rfl ?_
    refine nn_getr rfl (nn_c407 NN).1 (lf_13_0 L N (nn_c407 NN)) ?_
    refine mm_s1 rfl ?_
    refine mm_s1 rfl ?_
    refine mm_s1 rfl ?_
    show mm_Go (mm_run 8) mc_M_writes _ (189, [(0, .inr (.inr 407)), (1, .inl v1), (2, .inl v2), (3, .inl v3), (4, .inl v4), (5, .inl v5)], [.inl (mm_w (v1 + 1)), .inr (.inr 408)], M)
    obtain ⟨b189, h⟩ := h
    refine mm_s1 rfl ⟨nn_bd (na_13_0 NN (nn_c407 NN)) b189, ?_⟩
    show mm_Go (mm_run 8) mc_M_writes _ (190, [(0, .inr (.inr 407)), (1, .inl v1), (2, .inl v2), (3, .inl v3), (4, .inl v4), (5, .inl v5)], [.inl (nn_ri M 408 (mm_w (v1 + 1)))], M)
    refine mm_s1 rfl ?_
    refine nn_getr rfl (nn_c407 NN).1 (lf_13_0 L N (nn_c407 NN)) ?_
    refine mm_s1 rfl ?_
    refine mm_s1 rfl ?_
    refine mm_s1 rfl ?_
    show mm_Go (mm_run 8) mc_M_writes _ (197, [(0, .inr (.inr 407)), (1, .inl v1), (2, .inl v2), (3, .inl v3), (4, .inl v4), (5, .inl v5)], [.inl (mm_w (v1 + 3)), .inr (.inr 408), .inl (nn_ri M 408 (mm_w (v1 + 1)))], M)
    obtain ⟨b197, h⟩ := h
    refine mm_s1 rfl ⟨nn_bd (na_13_0 NN (nn_c407 NN)) b197, ?_⟩
    show mm_Go (mm_run 8) mc_M_writes _ (198, [(0, .inr (.inr 407)), (1, .inl v1), (2, .inl v2), (3, .inl v3), (4, .inl v4), (5, .inl v5)], [.inl (nn_ri M 408 (mm_w (v1 + 3))), .inl (nn_ri M 408 (mm_w (v1 + 1)))], M)
    refine mm_s1 rfl ⟨fun c198 => ?_, fun c198 => ?_⟩
    · show mm_Go (mm_run 8) mc_M_writes _ (207, [(0, .inr (.inr 407)), (1, .inl v1), (2, .inl v2), (3, .inl v3), (4, .inl v4), (5, .inl v5)], [], M)
      replace h := h.1 c198
      refine mm_s1 rfl ?_
      refine mm_s1 rfl ?_
      show mm_Go (mm_run 8) mc_M_writes _ (210, [(0, .inr (.inr 407)), (1, .inl v1), (2, .inl v2), (3, .inl v3), (4, .inl v4), (5, .inl 0)], [], M)
      exact nn_go_ext (nn_xc rfl (nn_xc rfl (nn_xc rfl (nn_xc rfl nn_xn)))) (h n L N)
    · show mm_Go (mm_run 8) mc_M_writes _ (201, [(0, .inr (.inr 407)), (1, .inl v1), (2, .inl v2), (3, .inl v3), (4, .inl v4), (5, .inl v5)], [], M)
      replace c198 := Int.not_lt.mp c198
      replace h := h.2 c198
      refine mm_s1 rfl ?_
      refine mm_s1 rfl ?_
      refine mm_s1 rfl ⟨(nn_c407 NN).1, ?_⟩
      refine nn_call (D := 8) (by decide) (h n L N) ?_
      intro v M203 q; clear L N h
      obtain ⟨r203, rfl, q203, L, N, h⟩ := q
      show mm_Go (mm_run 8) mc_M_writes _ (206, [(0, .inr (.inr 407)), (1, .inl v1), (2, .inl v2), (3, .inl v3), (4, .inl v4), (5, .inl v5)], [.inl r203], M203)
      refine mm_s1 rfl ?_
      refine mm_s1 rfl ?_
      refine mm_s1 rfl ?_
      show mm_Go (mm_run 8) mc_M_writes _ (210, [(0, .inr (.inr 407)), (1, .inl v1), (2, .inl v2), (3, .inl v3), (4, .inl v4), (5, .inl 0)], [], M203)
      exact nn_go_ext (nn_xc rfl (nn_xc rfl (nn_xc rfl (nn_xc rfl nn_xn)))) (h n L N)
  · show mm_Go (mm_run 8) mc_M_writes _ (115, [(0, .inr (.inr 407)), (1, .inl v1), (2, .inl v2), (3, .inl v3), (4, .inl v4), (5, .inl v5)], [], M)
    replace c112 := Int.not_le.mp c112
    replace h := h.2 c112
    refine mm_s1 rfl ?_
    refine mm_s1 rfl ?_
    refine mm_s1 rfl ⟨trivial, ?_⟩
    refine np_M_at (by decide) L N ?_
    show mm_Go (mm_run 8) mc_M_writes _ (121, [(0, .inr (.inr 407)), (1, .inl v1), (2, .inl v2), (3, .inl v3), (4, .inl v4), (5, .inl v5)], [.inl (nf_M_at v1 v5)], M)
    refine mm_s1 rfl ?_
    show mm_Go (mm_run 8) mc_M_writes _ (123, [(0, .inr (.inr 407)), (1, .inl v1), (2, .inl v2), (3, .inl v3), (4, .inl v4), (5, .inl v5), (6, .inl (nf_M_at v1 v5))], [], M)
    refine mm_s1 rfl ?_
    refine nn_getr rfl (nn_c407 NN).1 (lf_13_0 L N (nn_c407 NN)) ?_
    refine mm_s1 rfl ?_
    refine mm_s1 rfl ?_
    refine mm_s1 rfl ?_
    show mm_Go (mm_run 8) mc_M_writes _ (131, [(0, .inr (.inr 407)), (1, .inl v1), (2, .inl v2), (3, .inl v3), (4, .inl v4), (5, .inl v5), (6, .inl (nf_M_at v1 v5))], [.inl (mm_w ((nf_M_at v1 v5) + 0)), .inr (.inr 408)], M)
    obtain ⟨b131, h⟩ := h
    refine mm_s1 rfl ⟨nn_bd (na_13_0 NN (nn_c407 NN)) b131, ?_⟩
    show mm_Go (mm_run 8) mc_M_writes _ (132, [(0, .inr (.inr 407)), (1, .inl v1), (2, .inl v2), (3, .inl v3), (4, .inl v4), (5, .inl v5), (6, .inl (nf_M_at v1 v5))], [.inl (nn_ri M 408 (mm_w ((nf_M_at v1 v5) + 0)))], M)
    refine mm_s1 rfl ⟨fun c132 => ?_, fun c132 => ?_⟩
    · show mm_Go (mm_run 8) mc_M_writes _ (176, [(0, .inr (.inr 407)), (1, .inl v1), (2, .inl v2), (3, .inl v3), (4, .inl v4), (5, .inl v5), (6, .inl (nf_M_at v1 v5))], [], M)
      refine mm_s1 rfl ?_
      show mm_Go (mm_run 8) mc_M_writes _ (179, [(0, .inr (.inr 407)), (1, .inl v1), (2, .inl v2), (3, .inl v3), (4, .inl v4), (5, .inl (mm_w (v5 + 1))), (6, .inl (nf_M_at v1 v5))], [], M)
      refine mm_s1 rfl ?_
      show mm_Go (mm_run 8) mc_M_writes _ (109, [(0, .inr (.inr 407)), (1, .inl v1), (2, .inl v2), (3, .inl v3), (4, .inl v4), (5, .inl (mm_w (v5 + 1))), (6, .inl (nf_M_at v1 v5))], [], M)
      replace h := h.1 (Or.inl c132)
      exact nn_go_ext (nn_xc rfl (nn_xc rfl (nn_xc rfl (nn_xc rfl (nn_xc rfl (nn_xc rfl nn_xn)))))) (h n L N)
    · show mm_Go (mm_run 8) mc_M_writes _ (135, [(0, .inr (.inr 407)), (1, .inl v1), (2, .inl v2), (3, .inl v3), (4, .inl v4), (5, .inl v5), (6, .inl (nf_M_at v1 v5))], [], M)
      refine mm_s1 rfl ?_
      refine mm_s1 rfl ?_
      refine mm_s1 rfl ⟨fun c137 => ?_, fun c137 => ?_⟩
      · show mm_Go (mm_run 8) mc_M_writes _ (176, [(0, .inr (.inr 407)), (1, .inl v1), (2, .inl v2), (3, .inl v3), (4, .inl v4), (5, .inl v5), (6, .inl (nf_M_at v1 v5))], [], M)
        refine mm_s1 rfl ?_
        show mm_Go (mm_run 8) mc_M_writes _ (179, [(0, .inr (.inr 407)), (1, .inl v1), (2, .inl v2), (3, .inl v3), (4, .inl v4), (5, .inl (mm_w (v5 + 1))), (6, .inl (nf_M_at v1 v5))], [], M)
        refine mm_s1 rfl ?_
        show mm_Go (mm_run 8) mc_M_writes _ (109, [(0, .inr (.inr 407)), (1, .inl v1), (2, .inl v2), (3, .inl v3), (4, .inl v4), (5, .inl (mm_w (v5 + 1))), (6, .inl (nf_M_at v1 v5))], [], M)
        replace h := h.1 (Or.inr c137)
        exact nn_go_ext (nn_xc rfl (nn_xc rfl (nn_xc rfl (nn_xc rfl (nn_xc rfl (nn_xc rfl nn_xn)))))) (h n L N)
      · show mm_Go (mm_run 8) mc_M_writes _ (140, [(0, .inr (.inr 407)), (1, .inl v1), (2, .inl v2), (3, .inl v3), (4, .inl v4), (5, .inl v5), (6, .inl (nf_M_at v1 v5))], [], M)
        refine mm_s1 rfl ?_
        refine mm_s1 rfl ?_
        refine mm_s1 rfl ?_
        replace h := h.2 ⟨c132, c137⟩
        refine mm_s1 rfl ⟨(nn_c407 NN).1, ?_⟩
        refine nn_call (D := 3) (by decide) (h n L N) ?_
        intro v M144 q; clear L N h
        obtain ⟨r144, rfl, q144, L, N, h⟩ := q
        show mm_Go (mm_run 8) mc_M_writes _ (147, [(0, .inr (.inr 407)), (1, .inl v1), (2, .inl v2), (3, .inl v3), (4, .inl v4), (5, .inl v5), (6, .inl (nf_M_at v1 v5))], [.inl r144], M144)
        refine mm_s1 rfl ⟨fun c147 => ?_, fun c147 => ?_⟩
        · show mm_Go (mm_run 8) mc_M_writes _ (153, [(0, .inr (.inr 407)), (1, .inl v1), (2, .inl v2), (3, .inl v3), (4, .inl v4), (5, .inl v5), (6, .inl (nf_M_at v1 v5))], [], M144)
          replace h := h.1 c147
          refine mm_s1 rfl ?_
          refine mm_s1 rfl ?_
          refine mm_s1 rfl ?_
          refine mm_s1 rfl ?_
          refine mm_s1 rfl ?_
          show mm_Go (mm_run 8) mc_M_writes _ (160, [(0, .inr (.inr 407)), (1, .inl v1), (2, .inl v2), (3, .inl v3), (4, .inl v4), (5, .inl v5), (6, .inl (nf_M_at v1 v5))], [.inl (nf_M_at v1 v5), .inr (.inr 407), .inl 0, .inl (nf_M_at v1 v5), .inr (.inr 407)], M144)
          refine mm_s1 rfl ?_
          refine mm_s1 rfl ⟨(nn_c407 NN).1, ?_⟩
          refine nn_call (D := 3) (by decide) (h n L N) ?_
          intro v M161 q; clear L N h
          obtain ⟨r161, rfl, L, N, h⟩ := q
          show mm_Go (mm_run 8) mc_M_writes _ (164, [(0, .inr (.inr 407)), (1, .inl v1), (2, .inl v2), (3, .inl v3), (4, .inl v4), (5, .inl v5), (6, .inl (nf_M_at v1 v5))], [.inl r161, .inl 0, .inl (nf_M_at v1 v5), .inr (.inr 407)], M161)
          refine mm_s1 rfl ?_
          refine mm_s1 rfl ?_
          refine mm_s1 rfl ⟨(nn_c407 NN).1, ?_⟩
          refine nn_call (D := 2) (by decide) (h n L N) ?_
          intro v M167 q; clear L N h
          obtain ⟨rfl, L, N, h⟩ := q
          show mm_Go (mm_run 8) mc_M_writes _ (170, [(0, .inr (.inr 407)), (1, .inl v1), (2, .inl v2), (3, .inl v3), (4, .inl v4), (5, .inl v5), (6, .inl (nf_M_at v1 v5))], [], M167)
          refine mm_s1 rfl ?_
          refine mm_s1 rfl ?_
          refine mm_s1 rfl ⟨(nn_c407 NN).1, ?_⟩
          refine nn_call (D := 2) (by decide) (h n L N) ?_
          intro v M173 q; clear L N h
          obtain ⟨rfl, L, N, h⟩ := q
          show mm_Go (mm_run 8) mc_M_writes _ (176, [(0, .inr (.inr 407)), (1, .inl v1), (2, .inl v2), (3, .inl v3), (4, .inl v4), (5, .inl v5), (6, .inl (nf_M_at v1 v5))], [], M173)
          refine mm_s1 rfl ?_
          show mm_Go (mm_run 8) mc_M_writes _ (179, [(0, .inr (.inr 407)), (1, .inl v1), (2, .inl v2), (3, .inl v3), (4, .inl v4), (5, .inl (mm_w (v5 + 1))), (6, .inl (nf_M_at v1 v5))], [], M173)
          refine mm_s1 rfl ?_
          show mm_Go (mm_run 8) mc_M_writes _ (109, [(0, .inr (.inr 407)), (1, .inl v1), (2, .inl v2), (3, .inl v3), (4, .inl v4), (5, .inl (mm_w (v5 + 1))), (6, .inl (nf_M_at v1 v5))], [], M173)
          exact nn_go_ext (nn_xc rfl (nn_xc rfl (nn_xc rfl (nn_xc rfl (nn_xc rfl (nn_xc rfl nn_xn)))))) (h n L N)
        · show mm_Go (mm_run 8) mc_M_writes _ (150, [(0, .inr (.inr 407)), (1, .inl v1), (2, .inl v2), (3, .inl v3), (4, .inl v4), (5, .inl v5), (6, .inl (nf_M_at v1 v5))], [], M144)
          replace c147 := Decidable.not_not.mp c147
          replace h := h.2 c147
          refine mm_s1 rfl ?_
          show mm_Go (mm_run 8) mc_M_writes _ (176, [(0, .inr (.inr 407)), (1, .inl v1), (2, .inl v2), (3, .inl v3), (4, .inl v4), (5, .inl v5), (6, .inl (nf_M_at v1 v5))], [], M144)
          refine mm_s1 rfl ?_
          show mm_Go (mm_run 8) mc_M_writes _ (179, [(0, .inr (.inr 407)), (1, .inl v1), (2, .inl v2), (3, .inl v3), (4, .inl v4), (5, .inl (mm_w (v5 + 1))), (6, .inl (nf_M_at v1 v5))], [], M144)
          refine mm_s1 rfl ?_
          show mm_Go (mm_run 8) mc_M_writes _ (109, [(0, .inr (.inr 407)), (1, .inl v1), (2, .inl v2), (3, .inl v3), (4, .inl v4), (5, .inl (mm_w (v5 + 1))), (6, .inl (nf_M_at v1 v5))], [], M144)
          exact nn_go_ext (nn_xc rfl (nn_xc rfl (nn_xc rfl (nn_xc rfl (nn_xc rfl (nn_xc rfl nn_xn)))))) (h n L N)
set_option maxRecDepth 20000 in
theorem ng_M_writes_210 (v1 : Int) (v4 : Int) (v5 : Int) (M : mm_M) (R : Int → mm_M → Prop) (h : ((4 ≤ v5 → R v4 M) ∧ (v5 < 4 → (((0 : Int) ≤ (mm_w ((nf_M_at v1 v5) + 0)) ∧ (mm_w ((nf_M_at v1 v5) + 0)) < (32844 : Int)) ∧ (((0 < (nn_ri M 408 (mm_w ((nf_M_at v1 v5) + 0)))) → ((0 : Int) ≤ (mm_w ((nf_M_at v1 v5) + 6)) ∧ (mm_w ((nf_M_at v1 v5) + 6)) < (32844 : Int))) ∧ (((nn_ri M 408 (mm_w ((nf_M_at v1 v5) + 0))) ≤ 0 ∨ ((nn_ri M 408 (mm_w ((nf_M_at v1 v5) + 6))) ≤ 96)) → nk_M_writes_255 v1 v4 v5 M R) ∧ ((0 < (nn_ri M 408 (mm_w ((nf_M_at v1 v5) + 0))) ∧ (96 < (nn_ri M 408 (mm_w ((nf_M_at v1 v5) + 6))))) → (nr_M_repairs v1 v5 M (fun r267 M267 => nk_M_writes_210 v1 v4 (mm_w (v5 + 1)) M267 R)))))))) : nk_M_writes_210 v1 v4 v5 M R := by
  intro n L N 
  have NN := nn_L_n L N
  show mm_Go (mm_run 8) mc_M_writes _ (210, [(0, .inr (.inr 407)), (1, .inl v1), (4, .inl v4), (5, .inl v5)], [], M)
  refine mm_s1 rfl ?_
  refine mm_s1 rfl ?_
  refine mm_s1 rfl ⟨fun c213 => ?_, fun c213 => ?_⟩
  · show mm_Go (mm_run 8) mc_M_writes _ (282, [(0, .inr (.inr 407)), (1, .inl v1), (4, .inl v4), (5, .inl v5)], [], M)
    replace h := h.1 c213
    refine mm_s1 rfl ?_
    exact mm_s1 rfl ⟨_, rfl, L, N, h⟩
  · show mm_Go (mm_run 8) mc_M_writes _ (216, [(0, .inr (.inr 407)), (1, .inl v1), (4, .inl v4), (5, .inl v5)], [], M)
    replace c213 := Int.not_le.mp c213
    replace h := h.2 c213
    refine mm_s1 rfl ?_
    refine nn_getr rfl (nn_c407 NN).1 (lf_13_0 L N (nn_c407 NN)) ?_
    refine mm_s1 rfl ?_
    refine mm_s1 rfl ?_
    refine mm_s1 rfl ⟨trivial, ?_⟩
    refine np_M_at (by decide) L N ?_
    show mm_Go (mm_run 8) mc_M_writes _ (226, [(0, .inr (.inr 407)), (1, .inl v1), (4, .inl v4), (5, .inl v5)], [.inl (nf_M_at v1 v5), .inr (.inr 408)], M)
    refine mm_s1 rfl ?_
    refine mm_s1 rfl ?_
    obtain ⟨b228, h⟩ := h
    refine mm_s1 rfl ⟨nn_bd (na_13_0 NN (nn_c407 NN)) b228, ?_⟩
    show mm_Go (mm_run 8) mc_M_writes _ (229, [(0, .inr (.inr 407)), (1, .inl v1), (4, .inl v4), (5, .inl v5)], [.inl (nn_ri M 408 (mm_w ((nf_M_at v1 v5) + 0)))], M)
    refine mm_s1 rfl ⟨fun c229 => ?_, fun c229 => ?_⟩
    · show mm_Go (mm_run 8) mc_M_writes _ (255, [(0, .inr (.inr 407)), (1, .inl v1), (4, .inl v4), (5, .inl v5)], [], M)
      replace h := h.2.1 (Or.inl c229)
      exact nn_go_ext (nn_xc rfl (nn_xc rfl (nn_xc rfl (nn_xc rfl nn_xn)))) (h n L N)
    · show mm_Go (mm_run 8) mc_M_writes _ (232, [(0, .inr (.inr 407)), (1, .inl v1), (4, .inl v4), (5, .inl v5)], [], M)
      replace c229 := Int.not_le.mp c229
      refine mm_s1 rfl ?_
      refine nn_getr rfl (nn_c407 NN).1 (lf_13_0 L N (nn_c407 NN)) ?_
      refine mm_s1 rfl ?_
      refine mm_s1 rfl ?_
      refine mm_s1 rfl ⟨trivial, ?_⟩
      refine np_M_at (by decide) L N ?_
      show mm_Go (mm_run 8) mc_M_writes _ (242, [(0, .inr (.inr 407)), (1, .inl v1), (4, .inl v4), (5, .inl v5)], [.inl (nf_M_at v1 v5), .inr (.inr 408)], M)
      refine mm_s1 rfl ?_
      refine mm_s1 rfl ?_
      have b245 := h.1 c229
      refine mm_s1 rfl ⟨nn_bd (na_13_0 NN (nn_c407 NN)) b245, ?_⟩
      show mm_Go (mm_run 8) mc_M_writes _ (246, [(0, .inr (.inr 407)), (1, .inl v1), (4, .inl v4), (5, .inl v5)], [.inl (nn_ri M 408 (mm_w ((nf_M_at v1 v5) + 6)))], M)
      refine mm_s1 rfl ?_
      refine mm_s1 rfl ⟨fun c248 => ?_, fun c248 => ?_⟩
      · show mm_Go (mm_run 8) mc_M_writes _ (255, [(0, .inr (.inr 407)), (1, .inl v1), (4, .inl v4), (5, .inl v5)], [], M)
        replace h := h.2.1 (Or.inr c248)
        exact nn_go_ext (nn_xc rfl (nn_xc rfl (nn_xc rfl (nn_xc rfl nn_xn)))) (h n L N)
      · show mm_Go (mm_run 8) mc_M_writes _ (251, [(0, .inr (.inr 407)), (1, .inl v1), (4, .inl v4), (5, .inl v5)], [], M)
        replace c248 := Int.not_le.mp c248
        refine mm_s1 rfl ?_
        refine mm_s1 rfl ?_
        show mm_Go (mm_run 8) mc_M_writes _ (256, [(0, .inr (.inr 407)), (1, .inl v1), (4, .inl v4), (5, .inl v5)], [.inl 1], M)
        refine mm_s1 rfl ?_
        show mm_Go (mm_run 8) mc_M_writes _ (258, [(0, .inr (.inr 407)), (1, .inl v1), (4, .inl v4), (5, .inl v5), (6, .inl 1)], [], M)
        refine mm_s1 rfl ?_
        refine mm_s1 rfl ⟨fun c => absurd c (show ¬ ((1 : Int) = 0) by decide), fun _ => ?_⟩
        show mm_Go (mm_run 8) mc_M_writes _ (263, [(0, .inr (.inr 407)), (1, .inl v1), (4, .inl v4), (5, .inl v5), (6, .inl 1)], [], M)
        refine mm_s1 rfl ?_
        refine mm_s1 rfl ?_
        refine mm_s1 rfl ?_
        replace h := h.2.2 ⟨c229, c248⟩
        refine mm_s1 rfl ⟨(nn_c407 NN).1, ?_⟩
        refine nn_call (D := 5) (by decide) (h n L N) ?_
        intro v M267 q; clear L N h
        obtain ⟨r267, rfl, L, N, h⟩ := q
        show mm_Go (mm_run 8) mc_M_writes _ (270, [(0, .inr (.inr 407)), (1, .inl v1), (4, .inl v4), (5, .inl v5), (6, .inl 1)], [.inl r267], M267)
        refine mm_s1 rfl ?_
        show mm_Go (mm_run 8) mc_M_writes _ (274, [(0, .inr (.inr 407)), (1, .inl v1), (4, .inl v4), (5, .inl v5), (6, .inl 1)], [.inl r267], M267)
        refine mm_s1 rfl ?_
        show mm_Go (mm_run 8) mc_M_writes _ (276, [(0, .inr (.inr 407)), (1, .inl v1), (4, .inl v4), (5, .inl v5), (6, .inl 1), (7, .inl r267)], [], M267)
        refine mm_s1 rfl ?_
        show mm_Go (mm_run 8) mc_M_writes _ (279, [(0, .inr (.inr 407)), (1, .inl v1), (4, .inl v4), (5, .inl (mm_w (v5 + 1))), (6, .inl 1), (7, .inl r267)], [], M267)
        refine mm_s1 rfl ?_
        show mm_Go (mm_run 8) mc_M_writes _ (210, [(0, .inr (.inr 407)), (1, .inl v1), (4, .inl v4), (5, .inl (mm_w (v5 + 1))), (6, .inl 1), (7, .inl r267)], [], M267)
        exact nn_go_ext (nn_xc rfl (nn_xc rfl (nn_xc rfl (nn_xc rfl nn_xn)))) (h n L N)
set_option maxRecDepth 20000 in
theorem ng_M_writes_255 (v1 : Int) (v4 : Int) (v5 : Int) (M : mm_M) (R : Int → mm_M → Prop) (h : nk_M_writes_210 v1 v4 (mm_w (v5 + 1)) M R) : nk_M_writes_255 v1 v4 v5 M R := by
  intro n L N 
  have NN := nn_L_n L N
  show mm_Go (mm_run 8) mc_M_writes _ (255, [(0, .inr (.inr 407)), (1, .inl v1), (4, .inl v4), (5, .inl v5)], [], M)
  refine mm_s1 rfl ?_
  refine mm_s1 rfl ?_
  show mm_Go (mm_run 8) mc_M_writes _ (258, [(0, .inr (.inr 407)), (1, .inl v1), (4, .inl v4), (5, .inl v5), (6, .inl 0)], [], M)
  refine mm_s1 rfl ?_
  refine mm_s1 rfl ⟨fun _ => ?_, fun c => absurd (show (0 : Int) = 0 by decide) c⟩
  show mm_Go (mm_run 8) mc_M_writes _ (273, [(0, .inr (.inr 407)), (1, .inl v1), (4, .inl v4), (5, .inl v5), (6, .inl 0)], [], M)
  refine mm_s1 rfl ?_
  refine mm_s1 rfl ?_
  show mm_Go (mm_run 8) mc_M_writes _ (276, [(0, .inr (.inr 407)), (1, .inl v1), (4, .inl v4), (5, .inl v5), (6, .inl 0), (7, .inl 0)], [], M)
  refine mm_s1 rfl ?_
  show mm_Go (mm_run 8) mc_M_writes _ (279, [(0, .inr (.inr 407)), (1, .inl v1), (4, .inl v4), (5, .inl (mm_w (v5 + 1))), (6, .inl 0), (7, .inl 0)], [], M)
  refine mm_s1 rfl ?_
  show mm_Go (mm_run 8) mc_M_writes _ (210, [(0, .inr (.inr 407)), (1, .inl v1), (4, .inl v4), (5, .inl (mm_w (v5 + 1))), (6, .inl 0), (7, .inl 0)], [], M)
  exact nn_go_ext (nn_xc rfl (nn_xc rfl (nn_xc rfl (nn_xc rfl nn_xn)))) (h n L N)
def nr_M_flush  (M : mm_M) (R : Int → mm_M → Prop) : Prop := ∀ n, nn_L M → M.1 = n → mm_run 9 mi_M_flush [.inr (.inr 407)] M (nw_Z n R)
set_option maxRecDepth 20000 in
theorem ng_M_flush  (M : mm_M) (R : Int → mm_M → Prop) (h : (nr_M_flushes 0 M (fun r2 M2 => R r2 M2))) : nr_M_flush  M R := by
  intro n L N 
  have NN := nn_L_n L N
  show mm_Go (mm_run 8) mc_M_flush _ (0, [(0, .inr (.inr 407))], [], M)
  refine mm_s1 rfl ?_
  refine mm_s1 rfl ?_
  refine mm_s1 rfl ⟨(nn_c407 NN).1, ?_⟩
  refine nn_call (D := 8) (by decide) (h n L N) ?_
  intro v M2 q; clear L N h
  obtain ⟨r2, rfl, q2, L, N, h⟩ := q
  show mm_Go (mm_run 8) mc_M_flush _ (5, [(0, .inr (.inr 407))], [.inl r2], M2)
  exact mm_s1 rfl ⟨q2, _, rfl, q2, L, N, h⟩
def nr_M_merging (v1 : Int) (M : mm_M) (R : Int → mm_M → Prop) : Prop := ∀ n, nn_L M → M.1 = n → mm_run 9 mi_M_merging [.inr (.inr 407), .inl v1] M (nw_I n R)
set_option maxRecDepth 20000 in
theorem ng_M_merging (v1 : Int) (M : mm_M) (R : Int → mm_M → Prop) (h : (nr_M_copies v1 10948 M (fun M5 => (∀ M16 : mm_M, M16 = nn_ui M5 408 10971 0 → (nr_M_flushes 10948 M16 (fun r21 M21 => ((r21 = 0 → R 0 M21) ∧ (r21 ≠ 0 → R (nn_ri M21 408 10971) M21)))))))) : nr_M_merging v1 M R := by
  intro n L N 
  have NN := nn_L_n L N
  show mm_Go (mm_run 8) mc_M_merging _ (0, [(0, .inr (.inr 407)), (1, .inl v1)], [], M)
  refine mm_s1 rfl ?_
  refine mm_s1 rfl ?_
  refine mm_s1 rfl ?_
  refine mm_s1 rfl ⟨(nn_c407 NN).1, ?_⟩
  refine nn_call (D := 1) (by decide) (h n L N) ?_
  intro v M5 q; clear L N h
  obtain ⟨rfl, L, N, h⟩ := q
  show mm_Go (mm_run 8) mc_M_merging _ (8, [(0, .inr (.inr 407)), (1, .inl v1)], [], M5)
  refine mm_s1 rfl ?_
  refine nn_getr rfl (nn_c407 NN).1 (lf_13_0 L N (nn_c407 NN)) ?_
  refine mm_s1 rfl ?_
  refine mm_s1 rfl ?_
  refine mm_s1 rfl ⟨nn_bd (na_13_0 NN (nn_c407 NN)) (show (0 : Int) ≤ 10971 ∧ (10971 : Int) < 32844 by decide), ?_⟩
  show mm_Go (mm_run 8) mc_M_merging _ (17, [(0, .inr (.inr 407)), (1, .inl v1)], [], (nn_ui M5 408 10971 0))
  have L : nn_L (nn_ui M5 408 10971 0) := nn_L_ua L (congrArg Prod.fst (na_13_0 NN (nn_c407 NN))) (by decide)
  have N : (nn_ui M5 408 10971 0).1 = n := N
  generalize e_M16 : (nn_ui M5 408 10971 0) = M16 at L N ⊢
  replace h := h _ e_M16.symm
  show mm_Go (mm_run 8) mc_M_merging _ (17, [(0, .inr (.inr 407)), (1, .inl v1)], [], M16)
  refine mm_s1 rfl ?_
  refine mm_s1 rfl ?_
  refine mm_s1 rfl ⟨(nn_c407 NN).1, ?_⟩
  refine nn_call (D := 8) (by decide) (h n L N) ?_
  intro v M21 q; clear L N h
  obtain ⟨r21, rfl, q21, L, N, h⟩ := q
  show mm_Go (mm_run 8) mc_M_merging _ (24, [(0, .inr (.inr 407)), (1, .inl v1)], [.inl r21], M21)
  refine mm_s1 rfl ⟨fun c24 => ?_, fun c24 => ?_⟩
  · show mm_Go (mm_run 8) mc_M_merging _ (38, [(0, .inr (.inr 407)), (1, .inl v1)], [], M21)
    replace h := h.1 c24
    refine mm_s1 rfl ?_
    exact mm_s1 rfl ⟨_, rfl, L, N, h⟩
  · show mm_Go (mm_run 8) mc_M_merging _ (27, [(0, .inr (.inr 407)), (1, .inl v1)], [], M21)
    replace h := h.2 c24
    refine mm_s1 rfl ?_
    refine nn_getr rfl (nn_c407 NN).1 (lf_13_0 L N (nn_c407 NN)) ?_
    refine mm_s1 rfl ?_
    refine mm_s1 rfl ⟨nn_bd (na_13_0 NN (nn_c407 NN)) (by decide), ?_⟩
    show mm_Go (mm_run 8) mc_M_merging _ (35, [(0, .inr (.inr 407)), (1, .inl v1)], [.inl (nn_ri M21 408 10971)], M21)
    refine mm_s1 rfl ?_
    show mm_Go (mm_run 8) mc_M_merging _ (39, [(0, .inr (.inr 407)), (1, .inl v1)], [.inl (nn_ri M21 408 10971)], M21)
    exact mm_s1 rfl ⟨_, rfl, L, N, h⟩
def nr_Reader_split (v1 : Nat) (v2 : Int) (M : mm_M) (R : mm_M → Prop) : Prop := ∀ n, nn_L M → M.1 = n → nn_C 20 v1 n → mm_run 10 mi_Reader_split [.inr (.inr 402), .inr (.inr v1), .inl v2] M (nw_V n R)
def nk_Reader_split_5 (v1 : Nat) (v2 : Int) (v3 : Int) (v4 : Int) (M : mm_M) (R : mm_M → Prop) : Prop := ∀ n, nn_L M → M.1 = n → nn_C 20 v1 n → mm_Go (mm_run 9) mc_Reader_split (nw_V n R) (5, [(0, .inr (.inr 402)), (1, .inr (.inr v1)), (2, .inl v2), (3, .inl v3), (4, .inl v4)], [], M)
def nk_Reader_split_68 (v1 : Nat) (v2 : Int) (v3 : Int) (v4 : Int) (v5 : Int) (v7 : Int) (M : mm_M) (R : mm_M → Prop) : Prop := ∀ n, nn_L M → M.1 = n → nn_C 20 v1 n → mm_Go (mm_run 9) mc_Reader_split (nw_V n R) (68, [(0, .inr (.inr 402)), (1, .inr (.inr v1)), (2, .inl v2), (3, .inl v3), (4, .inl v4), (5, .inl v5), (7, .inl v7)], [], M)
set_option maxRecDepth 20000 in
theorem ng_Reader_split (v1 : Nat) (v2 : Int) (M : mm_M) (R : mm_M → Prop) (h : nk_Reader_split_5 v1 v2 0 0 M R) : nr_Reader_split v1 v2 M R := by
  intro n L N C1
  have NN := nn_L_n L N
  show mm_Go (mm_run 9) mc_Reader_split _ (0, [(0, .inr (.inr 402)), (1, .inr (.inr v1)), (2, .inl v2)], [], M)
  refine mm_s1 rfl ?_
  refine mm_s1 rfl ?_
  show mm_Go (mm_run 9) mc_Reader_split _ (2, [(0, .inr (.inr 402)), (1, .inr (.inr v1)), (2, .inl v2), (3, .inl 0)], [], M)
  refine mm_s1 rfl ?_
  refine mm_s1 rfl ?_
  show mm_Go (mm_run 9) mc_Reader_split _ (5, [(0, .inr (.inr 402)), (1, .inr (.inr v1)), (2, .inl v2), (3, .inl 0), (4, .inl 0)], [], M)
  exact nn_go_ext (nn_xc rfl (nn_xc rfl (nn_xc rfl (nn_xc rfl (nn_xc rfl nn_xn))))) (h n L N C1)
set_option maxRecDepth 20000 in
theorem ng_Reader_split_5 (v1 : Nat) (v2 : Int) (v3 : Int) (v4 : Int) (M : mm_M) (R : mm_M → Prop) (h : ((v2 ≤ v4 → (((0 : Int) ≤ v3 ∧ v3 < (201 : Int)) ∧ (∀ M131 : mm_M, M131 = nn_ui M 404 v3 v2 → (((0 : Int) ≤ v3 ∧ v3 < (201 : Int)) ∧ (∀ M138 : mm_M, M138 = nn_ui M131 403 v3 0 → R M138))))) ∧ (v4 < v2 → (((0 : Int) ≤ v4 ∧ v4 < ((mm_kd v1).2 : Int)) ∧ (nr_Reader_sortOf (nn_ri M v1 v4) M (fun r15 M15 => ((v4 ≤ 0 → ((r15 = 0 → nk_Reader_split_5 v1 v2 v3 (mm_w (v4 + 1)) M15 R) ∧ (r15 ≠ 0 → nk_Reader_split_68 v1 v2 v3 v4 r15 (mm_w (v4 + 1)) M15 R))) ∧ (0 < v4 → ((r15 = 3 → ((r15 = 0 → nk_Reader_split_5 v1 v2 v3 (mm_w (v4 + 1)) M15 R) ∧ (r15 ≠ 0 → nk_Reader_split_68 v1 v2 v3 v4 r15 (mm_w (v4 + 1)) M15 R))) ∧ (r15 ≠ 3 → (((0 : Int) ≤ (mm_w (v4 - 1)) ∧ (mm_w (v4 - 1)) < ((mm_kd v1).2 : Int)) ∧ (nr_Reader_sortOf (nn_ri M15 v1 (mm_w (v4 - 1))) M15 (fun r39 M39 => (((r15 = r39 ∨ (r15 = 0)) → nk_Reader_split_5 v1 v2 v3 (mm_w (v4 + 1)) M39 R) ∧ ((r15 ≠ r39 ∧ (r15 ≠ 0)) → nk_Reader_split_68 v1 v2 v3 v4 r15 (mm_w (v4 + 1)) M39 R))))))))))))))) : nk_Reader_split_5 v1 v2 v3 v4 M R := by
  intro n L N C1
  have NN := nn_L_n L N
  show mm_Go (mm_run 9) mc_Reader_split _ (5, [(0, .inr (.inr 402)), (1, .inr (.inr v1)), (2, .inl v2), (3, .inl v3), (4, .inl v4)], [], M)
  refine mm_s1 rfl ?_
  refine mm_s1 rfl ?_
  refine mm_s1 rfl ⟨fun c8 => ?_, fun c8 => ?_⟩
  · show mm_Go (mm_run 9) mc_Reader_split _ (125, [(0, .inr (.inr 402)), (1, .inr (.inr v1)), (2, .inl v2), (3, .inl v3), (4, .inl v4)], [], M)
    replace h := h.1 c8
    refine mm_s1 rfl ?_
    refine nn_getr rfl (nn_c402 NN).1 (lf_7_1 L N (nn_c402 NN)) ?_
    refine mm_s1 rfl ?_
    refine mm_s1 rfl ?_
    obtain ⟨b131, h⟩ := h
    refine mm_s1 rfl ⟨nn_bd (na_7_1 NN (nn_c402 NN)) b131, ?_⟩
    show mm_Go (mm_run 9) mc_Reader_split _ (132, [(0, .inr (.inr 402)), (1, .inr (.inr v1)), (2, .inl v2), (3, .inl v3), (4, .inl v4)], [], (nn_ui M 404 v3 v2))
    have L : nn_L (nn_ui M 404 v3 v2) := nn_L_ua L (congrArg Prod.fst (na_7_1 NN (nn_c402 NN))) (by decide)
    have N : (nn_ui M 404 v3 v2).1 = n := N
    generalize e_M131 : (nn_ui M 404 v3 v2) = M131 at L N ⊢
    replace h := h _ e_M131.symm
    show mm_Go (mm_run 9) mc_Reader_split _ (132, [(0, .inr (.inr 402)), (1, .inr (.inr v1)), (2, .inl v2), (3, .inl v3), (4, .inl v4)], [], M131)
    refine mm_s1 rfl ?_
    refine nn_getr rfl (nn_c402 NN).1 (lf_7_0 L N (nn_c402 NN)) ?_
    refine mm_s1 rfl ?_
    refine mm_s1 rfl ?_
    obtain ⟨b138, h⟩ := h
    refine mm_s1 rfl ⟨nn_bd (na_7_0 NN (nn_c402 NN)) b138, ?_⟩
    show mm_Go (mm_run 9) mc_Reader_split _ (139, [(0, .inr (.inr 402)), (1, .inr (.inr v1)), (2, .inl v2), (3, .inl v3), (4, .inl v4)], [], (nn_ui M131 403 v3 0))
    have L : nn_L (nn_ui M131 403 v3 0) := nn_L_ua L (congrArg Prod.fst (na_7_0 NN (nn_c402 NN))) (by decide)
    have N : (nn_ui M131 403 v3 0).1 = n := N
    generalize e_M138 : (nn_ui M131 403 v3 0) = M138 at L N ⊢
    replace h := h _ e_M138.symm
    show mm_Go (mm_run 9) mc_Reader_split _ (139, [(0, .inr (.inr 402)), (1, .inr (.inr v1)), (2, .inl v2), (3, .inl v3), (4, .inl v4)], [], M138)
    exact mm_s1 rfl ⟨rfl, L, N, h⟩
  · show mm_Go (mm_run 9) mc_Reader_split _ (11, [(0, .inr (.inr 402)), (1, .inr (.inr v1)), (2, .inl v2), (3, .inl v3), (4, .inl v4)], [], M)
    replace c8 := Int.not_le.mp c8
    replace h := h.2 c8
    refine mm_s1 rfl ?_
    refine mm_s1 rfl ?_
    obtain ⟨b14, h⟩ := h
    refine mm_s1 rfl ⟨⟨C1.1, b14⟩, ?_⟩
    show mm_Go (mm_run 9) mc_Reader_split _ (15, [(0, .inr (.inr 402)), (1, .inr (.inr v1)), (2, .inl v2), (3, .inl v3), (4, .inl v4)], [.inl (nn_ri M v1 v4)], M)
    refine mm_s1 rfl ⟨trivial, ?_⟩
    refine nn_call (D := 1) (by decide) (h n L N) ?_
    intro v M15 q; clear L N h
    obtain ⟨r15, rfl, L, N, h⟩ := q
    show mm_Go (mm_run 9) mc_Reader_split _ (18, [(0, .inr (.inr 402)), (1, .inr (.inr v1)), (2, .inl v2), (3, .inl v3), (4, .inl v4)], [.inl r15], M15)
    refine mm_s1 rfl ?_
    show mm_Go (mm_run 9) mc_Reader_split _ (20, [(0, .inr (.inr 402)), (1, .inr (.inr v1)), (2, .inl v2), (3, .inl v3), (4, .inl v4), (5, .inl r15)], [], M15)
    refine mm_s1 rfl ?_
    refine mm_s1 rfl ⟨fun c22 => ?_, fun c22 => ?_⟩
    · show mm_Go (mm_run 9) mc_Reader_split _ (49, [(0, .inr (.inr 402)), (1, .inr (.inr v1)), (2, .inl v2), (3, .inl v3), (4, .inl v4), (5, .inl r15)], [], M15)
      replace h := h.1 c22
      refine mm_s1 rfl ?_
      refine mm_s1 rfl ?_
      show mm_Go (mm_run 9) mc_Reader_split _ (52, [(0, .inr (.inr 402)), (1, .inr (.inr v1)), (2, .inl v2), (3, .inl v3), (4, .inl v4), (5, .inl r15), (6, .inl 0)], [], M15)
      refine mm_s1 rfl ?_
      refine mm_s1 rfl ⟨fun c54 => ?_, fun c54 => ?_⟩
      · show mm_Go (mm_run 9) mc_Reader_split _ (119, [(0, .inr (.inr 402)), (1, .inr (.inr v1)), (2, .inl v2), (3, .inl v3), (4, .inl v4), (5, .inl r15), (6, .inl 0)], [], M15)
        replace h := h.1 c54
        refine mm_s1 rfl ?_
        show mm_Go (mm_run 9) mc_Reader_split _ (122, [(0, .inr (.inr 402)), (1, .inr (.inr v1)), (2, .inl v2), (3, .inl v3), (4, .inl (mm_w (v4 + 1))), (5, .inl r15), (6, .inl 0)], [], M15)
        refine mm_s1 rfl ?_
        show mm_Go (mm_run 9) mc_Reader_split _ (5, [(0, .inr (.inr 402)), (1, .inr (.inr v1)), (2, .inl v2), (3, .inl v3), (4, .inl (mm_w (v4 + 1))), (5, .inl r15), (6, .inl 0)], [], M15)
        exact nn_go_ext (nn_xc rfl (nn_xc rfl (nn_xc rfl (nn_xc rfl (nn_xc rfl nn_xn))))) (h n L N C1)
      · show mm_Go (mm_run 9) mc_Reader_split _ (57, [(0, .inr (.inr 402)), (1, .inr (.inr v1)), (2, .inl v2), (3, .inl v3), (4, .inl v4), (5, .inl r15), (6, .inl 0)], [], M15)
        replace h := h.2 c54
        refine mm_s1 rfl ?_
        refine mm_s1 rfl ⟨fun c => absurd c (show ¬ ((0 : Int) ≠ 0) by decide), fun _ => ?_⟩
        show mm_Go (mm_run 9) mc_Reader_split _ (62, [(0, .inr (.inr 402)), (1, .inr (.inr v1)), (2, .inl v2), (3, .inl v3), (4, .inl v4), (5, .inl r15), (6, .inl 0)], [], M15)
        refine mm_s1 rfl ?_
        refine mm_s1 rfl ?_
        refine mm_s1 rfl ?_
        refine mm_s1 rfl ?_
        show mm_Go (mm_run 9) mc_Reader_split _ (68, [(0, .inr (.inr 402)), (1, .inr (.inr v1)), (2, .inl v2), (3, .inl v3), (4, .inl v4), (5, .inl r15), (6, .inl 0), (7, .inl (mm_w (v4 + 1)))], [], M15)
        exact nn_go_ext (nn_xc rfl (nn_xc rfl (nn_xc rfl (nn_xc rfl (nn_xc rfl (nn_xc rfl (nn_xc rfl nn_xn))))))) (h n L N C1)
    · show mm_Go (mm_run 9) mc_Reader_split _ (25, [(0, .inr (.inr 402)), (1, .inr (.inr v1)), (2, .inl v2), (3, .inl v3), (4, .inl v4), (5, .inl r15)], [], M15)
      replace c22 := Int.not_le.mp c22
      replace h := h.2 c22
      refine mm_s1 rfl ?_
      refine mm_s1 rfl ?_
      refine mm_s1 rfl ⟨fun c28 => ?_, fun c28 => ?_⟩
      · show mm_Go (mm_run 9) mc_Reader_split _ (49, [(0, .inr (.inr 402)), (1, .inr (.inr v1)), (2, .inl v2), (3, .inl v3), (4, .inl v4), (5, .inl r15)], [], M15)
        replace h := h.1 c28
        refine mm_s1 rfl ?_
        refine mm_s1 rfl ?_
        show mm_Go (mm_run 9) mc_Reader_split _ (52, [(0, .inr (.inr 402)), (1, .inr (.inr v1)), (2, .inl v2), (3, .inl v3), (4, .inl v4), (5, .inl r15), (6, .inl 0)], [], M15)
        refine mm_s1 rfl ?_
        refine mm_s1 rfl ⟨fun c54 => ?_, fun c54 => ?_⟩
        · show mm_Go (mm_run 9) mc_Reader_split _ (119, [(0, .inr (.inr 402)), (1, .inr (.inr v1)), (2, .inl v2), (3, .inl v3), (4, .inl v4), (5, .inl r15), (6, .inl 0)], [], M15)
          replace h := h.1 c54
          refine mm_s1 rfl ?_
          show mm_Go (mm_run 9) mc_Reader_split _ (122, [(0, .inr (.inr 402)), (1, .inr (.inr v1)), (2, .inl v2), (3, .inl v3), (4, .inl (mm_w (v4 + 1))), (5, .inl r15), (6, .inl 0)], [], M15)
          refine mm_s1 rfl ?_
          show mm_Go (mm_run 9) mc_Reader_split _ (5, [(0, .inr (.inr 402)), (1, .inr (.inr v1)), (2, .inl v2), (3, .inl v3), (4, .inl (mm_w (v4 + 1))), (5, .inl r15), (6, .inl 0)], [], M15)
          exact nn_go_ext (nn_xc rfl (nn_xc rfl (nn_xc rfl (nn_xc rfl (nn_xc rfl nn_xn))))) (h n L N C1)
        · show mm_Go (mm_run 9) mc_Reader_split _ (57, [(0, .inr (.inr 402)), (1, .inr (.inr v1)), (2, .inl v2), (3, .inl v3), (4, .inl v4), (5, .inl r15), (6, .inl 0)], [], M15)
          replace h := h.2 c54
          refine mm_s1 rfl ?_
          refine mm_s1 rfl ⟨fun c => absurd c (show ¬ ((0 : Int) ≠ 0) by decide), fun _ => ?_⟩
          show mm_Go (mm_run 9) mc_Reader_split _ (62, [(0, .inr (.inr 402)), (1, .inr (.inr v1)), (2, .inl v2), (3, .inl v3), (4, .inl v4), (5, .inl r15), (6, .inl 0)], [], M15)
          refine mm_s1 rfl ?_
          refine mm_s1 rfl ?_
          refine mm_s1 rfl ?_
          refine mm_s1 rfl ?_
          show mm_Go (mm_run 9) mc_Reader_split _ (68, [(0, .inr (.inr 402)), (1, .inr (.inr v1)), (2, .inl v2), (3, .inl v3), (4, .inl v4), (5, .inl r15), (6, .inl 0), (7, .inl (mm_w (v4 + 1)))], [], M15)
          exact nn_go_ext (nn_xc rfl (nn_xc rfl (nn_xc rfl (nn_xc rfl (nn_xc rfl (nn_xc rfl (nn_xc rfl nn_xn))))))) (h n L N C1)
      · show mm_Go (mm_run 9) mc_Reader_split _ (31, [(0, .inr (.inr 402)), (1, .inr (.inr v1)), (2, .inl v2), (3, .inl v3), (4, .inl v4), (5, .inl r15)], [], M15)
        replace h := h.2 c28
        refine mm_s1 rfl ?_
        refine mm_s1 rfl ?_
        refine mm_s1 rfl ?_
        refine mm_s1 rfl ?_
        refine mm_s1 rfl ?_
        show mm_Go (mm_run 9) mc_Reader_split _ (38, [(0, .inr (.inr 402)), (1, .inr (.inr v1)), (2, .inl v2), (3, .inl v3), (4, .inl v4), (5, .inl r15)], [.inl (mm_w (v4 - 1)), .inr (.inr v1), .inl r15], M15)
        obtain ⟨b38, h⟩ := h
        refine mm_s1 rfl ⟨⟨C1.1, b38⟩, ?_⟩
        show mm_Go (mm_run 9) mc_Reader_split _ (39, [(0, .inr (.inr 402)), (1, .inr (.inr v1)), (2, .inl v2), (3, .inl v3), (4, .inl v4), (5, .inl r15)], [.inl (nn_ri M15 v1 (mm_w (v4 - 1))), .inl r15], M15)
        refine mm_s1 rfl ⟨trivial, ?_⟩
        refine nn_call (D := 1) (by decide) (h n L N) ?_
        intro v M39 q; clear L N h
        obtain ⟨r39, rfl, L, N, h⟩ := q
        show mm_Go (mm_run 9) mc_Reader_split _ (42, [(0, .inr (.inr 402)), (1, .inr (.inr v1)), (2, .inl v2), (3, .inl v3), (4, .inl v4), (5, .inl r15)], [.inl r39, .inl r15], M39)
        refine mm_s1 rfl ⟨fun c42 => ?_, fun c42 => ?_⟩
        · show mm_Go (mm_run 9) mc_Reader_split _ (49, [(0, .inr (.inr 402)), (1, .inr (.inr v1)), (2, .inl v2), (3, .inl v3), (4, .inl v4), (5, .inl r15)], [], M39)
          refine mm_s1 rfl ?_
          refine mm_s1 rfl ?_
          show mm_Go (mm_run 9) mc_Reader_split _ (52, [(0, .inr (.inr 402)), (1, .inr (.inr v1)), (2, .inl v2), (3, .inl v3), (4, .inl v4), (5, .inl r15), (6, .inl 0)], [], M39)
          refine mm_s1 rfl ?_
          refine mm_s1 rfl ⟨fun c54 => ?_, fun c54 => ?_⟩
          · show mm_Go (mm_run 9) mc_Reader_split _ (119, [(0, .inr (.inr 402)), (1, .inr (.inr v1)), (2, .inl v2), (3, .inl v3), (4, .inl v4), (5, .inl r15), (6, .inl 0)], [], M39)
            refine mm_s1 rfl ?_
            show mm_Go (mm_run 9) mc_Reader_split _ (122, [(0, .inr (.inr 402)), (1, .inr (.inr v1)), (2, .inl v2), (3, .inl v3), (4, .inl (mm_w (v4 + 1))), (5, .inl r15), (6, .inl 0)], [], M39)
            refine mm_s1 rfl ?_
            show mm_Go (mm_run 9) mc_Reader_split _ (5, [(0, .inr (.inr 402)), (1, .inr (.inr v1)), (2, .inl v2), (3, .inl v3), (4, .inl (mm_w (v4 + 1))), (5, .inl r15), (6, .inl 0)], [], M39)
            replace h := h.1 (Or.inr c54)
            exact nn_go_ext (nn_xc rfl (nn_xc rfl (nn_xc rfl (nn_xc rfl (nn_xc rfl nn_xn))))) (h n L N C1)
          · show mm_Go (mm_run 9) mc_Reader_split _ (57, [(0, .inr (.inr 402)), (1, .inr (.inr v1)), (2, .inl v2), (3, .inl v3), (4, .inl v4), (5, .inl r15), (6, .inl 0)], [], M39)
            refine mm_s1 rfl ?_
            refine mm_s1 rfl ⟨fun c => absurd c (show ¬ ((0 : Int) ≠ 0) by decide), fun _ => ?_⟩
            show mm_Go (mm_run 9) mc_Reader_split _ (62, [(0, .inr (.inr 402)), (1, .inr (.inr v1)), (2, .inl v2), (3, .inl v3), (4, .inl v4), (5, .inl r15), (6, .inl 0)], [], M39)
            refine mm_s1 rfl ?_
            refine mm_s1 rfl ?_
            refine mm_s1 rfl ?_
            refine mm_s1 rfl ?_
            show mm_Go (mm_run 9) mc_Reader_split _ (68, [(0, .inr (.inr 402)), (1, .inr (.inr v1)), (2, .inl v2), (3, .inl v3), (4, .inl v4), (5, .inl r15), (6, .inl 0), (7, .inl (mm_w (v4 + 1)))], [], M39)
            replace h := h.2 ⟨c42, c54⟩
            exact nn_go_ext (nn_xc rfl (nn_xc rfl (nn_xc rfl (nn_xc rfl (nn_xc rfl (nn_xc rfl (nn_xc rfl nn_xn))))))) (h n L N C1)
        · show mm_Go (mm_run 9) mc_Reader_split _ (45, [(0, .inr (.inr 402)), (1, .inr (.inr v1)), (2, .inl v2), (3, .inl v3), (4, .inl v4), (5, .inl r15)], [], M39)
          replace c42 := Decidable.not_not.mp c42
          refine mm_s1 rfl ?_
          refine mm_s1 rfl ?_
          show mm_Go (mm_run 9) mc_Reader_split _ (50, [(0, .inr (.inr 402)), (1, .inr (.inr v1)), (2, .inl v2), (3, .inl v3), (4, .inl v4), (5, .inl r15)], [.inl 1], M39)
          refine mm_s1 rfl ?_
          show mm_Go (mm_run 9) mc_Reader_split _ (52, [(0, .inr (.inr 402)), (1, .inr (.inr v1)), (2, .inl v2), (3, .inl v3), (4, .inl v4), (5, .inl r15), (6, .inl 1)], [], M39)
          refine mm_s1 rfl ?_
          refine mm_s1 rfl ⟨fun c54 => ?_, fun c54 => ?_⟩
          · show mm_Go (mm_run 9) mc_Reader_split _ (119, [(0, .inr (.inr 402)), (1, .inr (.inr v1)), (2, .inl v2), (3, .inl v3), (4, .inl v4), (5, .inl r15), (6, .inl 1)], [], M39)
            refine mm_s1 rfl ?_
            show mm_Go (mm_run 9) mc_Reader_split _ (122, [(0, .inr (.inr 402)), (1, .inr (.inr v1)), (2, .inl v2), (3, .inl v3), (4, .inl (mm_w (v4 + 1))), (5, .inl r15), (6, .inl 1)], [], M39)
            refine mm_s1 rfl ?_
            show mm_Go (mm_run 9) mc_Reader_split _ (5, [(0, .inr (.inr 402)), (1, .inr (.inr v1)), (2, .inl v2), (3, .inl v3), (4, .inl (mm_w (v4 + 1))), (5, .inl r15), (6, .inl 1)], [], M39)
            replace h := h.1 (Or.inl c42)
            exact nn_go_ext (nn_xc rfl (nn_xc rfl (nn_xc rfl (nn_xc rfl (nn_xc rfl nn_xn))))) (h n L N C1)
          · show mm_Go (mm_run 9) mc_Reader_split _ (57, [(0, .inr (.inr 402)), (1, .inr (.inr v1)), (2, .inl v2), (3, .inl v3), (4, .inl v4), (5, .inl r15), (6, .inl 1)], [], M39)
            refine mm_s1 rfl ?_
            refine mm_s1 rfl ⟨fun _ => ?_, fun c => absurd (show (1 : Int) ≠ 0 by decide) c⟩
            show mm_Go (mm_run 9) mc_Reader_split _ (119, [(0, .inr (.inr 402)), (1, .inr (.inr v1)), (2, .inl v2), (3, .inl v3), (4, .inl v4), (5, .inl r15), (6, .inl 1)], [], M39)
            refine mm_s1 rfl ?_
            show mm_Go (mm_run 9) mc_Reader_split _ (122, [(0, .inr (.inr 402)), (1, .inr (.inr v1)), (2, .inl v2), (3, .inl v3), (4, .inl (mm_w (v4 + 1))), (5, .inl r15), (6, .inl 1)], [], M39)
            refine mm_s1 rfl ?_
            show mm_Go (mm_run 9) mc_Reader_split _ (5, [(0, .inr (.inr 402)), (1, .inr (.inr v1)), (2, .inl v2), (3, .inl v3), (4, .inl (mm_w (v4 + 1))), (5, .inl r15), (6, .inl 1)], [], M39)
            replace h := h.1 (Or.inl c42)
            exact nn_go_ext (nn_xc rfl (nn_xc rfl (nn_xc rfl (nn_xc rfl (nn_xc rfl nn_xn))))) (h n L N C1)
set_option maxRecDepth 20000 in
theorem ng_Reader_split_68 (v1 : Nat) (v2 : Int) (v3 : Int) (v4 : Int) (v5 : Int) (v7 : Int) (M : mm_M) (R : mm_M → Prop) (h : (((v2 ≤ v7) → ((0 : Int) ≤ v3 ∧ v3 < (201 : Int))) ∧ ((v7 < v2) ∧ (v5 = 3) → ((0 : Int) ≤ v3 ∧ v3 < (201 : Int))) ∧ ((v7 < v2) ∧ (v5 ≠ 3) → ((0 : Int) ≤ v7 ∧ v7 < ((mm_kd v1).2 : Int))) ∧ ((v2 ≤ v7 ∨ (v5 = 3)) → (∀ M105 : mm_M, M105 = nn_ui M 404 v3 v4 → (nr_Reader_name v3 v5 v1 v7 M105 (fun M113 => nk_Reader_split_5 v1 v2 (mm_w (v3 + 1)) (mm_w (v4 + 1)) M113 R)))) ∧ ((v7 < v2 ∧ (v5 ≠ 3)) → (nr_Reader_sortOf (nn_ri M v1 v7) M (fun r86 M86 => ((v5 ≠ r86 → (((0 : Int) ≤ v3 ∧ v3 < (201 : Int)) ∧ (∀ M105 : mm_M, M105 = nn_ui M86 404 v3 v4 → (nr_Reader_name v3 v5 v1 v7 M105 (fun M113 => nk_Reader_split_5 v1 v2 (mm_w (v3 + 1)) (mm_w (v4 + 1)) M113 R))))) ∧ (v5 = r86 → nk_Reader_split_68 v1 v2 v3 v4 v5 (mm_w (v7 + 1)) M86 R))))))) : nk_Reader_split_68 v1 v2 v3 v4 v5 v7 M R := by
  intro n L N C1
  have NN := nn_L_n L N
  show mm_Go (mm_run 9) mc_Reader_split _ (68, [(0, .inr (.inr 402)), (1, .inr (.inr v1)), (2, .inl v2), (3, .inl v3), (4, .inl v4), (5, .inl v5), (7, .inl v7)], [], M)
  refine mm_s1 rfl ?_
  refine mm_s1 rfl ?_
  refine mm_s1 rfl ⟨fun c71 => ?_, fun c71 => ?_⟩
  · show mm_Go (mm_run 9) mc_Reader_split _ (98, [(0, .inr (.inr 402)), (1, .inr (.inr v1)), (2, .inl v2), (3, .inl v3), (4, .inl v4), (5, .inl v5), (7, .inl v7)], [], M)
    refine mm_s1 rfl ?_
    refine nn_getr rfl (nn_c402 NN).1 (lf_7_1 L N (nn_c402 NN)) ?_
    refine mm_s1 rfl ?_
    refine mm_s1 rfl ?_
    have b105 := h.1 c71
    replace h := h.2.2.2.1 (Or.inl c71)
    refine mm_s1 rfl ⟨nn_bd (na_7_1 NN (nn_c402 NN)) b105, ?_⟩
    show mm_Go (mm_run 9) mc_Reader_split _ (106, [(0, .inr (.inr 402)), (1, .inr (.inr v1)), (2, .inl v2), (3, .inl v3), (4, .inl v4), (5, .inl v5), (7, .inl v7)], [], (nn_ui M 404 v3 v4))
    have L : nn_L (nn_ui M 404 v3 v4) := nn_L_ua L (congrArg Prod.fst (na_7_1 NN (nn_c402 NN))) (by decide)
    have N : (nn_ui M 404 v3 v4).1 = n := N
    generalize e_M105 : (nn_ui M 404 v3 v4) = M105 at L N ⊢
    replace h := h _ e_M105.symm
    show mm_Go (mm_run 9) mc_Reader_split _ (106, [(0, .inr (.inr 402)), (1, .inr (.inr v1)), (2, .inl v2), (3, .inl v3), (4, .inl v4), (5, .inl v5), (7, .inl v7)], [], M105)
    refine mm_s1 rfl ?_
    refine mm_s1 rfl ?_
    refine mm_s1 rfl ?_
    refine mm_s1 rfl ?_
    refine mm_s1 rfl ?_
    show mm_Go (mm_run 9) mc_Reader_split _ (113, [(0, .inr (.inr 402)), (1, .inr (.inr v1)), (2, .inl v2), (3, .inl v3), (4, .inl v4), (5, .inl v5), (7, .inl v7)], [.inl v7, .inr (.inr v1), .inl v5, .inl v3, .inr (.inr 402)], M105)
    refine mm_s1 rfl ⟨(nn_c402 NN).1, ?_⟩
    refine nn_call (D := 9) (by decide) (h n L N C1) ?_
    intro v M113 q; clear L N h
    obtain ⟨rfl, L, N, h⟩ := q
    show mm_Go (mm_run 9) mc_Reader_split _ (116, [(0, .inr (.inr 402)), (1, .inr (.inr v1)), (2, .inl v2), (3, .inl v3), (4, .inl v4), (5, .inl v5), (7, .inl v7)], [], M113)
    refine mm_s1 rfl ?_
    show mm_Go (mm_run 9) mc_Reader_split _ (119, [(0, .inr (.inr 402)), (1, .inr (.inr v1)), (2, .inl v2), (3, .inl (mm_w (v3 + 1))), (4, .inl v4), (5, .inl v5), (7, .inl v7)], [], M113)
    refine mm_s1 rfl ?_
    show mm_Go (mm_run 9) mc_Reader_split _ (122, [(0, .inr (.inr 402)), (1, .inr (.inr v1)), (2, .inl v2), (3, .inl (mm_w (v3 + 1))), (4, .inl (mm_w (v4 + 1))), (5, .inl v5), (7, .inl v7)], [], M113)
    refine mm_s1 rfl ?_
    show mm_Go (mm_run 9) mc_Reader_split _ (5, [(0, .inr (.inr 402)), (1, .inr (.inr v1)), (2, .inl v2), (3, .inl (mm_w (v3 + 1))), (4, .inl (mm_w (v4 + 1))), (5, .inl v5), (7, .inl v7)], [], M113)
    exact nn_go_ext (nn_xc rfl (nn_xc rfl (nn_xc rfl (nn_xc rfl (nn_xc rfl nn_xn))))) (h n L N C1)
  · show mm_Go (mm_run 9) mc_Reader_split _ (74, [(0, .inr (.inr 402)), (1, .inr (.inr v1)), (2, .inl v2), (3, .inl v3), (4, .inl v4), (5, .inl v5), (7, .inl v7)], [], M)
    replace c71 := Int.not_le.mp c71
    refine mm_s1 rfl ?_
    refine mm_s1 rfl ?_
    refine mm_s1 rfl ⟨fun c77 => ?_, fun c77 => ?_⟩
    · show mm_Go (mm_run 9) mc_Reader_split _ (98, [(0, .inr (.inr 402)), (1, .inr (.inr v1)), (2, .inl v2), (3, .inl v3), (4, .inl v4), (5, .inl v5), (7, .inl v7)], [], M)
      refine mm_s1 rfl ?_
      refine nn_getr rfl (nn_c402 NN).1 (lf_7_1 L N (nn_c402 NN)) ?_
      refine mm_s1 rfl ?_
      refine mm_s1 rfl ?_
      have b105 := h.2.1 ⟨c71, c77⟩
      replace h := h.2.2.2.1 (Or.inr c77)
      refine mm_s1 rfl ⟨nn_bd (na_7_1 NN (nn_c402 NN)) b105, ?_⟩
      show mm_Go (mm_run 9) mc_Reader_split _ (106, [(0, .inr (.inr 402)), (1, .inr (.inr v1)), (2, .inl v2), (3, .inl v3), (4, .inl v4), (5, .inl v5), (7, .inl v7)], [], (nn_ui M 404 v3 v4))
      have L : nn_L (nn_ui M 404 v3 v4) := nn_L_ua L (congrArg Prod.fst (na_7_1 NN (nn_c402 NN))) (by decide)
      have N : (nn_ui M 404 v3 v4).1 = n := N
      generalize e_M105 : (nn_ui M 404 v3 v4) = M105 at L N ⊢
      replace h := h _ e_M105.symm
      show mm_Go (mm_run 9) mc_Reader_split _ (106, [(0, .inr (.inr 402)), (1, .inr (.inr v1)), (2, .inl v2), (3, .inl v3), (4, .inl v4), (5, .inl v5), (7, .inl v7)], [], M105)
      refine mm_s1 rfl ?_
      refine mm_s1 rfl ?_
      refine mm_s1 rfl ?_
      refine mm_s1 rfl ?_
      refine mm_s1 rfl ?_
      show mm_Go (mm_run 9) mc_Reader_split _ (113, [(0, .inr (.inr 402)), (1, .inr (.inr v1)), (2, .inl v2), (3, .inl v3), (4, .inl v4), (5, .inl v5), (7, .inl v7)], [.inl v7, .inr (.inr v1), .inl v5, .inl v3, .inr (.inr 402)], M105)
      refine mm_s1 rfl ⟨(nn_c402 NN).1, ?_⟩
      refine nn_call (D := 9) (by decide) (h n L N C1) ?_
      intro v M113 q; clear L N h
      obtain ⟨rfl, L, N, h⟩ := q
      show mm_Go (mm_run 9) mc_Reader_split _ (116, [(0, .inr (.inr 402)), (1, .inr (.inr v1)), (2, .inl v2), (3, .inl v3), (4, .inl v4), (5, .inl v5), (7, .inl v7)], [], M113)
      refine mm_s1 rfl ?_
      show mm_Go (mm_run 9) mc_Reader_split _ (119, [(0, .inr (.inr 402)), (1, .inr (.inr v1)), (2, .inl v2), (3, .inl (mm_w (v3 + 1))), (4, .inl v4), (5, .inl v5), (7, .inl v7)], [], M113)
      refine mm_s1 rfl ?_
      show mm_Go (mm_run 9) mc_Reader_split _ (122, [(0, .inr (.inr 402)), (1, .inr (.inr v1)), (2, .inl v2), (3, .inl (mm_w (v3 + 1))), (4, .inl (mm_w (v4 + 1))), (5, .inl v5), (7, .inl v7)], [], M113)
      refine mm_s1 rfl ?_
      show mm_Go (mm_run 9) mc_Reader_split _ (5, [(0, .inr (.inr 402)), (1, .inr (.inr v1)), (2, .inl v2), (3, .inl (mm_w (v3 + 1))), (4, .inl (mm_w (v4 + 1))), (5, .inl v5), (7, .inl v7)], [], M113)
      exact nn_go_ext (nn_xc rfl (nn_xc rfl (nn_xc rfl (nn_xc rfl (nn_xc rfl nn_xn))))) (h n L N C1)
    · show mm_Go (mm_run 9) mc_Reader_split _ (80, [(0, .inr (.inr 402)), (1, .inr (.inr v1)), (2, .inl v2), (3, .inl v3), (4, .inl v4), (5, .inl v5), (7, .inl v7)], [], M)
      refine mm_s1 rfl ?_
      refine mm_s1 rfl ?_
      refine mm_s1 rfl ?_
      have b85 := h.2.2.1 ⟨c71, c77⟩
      refine mm_s1 rfl ⟨⟨C1.1, b85⟩, ?_⟩
      show mm_Go (mm_run 9) mc_Reader_split _ (86, [(0, .inr (.inr 402)), (1, .inr (.inr v1)), (2, .inl v2), (3, .inl v3), (4, .inl v4), (5, .inl v5), (7, .inl v7)], [.inl (nn_ri M v1 v7), .inl v5], M)
      replace h := h.2.2.2.2 ⟨c71, c77⟩
      refine mm_s1 rfl ⟨trivial, ?_⟩
      refine nn_call (D := 1) (by decide) (h n L N) ?_
      intro v M86 q; clear L N h
      obtain ⟨r86, rfl, L, N, h⟩ := q
      show mm_Go (mm_run 9) mc_Reader_split _ (89, [(0, .inr (.inr 402)), (1, .inr (.inr v1)), (2, .inl v2), (3, .inl v3), (4, .inl v4), (5, .inl v5), (7, .inl v7)], [.inl r86, .inl v5], M86)
      refine mm_s1 rfl ⟨fun c89 => ?_, fun c89 => ?_⟩
      · show mm_Go (mm_run 9) mc_Reader_split _ (98, [(0, .inr (.inr 402)), (1, .inr (.inr v1)), (2, .inl v2), (3, .inl v3), (4, .inl v4), (5, .inl v5), (7, .inl v7)], [], M86)
        replace h := h.1 c89
        refine mm_s1 rfl ?_
        refine nn_getr rfl (nn_c402 NN).1 (lf_7_1 L N (nn_c402 NN)) ?_
        refine mm_s1 rfl ?_
        refine mm_s1 rfl ?_
        obtain ⟨b105, h⟩ := h
        refine mm_s1 rfl ⟨nn_bd (na_7_1 NN (nn_c402 NN)) b105, ?_⟩
        show mm_Go (mm_run 9) mc_Reader_split _ (106, [(0, .inr (.inr 402)), (1, .inr (.inr v1)), (2, .inl v2), (3, .inl v3), (4, .inl v4), (5, .inl v5), (7, .inl v7)], [], (nn_ui M86 404 v3 v4))
        have L : nn_L (nn_ui M86 404 v3 v4) := nn_L_ua L (congrArg Prod.fst (na_7_1 NN (nn_c402 NN))) (by decide)
        have N : (nn_ui M86 404 v3 v4).1 = n := N
        generalize e_M105 : (nn_ui M86 404 v3 v4) = M105 at L N ⊢
        replace h := h _ e_M105.symm
        show mm_Go (mm_run 9) mc_Reader_split _ (106, [(0, .inr (.inr 402)), (1, .inr (.inr v1)), (2, .inl v2), (3, .inl v3), (4, .inl v4), (5, .inl v5), (7, .inl v7)], [], M105)
        refine mm_s1 rfl ?_
        refine mm_s1 rfl ?_
        refine mm_s1 rfl ?_
        refine mm_s1 rfl ?_
        refine mm_s1 rfl ?_
        show mm_Go (mm_run 9) mc_Reader_split _ (113, [(0, .inr (.inr 402)), (1, .inr (.inr v1)), (2, .inl v2), (3, .inl v3), (4, .inl v4), (5, .inl v5), (7, .inl v7)], [.inl v7, .inr (.inr v1), .inl v5, .inl v3, .inr (.inr 402)], M105)
        refine mm_s1 rfl ⟨(nn_c402 NN).1, ?_⟩
        refine nn_call (D := 9) (by decide) (h n L N C1) ?_
        intro v M113 q; clear L N h
        obtain ⟨rfl, L, N, h⟩ := q
        show mm_Go (mm_run 9) mc_Reader_split _ (116, [(0, .inr (.inr 402)), (1, .inr (.inr v1)), (2, .inl v2), (3, .inl v3), (4, .inl v4), (5, .inl v5), (7, .inl v7)], [], M113)
        refine mm_s1 rfl ?_
        show mm_Go (mm_run 9) mc_Reader_split _ (119, [(0, .inr (.inr 402)), (1, .inr (.inr v1)), (2, .inl v2), (3, .inl (mm_w (v3 + 1))), (4, .inl v4), (5, .inl v5), (7, .inl v7)], [], M113)
        refine mm_s1 rfl ?_
        show mm_Go (mm_run 9) mc_Reader_split _ (122, [(0, .inr (.inr 402)), (1, .inr (.inr v1)), (2, .inl v2), (3, .inl (mm_w (v3 + 1))), (4, .inl (mm_w (v4 + 1))), (5, .inl v5), (7, .inl v7)], [], M113)
        refine mm_s1 rfl ?_
        show mm_Go (mm_run 9) mc_Reader_split _ (5, [(0, .inr (.inr 402)), (1, .inr (.inr v1)), (2, .inl v2), (3, .inl (mm_w (v3 + 1))), (4, .inl (mm_w (v4 + 1))), (5, .inl v5), (7, .inl v7)], [], M113)
        exact nn_go_ext (nn_xc rfl (nn_xc rfl (nn_xc rfl (nn_xc rfl (nn_xc rfl nn_xn))))) (h n L N C1)
      · show mm_Go (mm_run 9) mc_Reader_split _ (92, [(0, .inr (.inr 402)), (1, .inr (.inr v1)), (2, .inl v2), (3, .inl v3), (4, .inl v4), (5, .inl v5), (7, .inl v7)], [], M86)
        replace c89 := Decidable.not_not.mp c89
        replace h := h.2 c89
        refine mm_s1 rfl ?_
        show mm_Go (mm_run 9) mc_Reader_split _ (95, [(0, .inr (.inr 402)), (1, .inr (.inr v1)), (2, .inl v2), (3, .inl v3), (4, .inl v4), (5, .inl v5), (7, .inl (mm_w (v7 + 1)))], [], M86)
        refine mm_s1 rfl ?_
        show mm_Go (mm_run 9) mc_Reader_split _ (68, [(0, .inr (.inr 402)), (1, .inr (.inr v1)), (2, .inl v2), (3, .inl v3), (4, .inl v4), (5, .inl v5), (7, .inl (mm_w (v7 + 1)))], [], M86)
        exact nn_go_ext (nn_xc rfl (nn_xc rfl (nn_xc rfl (nn_xc rfl (nn_xc rfl (nn_xc rfl (nn_xc rfl nn_xn))))))) (h n L N C1)
