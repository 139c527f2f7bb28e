/-! methods walked by program (wip/whole/dec.py) -/
def nr_M_ask (v1 : Int) (v2 : Int) (v3 : Int) (v4 : Int) (M : mm_M) (R : Int → mm_M → Prop) : Prop := ∀ n, nn_L M → M.1 = n → mm_run 6 mi_M_ask [.inr (.inr 407), .inl v1, .inl v2, .inl v3, .inl v4] M (nw_I n R)
set_option maxRecDepth 20000 in
theorem ng_M_ask (v1 : Int) (v2 : Int) (v3 : Int) (v4 : Int) (M : mm_M) (R : Int → mm_M → Prop) (h : ((nc_M_isBuilt v1 M) ∧ (((nf_M_isBuilt v1 M) ≠ 0 → (nr_M_costs v1 v2 v3 M (fun M15 => (nr_M_asks 0 v1 v2 v3 M15 (fun r23 M23 => ((v4 ≠ (-1) → (((nf_M_isIn v4 0 (mm_w (r23 - 1))) = 0 → R (-2) M23) ∧ ((nf_M_isIn v4 0 (mm_w (r23 - 1))) ≠ 0 → (((0 : Int) ≤ v4 ∧ v4 < (32 : Int)) ∧ R (nn_ri M23 410 v4) M23)))) ∧ (v4 = (-1) → R r23 M23))))))) ∧ ((nf_M_isBuilt v1 M) = 0 → R (-2) M)))) : nr_M_ask v1 v2 v3 v4 M R := by
  intro n L N 
  have NN := nn_L_n L N
  show mm_Go (mm_run 5) mc_M_ask _ (0, [(0, .inr (.inr 407)), (1, .inl v1), (2, .inl v2), (3, .inl v3), (4, .inl v4)], [], M)
  refine mm_s1 rfl ?_
  refine mm_s1 rfl ?_
  obtain ⟨b2, h⟩ := h
  refine mm_s1 rfl ⟨(nn_c407 NN).1, ?_⟩
  refine np_M_isBuilt (by decide) L N b2 ?_
  show mm_Go (mm_run 5) mc_M_ask _ (5, [(0, .inr (.inr 407)), (1, .inl v1), (2, .inl v2), (3, .inl v3), (4, .inl v4)], [.inl (nf_M_isBuilt v1 M)], M)
  refine mm_s1 rfl ⟨fun c5 => ?_, fun c5 => ?_⟩
  · show mm_Go (mm_run 5) mc_M_ask _ (11, [(0, .inr (.inr 407)), (1, .inl v1), (2, .inl v2), (3, .inl v3), (4, .inl v4)], [], M)
    replace h := h.1 c5
    refine mm_s1 rfl ?_
    refine mm_s1 rfl ?_
    refine mm_s1 rfl ?_
    refine mm_s1 rfl ?_
    refine mm_s1 rfl ⟨(nn_c407 NN).1, ?_⟩
    refine nn_call (D := 5) (by decide) (h n L N) ?_
    intro v M15 q; clear L N h
    obtain ⟨rfl, L, N, h⟩ := q
    show mm_Go (mm_run 5) mc_M_ask _ (18, [(0, .inr (.inr 407)), (1, .inl v1), (2, .inl v2), (3, .inl v3), (4, .inl v4)], [], M15)
    refine mm_s1 rfl ?_
    refine mm_s1 rfl ?_
    refine mm_s1 rfl ?_
    refine mm_s1 rfl ?_
    refine mm_s1 rfl ?_
    show mm_Go (mm_run 5) mc_M_ask _ (23, [(0, .inr (.inr 407)), (1, .inl v1), (2, .inl v2), (3, .inl v3), (4, .inl v4)], [.inl v3, .inl v2, .inl v1, .inl 0, .inr (.inr 407)], M15)
    refine mm_s1 rfl ⟨(nn_c407 NN).1, ?_⟩
    refine nn_call (D := 5) (by decide) (h n L N) ?_
    intro v M23 q; clear L N h
    obtain ⟨r23, rfl, L, N, h⟩ := q
    show mm_Go (mm_run 5) mc_M_ask _ (26, [(0, .inr (.inr 407)), (1, .inl v1), (2, .inl v2), (3, .inl v3), (4, .inl v4)], [.inl r23], M23)
    refine mm_s1 rfl ?_
    show mm_Go (mm_run 5) mc_M_ask _ (28, [(0, .inr (.inr 407)), (1, .inl v1), (2, .inl v2), (3, .inl v3), (4, .inl v4), (5, .inl r23)], [], M23)
    refine mm_s1 rfl ?_
    refine mm_s1 rfl ?_
    refine mm_s1 rfl ⟨fun c31 => ?_, fun c31 => ?_⟩
    · show mm_Go (mm_run 5) mc_M_ask _ (39, [(0, .inr (.inr 407)), (1, .inl v1), (2, .inl v2), (3, .inl v3), (4, .inl v4), (5, .inl r23)], [], M23)
      replace h := h.1 c31
      refine mm_s1 rfl ?_
      refine mm_s1 rfl ?_
      refine mm_s1 rfl ?_
      refine mm_s1 rfl ?_
      refine mm_s1 rfl ?_
      show mm_Go (mm_run 5) mc_M_ask _ (46, [(0, .inr (.inr 407)), (1, .inl v1), (2, .inl v2), (3, .inl v3), (4, .inl v4), (5, .inl r23)], [.inl (mm_w (r23 - 1)), .inl 0, .inl v4], M23)
      refine mm_s1 rfl ⟨trivial, ?_⟩
      refine np_M_isIn (by decide) L N ?_
      show mm_Go (mm_run 5) mc_M_ask _ (49, [(0, .inr (.inr 407)), (1, .inl v1), (2, .inl v2), (3, .inl v3), (4, .inl v4), (5, .inl r23)], [.inl (nf_M_isIn v4 0 (mm_w (r23 - 1)))], M23)
      refine mm_s1 rfl ⟨fun c49 => ?_, fun c49 => ?_⟩
      · show mm_Go (mm_run 5) mc_M_ask _ (62, [(0, .inr (.inr 407)), (1, .inl v1), (2, .inl v2), (3, .inl v3), (4, .inl v4), (5, .inl r23)], [], M23)
        replace h := h.1 c49
        refine mm_s1 rfl ?_
        exact mm_s1 rfl ⟨_, rfl, L, N, h⟩
      · show mm_Go (mm_run 5) mc_M_ask _ (52, [(0, .inr (.inr 407)), (1, .inl v1), (2, .inl v2), (3, .inl v3), (4, .inl v4), (5, .inl r23)], [], M23)
        replace h := h.2 c49
        refine mm_s1 rfl ?_
        refine nn_getr rfl (nn_c407 NN).1 (lf_13_10 L N (nn_c407 NN)) ?_
        refine mm_s1 rfl ?_
        obtain ⟨b58, h⟩ := h
        refine mm_s1 rfl ⟨nn_bd (na_13_10 NN (nn_c407 NN)) b58, ?_⟩
        show mm_Go (mm_run 5) mc_M_ask _ (59, [(0, .inr (.inr 407)), (1, .inl v1), (2, .inl v2), (3, .inl v3), (4, .inl v4), (5, .inl r23)], [.inl (nn_ri M23 410 v4)], M23)
        refine mm_s1 rfl ?_
        show mm_Go (mm_run 5) mc_M_ask _ (64, [(0, .inr (.inr 407)), (1, .inl v1), (2, .inl v2), (3, .inl v3), (4, .inl v4), (5, .inl r23)], [.inl (nn_ri M23 410 v4)], M23)
        exact mm_s1 rfl ⟨_, rfl, L, N, h⟩
    · show mm_Go (mm_run 5) mc_M_ask _ (34, [(0, .inr (.inr 407)), (1, .inl v1), (2, .inl v2), (3, .inl v3), (4, .inl v4), (5, .inl r23)], [], M23)
      replace c31 := Decidable.not_not.mp c31
      replace h := h.2 c31
      refine mm_s1 rfl ?_
      refine mm_s1 rfl ?_
      show mm_Go (mm_run 5) mc_M_ask _ (64, [(0, .inr (.inr 407)), (1, .inl v1), (2, .inl v2), (3, .inl v3), (4, .inl v4), (5, .inl r23)], [.inl r23], M23)
      exact mm_s1 rfl ⟨_, rfl, L, N, h⟩
  · show mm_Go (mm_run 5) mc_M_ask _ (8, [(0, .inr (.inr 407)), (1, .inl v1), (2, .inl v2), (3, .inl v3), (4, .inl v4)], [], M)
    replace c5 := Decidable.not_not.mp c5
    replace h := h.2 c5
    refine mm_s1 rfl ?_
    exact mm_s1 rfl ⟨_, rfl, L, N, h⟩
def nr_M_both (v1 : Int) (v2 : Int) (v3 : Int) (v4 : Int) (v5 : Int) (M : mm_M) (R : Int → mm_M → Prop) : Prop := ∀ n, nn_L M → M.1 = n → mm_run 6 mi_M_both [.inr (.inr 407), .inl v1, .inl v2, .inl v3, .inl v4, .inl v5] M (nw_I n R)
def nk_M_both_25 (v1 : Int) (v2 : Int) (v3 : Int) (v4 : Int) (v5 : Int) (v6 : Int) (v7 : Int) (M : mm_M) (R : Int → mm_M → Prop) : Prop := ∀ n, nn_L M → M.1 = n → mm_Go (mm_run 5) mc_M_both (nw_I n R) (25, [(0, .inr (.inr 407)), (1, .inl v1), (2, .inl v2), (3, .inl v3), (4, .inl v4), (5, .inl v5), (6, .inl v6), (7, .inl v7)], [], M)
set_option maxRecDepth 20000 in
theorem ng_M_both (v1 : Int) (v2 : Int) (v3 : Int) (v4 : Int) (v5 : Int) (M : mm_M) (R : Int → mm_M → Prop) (h : ((nc_M_isBuilt v1 M) ∧ ((((nf_M_isBuilt v1 M) ≠ 0) → (nc_M_isBuilt v3 M)) ∧ (((nf_M_isBuilt v1 M) = 0 ∨ ((nf_M_isBuilt v3 M) = 0)) → R (-2) M) ∧ (((nf_M_isBuilt v1 M) ≠ 0 ∧ ((nf_M_isBuilt v3 M) ≠ 0)) → nk_M_both_25 v1 v2 v3 v4 v5 0 0 M R)))) : nr_M_both v1 v2 v3 v4 v5 M R := by
  intro n L N 
  have NN := nn_L_n L N
  show mm_Go (mm_run 5) mc_M_both _ (0, [(0, .inr (.inr 407)), (1, .inl v1), (2, .inl v2), (3, .inl v3), (4, .inl v4), (5, .inl v5)], [], M)
  refine mm_s1 rfl ?_
  refine mm_s1 rfl ?_
  obtain ⟨b2, h⟩ := h
  refine mm_s1 rfl ⟨(nn_c407 NN).1, ?_⟩
  refine np_M_isBuilt (by decide) L N b2 ?_
  show mm_Go (mm_run 5) mc_M_both _ (5, [(0, .inr (.inr 407)), (1, .inl v1), (2, .inl v2), (3, .inl v3), (4, .inl v4), (5, .inl v5)], [.inl (nf_M_isBuilt v1 M)], M)
  refine mm_s1 rfl ⟨fun c5 => ?_, fun c5 => ?_⟩
  · show mm_Go (mm_run 5) mc_M_both _ (16, [(0, .inr (.inr 407)), (1, .inl v1), (2, .inl v2), (3, .inl v3), (4, .inl v4), (5, .inl v5)], [], M)
    refine mm_s1 rfl ?_
    replace h := h.2.1 (Or.inl c5)
    exact mm_s1 rfl ⟨_, rfl, L, N, h⟩
  · show mm_Go (mm_run 5) mc_M_both _ (8, [(0, .inr (.inr 407)), (1, .inl v1), (2, .inl v2), (3, .inl v3), (4, .inl v4), (5, .inl v5)], [], M)
    refine mm_s1 rfl ?_
    refine mm_s1 rfl ?_
    have b10 := h.1 c5
    refine mm_s1 rfl ⟨(nn_c407 NN).1, ?_⟩
    refine np_M_isBuilt (by decide) L N b10 ?_
    show mm_Go (mm_run 5) mc_M_both _ (13, [(0, .inr (.inr 407)), (1, .inl v1), (2, .inl v2), (3, .inl v3), (4, .inl v4), (5, .inl v5)], [.inl (nf_M_isBuilt v3 M)], M)
    refine mm_s1 rfl ⟨fun c13 => ?_, fun c13 => ?_⟩
    · show mm_Go (mm_run 5) mc_M_both _ (19, [(0, .inr (.inr 407)), (1, .inl v1), (2, .inl v2), (3, .inl v3), (4, .inl v4), (5, .inl v5)], [], M)
      refine mm_s1 rfl ?_
      refine mm_s1 rfl ?_
      show mm_Go (mm_run 5) mc_M_both _ (22, [(0, .inr (.inr 407)), (1, .inl v1), (2, .inl v2), (3, .inl v3), (4, .inl v4), (5, .inl v5), (6, .inl 0)], [], M)
      refine mm_s1 rfl ?_
      refine mm_s1 rfl ?_
      show mm_Go (mm_run 5) mc_M_both _ (25, [(0, .inr (.inr 407)), (1, .inl v1), (2, .inl v2), (3, .inl v3), (4, .inl v4), (5, .inl v5), (6, .inl 0), (7, .inl 0)], [], M)
      replace h := h.2.2 ⟨c5, c13⟩
      exact nn_go_ext (nn_xc rfl (nn_xc rfl (nn_xc rfl (nn_xc rfl (nn_xc rfl (nn_xc rfl (nn_xc rfl (nn_xc rfl nn_xn)))))))) (h n L N)
    · show mm_Go (mm_run 5) mc_M_both _ (16, [(0, .inr (.inr 407)), (1, .inl v1), (2, .inl v2), (3, .inl v3), (4, .inl v4), (5, .inl v5)], [], M)
      replace c13 := Decidable.not_not.mp c13
      refine mm_s1 rfl ?_
      replace h := h.2.1 (Or.inr c13)
      exact mm_s1 rfl ⟨_, rfl, L, N, h⟩
set_option maxRecDepth 20000 in
theorem ng_M_both_25 (v1 : Int) (v2 : Int) (v3 : Int) (v4 : Int) (v5 : Int) (v6 : Int) (v7 : Int) (M : mm_M) (R : Int → mm_M → Prop) (h : ((32 ≤ v7 → ((v5 ≠ (-1) → R (-2) M) ∧ (v5 = (-1) → R v6 M))) ∧ (v7 < 32 → (nr_M_isWith v1 v7 v2 M (fun r37 M37 => ((r37 = 0 → nk_M_both_25 v1 v2 v3 v4 v5 v6 (mm_w (v7 + 1)) M37 R) ∧ (r37 ≠ 0 → (nr_M_isWith v3 v7 v4 M37 (fun r49 M49 => ((r49 ≠ 0 → ((v6 ≠ v5 → nk_M_both_25 v1 v2 v3 v4 v5 (mm_w (v6 + 1)) (mm_w (v7 + 1)) M49 R) ∧ (v6 = v5 → R v7 M49))) ∧ (r49 = 0 → nk_M_both_25 v1 v2 v3 v4 v5 v6 (mm_w (v7 + 1)) M49 R))))))))))) : nk_M_both_25 v1 v2 v3 v4 v5 v6 v7 M R := by
  intro n L N 
  have NN := nn_L_n L N
  show mm_Go (mm_run 5) mc_M_both _ (25, [(0, .inr (.inr 407)), (1, .inl v1), (2, .inl v2), (3, .inl v3), (4, .inl v4), (5, .inl v5), (6, .inl v6), (7, .inl v7)], [], M)
  refine mm_s1 rfl ?_
  refine mm_s1 rfl ?_
  refine mm_s1 rfl ⟨fun c29 => ?_, fun c29 => ?_⟩
  · show mm_Go (mm_run 5) mc_M_both _ (77, [(0, .inr (.inr 407)), (1, .inl v1), (2, .inl v2), (3, .inl v3), (4, .inl v4), (5, .inl v5), (6, .inl v6), (7, .inl v7)], [], M)
    replace h := h.1 c29
    refine mm_s1 rfl ?_
    refine mm_s1 rfl ?_
    refine mm_s1 rfl ⟨fun c80 => ?_, fun c80 => ?_⟩
    · show mm_Go (mm_run 5) mc_M_both _ (88, [(0, .inr (.inr 407)), (1, .inl v1), (2, .inl v2), (3, .inl v3), (4, .inl v4), (5, .inl v5), (6, .inl v6), (7, .inl v7)], [], M)
      replace h := h.1 c80
      refine mm_s1 rfl ?_
      exact mm_s1 rfl ⟨_, rfl, L, N, h⟩
    · show mm_Go (mm_run 5) mc_M_both _ (83, [(0, .inr (.inr 407)), (1, .inl v1), (2, .inl v2), (3, .inl v3), (4, .inl v4), (5, .inl v5), (6, .inl v6), (7, .inl v7)], [], M)
      replace c80 := Decidable.not_not.mp c80
      replace h := h.2 c80
      refine mm_s1 rfl ?_
      refine mm_s1 rfl ?_
      show mm_Go (mm_run 5) mc_M_both _ (90, [(0, .inr (.inr 407)), (1, .inl v1), (2, .inl v2), (3, .inl v3), (4, .inl v4), (5, .inl v5), (6, .inl v6), (7, .inl v7)], [.inl v6], M)
      exact mm_s1 rfl ⟨_, rfl, L, N, h⟩
  · show mm_Go (mm_run 5) mc_M_both _ (32, [(0, .inr (.inr 407)), (1, .inl v1), (2, .inl v2), (3, .inl v3), (4, .inl v4), (5, .inl v5), (6, .inl v6), (7, .inl v7)], [], M)
    replace c29 := Int.not_le.mp c29
    replace h := h.2 c29
    refine mm_s1 rfl ?_
    refine mm_s1 rfl ?_
    refine mm_s1 rfl ?_
    refine mm_s1 rfl ?_
    refine mm_s1 rfl ⟨(nn_c407 NN).1, ?_⟩
    refine nn_call (D := 5) (by decide) (h n L N) ?_
    intro v M37 q; clear L N h
    obtain ⟨r37, rfl, q37, L, N, h⟩ := q
    show mm_Go (mm_run 5) mc_M_both _ (40, [(0, .inr (.inr 407)), (1, .inl v1), (2, .inl v2), (3, .inl v3), (4, .inl v4), (5, .inl v5), (6, .inl v6), (7, .inl v7)], [.inl r37], M37)
    refine mm_s1 rfl ⟨fun c40 => ?_, fun c40 => ?_⟩
    · show mm_Go (mm_run 5) mc_M_both _ (71, [(0, .inr (.inr 407)), (1, .inl v1), (2, .inl v2), (3, .inl v3), (4, .inl v4), (5, .inl v5), (6, .inl v6), (7, .inl v7)], [], M37)
      replace h := h.1 c40
      refine mm_s1 rfl ?_
      show mm_Go (mm_run 5) mc_M_both _ (74, [(0, .inr (.inr 407)), (1, .inl v1), (2, .inl v2), (3, .inl v3), (4, .inl v4), (5, .inl v5), (6, .inl v6), (7, .inl (mm_w (v7 + 1)))], [], M37)
      refine mm_s1 rfl ?_
      show mm_Go (mm_run 5) mc_M_both _ (25, [(0, .inr (.inr 407)), (1, .inl v1), (2, .inl v2), (3, .inl v3), (4, .inl v4), (5, .inl v5), (6, .inl v6), (7, .inl (mm_w (v7 + 1)))], [], M37)
      exact nn_go_ext (nn_xc rfl (nn_xc rfl (nn_xc rfl (nn_xc rfl (nn_xc rfl (nn_xc rfl (nn_xc rfl (nn_xc rfl nn_xn)))))))) (h n L N)
    · show mm_Go (mm_run 5) mc_M_both _ (43, [(0, .inr (.inr 407)), (1, .inl v1), (2, .inl v2), (3, .inl v3), (4, .inl v4), (5, .inl v5), (6, .inl v6), (7, .inl v7)], [], M37)
      replace h := h.2 c40
      refine mm_s1 rfl ?_
      refine mm_s1 rfl ?_
      refine mm_s1 rfl ?_
      refine mm_s1 rfl ?_
      refine mm_s1 rfl ⟨(nn_c407 NN).1, ?_⟩
      refine nn_call (D := 5) (by decide) (h n L N) ?_
      intro v M49 q; clear L N h
      obtain ⟨r49, rfl, q49, L, N, h⟩ := q
      show mm_Go (mm_run 5) mc_M_both _ (52, [(0, .inr (.inr 407)), (1, .inl v1), (2, .inl v2), (3, .inl v3), (4, .inl v4), (5, .inl v5), (6, .inl v6), (7, .inl v7)], [.inl r49], M49)
      refine mm_s1 rfl ⟨fun c52 => ?_, fun c52 => ?_⟩
      · show mm_Go (mm_run 5) mc_M_both _ (58, [(0, .inr (.inr 407)), (1, .inl v1), (2, .inl v2), (3, .inl v3), (4, .inl v4), (5, .inl v5), (6, .inl v6), (7, .inl v7)], [], M49)
        replace h := h.1 c52
        refine mm_s1 rfl ?_
        refine mm_s1 rfl ?_
        refine mm_s1 rfl ⟨fun c62 => ?_, fun c62 => ?_⟩
        · show mm_Go (mm_run 5) mc_M_both _ (68, [(0, .inr (.inr 407)), (1, .inl v1), (2, .inl v2), (3, .inl v3), (4, .inl v4), (5, .inl v5), (6, .inl v6), (7, .inl v7)], [], M49)
          replace h := h.1 c62
          refine mm_s1 rfl ?_
          show mm_Go (mm_run 5) mc_M_both _ (71, [(0, .inr (.inr 407)), (1, .inl v1), (2, .inl v2), (3, .inl v3), (4, .inl v4), (5, .inl v5), (6, .inl (mm_w (v6 + 1))), (7, .inl v7)], [], M49)
          refine mm_s1 rfl ?_
          show mm_Go (mm_run 5) mc_M_both _ (74, [(0, .inr (.inr 407)), (1, .inl v1), (2, .inl v2), (3, .inl v3), (4, .inl v4), (5, .inl v5), (6, .inl (mm_w (v6 + 1))), (7, .inl (mm_w (v7 + 1)))], [], M49)
          refine mm_s1 rfl ?_
          show mm_Go (mm_run 5) mc_M_both _ (25, [(0, .inr (.inr 407)), (1, .inl v1), (2, .inl v2), (3, .inl v3), (4, .inl v4), (5, .inl v5), (6, .inl (mm_w (v6 + 1))), (7, .inl (mm_w (v7 + 1)))], [], M49)
          exact nn_go_ext (nn_xc rfl (nn_xc rfl (nn_xc rfl (nn_xc rfl (nn_xc rfl (nn_xc rfl (nn_xc rfl (nn_xc rfl nn_xn)))))))) (h n L N)
        · show mm_Go (mm_run 5) mc_M_both _ (65, [(0, .inr (.inr 407)), (1, .inl v1), (2, .inl v2), (3, .inl v3), (4, .inl v4), (5, .inl v5), (6, .inl v6), (7, .inl v7)], [], M49)
          replace c62 := Decidable.not_not.mp c62
          replace h := h.2 c62
          refine mm_s1 rfl ?_
          exact mm_s1 rfl ⟨_, rfl, L, N, h⟩
      · show mm_Go (mm_run 5) mc_M_both _ (55, [(0, .inr (.inr 407)), (1, .inl v1), (2, .inl v2), (3, .inl v3), (4, .inl v4), (5, .inl v5), (6, .inl v6), (7, .inl v7)], [], M49)
        replace c52 := Decidable.not_not.mp c52
        replace h := h.2 c52
        refine mm_s1 rfl ?_
        show mm_Go (mm_run 5) mc_M_both _ (71, [(0, .inr (.inr 407)), (1, .inl v1), (2, .inl v2), (3, .inl v3), (4, .inl v4), (5, .inl v5), (6, .inl v6), (7, .inl v7)], [], M49)
        refine mm_s1 rfl ?_
        show mm_Go (mm_run 5) mc_M_both _ (74, [(0, .inr (.inr 407)), (1, .inl v1), (2, .inl v2), (3, .inl v3), (4, .inl v4), (5, .inl v5), (6, .inl v6), (7, .inl (mm_w (v7 + 1)))], [], M49)
        refine mm_s1 rfl ?_
        show mm_Go (mm_run 5) mc_M_both _ (25, [(0, .inr (.inr 407)), (1, .inl v1), (2, .inl v2), (3, .inl v3), (4, .inl v4), (5, .inl v5), (6, .inl v6), (7, .inl (mm_w (v7 + 1)))], [], M49)
        exact nn_go_ext (nn_xc rfl (nn_xc rfl (nn_xc rfl (nn_xc rfl (nn_xc rfl (nn_xc rfl (nn_xc rfl (nn_xc rfl nn_xn)))))))) (h n L N)
def nr_M_sum (v1 : Int) (v2 : Int) (v3 : Int) (v4 : Int) (M : mm_M) (R : Int → mm_M → Prop) : Prop := ∀ n, nn_L M → M.1 = n → mm_run 6 mi_M_sum [.inr (.inr 407), .inl v1, .inl v2, .inl v3, .inl v4] M (nw_I n R)
def nk_M_sum_36 (v4 : Int) (v5 : Int) (v6 : Int) (v7 : Int) (M : mm_M) (R : Int → mm_M → Prop) : Prop := ∀ n, nn_L M → M.1 = n → mm_Go (mm_run 5) mc_M_sum (nw_I n R) (36, [(0, .inr (.inr 407)), (4, .inl v4), (5, .inl v5), (6, .inl v6), (7, .inl v7)], [], M)
set_option maxRecDepth 20000 in
theorem ng_M_sum (v1 : Int) (v2 : Int) (v3 : Int) (v4 : Int) (M : mm_M) (R : Int → mm_M → Prop) (h : ((nc_M_isBuilt v1 M) ∧ ((((nf_M_isBuilt v1 M) = 0 ∨ ((nf_M_isIn v4 0 3) = 0)) → R (-1) M) ∧ (((nf_M_isBuilt v1 M) ≠ 0 ∧ ((nf_M_isIn v4 0 3) ≠ 0)) → (nr_M_asks 0 v1 v2 v3 M (fun r28 M28 => nk_M_sum_36 v4 0 r28 0 M28 R)))))) : nr_M_sum v1 v2 v3 v4 M R := by
  intro n L N 
  have NN := nn_L_n L N
  show mm_Go (mm_run 5) mc_M_sum _ (0, [(0, .inr (.inr 407)), (1, .inl v1), (2, .inl v2), (3, .inl v3), (4, .inl v4)], [], M)
  refine mm_s1 rfl ?_
  refine mm_s1 rfl ?_
  obtain ⟨b2, h⟩ := h
  refine mm_s1 rfl ⟨(nn_c407 NN).1, ?_⟩
  refine np_M_isBuilt (by decide) L N b2 ?_
  show mm_Go (mm_run 5) mc_M_sum _ (5, [(0, .inr (.inr 407)), (1, .inl v1), (2, .inl v2), (3, .inl v3), (4, .inl v4)], [.inl (nf_M_isBuilt v1 M)], M)
  refine mm_s1 rfl ⟨fun c5 => ?_, fun c5 => ?_⟩
  · show mm_Go (mm_run 5) mc_M_sum _ (18, [(0, .inr (.inr 407)), (1, .inl v1), (2, .inl v2), (3, .inl v3), (4, .inl v4)], [], M)
    refine mm_s1 rfl ?_
    replace h := h.1 (Or.inl c5)
    exact mm_s1 rfl ⟨_, rfl, L, N, h⟩
  · show mm_Go (mm_run 5) mc_M_sum _ (8, [(0, .inr (.inr 407)), (1, .inl v1), (2, .inl v2), (3, .inl v3), (4, .inl v4)], [], M)
    refine mm_s1 rfl ?_
    refine mm_s1 rfl ?_
    refine mm_s1 rfl ?_
    refine mm_s1 rfl ⟨trivial, ?_⟩
    refine np_M_isIn (by decide) L N ?_
    show mm_Go (mm_run 5) mc_M_sum _ (15, [(0, .inr (.inr 407)), (1, .inl v1), (2, .inl v2), (3, .inl v3), (4, .inl v4)], [.inl (nf_M_isIn v4 0 3)], M)
    refine mm_s1 rfl ⟨fun c15 => ?_, fun c15 => ?_⟩
    · show mm_Go (mm_run 5) mc_M_sum _ (20, [(0, .inr (.inr 407)), (1, .inl v1), (2, .inl v2), (3, .inl v3), (4, .inl v4)], [], M)
      refine mm_s1 rfl ?_
      refine mm_s1 rfl ?_
      show mm_Go (mm_run 5) mc_M_sum _ (23, [(0, .inr (.inr 407)), (1, .inl v1), (2, .inl v2), (3, .inl v3), (4, .inl v4), (5, .inl 0)], [], M)
      refine mm_s1 rfl ?_
      refine mm_s1 rfl ?_
      refine mm_s1 rfl ?_
      refine mm_s1 rfl ?_
      refine mm_s1 rfl ?_
      show mm_Go (mm_run 5) mc_M_sum _ (28, [(0, .inr (.inr 407)), (1, .inl v1), (2, .inl v2), (3, .inl v3), (4, .inl v4), (5, .inl 0)], [.inl v3, .inl v2, .inl v1, .inl 0, .inr (.inr 407)], M)
      replace h := h.2 ⟨c5, c15⟩
      refine mm_s1 rfl ⟨(nn_c407 NN).1, ?_⟩
      refine nn_call (D := 5) (by decide) (h n L N) ?_
      intro v M28 q; clear L N h
      obtain ⟨r28, rfl, L, N, h⟩ := q
      show mm_Go (mm_run 5) mc_M_sum _ (31, [(0, .inr (.inr 407)), (1, .inl v1), (2, .inl v2), (3, .inl v3), (4, .inl v4), (5, .inl 0)], [.inl r28], M28)
      refine mm_s1 rfl ?_
      show mm_Go (mm_run 5) mc_M_sum _ (33, [(0, .inr (.inr 407)), (1, .inl v1), (2, .inl v2), (3, .inl v3), (4, .inl v4), (5, .inl 0), (6, .inl r28)], [], M28)
      refine mm_s1 rfl ?_
      refine mm_s1 rfl ?_
      show mm_Go (mm_run 5) mc_M_sum _ (36, [(0, .inr (.inr 407)), (1, .inl v1), (2, .inl v2), (3, .inl v3), (4, .inl v4), (5, .inl 0), (6, .inl r28), (7, .inl 0)], [], M28)
      exact nn_go_ext (nn_xc rfl (nn_xc rfl (nn_xc rfl (nn_xc rfl (nn_xc rfl nn_xn))))) (h n L N)
    · show mm_Go (mm_run 5) mc_M_sum _ (18, [(0, .inr (.inr 407)), (1, .inl v1), (2, .inl v2), (3, .inl v3), (4, .inl v4)], [], M)
      replace c15 := Decidable.not_not.mp c15
      refine mm_s1 rfl ?_
      replace h := h.1 (Or.inr c15)
      exact mm_s1 rfl ⟨_, rfl, L, N, h⟩
set_option maxRecDepth 20000 in
theorem ng_M_sum_36 (v4 : Int) (v5 : Int) (v6 : Int) (v7 : Int) (M : mm_M) (R : Int → mm_M → Prop) (h : ((v6 ≤ v7 → R v5 M) ∧ (v7 < v6 → (((0 : Int) ≤ v7 ∧ v7 < (32 : Int)) ∧ (nr_M_rowOf 0 (nn_ri M 410 v7) M (fun r54 M54 => (∀ x5_63 : Int, x5_63 = mm_w (v5 + (nf_M_column r54 v4)) → nk_M_sum_36 v4 x5_63 v6 (mm_w (v7 + 1)) M54 R))))))) : nk_M_sum_36 v4 v5 v6 v7 M R := by
  intro n L N 
  have NN := nn_L_n L N
  show mm_Go (mm_run 5) mc_M_sum _ (36, [(0, .inr (.inr 407)), (4, .inl v4), (5, .inl v5), (6, .inl v6), (7, .inl v7)], [], M)
  refine mm_s1 rfl ?_
  refine mm_s1 rfl ?_
  refine mm_s1 rfl ⟨fun c40 => ?_, fun c40 => ?_⟩
  · show mm_Go (mm_run 5) mc_M_sum _ (71, [(0, .inr (.inr 407)), (4, .inl v4), (5, .inl v5), (6, .inl v6), (7, .inl v7)], [], M)
    replace h := h.1 c40
    refine mm_s1 rfl ?_
    exact mm_s1 rfl ⟨_, rfl, L, N, h⟩
  · show mm_Go (mm_run 5) mc_M_sum _ (43, [(0, .inr (.inr 407)), (4, .inl v4), (5, .inl v5), (6, .inl v6), (7, .inl v7)], [], M)
    replace c40 := Int.not_le.mp c40
    replace h := h.2 c40
    refine mm_s1 rfl ?_
    refine mm_s1 rfl ?_
    refine mm_s1 rfl ?_
    refine mm_s1 rfl ?_
    refine nn_getr rfl (nn_c407 NN).1 (lf_13_10 L N (nn_c407 NN)) ?_
    show mm_Go (mm_run 5) mc_M_sum _ (51, [(0, .inr (.inr 407)), (4, .inl v4), (5, .inl v5), (6, .inl v6), (7, .inl v7)], [.inr (.inr 410), .inl 0, .inr (.inr 407), .inl v5], M)
    refine mm_s1 rfl ?_
    obtain ⟨b53, h⟩ := h
    refine mm_s1 rfl ⟨nn_bd (na_13_10 NN (nn_c407 NN)) b53, ?_⟩
    show mm_Go (mm_run 5) mc_M_sum _ (54, [(0, .inr (.inr 407)), (4, .inl v4), (5, .inl v5), (6, .inl v6), (7, .inl v7)], [.inl (nn_ri M 410 v7), .inl 0, .inr (.inr 407), .inl v5], M)
    refine mm_s1 rfl ⟨(nn_c407 NN).1, ?_⟩
    refine nn_call (D := 3) (by decide) (h n L N) ?_
    intro v M54 q; clear L N h
    obtain ⟨r54, rfl, L, N, h⟩ := q
    show mm_Go (mm_run 5) mc_M_sum _ (57, [(0, .inr (.inr 407)), (4, .inl v4), (5, .inl v5), (6, .inl v6), (7, .inl v7)], [.inl r54, .inl v5], M54)
    refine mm_s1 rfl ?_
    refine mm_s1 rfl ⟨trivial, ?_⟩
    refine np_M_column (by decide) L N ?_
    show mm_Go (mm_run 5) mc_M_sum _ (62, [(0, .inr (.inr 407)), (4, .inl v4), (5, .inl v5), (6, .inl v6), (7, .inl v7)], [.inl (nf_M_column r54 v4), .inl v5], M54)
    refine mm_s1 rfl ?_
    refine mm_s1 rfl ?_
    show mm_Go (mm_run 5) mc_M_sum _ (65, [(0, .inr (.inr 407)), (4, .inl v4), (5, .inl (mm_w (v5 + (nf_M_column r54 v4)))), (6, .inl v6), (7, .inl v7)], [], M54)
    generalize e_x5_63 : (mm_w (v5 + (nf_M_column r54 v4))) = x5_63
    replace h := h _ e_x5_63.symm
    show mm_Go (mm_run 5) mc_M_sum _ (65, [(0, .inr (.inr 407)), (4, .inl v4), (5, .inl x5_63), (6, .inl v6), (7, .inl v7)], [], M54)
    refine mm_s1 rfl ?_
    show mm_Go (mm_run 5) mc_M_sum _ (68, [(0, .inr (.inr 407)), (4, .inl v4), (5, .inl x5_63), (6, .inl v6), (7, .inl (mm_w (v7 + 1)))], [], M54)
    refine mm_s1 rfl ?_
    show mm_Go (mm_run 5) mc_M_sum _ (36, [(0, .inr (.inr 407)), (4, .inl v4), (5, .inl x5_63), (6, .inl v6), (7, .inl (mm_w (v7 + 1)))], [], M54)
    exact nn_go_ext (nn_xc rfl (nn_xc rfl (nn_xc rfl (nn_xc rfl (nn_xc rfl nn_xn))))) (h n L N)
def nr_M_near (v1 : Int) (v2 : Int) (M : mm_M) (R : Int → mm_M → Prop) : Prop := ∀ n, nn_L M → M.1 = n → mm_run 6 mi_M_near [.inr (.inr 407), .inl v1, .inl v2] M (nw_I n R)
def nk_M_near_30 (v1 : Int) (v2 : Int) (v3 : Int) (v4 : Int) (v6 : Int) (v7 : Int) (M : mm_M) (R : Int → mm_M → Prop) : Prop := ∀ n, nn_L M → M.1 = n → mm_Go (mm_run 5) mc_M_near (nw_I n R) (30, [(0, .inr (.inr 407)), (1, .inl v1), (2, .inl v2), (3, .inl v3), (4, .inr (.inl v4)), (6, .inl v6), (7, .inl v7)], [], M)
set_option maxRecDepth 20000 in
theorem ng_M_near (v1 : Int) (v2 : Int) (M : mm_M) (R : Int → mm_M → Prop) (h : ((nc_M_isBuilt v1 M) ∧ (((nf_M_isBuilt v1 M) ≠ 0 → (nr_M_asks 0 v1 0 9999 M (fun r22 M22 => nk_M_near_30 v1 v2 (-1) 0 r22 0 M22 R))) ∧ ((nf_M_isBuilt v1 M) = 0 → R (-1) M)))) : nr_M_near v1 v2 M R := by
  intro n L N 
  have NN := nn_L_n L N
  show mm_Go (mm_run 5) mc_M_near _ (0, [(0, .inr (.inr 407)), (1, .inl v1), (2, .inl v2)], [], M)
  refine mm_s1 rfl ?_
  refine mm_s1 rfl ?_
  obtain ⟨b2, h⟩ := h
  refine mm_s1 rfl ⟨(nn_c407 NN).1, ?_⟩
  refine np_M_isBuilt (by decide) L N b2 ?_
  show mm_Go (mm_run 5) mc_M_near _ (5, [(0, .inr (.inr 407)), (1, .inl v1), (2, .inl v2)], [.inl (nf_M_isBuilt v1 M)], M)
  refine mm_s1 rfl ⟨fun c5 => ?_, fun c5 => ?_⟩
  · show mm_Go (mm_run 5) mc_M_near _ (10, [(0, .inr (.inr 407)), (1, .inl v1), (2, .inl v2)], [], M)
    replace h := h.1 c5
    refine mm_s1 rfl ?_
    refine mm_s1 rfl ?_
    show mm_Go (mm_run 5) mc_M_near _ (12, [(0, .inr (.inr 407)), (1, .inl v1), (2, .inl v2), (3, .inl (-1))], [], M)
    refine mm_s1 rfl ?_
    refine mm_s1 rfl ?_
    show mm_Go (mm_run 5) mc_M_near _ (15, [(0, .inr (.inr 407)), (1, .inl v1), (2, .inl v2), (3, .inl (-1)), (4, .inr (.inl 0))], [], M)
    refine mm_s1 rfl ?_
    refine mm_s1 rfl ?_
    refine mm_s1 rfl ?_
    refine mm_s1 rfl ?_
    refine mm_s1 rfl ?_
    show mm_Go (mm_run 5) mc_M_near _ (22, [(0, .inr (.inr 407)), (1, .inl v1), (2, .inl v2), (3, .inl (-1)), (4, .inr (.inl 0))], [.inl 9999, .inl 0, .inl v1, .inl 0, .inr (.inr 407)], M)
    refine mm_s1 rfl ⟨(nn_c407 NN).1, ?_⟩
    refine nn_call (D := 5) (by decide) (h n L N) ?_
    intro v M22 q; clear L N h
    obtain ⟨r22, rfl, L, N, h⟩ := q
    show mm_Go (mm_run 5) mc_M_near _ (25, [(0, .inr (.inr 407)), (1, .inl v1), (2, .inl v2), (3, .inl (-1)), (4, .inr (.inl 0))], [.inl r22], M22)
    refine mm_s1 rfl ?_
    show mm_Go (mm_run 5) mc_M_near _ (27, [(0, .inr (.inr 407)), (1, .inl v1), (2, .inl v2), (3, .inl (-1)), (4, .inr (.inl 0)), (6, .inl r22)], [], M22)
    refine mm_s1 rfl ?_
    refine mm_s1 rfl ?_
    show mm_Go (mm_run 5) mc_M_near _ (30, [(0, .inr (.inr 407)), (1, .inl v1), (2, .inl v2), (3, .inl (-1)), (4, .inr (.inl 0)), (6, .inl r22), (7, .inl 0)], [], M22)
    exact nn_go_ext (nn_xc rfl (nn_xc rfl (nn_xc rfl (nn_xc rfl (nn_xc rfl (nn_xc rfl (nn_xc rfl nn_xn))))))) (h n L N)
  · show mm_Go (mm_run 5) mc_M_near _ (8, [(0, .inr (.inr 407)), (1, .inl v1), (2, .inl v2)], [], M)
    replace c5 := Decidable.not_not.mp c5
    replace h := h.2 c5
    refine mm_s1 rfl ?_
    exact mm_s1 rfl ⟨_, rfl, L, N, h⟩
set_option maxRecDepth 20000 in
theorem ng_M_near_30 (v1 : Int) (v2 : Int) (v3 : Int) (v4 : Int) (v6 : Int) (v7 : Int) (M : mm_M) (R : Int → mm_M → Prop) (h : ((v6 ≤ v7 → R v3 M) ∧ (v7 < v6 → (((0 : Int) ≤ v7 ∧ v7 < (32 : Int)) ∧ (nr_M_rowOf 0 (nn_ri M 410 v7) M (fun r52 M52 => (nr_M_valueOf (nf_M_at 0 v1) r52 M52 (fun r55 M55 => ((0 ≤ (mm_lcmp (mm_w64 (r55 - v2)) 0) → (((v3 < 0) → ((0 : Int) ≤ v7 ∧ v7 < (32 : Int))) ∧ ((0 ≤ v3) ∧ ((mm_lcmp (mm_w64 (r55 - v2)) v4) < 0) → ((0 : Int) ≤ v7 ∧ v7 < (32 : Int))) ∧ ((v3 < 0 ∨ ((mm_lcmp (mm_w64 (r55 - v2)) v4) < 0)) → nk_M_near_30 v1 v2 (nn_ri M55 410 v7) (mm_w64 (r55 - v2)) v6 (mm_w (v7 + 1)) M55 R) ∧ ((0 ≤ v3 ∧ (0 ≤ (mm_lcmp (mm_w64 (r55 - v2)) v4))) → nk_M_near_30 v1 v2 v3 v4 v6 (mm_w (v7 + 1)) M55 R))) ∧ ((mm_lcmp (mm_w64 (r55 - v2)) 0) < 0 → (∀ x8_79 : Int, x8_79 = mm_w64 (-(mm_w64 (r55 - v2))) → (((v3 < 0) → ((0 : Int) ≤ v7 ∧ v7 < (32 : Int))) ∧ ((0 ≤ v3) ∧ ((mm_lcmp x8_79 v4) < 0) → ((0 : Int) ≤ v7 ∧ v7 < (32 : Int))) ∧ ((v3 < 0 ∨ ((mm_lcmp x8_79 v4) < 0)) → nk_M_near_30 v1 v2 (nn_ri M55 410 v7) x8_79 v6 (mm_w (v7 + 1)) M55 R) ∧ ((0 ≤ v3 ∧ (0 ≤ (mm_lcmp x8_79 v4))) → nk_M_near_30 v1 v2 v3 v4 v6 (mm_w (v7 + 1)) M55 R))))))))))))) : nk_M_near_30 v1 v2 v3 v4 v6 v7 M R := by
  intro n L N 
  have NN := nn_L_n L N
  show mm_Go (mm_run 5) mc_M_near _ (30, [(0, .inr (.inr 407)), (1, .inl v1), (2, .inl v2), (3, .inl v3), (4, .inr (.inl v4)), (6, .inl v6), (7, .inl v7)], [], M)
  refine mm_s1 rfl ?_
  refine mm_s1 rfl ?_
  refine mm_s1 rfl ⟨fun c34 => ?_, fun c34 => ?_⟩
  · show mm_Go (mm_run 5) mc_M_near _ (114, [(0, .inr (.inr 407)), (1, .inl v1), (2, .inl v2), (3, .inl v3), (4, .inr (.inl v4)), (6, .inl v6), (7, .inl v7)], [], M)
    replace h := h.1 c34
    refine mm_s1 rfl ?_
    exact mm_s1 rfl ⟨_, rfl, L, N, h⟩
  · show mm_Go (mm_run 5) mc_M_near _ (37, [(0, .inr (.inr 407)), (1, .inl v1), (2, .inl v2), (3, .inl v3), (4, .inr (.inl v4)), (6, .inl v6), (7, .inl v7)], [], M)
    replace c34 := Int.not_le.mp c34
    replace h := h.2 c34
    refine mm_s1 rfl ?_
    refine mm_s1 rfl ?_
    refine mm_s1 rfl ?_
    refine mm_s1 rfl ⟨trivial, ?_⟩
    refine np_M_at (by decide) L N ?_
    show mm_Go (mm_run 5) mc_M_near _ (43, [(0, .inr (.inr 407)), (1, .inl v1), (2, .inl v2), (3, .inl v3), (4, .inr (.inl v4)), (6, .inl v6), (7, .inl v7)], [.inl (nf_M_at 0 v1), .inr (.inr 407)], M)
    refine mm_s1 rfl ?_
    refine mm_s1 rfl ?_
    refine mm_s1 rfl ?_
    refine nn_getr rfl (nn_c407 NN).1 (lf_13_10 L N (nn_c407 NN)) ?_
    refine mm_s1 rfl ?_
    show mm_Go (mm_run 5) mc_M_near _ (51, [(0, .inr (.inr 407)), (1, .inl v1), (2, .inl v2), (3, .inl v3), (4, .inr (.inl v4)), (6, .inl v6), (7, .inl v7)], [.inl v7, .inr (.inr 410), .inl 0, .inr (.inr 407), .inl (nf_M_at 0 v1), .inr (.inr 407)], M)
    obtain ⟨b51, h⟩ := h
    refine mm_s1 rfl ⟨nn_bd (na_13_10 NN (nn_c407 NN)) b51, ?_⟩
    show mm_Go (mm_run 5) mc_M_near _ (52, [(0, .inr (.inr 407)), (1, .inl v1), (2, .inl v2), (3, .inl v3), (4, .inr (.inl v4)), (6, .inl v6), (7, .inl v7)], [.inl (nn_ri M 410 v7), .inl 0, .inr (.inr 407), .inl (nf_M_at 0 v1), .inr (.inr 407)], M)
    refine mm_s1 rfl ⟨(nn_c407 NN).1, ?_⟩
    refine nn_call (D := 3) (by decide) (h n L N) ?_
    intro v M52 q; clear L N h
    obtain ⟨r52, rfl, L, N, h⟩ := q
    show mm_Go (mm_run 5) mc_M_near _ (55, [(0, .inr (.inr 407)), (1, .inl v1), (2, .inl v2), (3, .inl v3), (4, .inr (.inl v4)), (6, .inl v6), (7, .inl v7)], [.inl r52, .inl (nf_M_at 0 v1), .inr (.inr 407)], M52)
    refine mm_s1 rfl ⟨(nn_c407 NN).1, ?_⟩
    refine nn_call (D := 3) (by decide) (h n L N) ?_
    intro v M55 q; clear L N h
    obtain ⟨r55, rfl, L, N, h⟩ := q
    show mm_Go (mm_run 5) mc_M_near _ (58, [(0, .inr (.inr 407)), (1, .inl v1), (2, .inl v2), (3, .inl v3), (4, .inr (.inl v4)), (6, .inl v6), (7, .inl v7)], [.inl r55], M55)
    refine mm_s1 rfl ?_
    refine mm_s1 rfl ?_
    refine mm_s1 rfl ?_
    refine mm_s1 rfl ?_
    refine mm_s1 rfl ?_
    show mm_Go (mm_run 5) mc_M_near _ (64, [(0, .inr (.inr 407)), (1, .inl v1), (2, .inl v2), (3, .inl v3), (4, .inr (.inl v4)), (6, .inl v6), (7, .inl v7), (8, .inr (.inl (mm_w64 (r55 - v2))))], [], M55)
    refine mm_s1 rfl ?_
    refine mm_s1 rfl ?_
    refine mm_s1 rfl ?_
    refine mm_s1 rfl ⟨fun c68 => ?_, fun c68 => ?_⟩
    · show mm_Go (mm_run 5) mc_M_near _ (77, [(0, .inr (.inr 407)), (1, .inl v1), (2, .inl v2), (3, .inl v3), (4, .inr (.inl v4)), (6, .inl v6), (7, .inl v7), (8, .inr (.inl (mm_w64 (r55 - v2))))], [], M55)
      replace h := h.1 c68
      refine mm_s1 rfl ?_
      refine mm_s1 rfl ?_
      show mm_Go (mm_run 5) mc_M_near _ (81, [(0, .inr (.inr 407)), (1, .inl v1), (2, .inl v2), (3, .inl v3), (4, .inr (.inl v4)), (6, .inl v6), (7, .inl v7), (8, .inr (.inl (mm_w64 (r55 - v2))))], [], M55)
      refine mm_s1 rfl ?_
      refine mm_s1 rfl ⟨fun c82 => ?_, fun c82 => ?_⟩
      · show mm_Go (mm_run 5) mc_M_near _ (96, [(0, .inr (.inr 407)), (1, .inl v1), (2, .inl v2), (3, .inl v3), (4, .inr (.inl v4)), (6, .inl v6), (7, .inl v7), (8, .inr (.inl (mm_w64 (r55 - v2))))], [], M55)
        refine mm_s1 rfl ?_
        refine nn_getr rfl (nn_c407 NN).1 (lf_13_10 L N (nn_c407 NN)) ?_
        refine mm_s1 rfl ?_
        have b102 := h.1 c82
        refine mm_s1 rfl ⟨nn_bd (na_13_10 NN (nn_c407 NN)) b102, ?_⟩
        show mm_Go (mm_run 5) mc_M_near _ (103, [(0, .inr (.inr 407)), (1, .inl v1), (2, .inl v2), (3, .inl v3), (4, .inr (.inl v4)), (6, .inl v6), (7, .inl v7), (8, .inr (.inl (mm_w64 (r55 - v2))))], [.inl (nn_ri M55 410 v7)], M55)
        refine mm_s1 rfl ?_
        show mm_Go (mm_run 5) mc_M_near _ (104, [(0, .inr (.inr 407)), (1, .inl v1), (2, .inl v2), (3, .inl (nn_ri M55 410 v7)), (4, .inr (.inl v4)), (6, .inl v6), (7, .inl v7), (8, .inr (.inl (mm_w64 (r55 - v2))))], [], M55)
        refine mm_s1 rfl ?_
        refine mm_s1 rfl ?_
        show mm_Go (mm_run 5) mc_M_near _ (108, [(0, .inr (.inr 407)), (1, .inl v1), (2, .inl v2), (3, .inl (nn_ri M55 410 v7)), (4, .inr (.inl (mm_w64 (r55 - v2)))), (6, .inl v6), (7, .inl v7), (8, .inr (.inl (mm_w64 (r55 - v2))))], [], M55)
        refine mm_s1 rfl ?_
        show mm_Go (mm_run 5) mc_M_near _ (111, [(0, .inr (.inr 407)), (1, .inl v1), (2, .inl v2), (3, .inl (nn_ri M55 410 v7)), (4, .inr (.inl (mm_w64 (r55 - v2)))), (6, .inl v6), (7, .inl (mm_w (v7 + 1))), (8, .inr (.inl (mm_w64 (r55 - v2))))], [], M55)
        refine mm_s1 rfl ?_
        show mm_Go (mm_run 5) mc_M_near _ (30, [(0, .inr (.inr 407)), (1, .inl v1), (2, .inl v2), (3, .inl (nn_ri M55 410 v7)), (4, .inr (.inl (mm_w64 (r55 - v2)))), (6, .inl v6), (7, .inl (mm_w (v7 + 1))), (8, .inr (.inl (mm_w64 (r55 - v2))))], [], M55)
        replace h := h.2.2.1 (Or.inl c82)
        exact nn_go_ext (nn_xc rfl (nn_xc rfl (nn_xc rfl (nn_xc rfl (nn_xc rfl (nn_xc rfl (nn_xc rfl nn_xn))))))) (h n L N)
      · show mm_Go (mm_run 5) mc_M_near _ (85, [(0, .inr (.inr 407)), (1, .inl v1), (2, .inl v2), (3, .inl v3), (4, .inr (.inl v4)), (6, .inl v6), (7, .inl v7), (8, .inr (.inl (mm_w64 (r55 - v2))))], [], M55)
        replace c82 := Int.not_lt.mp c82
        refine mm_s1 rfl ?_
        refine mm_s1 rfl ?_
        refine mm_s1 rfl ?_
        refine mm_s1 rfl ⟨fun c90 => ?_, fun c90 => ?_⟩
        · show mm_Go (mm_run 5) mc_M_near _ (96, [(0, .inr (.inr 407)), (1, .inl v1), (2, .inl v2), (3, .inl v3), (4, .inr (.inl v4)), (6, .inl v6), (7, .inl v7), (8, .inr (.inl (mm_w64 (r55 - v2))))], [], M55)
          refine mm_s1 rfl ?_
          refine nn_getr rfl (nn_c407 NN).1 (lf_13_10 L N (nn_c407 NN)) ?_
          refine mm_s1 rfl ?_
          have b102 := h.2.1 ⟨c82, c90⟩
          refine mm_s1 rfl ⟨nn_bd (na_13_10 NN (nn_c407 NN)) b102, ?_⟩
          show mm_Go (mm_run 5) mc_M_near _ (103, [(0, .inr (.inr 407)), (1, .inl v1), (2, .inl v2), (3, .inl v3), (4, .inr (.inl v4)), (6, .inl v6), (7, .inl v7), (8, .inr (.inl (mm_w64 (r55 - v2))))], [.inl (nn_ri M55 410 v7)], M55)
          refine mm_s1 rfl ?_
          show mm_Go (mm_run 5) mc_M_near _ (104, [(0, .inr (.inr 407)), (1, .inl v1), (2, .inl v2), (3, .inl (nn_ri M55 410 v7)), (4, .inr (.inl v4)), (6, .inl v6), (7, .inl v7), (8, .inr (.inl (mm_w64 (r55 - v2))))], [], M55)
          refine mm_s1 rfl ?_
          refine mm_s1 rfl ?_
          show mm_Go (mm_run 5) mc_M_near _ (108, [(0, .inr (.inr 407)), (1, .inl v1), (2, .inl v2), (3, .inl (nn_ri M55 410 v7)), (4, .inr (.inl (mm_w64 (r55 - v2)))), (6, .inl v6), (7, .inl v7), (8, .inr (.inl (mm_w64 (r55 - v2))))], [], M55)
          refine mm_s1 rfl ?_
          show mm_Go (mm_run 5) mc_M_near _ (111, [(0, .inr (.inr 407)), (1, .inl v1), (2, .inl v2), (3, .inl (nn_ri M55 410 v7)), (4, .inr (.inl (mm_w64 (r55 - v2)))), (6, .inl v6), (7, .inl (mm_w (v7 + 1))), (8, .inr (.inl (mm_w64 (r55 - v2))))], [], M55)
          refine mm_s1 rfl ?_
          show mm_Go (mm_run 5) mc_M_near _ (30, [(0, .inr (.inr 407)), (1, .inl v1), (2, .inl v2), (3, .inl (nn_ri M55 410 v7)), (4, .inr (.inl (mm_w64 (r55 - v2)))), (6, .inl v6), (7, .inl (mm_w (v7 + 1))), (8, .inr (.inl (mm_w64 (r55 - v2))))], [], M55)
          replace h := h.2.2.1 (Or.inr c90)
          exact nn_go_ext (nn_xc rfl (nn_xc rfl (nn_xc rfl (nn_xc rfl (nn_xc rfl (nn_xc rfl (nn_xc rfl nn_xn))))))) (h n L N)
        · show mm_Go (mm_run 5) mc_M_near _ (93, [(0, .inr (.inr 407)), (1, .inl v1), (2, .inl v2), (3, .inl v3), (4, .inr (.inl v4)), (6, .inl v6), (7, .inl v7), (8, .inr (.inl (mm_w64 (r55 - v2))))], [], M55)
          replace c90 := Int.not_lt.mp c90
          refine mm_s1 rfl ?_
          show mm_Go (mm_run 5) mc_M_near _ (108, [(0, .inr (.inr 407)), (1, .inl v1), (2, .inl v2), (3, .inl v3), (4, .inr (.inl v4)), (6, .inl v6), (7, .inl v7), (8, .inr (.inl (mm_w64 (r55 - v2))))], [], M55)
          refine mm_s1 rfl ?_
          show mm_Go (mm_run 5) mc_M_near _ (111, [(0, .inr (.inr 407)), (1, .inl v1), (2, .inl v2), (3, .inl v3), (4, .inr (.inl v4)), (6, .inl v6), (7, .inl (mm_w (v7 + 1))), (8, .inr (.inl (mm_w64 (r55 - v2))))], [], M55)
          refine mm_s1 rfl ?_
          show mm_Go (mm_run 5) mc_M_near _ (30, [(0, .inr (.inr 407)), (1, .inl v1), (2, .inl v2), (3, .inl v3), (4, .inr (.inl v4)), (6, .inl v6), (7, .inl (mm_w (v7 + 1))), (8, .inr (.inl (mm_w64 (r55 - v2))))], [], M55)
          replace h := h.2.2.2 ⟨c82, c90⟩
          exact nn_go_ext (nn_xc rfl (nn_xc rfl (nn_xc rfl (nn_xc rfl (nn_xc rfl (nn_xc rfl (nn_xc rfl nn_xn))))))) (h n L N)
    · show mm_Go (mm_run 5) mc_M_near _ (71, [(0, .inr (.inr 407)), (1, .inl v1), (2, .inl v2), (3, .inl v3), (4, .inr (.inl v4)), (6, .inl v6), (7, .inl v7), (8, .inr (.inl (mm_w64 (r55 - v2))))], [], M55)
      replace c68 := Int.not_le.mp c68
      replace h := h.2 c68
      refine mm_s1 rfl ?_
      refine mm_s1 rfl ?_
      refine mm_s1 rfl ?_
      show mm_Go (mm_run 5) mc_M_near _ (79, [(0, .inr (.inr 407)), (1, .inl v1), (2, .inl v2), (3, .inl v3), (4, .inr (.inl v4)), (6, .inl v6), (7, .inl v7), (8, .inr (.inl (mm_w64 (r55 - v2))))], [.inr (.inl (mm_w64 (-(mm_w64 (r55 - v2)))))], M55)
      refine mm_s1 rfl ?_
      show mm_Go (mm_run 5) mc_M_near _ (81, [(0, .inr (.inr 407)), (1, .inl v1), (2, .inl v2), (3, .inl v3), (4, .inr (.inl v4)), (6, .inl v6), (7, .inl v7), (8, .inr (.inl (mm_w64 (-(mm_w64 (r55 - v2))))))], [], M55)
      generalize e_x8_79 : (mm_w64 (-(mm_w64 (r55 - v2)))) = x8_79
      replace h := h _ e_x8_79.symm
      show mm_Go (mm_run 5) mc_M_near _ (81, [(0, .inr (.inr 407)), (1, .inl v1), (2, .inl v2), (3, .inl v3), (4, .inr (.inl v4)), (6, .inl v6), (7, .inl v7), (8, .inr (.inl x8_79))], [], M55)
      refine mm_s1 rfl ?_
      refine mm_s1 rfl ⟨fun c82 => ?_, fun c82 => ?_⟩
      · show mm_Go (mm_run 5) mc_M_near _ (96, [(0, .inr (.inr 407)), (1, .inl v1), (2, .inl v2), (3, .inl v3), (4, .inr (.inl v4)), (6, .inl v6), (7, .inl v7), (8, .inr (.inl x8_79))], [], M55)
        refine mm_s1 rfl ?_
        refine nn_getr rfl (nn_c407 NN).1 (lf_13_10 L N (nn_c407 NN)) ?_
        refine mm_s1 rfl ?_
        have b102 := h.1 c82
        refine mm_s1 rfl ⟨nn_bd (na_13_10 NN (nn_c407 NN)) b102, ?_⟩
        show mm_Go (mm_run 5) mc_M_near _ (103, [(0, .inr (.inr 407)), (1, .inl v1), (2, .inl v2), (3, .inl v3), (4, .inr (.inl v4)), (6, .inl v6), (7, .inl v7), (8, .inr (.inl x8_79))], [.inl (nn_ri M55 410 v7)], M55)
        refine mm_s1 rfl ?_
        show mm_Go (mm_run 5) mc_M_near _ (104, [(0, .inr (.inr 407)), (1, .inl v1), (2, .inl v2), (3, .inl (nn_ri M55 410 v7)), (4, .inr (.inl v4)), (6, .inl v6), (7, .inl v7), (8, .inr (.inl x8_79))], [], M55)
        refine mm_s1 rfl ?_
        refine mm_s1 rfl ?_
        show mm_Go (mm_run 5) mc_M_near _ (108, [(0, .inr (.inr 407)), (1, .inl v1), (2, .inl v2), (3, .inl (nn_ri M55 410 v7)), (4, .inr (.inl x8_79)), (6, .inl v6), (7, .inl v7), (8, .inr (.inl x8_79))], [], M55)
        refine mm_s1 rfl ?_
        show mm_Go (mm_run 5) mc_M_near _ (111, [(0, .inr (.inr 407)), (1, .inl v1), (2, .inl v2), (3, .inl (nn_ri M55 410 v7)), (4, .inr (.inl x8_79)), (6, .inl v6), (7, .inl (mm_w (v7 + 1))), (8, .inr (.inl x8_79))], [], M55)
        refine mm_s1 rfl ?_
        show mm_Go (mm_run 5) mc_M_near _ (30, [(0, .inr (.inr 407)), (1, .inl v1), (2, .inl v2), (3, .inl (nn_ri M55 410 v7)), (4, .inr (.inl x8_79)), (6, .inl v6), (7, .inl (mm_w (v7 + 1))), (8, .inr (.inl x8_79))], [], M55)
        replace h := h.2.2.1 (Or.inl c82)
        exact nn_go_ext (nn_xc rfl (nn_xc rfl (nn_xc rfl (nn_xc rfl (nn_xc rfl (nn_xc rfl (nn_xc rfl nn_xn))))))) (h n L N)
      · show mm_Go (mm_run 5) mc_M_near _ (85, [(0, .inr (.inr 407)), (1, .inl v1), (2, .inl v2), (3, .inl v3), (4, .inr (.inl v4)), (6, .inl v6), (7, .inl v7), (8, .inr (.inl x8_79))], [], M55)
        replace c82 := Int.not_lt.mp c82
        refine mm_s1 rfl ?_
        refine mm_s1 rfl ?_
        refine mm_s1 rfl ?_
        refine mm_s1 rfl ⟨fun c90 => ?_, fun c90 => ?_⟩
        · show mm_Go (mm_run 5) mc_M_near _ (96, [(0, .inr (.inr 407)), (1, .inl v1), (2, .inl v2), (3, .inl v3), (4, .inr (.inl v4)), (6, .inl v6), (7, .inl v7), (8, .inr (.inl x8_79))], [], M55)
          refine mm_s1 rfl ?_
          refine nn_getr rfl (nn_c407 NN).1 (lf_13_10 L N (nn_c407 NN)) ?_
          refine mm_s1 rfl ?_
          have b102 := h.2.1 ⟨c82, c90⟩
          refine mm_s1 rfl ⟨nn_bd (na_13_10 NN (nn_c407 NN)) b102, ?_⟩
          show mm_Go (mm_run 5) mc_M_near _ (103, [(0, .inr (.inr 407)), (1, .inl v1), (2, .inl v2), (3, .inl v3), (4, .inr (.inl v4)), (6, .inl v6), (7, .inl v7), (8, .inr (.inl x8_79))], [.inl (nn_ri M55 410 v7)], M55)
          refine mm_s1 rfl ?_
          show mm_Go (mm_run 5) mc_M_near _ (104, [(0, .inr (.inr 407)), (1, .inl v1), (2, .inl v2), (3, .inl (nn_ri M55 410 v7)), (4, .inr (.inl v4)), (6, .inl v6), (7, .inl v7), (8, .inr (.inl x8_79))], [], M55)
          refine mm_s1 rfl ?_
          refine mm_s1 rfl ?_
          show mm_Go (mm_run 5) mc_M_near _ (108, [(0, .inr (.inr 407)), (1, .inl v1), (2, .inl v2), (3, .inl (nn_ri M55 410 v7)), (4, .inr (.inl x8_79)), (6, .inl v6), (7, .inl v7), (8, .inr (.inl x8_79))], [], M55)
          refine mm_s1 rfl ?_
          show mm_Go (mm_run 5) mc_M_near _ (111, [(0, .inr (.inr 407)), (1, .inl v1), (2, .inl v2), (3, .inl (nn_ri M55 410 v7)), (4, .inr (.inl x8_79)), (6, .inl v6), (7, .inl (mm_w (v7 + 1))), (8, .inr (.inl x8_79))], [], M55)
          refine mm_s1 rfl ?_
          show mm_Go (mm_run 5) mc_M_near _ (30, [(0, .inr (.inr 407)), (1, .inl v1), (2, .inl v2), (3, .inl (nn_ri M55 410 v7)), (4, .inr (.inl x8_79)), (6, .inl v6), (7, .inl (mm_w (v7 + 1))), (8, .inr (.inl x8_79))], [], M55)
          replace h := h.2.2.1 (Or.inr c90)
          exact nn_go_ext (nn_xc rfl (nn_xc rfl (nn_xc rfl (nn_xc rfl (nn_xc rfl (nn_xc rfl (nn_xc rfl nn_xn))))))) (h n L N)
        · show mm_Go (mm_run 5) mc_M_near _ (93, [(0, .inr (.inr 407)), (1, .inl v1), (2, .inl v2), (3, .inl v3), (4, .inr (.inl v4)), (6, .inl v6), (7, .inl v7), (8, .inr (.inl x8_79))], [], M55)
          replace c90 := Int.not_lt.mp c90
          refine mm_s1 rfl ?_
          show mm_Go (mm_run 5) mc_M_near _ (108, [(0, .inr (.inr 407)), (1, .inl v1), (2, .inl v2), (3, .inl v3), (4, .inr (.inl v4)), (6, .inl v6), (7, .inl v7), (8, .inr (.inl x8_79))], [], M55)
          refine mm_s1 rfl ?_
          show mm_Go (mm_run 5) mc_M_near _ (111, [(0, .inr (.inr 407)), (1, .inl v1), (2, .inl v2), (3, .inl v3), (4, .inr (.inl v4)), (6, .inl v6), (7, .inl (mm_w (v7 + 1))), (8, .inr (.inl x8_79))], [], M55)
          refine mm_s1 rfl ?_
          show mm_Go (mm_run 5) mc_M_near _ (30, [(0, .inr (.inr 407)), (1, .inl v1), (2, .inl v2), (3, .inl v3), (4, .inr (.inl v4)), (6, .inl v6), (7, .inl (mm_w (v7 + 1))), (8, .inr (.inl x8_79))], [], M55)
          replace h := h.2.2.2 ⟨c82, c90⟩
          exact nn_go_ext (nn_xc rfl (nn_xc rfl (nn_xc rfl (nn_xc rfl (nn_xc rfl (nn_xc rfl (nn_xc rfl nn_xn))))))) (h n L N)
def nr_M_open (v1 : Int) (v2 : Int) (v3 : Int) (M : mm_M) (R : Int → mm_M → Prop) : Prop := ∀ n, nn_L M → M.1 = n → mm_run 6 mi_M_open [.inr (.inr 407), .inl v1, .inl v2, .inl v3] M (nw_I n R)
def nk_M_open_3 (v1 : Int) (v2 : Int) (v3 : Int) (v4 : Int) (M : mm_M) (R : Int → mm_M → Prop) : Prop := ∀ n, nn_L M → M.1 = n → mm_Go (mm_run 5) mc_M_open (nw_I n R) (3, [(0, .inr (.inr 407)), (1, .inl v1), (2, .inl v2), (3, .inl v3), (4, .inl v4)], [], M)
def nk_M_open_97 (v4 : Int) (v5 : Int) (v6 : Int) (v7 : Int) (v8 : Int) (M : mm_M) (R : Int → mm_M → Prop) : Prop := ∀ n, nn_L M → M.1 = n → mm_Go (mm_run 5) mc_M_open (nw_I n R) (97, [(0, .inr (.inr 407)), (4, .inl v4), (5, .inl v5), (6, .inl v6), (7, .inl v7), (8, .inl v8)], [], M)
def nk_M_open_158 (v4 : Int) (v5 : Int) (v6 : Int) (v8 : Int) (M : mm_M) (R : Int → mm_M → Prop) : Prop := ∀ n, nn_L M → M.1 = n → mm_Go (mm_run 5) mc_M_open (nw_I n R) (158, [(0, .inr (.inr 407)), (4, .inl v4), (5, .inl v5), (6, .inl v6), (8, .inl v8)], [], M)
def nk_M_open_204 (v4 : Int) (v5 : Int) (v6 : Int) (v8 : Int) (M : mm_M) (R : Int → mm_M → Prop) : Prop := ∀ n, nn_L M → M.1 = n → mm_Go (mm_run 5) mc_M_open (nw_I n R) (204, [(0, .inr (.inr 407)), (4, .inl v4), (5, .inl v5), (6, .inl v6), (8, .inl v8)], [], M)
set_option maxRecDepth 20000 in
theorem ng_M_open (v1 : Int) (v2 : Int) (v3 : Int) (M : mm_M) (R : Int → mm_M → Prop) (h : nk_M_open_3 v1 v2 v3 0 M R) : nr_M_open v1 v2 v3 M R := by
  intro n L N 
  have NN := nn_L_n L N
  show mm_Go (mm_run 5) mc_M_open _ (0, [(0, .inr (.inr 407)), (1, .inl v1), (2, .inl v2), (3, .inl v3)], [], M)
  refine mm_s1 rfl ?_
  refine mm_s1 rfl ?_
  show mm_Go (mm_run 5) mc_M_open _ (3, [(0, .inr (.inr 407)), (1, .inl v1), (2, .inl v2), (3, .inl v3), (4, .inl 0)], [], M)
  exact nn_go_ext (nn_xc rfl (nn_xc rfl (nn_xc rfl (nn_xc rfl (nn_xc rfl nn_xn))))) (h n L N)
set_option maxRecDepth 20000 in
theorem ng_M_open_3 (v1 : Int) (v2 : Int) (v3 : Int) (v4 : Int) (M : mm_M) (R : Int → mm_M → Prop) (h : ((3 ≤ v4 → ((nc_M_isBuilt v1 M) ∧ ((((nf_M_isBuilt v1 M) = 0 ∨ (v4 = 3)) → R (-1) M) ∧ (((nf_M_isBuilt v1 M) ≠ 0 ∧ (v4 ≠ 3)) → (nr_M_asks 0 v1 v2 v3 M (fun r60 M60 => (((0 : Int) ≤ (nf_M_cursorAt 0 v4) ∧ (nf_M_cursorAt 0 v4) < (32844 : Int)) ∧ (∀ M72 : mm_M, M72 = nn_ui M60 408 (nf_M_cursorAt 0 v4) 1 → (((0 : Int) ≤ (mm_w ((nf_M_cursorAt 0 v4) + 1)) ∧ (mm_w ((nf_M_cursorAt 0 v4) + 1)) < (32844 : Int)) ∧ (∀ M83 : mm_M, M83 = nn_ui M72 408 (mm_w ((nf_M_cursorAt 0 v4) + 1)) r60 → (((0 : Int) ≤ (mm_w ((nf_M_cursorAt 0 v4) + 2)) ∧ (mm_w ((nf_M_cursorAt 0 v4) + 2)) < (32844 : Int)) ∧ (∀ M93 : mm_M, M93 = nn_ui M83 408 (mm_w ((nf_M_cursorAt 0 v4) + 2)) 0 → nk_M_open_97 v4 (nf_M_cursorAt 0 v4) (nf_M_at 0 v1) r60 0 M93 R)))))))))))) ∧ (v4 < 3 → ((nc_M_isOpen v4 M) ∧ (((nf_M_isOpen v4 M) = 0 → ((nc_M_isBuilt v1 M) ∧ ((((nf_M_isBuilt v1 M) = 0 ∨ (v4 = 3)) → R (-1) M) ∧ (((nf_M_isBuilt v1 M) ≠ 0 ∧ (v4 ≠ 3)) → (nr_M_asks 0 v1 v2 v3 M (fun r60 M60 => (((0 : Int) ≤ (nf_M_cursorAt 0 v4) ∧ (nf_M_cursorAt 0 v4) < (32844 : Int)) ∧ (∀ M72 : mm_M, M72 = nn_ui M60 408 (nf_M_cursorAt 0 v4) 1 → (((0 : Int) ≤ (mm_w ((nf_M_cursorAt 0 v4) + 1)) ∧ (mm_w ((nf_M_cursorAt 0 v4) + 1)) < (32844 : Int)) ∧ (∀ M83 : mm_M, M83 = nn_ui M72 408 (mm_w ((nf_M_cursorAt 0 v4) + 1)) r60 → (((0 : Int) ≤ (mm_w ((nf_M_cursorAt 0 v4) + 2)) ∧ (mm_w ((nf_M_cursorAt 0 v4) + 2)) < (32844 : Int)) ∧ (∀ M93 : mm_M, M93 = nn_ui M83 408 (mm_w ((nf_M_cursorAt 0 v4) + 2)) 0 → nk_M_open_97 v4 (nf_M_cursorAt 0 v4) (nf_M_at 0 v1) r60 0 M93 R)))))))))))) ∧ ((nf_M_isOpen v4 M) ≠ 0 → nk_M_open_3 v1 v2 v3 (mm_w (v4 + 1)) M R)))))) : nk_M_open_3 v1 v2 v3 v4 M R := by
  intro n L N 
  have NN := nn_L_n L N
  show mm_Go (mm_run 5) mc_M_open _ (3, [(0, .inr (.inr 407)), (1, .inl v1), (2, .inl v2), (3, .inl v3), (4, .inl v4)], [], M)
  refine mm_s1 rfl ?_
  refine mm_s1 rfl ?_
  refine mm_s1 rfl ⟨fun c6 => ?_, fun c6 => ?_⟩
  · show mm_Go (mm_run 5) mc_M_open _ (24, [(0, .inr (.inr 407)), (1, .inl v1), (2, .inl v2), (3, .inl v3), (4, .inl v4)], [], M)
    replace h := h.1 c6
    refine mm_s1 rfl ?_
    refine mm_s1 rfl ?_
    obtain ⟨b26, h⟩ := h
    refine mm_s1 rfl ⟨(nn_c407 NN).1, ?_⟩
    refine np_M_isBuilt (by decide) L N b26 ?_
    show mm_Go (mm_run 5) mc_M_open _ (29, [(0, .inr (.inr 407)), (1, .inl v1), (2, .inl v2), (3, .inl v3), (4, .inl v4)], [.inl (nf_M_isBuilt v1 M)], M)
    refine mm_s1 rfl ⟨fun c29 => ?_, fun c29 => ?_⟩
    · show mm_Go (mm_run 5) mc_M_open _ (38, [(0, .inr (.inr 407)), (1, .inl v1), (2, .inl v2), (3, .inl v3), (4, .inl v4)], [], M)
      refine mm_s1 rfl ?_
      replace h := h.1 (Or.inl c29)
      exact mm_s1 rfl ⟨_, rfl, L, N, h⟩
    · show mm_Go (mm_run 5) mc_M_open _ (32, [(0, .inr (.inr 407)), (1, .inl v1), (2, .inl v2), (3, .inl v3), (4, .inl v4)], [], M)
      refine mm_s1 rfl ?_
      refine mm_s1 rfl ?_
      refine mm_s1 rfl ⟨fun c35 => ?_, fun c35 => ?_⟩
      · show mm_Go (mm_run 5) mc_M_open _ (40, [(0, .inr (.inr 407)), (1, .inl v1), (2, .inl v2), (3, .inl v3), (4, .inl v4)], [], M)
        refine mm_s1 rfl ?_
        refine mm_s1 rfl ?_
        refine mm_s1 rfl ⟨trivial, ?_⟩
        refine np_M_cursorAt (by decide) L N ?_
        show mm_Go (mm_run 5) mc_M_open _ (46, [(0, .inr (.inr 407)), (1, .inl v1), (2, .inl v2), (3, .inl v3), (4, .inl v4)], [.inl (nf_M_cursorAt 0 v4)], M)
        refine mm_s1 rfl ?_
        show mm_Go (mm_run 5) mc_M_open _ (48, [(0, .inr (.inr 407)), (1, .inl v1), (2, .inl v2), (3, .inl v3), (4, .inl v4), (5, .inl (nf_M_cursorAt 0 v4))], [], M)
        refine mm_s1 rfl ?_
        refine mm_s1 rfl ?_
        refine mm_s1 rfl ⟨trivial, ?_⟩
        refine np_M_at (by decide) L N ?_
        show mm_Go (mm_run 5) mc_M_open _ (53, [(0, .inr (.inr 407)), (1, .inl v1), (2, .inl v2), (3, .inl v3), (4, .inl v4), (5, .inl (nf_M_cursorAt 0 v4))], [.inl (nf_M_at 0 v1)], M)
        refine mm_s1 rfl ?_
        show mm_Go (mm_run 5) mc_M_open _ (55, [(0, .inr (.inr 407)), (1, .inl v1), (2, .inl v2), (3, .inl v3), (4, .inl v4), (5, .inl (nf_M_cursorAt 0 v4)), (6, .inl (nf_M_at 0 v1))], [], M)
        refine mm_s1 rfl ?_
        refine mm_s1 rfl ?_
        refine mm_s1 rfl ?_
        refine mm_s1 rfl ?_
        refine mm_s1 rfl ?_
        show mm_Go (mm_run 5) mc_M_open _ (60, [(0, .inr (.inr 407)), (1, .inl v1), (2, .inl v2), (3, .inl v3), (4, .inl v4), (5, .inl (nf_M_cursorAt 0 v4)), (6, .inl (nf_M_at 0 v1))], [.inl v3, .inl v2, .inl v1, .inl 0, .inr (.inr 407)], M)
        replace h := h.2 ⟨c29, c35⟩
        refine mm_s1 rfl ⟨(nn_c407 NN).1, ?_⟩
        refine nn_call (D := 5) (by decide) (h n L N) ?_
        intro v M60 q; clear L N h
        obtain ⟨r60, rfl, L, N, h⟩ := q
        show mm_Go (mm_run 5) mc_M_open _ (63, [(0, .inr (.inr 407)), (1, .inl v1), (2, .inl v2), (3, .inl v3), (4, .inl v4), (5, .inl (nf_M_cursorAt 0 v4)), (6, .inl (nf_M_at 0 v1))], [.inl r60], M60)
        refine mm_s1 rfl ?_
        show mm_Go (mm_run 5) mc_M_open _ (65, [(0, .inr (.inr 407)), (1, .inl v1), (2, .inl v2), (3, .inl v3), (4, .inl v4), (5, .inl (nf_M_cursorAt 0 v4)), (6, .inl (nf_M_at 0 v1)), (7, .inl r60)], [], M60)
        refine mm_s1 rfl ?_
        refine nn_getr rfl (nn_c407 NN).1 (lf_13_0 L N (nn_c407 NN)) ?_
        refine mm_s1 rfl ?_
        refine mm_s1 rfl ?_
        obtain ⟨b72, h⟩ := h
        refine mm_s1 rfl ⟨nn_bd (na_13_0 NN (nn_c407 NN)) b72, ?_⟩
        show mm_Go (mm_run 5) mc_M_open _ (73, [(0, .inr (.inr 407)), (1, .inl v1), (2, .inl v2), (3, .inl v3), (4, .inl v4), (5, .inl (nf_M_cursorAt 0 v4)), (6, .inl (nf_M_at 0 v1)), (7, .inl r60)], [], (nn_ui M60 408 (nf_M_cursorAt 0 v4) 1))
        have L : nn_L (nn_ui M60 408 (nf_M_cursorAt 0 v4) 1) := nn_L_ua L (congrArg Prod.fst (na_13_0 NN (nn_c407 NN))) (by decide)
        have N : (nn_ui M60 408 (nf_M_cursorAt 0 v4) 1).1 = n := N
        generalize e_M72 : (nn_ui M60 408 (nf_M_cursorAt 0 v4) 1) = M72 at L N ⊢
        replace h := h _ e_M72.symm
        show mm_Go (mm_run 5) mc_M_open _ (73, [(0, .inr (.inr 407)), (1, .inl v1), (2, .inl v2), (3, .inl v3), (4, .inl v4), (5, .inl (nf_M_cursorAt 0 v4)), (6, .inl (nf_M_at 0 v1)), (7, .inl r60)], [], M72)
        refine mm_s1 rfl ?_
        refine nn_getr rfl (nn_c407 NN).1 (lf_13_0 L N (nn_c407 NN)) ?_
        refine mm_s1 rfl ?_
        refine mm_s1 rfl ?_
        refine mm_s1 rfl ?_
        show mm_Go (mm_run 5) mc_M_open _ (81, [(0, .inr (.inr 407)), (1, .inl v1), (2, .inl v2), (3, .inl v3), (4, .inl v4), (5, .inl (nf_M_cursorAt 0 v4)), (6, .inl (nf_M_at 0 v1)), (7, .inl r60)], [.inl (mm_w ((nf_M_cursorAt 0 v4) + 1)), .inr (.inr 408)], M72)
        refine mm_s1 rfl ?_
        obtain ⟨b83, h⟩ := h
        refine mm_s1 rfl ⟨nn_bd (na_13_0 NN (nn_c407 NN)) b83, ?_⟩
        show mm_Go (mm_run 5) mc_M_open _ (84, [(0, .inr (.inr 407)), (1, .inl v1), (2, .inl v2), (3, .inl v3), (4, .inl v4), (5, .inl (nf_M_cursorAt 0 v4)), (6, .inl (nf_M_at 0 v1)), (7, .inl r60)], [], (nn_ui M72 408 (mm_w ((nf_M_cursorAt 0 v4) + 1)) r60))
        have L : nn_L (nn_ui M72 408 (mm_w ((nf_M_cursorAt 0 v4) + 1)) r60) := nn_L_ua L (congrArg Prod.fst (na_13_0 NN (nn_c407 NN))) (by decide)
        have N : (nn_ui M72 408 (mm_w ((nf_M_cursorAt 0 v4) + 1)) r60).1 = n := N
        generalize e_M83 : (nn_ui M72 408 (mm_w ((nf_M_cursorAt 0 v4) + 1)) r60) = M83 at L N ⊢
        replace h := h _ e_M83.symm
        show mm_Go (mm_run 5) mc_M_open _ (84, [(0, .inr (.inr 407)), (1, .inl v1), (2, .inl v2), (3, .inl v3), (4, .inl v4), (5, .inl (nf_M_cursorAt 0 v4)), (6, .inl (nf_M_at 0 v1)), (7, .inl r60)], [], M83)
        refine mm_s1 rfl ?_
        refine nn_getr rfl (nn_c407 NN).1 (lf_13_0 L N (nn_c407 NN)) ?_
        refine mm_s1 rfl ?_
        refine mm_s1 rfl ?_
        refine mm_s1 rfl ?_
        show mm_Go (mm_run 5) mc_M_open _ (92, [(0, .inr (.inr 407)), (1, .inl v1), (2, .inl v2), (3, .inl v3), (4, .inl v4), (5, .inl (nf_M_cursorAt 0 v4)), (6, .inl (nf_M_at 0 v1)), (7, .inl r60)], [.inl (mm_w ((nf_M_cursorAt 0 v4) + 2)), .inr (.inr 408)], M83)
        refine mm_s1 rfl ?_
        obtain ⟨b93, h⟩ := h
        refine mm_s1 rfl ⟨nn_bd (na_13_0 NN (nn_c407 NN)) b93, ?_⟩
        show mm_Go (mm_run 5) mc_M_open _ (94, [(0, .inr (.inr 407)), (1, .inl v1), (2, .inl v2), (3, .inl v3), (4, .inl v4), (5, .inl (nf_M_cursorAt 0 v4)), (6, .inl (nf_M_at 0 v1)), (7, .inl r60)], [], (nn_ui M83 408 (mm_w ((nf_M_cursorAt 0 v4) + 2)) 0))
        have L : nn_L (nn_ui M83 408 (mm_w ((nf_M_cursorAt 0 v4) + 2)) 0) := nn_L_ua L (congrArg Prod.fst (na_13_0 NN (nn_c407 NN))) (by decide)
        have N : (nn_ui M83 408 (mm_w ((nf_M_cursorAt 0 v4) + 2)) 0).1 = n := N
        generalize e_M93 : (nn_ui M83 408 (mm_w ((nf_M_cursorAt 0 v4) + 2)) 0) = M93 at L N ⊢
        replace h := h _ e_M93.symm
        show mm_Go (mm_run 5) mc_M_open _ (94, [(0, .inr (.inr 407)), (1, .inl v1), (2, .inl v2), (3, .inl v3), (4, .inl v4), (5, .inl (nf_M_cursorAt 0 v4)), (6, .inl (nf_M_at 0 v1)), (7, .inl r60)], [], M93)
        refine mm_s1 rfl ?_
        refine mm_s1 rfl ?_
        show mm_Go (mm_run 5) mc_M_open _ (97, [(0, .inr (.inr 407)), (1, .inl v1), (2, .inl v2), (3, .inl v3), (4, .inl v4), (5, .inl (nf_M_cursorAt 0 v4)), (6, .inl (nf_M_at 0 v1)), (7, .inl r60), (8, .inl 0)], [], M93)
        exact nn_go_ext (nn_xc rfl (nn_xc rfl (nn_xc rfl (nn_xc rfl (nn_xc rfl (nn_xc rfl nn_xn)))))) (h n L N)
      · show mm_Go (mm_run 5) mc_M_open _ (38, [(0, .inr (.inr 407)), (1, .inl v1), (2, .inl v2), (3, .inl v3), (4, .inl v4)], [], M)
        replace c35 := Decidable.not_not.mp c35
        refine mm_s1 rfl ?_
        replace h := h.1 (Or.inr c35)
        exact mm_s1 rfl ⟨_, rfl, L, N, h⟩
  · show mm_Go (mm_run 5) mc_M_open _ (9, [(0, .inr (.inr 407)), (1, .inl v1), (2, .inl v2), (3, .inl v3), (4, .inl v4)], [], M)
    replace c6 := Int.not_le.mp c6
    replace h := h.2 c6
    refine mm_s1 rfl ?_
    refine mm_s1 rfl ?_
    obtain ⟨b12, h⟩ := h
    refine mm_s1 rfl ⟨(nn_c407 NN).1, ?_⟩
    refine np_M_isOpen (by decide) L N b12 ?_
    show mm_Go (mm_run 5) mc_M_open _ (15, [(0, .inr (.inr 407)), (1, .inl v1), (2, .inl v2), (3, .inl v3), (4, .inl v4)], [.inl (nf_M_isOpen v4 M)], M)
    refine mm_s1 rfl ⟨fun c15 => ?_, fun c15 => ?_⟩
    · show mm_Go (mm_run 5) mc_M_open _ (24, [(0, .inr (.inr 407)), (1, .inl v1), (2, .inl v2), (3, .inl v3), (4, .inl v4)], [], M)
      replace h := h.1 c15
      refine mm_s1 rfl ?_
      refine mm_s1 rfl ?_
      obtain ⟨b26, h⟩ := h
      refine mm_s1 rfl ⟨(nn_c407 NN).1, ?_⟩
      refine np_M_isBuilt (by decide) L N b26 ?_
      show mm_Go (mm_run 5) mc_M_open _ (29, [(0, .inr (.inr 407)), (1, .inl v1), (2, .inl v2), (3, .inl v3), (4, .inl v4)], [.inl (nf_M_isBuilt v1 M)], M)
      refine mm_s1 rfl ⟨fun c29 => ?_, fun c29 => ?_⟩
      · show mm_Go (mm_run 5) mc_M_open _ (38, [(0, .inr (.inr 407)), (1, .inl v1), (2, .inl v2), (3, .inl v3), (4, .inl v4)], [], M)
        refine mm_s1 rfl ?_
        replace h := h.1 (Or.inl c29)
        exact mm_s1 rfl ⟨_, rfl, L, N, h⟩
      · show mm_Go (mm_run 5) mc_M_open _ (32, [(0, .inr (.inr 407)), (1, .inl v1), (2, .inl v2), (3, .inl v3), (4, .inl v4)], [], M)
        refine mm_s1 rfl ?_
        refine mm_s1 rfl ?_
        refine mm_s1 rfl ⟨fun c35 => ?_, fun c35 => ?_⟩
        · show mm_Go (mm_run 5) mc_M_open _ (40, [(0, .inr (.inr 407)), (1, .inl v1), (2, .inl v2), (3, .inl v3), (4, .inl v4)], [], M)
          refine mm_s1 rfl ?_
          refine mm_s1 rfl ?_
          refine mm_s1 rfl ⟨trivial, ?_⟩
          refine np_M_cursorAt (by decide) L N ?_
          show mm_Go (mm_run 5) mc_M_open _ (46, [(0, .inr (.inr 407)), (1, .inl v1), (2, .inl v2), (3, .inl v3), (4, .inl v4)], [.inl (nf_M_cursorAt 0 v4)], M)
          refine mm_s1 rfl ?_
          show mm_Go (mm_run 5) mc_M_open _ (48, [(0, .inr (.inr 407)), (1, .inl v1), (2, .inl v2), (3, .inl v3), (4, .inl v4), (5, .inl (nf_M_cursorAt 0 v4))], [], M)
          refine mm_s1 rfl ?_
          refine mm_s1 rfl ?_
          refine mm_s1 rfl ⟨trivial, ?_⟩
          refine np_M_at (by decide) L N ?_
          show mm_Go (mm_run 5) mc_M_open _ (53, [(0, .inr (.inr 407)), (1, .inl v1), (2, .inl v2), (3, .inl v3), (4, .inl v4), (5, .inl (nf_M_cursorAt 0 v4))], [.inl (nf_M_at 0 v1)], M)
          refine mm_s1 rfl ?_
          show mm_Go (mm_run 5) mc_M_open _ (55, [(0, .inr (.inr 407)), (1, .inl v1), (2, .inl v2), (3, .inl v3), (4, .inl v4), (5, .inl (nf_M_cursorAt 0 v4)), (6, .inl (nf_M_at 0 v1))], [], M)
          refine mm_s1 rfl ?_
          refine mm_s1 rfl ?_
          refine mm_s1 rfl ?_
          refine mm_s1 rfl ?_
          refine mm_s1 rfl ?_
          show mm_Go (mm_run 5) mc_M_open _ (60, [(0, .inr (.inr 407)), (1, .inl v1), (2, .inl v2), (3, .inl v3), (4, .inl v4), (5, .inl (nf_M_cursorAt 0 v4)), (6, .inl (nf_M_at 0 v1))], [.inl v3, .inl v2, .inl v1, .inl 0, .inr (.inr 407)], M)
          replace h := h.2 ⟨c29, c35⟩
          refine mm_s1 rfl ⟨(nn_c407 NN).1, ?_⟩
          refine nn_call (D := 5) (by decide) (h n L N) ?_
          intro v M60 q; clear L N h
          obtain ⟨r60, rfl, L, N, h⟩ := q
          show mm_Go (mm_run 5) mc_M_open _ (63, [(0, .inr (.inr 407)), (1, .inl v1), (2, .inl v2), (3, .inl v3), (4, .inl v4), (5, .inl (nf_M_cursorAt 0 v4)), (6, .inl (nf_M_at 0 v1))], [.inl r60], M60)
          refine mm_s1 rfl ?_
          show mm_Go (mm_run 5) mc_M_open _ (65, [(0, .inr (.inr 407)), (1, .inl v1), (2, .inl v2), (3, .inl v3), (4, .inl v4), (5, .inl (nf_M_cursorAt 0 v4)), (6, .inl (nf_M_at 0 v1)), (7, .inl r60)], [], M60)
          refine mm_s1 rfl ?_
          refine nn_getr rfl (nn_c407 NN).1 (lf_13_0 L N (nn_c407 NN)) ?_
          refine mm_s1 rfl ?_
          refine mm_s1 rfl ?_
          obtain ⟨b72, h⟩ := h
          refine mm_s1 rfl ⟨nn_bd (na_13_0 NN (nn_c407 NN)) b72, ?_⟩
          show mm_Go (mm_run 5) mc_M_open _ (73, [(0, .inr (.inr 407)), (1, .inl v1), (2, .inl v2), (3, .inl v3), (4, .inl v4), (5, .inl (nf_M_cursorAt 0 v4)), (6, .inl (nf_M_at 0 v1)), (7, .inl r60)], [], (nn_ui M60 408 (nf_M_cursorAt 0 v4) 1))
          have L : nn_L (nn_ui M60 408 (nf_M_cursorAt 0 v4) 1) := nn_L_ua L (congrArg Prod.fst (na_13_0 NN (nn_c407 NN))) (by decide)
          have N : (nn_ui M60 408 (nf_M_cursorAt 0 v4) 1).1 = n := N
          generalize e_M72 : (nn_ui M60 408 (nf_M_cursorAt 0 v4) 1) = M72 at L N ⊢
          replace h := h _ e_M72.symm
          show mm_Go (mm_run 5) mc_M_open _ (73, [(0, .inr (.inr 407)), (1, .inl v1), (2, .inl v2), (3, .inl v3), (4, .inl v4), (5, .inl (nf_M_cursorAt 0 v4)), (6, .inl (nf_M_at 0 v1)), (7, .inl r60)], [], M72)
          refine mm_s1 rfl ?_
          refine nn_getr rfl (nn_c407 NN).1 (lf_13_0 L N (nn_c407 NN)) ?_
          refine mm_s1 rfl ?_
          refine mm_s1 rfl ?_
          refine mm_s1 rfl ?_
          show mm_Go (mm_run 5) mc_M_open _ (81, [(0, .inr (.inr 407)), (1, .inl v1), (2, .inl v2), (3, .inl v3), (4, .inl v4), (5, .inl (nf_M_cursorAt 0 v4)), (6, .inl (nf_M_at 0 v1)), (7, .inl r60)], [.inl (mm_w ((nf_M_cursorAt 0 v4) + 1)), .inr (.inr 408)], M72)
          refine mm_s1 rfl ?_
          obtain ⟨b83, h⟩ := h
          refine mm_s1 rfl ⟨nn_bd (na_13_0 NN (nn_c407 NN)) b83, ?_⟩
          show mm_Go (mm_run 5) mc_M_open _ (84, [(0, .inr (.inr 407)), (1, .inl v1), (2, .inl v2), (3, .inl v3), (4, .inl v4), (5, .inl (nf_M_cursorAt 0 v4)), (6, .inl (nf_M_at 0 v1)), (7, .inl r60)], [], (nn_ui M72 408 (mm_w ((nf_M_cursorAt 0 v4) + 1)) r60))
          have L : nn_L (nn_ui M72 408 (mm_w ((nf_M_cursorAt 0 v4) + 1)) r60) := nn_L_ua L (congrArg Prod.fst (na_13_0 NN (nn_c407 NN))) (by decide)
          have N : (nn_ui M72 408 (mm_w ((nf_M_cursorAt 0 v4) + 1)) r60).1 = n := N
          generalize e_M83 : (nn_ui M72 408 (mm_w ((nf_M_cursorAt 0 v4) + 1)) r60) = M83 at L N ⊢
          replace h := h _ e_M83.symm
          show mm_Go (mm_run 5) mc_M_open _ (84, [(0, .inr (.inr 407)), (1, .inl v1), (2, .inl v2), (3, .inl v3), (4, .inl v4), (5, .inl (nf_M_cursorAt 0 v4)), (6, .inl (nf_M_at 0 v1)), (7, .inl r60)], [], M83)
          refine mm_s1 rfl ?_
          refine nn_getr rfl (nn_c407 NN).1 (lf_13_0 L N (nn_c407 NN)) ?_
          refine mm_s1 rfl ?_
          refine mm_s1 rfl ?_
          refine mm_s1 rfl ?_
          show mm_Go (mm_run 5) mc_M_open _ (92, [(0, .inr (.inr 407)), (1, .inl v1), (2, .inl v2), (3, .inl v3), (4, .inl v4), (5, .inl (nf_M_cursorAt 0 v4)), (6, .inl (nf_M_at 0 v1)), (7, .inl r60)], [.inl (mm_w ((nf_M_cursorAt 0 v4) + 2)), .inr (.inr 408)], M83)
          refine mm_s1 rfl ?_
          obtain ⟨b93, h⟩ := h
          refine mm_s1 rfl ⟨nn_bd (na_13_0 NN (nn_c407 NN)) b93, ?_⟩
          show mm_Go (mm_run 5) mc_M_open _ (94, [(0, .inr (.inr 407)), (1, .inl v1), (2, .inl v2), (3, .inl v3), (4, .inl v4), (5, .inl (nf_M_cursorAt 0 v4)), (6, .inl (nf_M_at 0 v1)), (7, .inl r60)], [], (nn_ui M83 408 (mm_w ((nf_M_cursorAt 0 v4) + 2)) 0))
          have L : nn_L (nn_ui M83 408 (mm_w ((nf_M_cursorAt 0 v4) + 2)) 0) := nn_L_ua L (congrArg Prod.fst (na_13_0 NN (nn_c407 NN))) (by decide)
          have N : (nn_ui M83 408 (mm_w ((nf_M_cursorAt 0 v4) + 2)) 0).1 = n := N
          generalize e_M93 : (nn_ui M83 408 (mm_w ((nf_M_cursorAt 0 v4) + 2)) 0) = M93 at L N ⊢
          replace h := h _ e_M93.symm
          show mm_Go (mm_run 5) mc_M_open _ (94, [(0, .inr (.inr 407)), (1, .inl v1), (2, .inl v2), (3, .inl v3), (4, .inl v4), (5, .inl (nf_M_cursorAt 0 v4)), (6, .inl (nf_M_at 0 v1)), (7, .inl r60)], [], M93)
          refine mm_s1 rfl ?_
          refine mm_s1 rfl ?_
          show mm_Go (mm_run 5) mc_M_open _ (97, [(0, .inr (.inr 407)), (1, .inl v1), (2, .inl v2), (3, .inl v3), (4, .inl v4), (5, .inl (nf_M_cursorAt 0 v4)), (6, .inl (nf_M_at 0 v1)), (7, .inl r60), (8, .inl 0)], [], M93)
          exact nn_go_ext (nn_xc rfl (nn_xc rfl (nn_xc rfl (nn_xc rfl (nn_xc rfl (nn_xc rfl nn_xn)))))) (h n L N)
        · show mm_Go (mm_run 5) mc_M_open _ (38, [(0, .inr (.inr 407)), (1, .inl v1), (2, .inl v2), (3, .inl v3), (4, .inl v4)], [], M)
          replace c35 := Decidable.not_not.mp c35
          refine mm_s1 rfl ?_
          replace h := h.1 (Or.inr c35)
          exact mm_s1 rfl ⟨_, rfl, L, N, h⟩
    · show mm_Go (mm_run 5) mc_M_open _ (18, [(0, .inr (.inr 407)), (1, .inl v1), (2, .inl v2), (3, .inl v3), (4, .inl v4)], [], M)
      replace h := h.2 c15
      refine mm_s1 rfl ?_
      show mm_Go (mm_run 5) mc_M_open _ (21, [(0, .inr (.inr 407)), (1, .inl v1), (2, .inl v2), (3, .inl v3), (4, .inl (mm_w (v4 + 1)))], [], M)
      refine mm_s1 rfl ?_
      show mm_Go (mm_run 5) mc_M_open _ (3, [(0, .inr (.inr 407)), (1, .inl v1), (2, .inl v2), (3, .inl v3), (4, .inl (mm_w (v4 + 1)))], [], M)
      exact nn_go_ext (nn_xc rfl (nn_xc rfl (nn_xc rfl (nn_xc rfl (nn_xc rfl nn_xn))))) (h n L N)
set_option maxRecDepth 20000 in
theorem ng_M_open_97 (v4 : Int) (v5 : Int) (v6 : Int) (v7 : Int) (v8 : Int) (M : mm_M) (R : Int → mm_M → Prop) (h : ((v7 ≤ v8 → (((0 : Int) ≤ (mm_w (v6 + 5)) ∧ (mm_w (v6 + 5)) < (32844 : Int)) ∧ (((0 : Int) ≤ (mm_w (v5 + 35)) ∧ (mm_w (v5 + 35)) < (32844 : Int)) ∧ (∀ M154 : mm_M, M154 = nn_ui M 408 (mm_w (v5 + 35)) (mm_w ((nn_ri M 408 5) + (nn_ri M 408 (mm_w (v6 + 5))))) → nk_M_open_158 v4 v5 v6 0 M154 R)))) ∧ (v8 < v7 → (((0 : Int) ≤ v8 ∧ v8 < (32 : Int)) ∧ (((0 : Int) ≤ (mm_w ((mm_w (v5 + 3)) + v8)) ∧ (mm_w ((mm_w (v5 + 3)) + v8)) < (32844 : Int)) ∧ (∀ M122 : mm_M, M122 = nn_ui M 408 (mm_w ((mm_w (v5 + 3)) + v8)) (nn_ri M 410 v8) → nk_M_open_97 v4 v5 v6 v7 (mm_w (v8 + 1)) M122 R)))))) : nk_M_open_97 v4 v5 v6 v7 v8 M R := by
  intro n L N 
  have NN := nn_L_n L N
  show mm_Go (mm_run 5) mc_M_open _ (97, [(0, .inr (.inr 407)), (4, .inl v4), (5, .inl v5), (6, .inl v6), (7, .inl v7), (8, .inl v8)], [], M)
  refine mm_s1 rfl ?_
  refine mm_s1 rfl ?_
  refine mm_s1 rfl ⟨fun c101 => ?_, fun c101 => ?_⟩
  · show mm_Go (mm_run 5) mc_M_open _ (129, [(0, .inr (.inr 407)), (4, .inl v4), (5, .inl v5), (6, .inl v6), (7, .inl v7), (8, .inl v8)], [], M)
    replace h := h.1 c101
    refine mm_s1 rfl ?_
    refine nn_getr rfl (nn_c407 NN).1 (lf_13_0 L N (nn_c407 NN)) ?_
    refine mm_s1 rfl ?_
    refine mm_s1 rfl ?_
    refine mm_s1 rfl ?_
    show mm_Go (mm_run 5) mc_M_open _ (138, [(0, .inr (.inr 407)), (4, .inl v4), (5, .inl v5), (6, .inl v6), (7, .inl v7), (8, .inl v8)], [.inl (mm_w (v5 + 35)), .inr (.inr 408)], M)
    refine mm_s1 rfl ?_
    refine nn_getr rfl (nn_c407 NN).1 (lf_13_0 L N (nn_c407 NN)) ?_
    refine mm_s1 rfl ?_
    refine mm_s1 rfl ⟨nn_bd (na_13_0 NN (nn_c407 NN)) (by decide), ?_⟩
    show mm_Go (mm_run 5) mc_M_open _ (144, [(0, .inr (.inr 407)), (4, .inl v4), (5, .inl v5), (6, .inl v6), (7, .inl v7), (8, .inl v8)], [.inl (nn_ri M 408 5), .inl (mm_w (v5 + 35)), .inr (.inr 408)], M)
    refine mm_s1 rfl ?_
    refine nn_getr rfl (nn_c407 NN).1 (lf_13_0 L N (nn_c407 NN)) ?_
    refine mm_s1 rfl ?_
    refine mm_s1 rfl ?_
    refine mm_s1 rfl ?_
    show mm_Go (mm_run 5) mc_M_open _ (152, [(0, .inr (.inr 407)), (4, .inl v4), (5, .inl v5), (6, .inl v6), (7, .inl v7), (8, .inl v8)], [.inl (mm_w (v6 + 5)), .inr (.inr 408), .inl (nn_ri M 408 5), .inl (mm_w (v5 + 35)), .inr (.inr 408)], M)
    obtain ⟨b152, h⟩ := h
    refine mm_s1 rfl ⟨nn_bd (na_13_0 NN (nn_c407 NN)) b152, ?_⟩
    show mm_Go (mm_run 5) mc_M_open _ (153, [(0, .inr (.inr 407)), (4, .inl v4), (5, .inl v5), (6, .inl v6), (7, .inl v7), (8, .inl v8)], [.inl (nn_ri M 408 (mm_w (v6 + 5))), .inl (nn_ri M 408 5), .inl (mm_w (v5 + 35)), .inr (.inr 408)], M)
    refine mm_s1 rfl ?_
    obtain ⟨b154, h⟩ := h
    refine mm_s1 rfl ⟨nn_bd (na_13_0 NN (nn_c407 NN)) b154, ?_⟩
    show mm_Go (mm_run 5) mc_M_open _ (155, [(0, .inr (.inr 407)), (4, .inl v4), (5, .inl v5), (6, .inl v6), (7, .inl v7), (8, .inl v8)], [], (nn_ui M 408 (mm_w (v5 + 35)) (mm_w ((nn_ri M 408 5) + (nn_ri M 408 (mm_w (v6 + 5)))))))
    have L : nn_L (nn_ui M 408 (mm_w (v5 + 35)) (mm_w ((nn_ri M 408 5) + (nn_ri M 408 (mm_w (v6 + 5)))))) := nn_L_ua L (congrArg Prod.fst (na_13_0 NN (nn_c407 NN))) (by decide)
    have N : (nn_ui M 408 (mm_w (v5 + 35)) (mm_w ((nn_ri M 408 5) + (nn_ri M 408 (mm_w (v6 + 5)))))).1 = n := N
    generalize e_M154 : (nn_ui M 408 (mm_w (v5 + 35)) (mm_w ((nn_ri M 408 5) + (nn_ri M 408 (mm_w (v6 + 5)))))) = M154 at L N ⊢
    replace h := h _ e_M154.symm
    show mm_Go (mm_run 5) mc_M_open _ (155, [(0, .inr (.inr 407)), (4, .inl v4), (5, .inl v5), (6, .inl v6), (7, .inl v7), (8, .inl v8)], [], M154)
    refine mm_s1 rfl ?_
    refine mm_s1 rfl ?_
    show mm_Go (mm_run 5) mc_M_open _ (158, [(0, .inr (.inr 407)), (4, .inl v4), (5, .inl v5), (6, .inl v6), (7, .inl v7), (8, .inl 0)], [], M154)
    exact nn_go_ext (nn_xc rfl (nn_xc rfl (nn_xc rfl (nn_xc rfl (nn_xc rfl nn_xn))))) (h n L N)
  · show mm_Go (mm_run 5) mc_M_open _ (104, [(0, .inr (.inr 407)), (4, .inl v4), (5, .inl v5), (6, .inl v6), (7, .inl v7), (8, .inl v8)], [], M)
    replace c101 := Int.not_le.mp c101
    replace h := h.2 c101
    refine mm_s1 rfl ?_
    refine nn_getr rfl (nn_c407 NN).1 (lf_13_0 L N (nn_c407 NN)) ?_
    refine mm_s1 rfl ?_
    refine mm_s1 rfl ?_
    refine mm_s1 rfl ?_
    show mm_Go (mm_run 5) mc_M_open _ (112, [(0, .inr (.inr 407)), (4, .inl v4), (5, .inl v5), (6, .inl v6), (7, .inl v7), (8, .inl v8)], [.inl (mm_w (v5 + 3)), .inr (.inr 408)], M)
    refine mm_s1 rfl ?_
    refine mm_s1 rfl ?_
    refine mm_s1 rfl ?_
    refine nn_getr rfl (nn_c407 NN).1 (lf_13_10 L N (nn_c407 NN)) ?_
    refine mm_s1 rfl ?_
    show mm_Go (mm_run 5) mc_M_open _ (121, [(0, .inr (.inr 407)), (4, .inl v4), (5, .inl v5), (6, .inl v6), (7, .inl v7), (8, .inl v8)], [.inl v8, .inr (.inr 410), .inl (mm_w ((mm_w (v5 + 3)) + v8)), .inr (.inr 408)], M)
    obtain ⟨b121, h⟩ := h
    refine mm_s1 rfl ⟨nn_bd (na_13_10 NN (nn_c407 NN)) b121, ?_⟩
    show mm_Go (mm_run 5) mc_M_open _ (122, [(0, .inr (.inr 407)), (4, .inl v4), (5, .inl v5), (6, .inl v6), (7, .inl v7), (8, .inl v8)], [.inl (nn_ri M 410 v8), .inl (mm_w ((mm_w (v5 + 3)) + v8)), .inr (.inr 408)], M)
    obtain ⟨b122, h⟩ := h
    refine mm_s1 rfl ⟨nn_bd (na_13_0 NN (nn_c407 NN)) b122, ?_⟩
    show mm_Go (mm_run 5) mc_M_open _ (123, [(0, .inr (.inr 407)), (4, .inl v4), (5, .inl v5), (6, .inl v6), (7, .inl v7), (8, .inl v8)], [], (nn_ui M 408 (mm_w ((mm_w (v5 + 3)) + v8)) (nn_ri M 410 v8)))
    have L : nn_L (nn_ui M 408 (mm_w ((mm_w (v5 + 3)) + v8)) (nn_ri M 410 v8)) := nn_L_ua L (congrArg Prod.fst (na_13_0 NN (nn_c407 NN))) (by decide)
    have N : (nn_ui M 408 (mm_w ((mm_w (v5 + 3)) + v8)) (nn_ri M 410 v8)).1 = n := N
    generalize e_M122 : (nn_ui M 408 (mm_w ((mm_w (v5 + 3)) + v8)) (nn_ri M 410 v8)) = M122 at L N ⊢
    replace h := h _ e_M122.symm
    show mm_Go (mm_run 5) mc_M_open _ (123, [(0, .inr (.inr 407)), (4, .inl v4), (5, .inl v5), (6, .inl v6), (7, .inl v7), (8, .inl v8)], [], M122)
    refine mm_s1 rfl ?_
    show mm_Go (mm_run 5) mc_M_open _ (126, [(0, .inr (.inr 407)), (4, .inl v4), (5, .inl v5), (6, .inl v6), (7, .inl v7), (8, .inl (mm_w (v8 + 1)))], [], M122)
    refine mm_s1 rfl ?_
    show mm_Go (mm_run 5) mc_M_open _ (97, [(0, .inr (.inr 407)), (4, .inl v4), (5, .inl v5), (6, .inl v6), (7, .inl v7), (8, .inl (mm_w (v8 + 1)))], [], M122)
    exact nn_go_ext (nn_xc rfl (nn_xc rfl (nn_xc rfl (nn_xc rfl (nn_xc rfl (nn_xc rfl nn_xn)))))) (h n L N)
set_option maxRecDepth 20000 in
theorem ng_M_open_158 (v4 : Int) (v5 : Int) (v6 : Int) (v8 : Int) (M : mm_M) (R : Int → mm_M → Prop) (h : (((nn_ri M 408 5) ≤ v8 → nk_M_open_204 v4 v5 v6 0 M R) ∧ (v8 < (nn_ri M 408 5) → (((0 : Int) ≤ (nf_M_runAt 0 v8) ∧ (nf_M_runAt 0 v8) < (32844 : Int)) ∧ (((0 : Int) ≤ (mm_w ((mm_w ((mm_w (v5 + 35)) + 1)) + v8)) ∧ (mm_w ((mm_w ((mm_w (v5 + 35)) + 1)) + v8)) < (32844 : Int)) ∧ (∀ M194 : mm_M, M194 = nn_ui M 408 (mm_w ((mm_w ((mm_w (v5 + 35)) + 1)) + v8)) (nn_ri M 408 (nf_M_runAt 0 v8)) → nk_M_open_158 v4 v5 v6 (mm_w (v8 + 1)) M194 R)))))) : nk_M_open_158 v4 v5 v6 v8 M R := by
  intro n L N 
  have NN := nn_L_n L N
  show mm_Go (mm_run 5) mc_M_open _ (158, [(0, .inr (.inr 407)), (4, .inl v4), (5, .inl v5), (6, .inl v6), (8, .inl v8)], [], M)
  refine mm_s1 rfl ?_
  refine mm_s1 rfl ?_
  refine nn_getr rfl (nn_c407 NN).1 (lf_13_0 L N (nn_c407 NN)) ?_
  refine mm_s1 rfl ?_
  refine mm_s1 rfl ⟨nn_bd (na_13_0 NN (nn_c407 NN)) (by decide), ?_⟩
  show mm_Go (mm_run 5) mc_M_open _ (166, [(0, .inr (.inr 407)), (4, .inl v4), (5, .inl v5), (6, .inl v6), (8, .inl v8)], [.inl (nn_ri M 408 5), .inl v8], M)
  refine mm_s1 rfl ⟨fun c166 => ?_, fun c166 => ?_⟩
  · show mm_Go (mm_run 5) mc_M_open _ (201, [(0, .inr (.inr 407)), (4, .inl v4), (5, .inl v5), (6, .inl v6), (8, .inl v8)], [], M)
    replace h := h.1 c166
    refine mm_s1 rfl ?_
    refine mm_s1 rfl ?_
    show mm_Go (mm_run 5) mc_M_open _ (204, [(0, .inr (.inr 407)), (4, .inl v4), (5, .inl v5), (6, .inl v6), (8, .inl 0)], [], M)
    exact nn_go_ext (nn_xc rfl (nn_xc rfl (nn_xc rfl (nn_xc rfl (nn_xc rfl nn_xn))))) (h n L N)
  · show mm_Go (mm_run 5) mc_M_open _ (169, [(0, .inr (.inr 407)), (4, .inl v4), (5, .inl v5), (6, .inl v6), (8, .inl v8)], [], M)
    replace c166 := Int.not_le.mp c166
    replace h := h.2 c166
    refine mm_s1 rfl ?_
    refine nn_getr rfl (nn_c407 NN).1 (lf_13_0 L N (nn_c407 NN)) ?_
    refine mm_s1 rfl ?_
    refine mm_s1 rfl ?_
    refine mm_s1 rfl ?_
    show mm_Go (mm_run 5) mc_M_open _ (178, [(0, .inr (.inr 407)), (4, .inl v4), (5, .inl v5), (6, .inl v6), (8, .inl v8)], [.inl (mm_w (v5 + 35)), .inr (.inr 408)], M)
    refine mm_s1 rfl ?_
    refine mm_s1 rfl ?_
    refine mm_s1 rfl ?_
    refine mm_s1 rfl ?_
    refine mm_s1 rfl ?_
    show mm_Go (mm_run 5) mc_M_open _ (184, [(0, .inr (.inr 407)), (4, .inl v4), (5, .inl v5), (6, .inl v6), (8, .inl v8)], [.inr (.inr 407), .inl (mm_w ((mm_w ((mm_w (v5 + 35)) + 1)) + v8)), .inr (.inr 408)], M)
    refine nn_getr rfl (nn_c407 NN).1 (lf_13_0 L N (nn_c407 NN)) ?_
    refine mm_s1 rfl ?_
    refine mm_s1 rfl ?_
    refine mm_s1 rfl ⟨trivial, ?_⟩
    refine np_M_runAt (by decide) L N ?_
    show mm_Go (mm_run 5) mc_M_open _ (193, [(0, .inr (.inr 407)), (4, .inl v4), (5, .inl v5), (6, .inl v6), (8, .inl v8)], [.inl (nf_M_runAt 0 v8), .inr (.inr 408), .inl (mm_w ((mm_w ((mm_w (v5 + 35)) + 1)) + v8)), .inr (.inr 408)], M)
    obtain ⟨b193, h⟩ := h
    refine mm_s1 rfl ⟨nn_bd (na_13_0 NN (nn_c407 NN)) b193, ?_⟩
    show mm_Go (mm_run 5) mc_M_open _ (194, [(0, .inr (.inr 407)), (4, .inl v4), (5, .inl v5), (6, .inl v6), (8, .inl v8)], [.inl (nn_ri M 408 (nf_M_runAt 0 v8)), .inl (mm_w ((mm_w ((mm_w (v5 + 35)) + 1)) + v8)), .inr (.inr 408)], M)
    obtain ⟨b194, h⟩ := h
    refine mm_s1 rfl ⟨nn_bd (na_13_0 NN (nn_c407 NN)) b194, ?_⟩
    show mm_Go (mm_run 5) mc_M_open _ (195, [(0, .inr (.inr 407)), (4, .inl v4), (5, .inl v5), (6, .inl v6), (8, .inl v8)], [], (nn_ui M 408 (mm_w ((mm_w ((mm_w (v5 + 35)) + 1)) + v8)) (nn_ri M 408 (nf_M_runAt 0 v8))))
    have L : nn_L (nn_ui M 408 (mm_w ((mm_w ((mm_w (v5 + 35)) + 1)) + v8)) (nn_ri M 408 (nf_M_runAt 0 v8))) := nn_L_ua L (congrArg Prod.fst (na_13_0 NN (nn_c407 NN))) (by decide)
    have N : (nn_ui M 408 (mm_w ((mm_w ((mm_w (v5 + 35)) + 1)) + v8)) (nn_ri M 408 (nf_M_runAt 0 v8))).1 = n := N
    generalize e_M194 : (nn_ui M 408 (mm_w ((mm_w ((mm_w (v5 + 35)) + 1)) + v8)) (nn_ri M 408 (nf_M_runAt 0 v8))) = M194 at L N ⊢
    replace h := h _ e_M194.symm
    show mm_Go (mm_run 5) mc_M_open _ (195, [(0, .inr (.inr 407)), (4, .inl v4), (5, .inl v5), (6, .inl v6), (8, .inl v8)], [], M194)
    refine mm_s1 rfl ?_
    show mm_Go (mm_run 5) mc_M_open _ (198, [(0, .inr (.inr 407)), (4, .inl v4), (5, .inl v5), (6, .inl v6), (8, .inl (mm_w (v8 + 1)))], [], M194)
    refine mm_s1 rfl ?_
    show mm_Go (mm_run 5) mc_M_open _ (158, [(0, .inr (.inr 407)), (4, .inl v4), (5, .inl v5), (6, .inl v6), (8, .inl (mm_w (v8 + 1)))], [], M194)
    exact nn_go_ext (nn_xc rfl (nn_xc rfl (nn_xc rfl (nn_xc rfl (nn_xc rfl nn_xn))))) (h n L N)
set_option maxRecDepth 20000 in
theorem ng_M_open_204 (v4 : Int) (v5 : Int) (v6 : Int) (v8 : Int) (M : mm_M) (R : Int → mm_M → Prop) (h : (((0 : Int) ≤ (mm_w (v6 + 5)) ∧ (mm_w (v6 + 5)) < (32844 : Int)) ∧ (((nn_ri M 408 (mm_w (v6 + 5))) ≤ v8 → R v4 M) ∧ (v8 < (nn_ri M 408 (mm_w (v6 + 5))) → (((0 : Int) ≤ (nf_M_head v6 v8) ∧ (nf_M_head v6 v8) < (32844 : Int)) ∧ (((0 : Int) ≤ (mm_w ((mm_w ((mm_w ((mm_w (v5 + 35)) + 1)) + (nn_ri M 408 5))) + v8)) ∧ (mm_w ((mm_w ((mm_w ((mm_w (v5 + 35)) + 1)) + (nn_ri M 408 5))) + v8)) < (32844 : Int)) ∧ (∀ M251 : mm_M, M251 = nn_ui M 408 (mm_w ((mm_w ((mm_w ((mm_w (v5 + 35)) + 1)) + (nn_ri M 408 5))) + v8)) (nn_ri M 408 (nf_M_head v6 v8)) → nk_M_open_204 v4 v5 v6 (mm_w (v8 + 1)) M251 R))))))) : nk_M_open_204 v4 v5 v6 v8 M R := by
  intro n L N 
  have NN := nn_L_n L N
  show mm_Go (mm_run 5) mc_M_open _ (204, [(0, .inr (.inr 407)), (4, .inl v4), (5, .inl v5), (6, .inl v6), (8, .inl v8)], [], M)
  refine mm_s1 rfl ?_
  refine mm_s1 rfl ?_
  refine nn_getr rfl (nn_c407 NN).1 (lf_13_0 L N (nn_c407 NN)) ?_
  refine mm_s1 rfl ?_
  refine mm_s1 rfl ?_
  show mm_Go (mm_run 5) mc_M_open _ (213, [(0, .inr (.inr 407)), (4, .inl v4), (5, .inl v5), (6, .inl v6), (8, .inl v8)], [.inl 5, .inl v6, .inr (.inr 408), .inl v8], M)
  refine mm_s1 rfl ?_
  obtain ⟨b214, h⟩ := h
  refine mm_s1 rfl ⟨nn_bd (na_13_0 NN (nn_c407 NN)) b214, ?_⟩
  show mm_Go (mm_run 5) mc_M_open _ (215, [(0, .inr (.inr 407)), (4, .inl v4), (5, .inl v5), (6, .inl v6), (8, .inl v8)], [.inl (nn_ri M 408 (mm_w (v6 + 5))), .inl v8], M)
  refine mm_s1 rfl ⟨fun c215 => ?_, fun c215 => ?_⟩
  · show mm_Go (mm_run 5) mc_M_open _ (258, [(0, .inr (.inr 407)), (4, .inl v4), (5, .inl v5), (6, .inl v6), (8, .inl v8)], [], M)
    replace h := h.1 c215
    refine mm_s1 rfl ?_
    exact mm_s1 rfl ⟨_, rfl, L, N, h⟩
  · show mm_Go (mm_run 5) mc_M_open _ (218, [(0, .inr (.inr 407)), (4, .inl v4), (5, .inl v5), (6, .inl v6), (8, .inl v8)], [], M)
    replace c215 := Int.not_le.mp c215
    replace h := h.2 c215
    refine mm_s1 rfl ?_
    refine nn_getr rfl (nn_c407 NN).1 (lf_13_0 L N (nn_c407 NN)) ?_
    refine mm_s1 rfl ?_
    refine mm_s1 rfl ?_
    refine mm_s1 rfl ?_
    show mm_Go (mm_run 5) mc_M_open _ (227, [(0, .inr (.inr 407)), (4, .inl v4), (5, .inl v5), (6, .inl v6), (8, .inl v8)], [.inl (mm_w (v5 + 35)), .inr (.inr 408)], M)
    refine mm_s1 rfl ?_
    refine mm_s1 rfl ?_
    refine mm_s1 rfl ?_
    refine nn_getr rfl (nn_c407 NN).1 (lf_13_0 L N (nn_c407 NN)) ?_
    refine mm_s1 rfl ?_
    show mm_Go (mm_run 5) mc_M_open _ (234, [(0, .inr (.inr 407)), (4, .inl v4), (5, .inl v5), (6, .inl v6), (8, .inl v8)], [.inl 5, .inr (.inr 408), .inl (mm_w ((mm_w (v5 + 35)) + 1)), .inr (.inr 408)], M)
    refine mm_s1 rfl ⟨nn_bd (na_13_0 NN (nn_c407 NN)) (by decide), ?_⟩
    show mm_Go (mm_run 5) mc_M_open _ (235, [(0, .inr (.inr 407)), (4, .inl v4), (5, .inl v5), (6, .inl v6), (8, .inl v8)], [.inl (nn_ri M 408 5), .inl (mm_w ((mm_w (v5 + 35)) + 1)), .inr (.inr 408)], M)
    refine mm_s1 rfl ?_
    refine mm_s1 rfl ?_
    refine mm_s1 rfl ?_
    refine mm_s1 rfl ?_
    refine nn_getr rfl (nn_c407 NN).1 (lf_13_0 L N (nn_c407 NN)) ?_
    show mm_Go (mm_run 5) mc_M_open _ (243, [(0, .inr (.inr 407)), (4, .inl v4), (5, .inl v5), (6, .inl v6), (8, .inl v8)], [.inr (.inr 408), .inl (mm_w ((mm_w ((mm_w ((mm_w (v5 + 35)) + 1)) + (nn_ri M 408 5))) + v8)), .inr (.inr 408)], M)
    refine mm_s1 rfl ?_
    refine mm_s1 rfl ?_
    refine mm_s1 rfl ⟨trivial, ?_⟩
    refine np_M_head (by decide) L N ?_
    show mm_Go (mm_run 5) mc_M_open _ (250, [(0, .inr (.inr 407)), (4, .inl v4), (5, .inl v5), (6, .inl v6), (8, .inl v8)], [.inl (nf_M_head v6 v8), .inr (.inr 408), .inl (mm_w ((mm_w ((mm_w ((mm_w (v5 + 35)) + 1)) + (nn_ri M 408 5))) + v8)), .inr (.inr 408)], M)
    obtain ⟨b250, h⟩ := h
    refine mm_s1 rfl ⟨nn_bd (na_13_0 NN (nn_c407 NN)) b250, ?_⟩
    show mm_Go (mm_run 5) mc_M_open _ (251, [(0, .inr (.inr 407)), (4, .inl v4), (5, .inl v5), (6, .inl v6), (8, .inl v8)], [.inl (nn_ri M 408 (nf_M_head v6 v8)), .inl (mm_w ((mm_w ((mm_w ((mm_w (v5 + 35)) + 1)) + (nn_ri M 408 5))) + v8)), .inr (.inr 408)], M)
    obtain ⟨b251, h⟩ := h
    refine mm_s1 rfl ⟨nn_bd (na_13_0 NN (nn_c407 NN)) b251, ?_⟩
    show mm_Go (mm_run 5) mc_M_open _ (252, [(0, .inr (.inr 407)), (4, .inl v4), (5, .inl v5), (6, .inl v6), (8, .inl v8)], [], (nn_ui M 408 (mm_w ((mm_w ((mm_w ((mm_w (v5 + 35)) + 1)) + (nn_ri M 408 5))) + v8)) (nn_ri M 408 (nf_M_head v6 v8))))
    have L : nn_L (nn_ui M 408 (mm_w ((mm_w ((mm_w ((mm_w (v5 + 35)) + 1)) + (nn_ri M 408 5))) + v8)) (nn_ri M 408 (nf_M_head v6 v8))) := nn_L_ua L (congrArg Prod.fst (na_13_0 NN (nn_c407 NN))) (by decide)
    have N : (nn_ui M 408 (mm_w ((mm_w ((mm_w ((mm_w (v5 + 35)) + 1)) + (nn_ri M 408 5))) + v8)) (nn_ri M 408 (nf_M_head v6 v8))).1 = n := N
    generalize e_M251 : (nn_ui M 408 (mm_w ((mm_w ((mm_w ((mm_w (v5 + 35)) + 1)) + (nn_ri M 408 5))) + v8)) (nn_ri M 408 (nf_M_head v6 v8))) = M251 at L N ⊢
    replace h := h _ e_M251.symm
    show mm_Go (mm_run 5) mc_M_open _ (252, [(0, .inr (.inr 407)), (4, .inl v4), (5, .inl v5), (6, .inl v6), (8, .inl v8)], [], M251)
    refine mm_s1 rfl ?_
    show mm_Go (mm_run 5) mc_M_open _ (255, [(0, .inr (.inr 407)), (4, .inl v4), (5, .inl v5), (6, .inl v6), (8, .inl (mm_w (v8 + 1)))], [], M251)
    refine mm_s1 rfl ?_
    show mm_Go (mm_run 5) mc_M_open _ (204, [(0, .inr (.inr 407)), (4, .inl v4), (5, .inl v5), (6, .inl v6), (8, .inl (mm_w (v8 + 1)))], [], M251)
    exact nn_go_ext (nn_xc rfl (nn_xc rfl (nn_xc rfl (nn_xc rfl (nn_xc rfl nn_xn))))) (h n L N)
def nr_M_withValue (v1 : Int) (v2 : Int) (M : mm_M) (R : Int → mm_M → Prop) : Prop := ∀ n, nn_L M → M.1 = n → mm_run 6 mi_M_withValue [.inr (.inr 407), .inl v1, .inl v2] M (nw_I n R)
def nk_M_withValue_5 (v1 : Int) (v2 : Int) (v3 : Int) (v4 : Int) (M : mm_M) (R : Int → mm_M → Prop) : Prop := ∀ n, nn_L M → M.1 = n → mm_Go (mm_run 5) mc_M_withValue (nw_I n R) (5, [(0, .inr (.inr 407)), (1, .inl v1), (2, .inl v2), (3, .inl v3), (4, .inl v4)], [], M)
set_option maxRecDepth 20000 in
theorem ng_M_withValue (v1 : Int) (v2 : Int) (M : mm_M) (R : Int → mm_M → Prop) (h : nk_M_withValue_5 v1 v2 0 0 M R) : nr_M_withValue v1 v2 M R := by
  intro n L N 
  have NN := nn_L_n L N
  show mm_Go (mm_run 5) mc_M_withValue _ (0, [(0, .inr (.inr 407)), (1, .inl v1), (2, .inl v2)], [], M)
  refine mm_s1 rfl ?_
  refine mm_s1 rfl ?_
  show mm_Go (mm_run 5) mc_M_withValue _ (2, [(0, .inr (.inr 407)), (1, .inl v1), (2, .inl v2), (3, .inl 0)], [], M)
  refine mm_s1 rfl ?_
  refine mm_s1 rfl ?_
  show mm_Go (mm_run 5) mc_M_withValue _ (5, [(0, .inr (.inr 407)), (1, .inl v1), (2, .inl v2), (3, .inl 0), (4, .inl 0)], [], M)
  exact nn_go_ext (nn_xc rfl (nn_xc rfl (nn_xc rfl (nn_xc rfl (nn_xc rfl nn_xn))))) (h n L N)
set_option maxRecDepth 20000 in
theorem ng_M_withValue_5 (v1 : Int) (v2 : Int) (v3 : Int) (v4 : Int) (M : mm_M) (R : Int → mm_M → Prop) (h : ((32 ≤ v4 → R v3 M) ∧ (v4 < 32 → (nr_M_isWith v1 v4 v2 M (fun r18 M18 => ((r18 = 0 → nk_M_withValue_5 v1 v2 (mm_w (v3 + 0)) (mm_w (v4 + 1)) M18 R) ∧ (r18 ≠ 0 → nk_M_withValue_5 v1 v2 (mm_w (v3 + 1)) (mm_w (v4 + 1)) M18 R))))))) : nk_M_withValue_5 v1 v2 v3 v4 M R := by
  intro n L N 
  have NN := nn_L_n L N
  show mm_Go (mm_run 5) mc_M_withValue _ (5, [(0, .inr (.inr 407)), (1, .inl v1), (2, .inl v2), (3, .inl v3), (4, .inl v4)], [], M)
  refine mm_s1 rfl ?_
  refine mm_s1 rfl ?_
  refine mm_s1 rfl ⟨fun c9 => ?_, fun c9 => ?_⟩
  · show mm_Go (mm_run 5) mc_M_withValue _ (37, [(0, .inr (.inr 407)), (1, .inl v1), (2, .inl v2), (3, .inl v3), (4, .inl v4)], [], M)
    replace h := h.1 c9
    refine mm_s1 rfl ?_
    exact mm_s1 rfl ⟨_, rfl, L, N, h⟩
  · show mm_Go (mm_run 5) mc_M_withValue _ (12, [(0, .inr (.inr 407)), (1, .inl v1), (2, .inl v2), (3, .inl v3), (4, .inl v4)], [], M)
    replace c9 := Int.not_le.mp c9
    replace h := h.2 c9
    refine mm_s1 rfl ?_
    refine mm_s1 rfl ?_
    refine mm_s1 rfl ?_
    refine mm_s1 rfl ?_
    refine mm_s1 rfl ?_
    show mm_Go (mm_run 5) mc_M_withValue _ (18, [(0, .inr (.inr 407)), (1, .inl v1), (2, .inl v2), (3, .inl v3), (4, .inl v4)], [.inl v2, .inl v4, .inl v1, .inr (.inr 407), .inl v3], M)
    refine mm_s1 rfl ⟨(nn_c407 NN).1, ?_⟩
    refine nn_call (D := 5) (by decide) (h n L N) ?_
    intro v M18 q; clear L N h
    obtain ⟨r18, rfl, q18, L, N, h⟩ := q
    show mm_Go (mm_run 5) mc_M_withValue _ (21, [(0, .inr (.inr 407)), (1, .inl v1), (2, .inl v2), (3, .inl v3), (4, .inl v4)], [.inl r18, .inl v3], M18)
    refine mm_s1 rfl ⟨fun c21 => ?_, fun c21 => ?_⟩
    · show mm_Go (mm_run 5) mc_M_withValue _ (28, [(0, .inr (.inr 407)), (1, .inl v1), (2, .inl v2), (3, .inl v3), (4, .inl v4)], [.inl v3], M18)
      replace h := h.1 c21
      refine mm_s1 rfl ?_
      refine mm_s1 rfl ?_
      refine mm_s1 rfl ?_
      show mm_Go (mm_run 5) mc_M_withValue _ (31, [(0, .inr (.inr 407)), (1, .inl v1), (2, .inl v2), (3, .inl (mm_w (v3 + 0))), (4, .inl v4)], [], M18)
      refine mm_s1 rfl ?_
      show mm_Go (mm_run 5) mc_M_withValue _ (34, [(0, .inr (.inr 407)), (1, .inl v1), (2, .inl v2), (3, .inl (mm_w (v3 + 0))), (4, .inl (mm_w (v4 + 1)))], [], M18)
      refine mm_s1 rfl ?_
      show mm_Go (mm_run 5) mc_M_withValue _ (5, [(0, .inr (.inr 407)), (1, .inl v1), (2, .inl v2), (3, .inl (mm_w (v3 + 0))), (4, .inl (mm_w (v4 + 1)))], [], M18)
      exact nn_go_ext (nn_xc rfl (nn_xc rfl (nn_xc rfl (nn_xc rfl (nn_xc rfl nn_xn))))) (h n L N)
    · show mm_Go (mm_run 5) mc_M_withValue _ (24, [(0, .inr (.inr 407)), (1, .inl v1), (2, .inl v2), (3, .inl v3), (4, .inl v4)], [.inl v3], M18)
      replace h := h.2 c21
      refine mm_s1 rfl ?_
      refine mm_s1 rfl ?_
      show mm_Go (mm_run 5) mc_M_withValue _ (29, [(0, .inr (.inr 407)), (1, .inl v1), (2, .inl v2), (3, .inl v3), (4, .inl v4)], [.inl 1, .inl v3], M18)
      refine mm_s1 rfl ?_
      refine mm_s1 rfl ?_
      show mm_Go (mm_run 5) mc_M_withValue _ (31, [(0, .inr (.inr 407)), (1, .inl v1), (2, .inl v2), (3, .inl (mm_w (v3 + 1))), (4, .inl v4)], [], M18)
      refine mm_s1 rfl ?_
      show mm_Go (mm_run 5) mc_M_withValue _ (34, [(0, .inr (.inr 407)), (1, .inl v1), (2, .inl v2), (3, .inl (mm_w (v3 + 1))), (4, .inl (mm_w (v4 + 1)))], [], M18)
      refine mm_s1 rfl ?_
      show mm_Go (mm_run 5) mc_M_withValue _ (5, [(0, .inr (.inr 407)), (1, .inl v1), (2, .inl v2), (3, .inl (mm_w (v3 + 1))), (4, .inl (mm_w (v4 + 1)))], [], M18)
      exact nn_go_ext (nn_xc rfl (nn_xc rfl (nn_xc rfl (nn_xc rfl (nn_xc rfl nn_xn))))) (h n L N)
def nr_M_worst (v1 : Int) (M : mm_M) (R : Int → mm_M → Prop) : Prop := ∀ n, nn_L M → M.1 = n → mm_run 6 mi_M_worst [.inr (.inr 407), .inl v1] M (nw_I n R)
def nk_M_worst_4 (v1 : Int) (v2 : Int) (v3 : Int) (M : mm_M) (R : Int → mm_M → Prop) : Prop := ∀ n, nn_L M → M.1 = n → mm_Go (mm_run 5) mc_M_worst (nw_I n R) (4, [(0, .inr (.inr 407)), (1, .inl v1), (2, .inl v2), (3, .inl v3)], [], M)
set_option maxRecDepth 20000 in
theorem ng_M_worst (v1 : Int) (M : mm_M) (R : Int → mm_M → Prop) (h : nk_M_worst_4 v1 (-1) 0 M R) : nr_M_worst v1 M R := by
  intro n L N 
  have NN := nn_L_n L N
  show mm_Go (mm_run 5) mc_M_worst _ (0, [(0, .inr (.inr 407)), (1, .inl v1)], [], M)
  refine mm_s1 rfl ?_
  refine mm_s1 rfl ?_
  show mm_Go (mm_run 5) mc_M_worst _ (2, [(0, .inr (.inr 407)), (1, .inl v1), (2, .inl (-1))], [], M)
  refine mm_s1 rfl ?_
  refine mm_s1 rfl ?_
  show mm_Go (mm_run 5) mc_M_worst _ (4, [(0, .inr (.inr 407)), (1, .inl v1), (2, .inl (-1)), (3, .inl 0)], [], M)
  exact nn_go_ext (nn_xc rfl (nn_xc rfl (nn_xc rfl (nn_xc rfl nn_xn)))) (h n L N)
set_option maxRecDepth 20000 in
theorem ng_M_worst_4 (v1 : Int) (v2 : Int) (v3 : Int) (M : mm_M) (R : Int → mm_M → Prop) (h : (((0 : Int) ≤ (mm_w ((nf_M_at 0 v1) + 5)) ∧ (mm_w ((nf_M_at 0 v1) + 5)) < (32844 : Int)) ∧ (((nn_ri M 408 (mm_w ((nf_M_at 0 v1) + 5))) ≤ v3 → R v2 M) ∧ (v3 < (nn_ri M 408 (mm_w ((nf_M_at 0 v1) + 5))) → (nr_M_stales 0 v1 v3 M (fun r24 M24 => ((v2 ≠ (-1) → (nr_M_stales 0 v1 v2 M24 (fun r40 M40 => ((r24 ≤ r40 → nk_M_worst_4 v1 v2 (mm_w (v3 + 1)) M40 R) ∧ (r40 < r24 → nk_M_worst_4 v1 v3 (mm_w (v3 + 1)) M40 R))))) ∧ (v2 = (-1) → ((r24 ≤ 0 → nk_M_worst_4 v1 v2 (mm_w (v3 + 1)) M24 R) ∧ (0 < r24 → nk_M_worst_4 v1 v3 (mm_w (v3 + 1)) M24 R)))))))))) : nk_M_worst_4 v1 v2 v3 M R := by
  intro n L N 
  have NN := nn_L_n L N
  show mm_Go (mm_run 5) mc_M_worst _ (4, [(0, .inr (.inr 407)), (1, .inl v1), (2, .inl v2), (3, .inl v3)], [], M)
  refine mm_s1 rfl ?_
  refine mm_s1 rfl ?_
  refine nn_getr rfl (nn_c407 NN).1 (lf_13_0 L N (nn_c407 NN)) ?_
  refine mm_s1 rfl ?_
  refine mm_s1 rfl ?_
  show mm_Go (mm_run 5) mc_M_worst _ (11, [(0, .inr (.inr 407)), (1, .inl v1), (2, .inl v2), (3, .inl v3)], [.inl v1, .inl 0, .inr (.inr 408), .inl v3], M)
  refine mm_s1 rfl ⟨trivial, ?_⟩
  refine np_M_at (by decide) L N ?_
  show mm_Go (mm_run 5) mc_M_worst _ (14, [(0, .inr (.inr 407)), (1, .inl v1), (2, .inl v2), (3, .inl v3)], [.inl (nf_M_at 0 v1), .inr (.inr 408), .inl v3], M)
  refine mm_s1 rfl ?_
  refine mm_s1 rfl ?_
  obtain ⟨b16, h⟩ := h
  refine mm_s1 rfl ⟨nn_bd (na_13_0 NN (nn_c407 NN)) b16, ?_⟩
  show mm_Go (mm_run 5) mc_M_worst _ (17, [(0, .inr (.inr 407)), (1, .inl v1), (2, .inl v2), (3, .inl v3)], [.inl (nn_ri M 408 (mm_w ((nf_M_at 0 v1) + 5))), .inl v3], M)
  refine mm_s1 rfl ⟨fun c17 => ?_, fun c17 => ?_⟩
  · show mm_Go (mm_run 5) mc_M_worst _ (58, [(0, .inr (.inr 407)), (1, .inl v1), (2, .inl v2), (3, .inl v3)], [], M)
    replace h := h.1 c17
    refine mm_s1 rfl ?_
    exact mm_s1 rfl ⟨_, rfl, L, N, h⟩
  · show mm_Go (mm_run 5) mc_M_worst _ (20, [(0, .inr (.inr 407)), (1, .inl v1), (2, .inl v2), (3, .inl v3)], [], M)
    replace c17 := Int.not_le.mp c17
    replace h := h.2 c17
    refine mm_s1 rfl ?_
    refine mm_s1 rfl ?_
    refine mm_s1 rfl ?_
    refine mm_s1 rfl ?_
    refine mm_s1 rfl ⟨(nn_c407 NN).1, ?_⟩
    refine nn_call (D := 5) (by decide) (h n L N) ?_
    intro v M24 q; clear L N h
    obtain ⟨r24, rfl, L, N, h⟩ := q
    show mm_Go (mm_run 5) mc_M_worst _ (27, [(0, .inr (.inr 407)), (1, .inl v1), (2, .inl v2), (3, .inl v3)], [.inl r24], M24)
    refine mm_s1 rfl ?_
    refine mm_s1 rfl ?_
    refine mm_s1 rfl ⟨fun c29 => ?_, fun c29 => ?_⟩
    · show mm_Go (mm_run 5) mc_M_worst _ (36, [(0, .inr (.inr 407)), (1, .inl v1), (2, .inl v2), (3, .inl v3)], [.inl r24], M24)
      replace h := h.1 c29
      refine mm_s1 rfl ?_
      refine mm_s1 rfl ?_
      refine mm_s1 rfl ?_
      refine mm_s1 rfl ?_
      refine mm_s1 rfl ⟨(nn_c407 NN).1, ?_⟩
      refine nn_call (D := 5) (by decide) (h n L N) ?_
      intro v M40 q; clear L N h
      obtain ⟨r40, rfl, L, N, h⟩ := q
      show mm_Go (mm_run 5) mc_M_worst _ (43, [(0, .inr (.inr 407)), (1, .inl v1), (2, .inl v2), (3, .inl v3)], [.inl r40, .inl r24], M40)
      refine mm_s1 rfl ⟨fun c43 => ?_, fun c43 => ?_⟩
      · show mm_Go (mm_run 5) mc_M_worst _ (50, [(0, .inr (.inr 407)), (1, .inl v1), (2, .inl v2), (3, .inl v3)], [], M40)
        replace h := h.1 c43
        refine mm_s1 rfl ?_
        refine mm_s1 rfl ?_
        show mm_Go (mm_run 5) mc_M_worst _ (52, [(0, .inr (.inr 407)), (1, .inl v1), (2, .inl v2), (3, .inl v3)], [], M40)
        refine mm_s1 rfl ?_
        show mm_Go (mm_run 5) mc_M_worst _ (55, [(0, .inr (.inr 407)), (1, .inl v1), (2, .inl v2), (3, .inl (mm_w (v3 + 1)))], [], M40)
        refine mm_s1 rfl ?_
        show mm_Go (mm_run 5) mc_M_worst _ (4, [(0, .inr (.inr 407)), (1, .inl v1), (2, .inl v2), (3, .inl (mm_w (v3 + 1)))], [], M40)
        exact nn_go_ext (nn_xc rfl (nn_xc rfl (nn_xc rfl (nn_xc rfl nn_xn)))) (h n L N)
      · show mm_Go (mm_run 5) mc_M_worst _ (46, [(0, .inr (.inr 407)), (1, .inl v1), (2, .inl v2), (3, .inl v3)], [], M40)
        replace c43 := Int.not_le.mp c43
        replace h := h.2 c43
        refine mm_s1 rfl ?_
        refine mm_s1 rfl ?_
        show mm_Go (mm_run 5) mc_M_worst _ (51, [(0, .inr (.inr 407)), (1, .inl v1), (2, .inl v2), (3, .inl v3)], [.inl v3], M40)
        refine mm_s1 rfl ?_
        show mm_Go (mm_run 5) mc_M_worst _ (52, [(0, .inr (.inr 407)), (1, .inl v1), (2, .inl v3), (3, .inl v3)], [], M40)
        refine mm_s1 rfl ?_
        show mm_Go (mm_run 5) mc_M_worst _ (55, [(0, .inr (.inr 407)), (1, .inl v1), (2, .inl v3), (3, .inl (mm_w (v3 + 1)))], [], M40)
        refine mm_s1 rfl ?_
        show mm_Go (mm_run 5) mc_M_worst _ (4, [(0, .inr (.inr 407)), (1, .inl v1), (2, .inl v3), (3, .inl (mm_w (v3 + 1)))], [], M40)
        exact nn_go_ext (nn_xc rfl (nn_xc rfl (nn_xc rfl (nn_xc rfl nn_xn)))) (h n L N)
    · show mm_Go (mm_run 5) mc_M_worst _ (32, [(0, .inr (.inr 407)), (1, .inl v1), (2, .inl v2), (3, .inl v3)], [.inl r24], M24)
      replace c29 := Decidable.not_not.mp c29
      replace h := h.2 c29
      refine mm_s1 rfl ?_
      refine mm_s1 rfl ?_
      show mm_Go (mm_run 5) mc_M_worst _ (43, [(0, .inr (.inr 407)), (1, .inl v1), (2, .inl v2), (3, .inl v3)], [.inl 0, .inl r24], M24)
      refine mm_s1 rfl ⟨fun c43 => ?_, fun c43 => ?_⟩
      · show mm_Go (mm_run 5) mc_M_worst _ (50, [(0, .inr (.inr 407)), (1, .inl v1), (2, .inl v2), (3, .inl v3)], [], M24)
        replace h := h.1 c43
        refine mm_s1 rfl ?_
        refine mm_s1 rfl ?_
        show mm_Go (mm_run 5) mc_M_worst _ (52, [(0, .inr (.inr 407)), (1, .inl v1), (2, .inl v2), (3, .inl v3)], [], M24)
        refine mm_s1 rfl ?_
        show mm_Go (mm_run 5) mc_M_worst _ (55, [(0, .inr (.inr 407)), (1, .inl v1), (2, .inl v2), (3, .inl (mm_w (v3 + 1)))], [], M24)
        refine mm_s1 rfl ?_
        show mm_Go (mm_run 5) mc_M_worst _ (4, [(0, .inr (.inr 407)), (1, .inl v1), (2, .inl v2), (3, .inl (mm_w (v3 + 1)))], [], M24)
        exact nn_go_ext (nn_xc rfl (nn_xc rfl (nn_xc rfl (nn_xc rfl nn_xn)))) (h n L N)
      · show mm_Go (mm_run 5) mc_M_worst _ (46, [(0, .inr (.inr 407)), (1, .inl v1), (2, .inl v2), (3, .inl v3)], [], M24)
        replace c43 := Int.not_le.mp c43
        replace h := h.2 c43
        refine mm_s1 rfl ?_
        refine mm_s1 rfl ?_
        show mm_Go (mm_run 5) mc_M_worst _ (51, [(0, .inr (.inr 407)), (1, .inl v1), (2, .inl v2), (3, .inl v3)], [.inl v3], M24)
        refine mm_s1 rfl ?_
        show mm_Go (mm_run 5) mc_M_worst _ (52, [(0, .inr (.inr 407)), (1, .inl v1), (2, .inl v3), (3, .inl v3)], [], M24)
        refine mm_s1 rfl ?_
        show mm_Go (mm_run 5) mc_M_worst _ (55, [(0, .inr (.inr 407)), (1, .inl v1), (2, .inl v3), (3, .inl (mm_w (v3 + 1)))], [], M24)
        refine mm_s1 rfl ?_
        show mm_Go (mm_run 5) mc_M_worst _ (4, [(0, .inr (.inr 407)), (1, .inl v1), (2, .inl v3), (3, .inl (mm_w (v3 + 1)))], [], M24)
        exact nn_go_ext (nn_xc rfl (nn_xc rfl (nn_xc rfl (nn_xc rfl nn_xn)))) (h n L N)
def nr_M_would (v1 : Int) (v2 : Int) (v3 : Int) (M : mm_M) (R : Int → mm_M → Prop) : Prop := ∀ n, nn_L M → M.1 = n → mm_run 6 mi_M_would [.inr (.inr 407), .inl v1, .inl v2, .inl v3] M (nw_I n R)
set_option maxRecDepth 20000 in
theorem ng_M_would (v1 : Int) (v2 : Int) (v3 : Int) (M : mm_M) (R : Int → mm_M → Prop) (h : ((v1 = (-1) → R (-1) M) ∧ (v1 ≠ (-1) → (nr_M_areRuns v1 v2 v3 M (fun r9 M9 => ((r9 ≠ 0 → (nr_M_copies 0 5474 M9 (fun M22 => (((0 : Int) ≤ (mm_w ((nf_M_at 5474 v1) + 5)) ∧ (mm_w ((nf_M_at 5474 v1) + 5)) < (32844 : Int)) ∧ (∀ x5_43 : Int, x5_43 = nn_ri M22 408 (mm_w ((nf_M_at 5474 v1) + 5)) → (nr_M_mergesIndex 5474 v1 v2 v3 0 M22 (fun M53 => (((0 : Int) ≤ (mm_w ((nf_M_at 5474 v1) + 5)) ∧ (mm_w ((nf_M_at 5474 v1) + 5)) < (32844 : Int)) ∧ (((nn_ri M53 408 (mm_w ((nf_M_at 5474 v1) + 5))) ≠ (mm_w (x5_43 - v3)) → (nr_M_entriesOf (nf_M_at 5474 v1) (mm_w (v2 + 1)) M53 (fun r82 M82 => R r82 M82))) ∧ ((nn_ri M53 408 (mm_w ((nf_M_at 5474 v1) + 5))) = (mm_w (x5_43 - v3)) → R 0 M53)))))))))) ∧ (r9 = 0 → R (-1) M9))))))) : nr_M_would v1 v2 v3 M R := by
  intro n L N 
  have NN := nn_L_n L N
  show mm_Go (mm_run 5) mc_M_would _ (0, [(0, .inr (.inr 407)), (1, .inl v1), (2, .inl v2), (3, .inl v3)], [], M)
  refine mm_s1 rfl ?_
  refine mm_s1 rfl ?_
  refine mm_s1 rfl ⟨fun c2 => ?_, fun c2 => ?_⟩
  · show mm_Go (mm_run 5) mc_M_would _ (15, [(0, .inr (.inr 407)), (1, .inl v1), (2, .inl v2), (3, .inl v3)], [], M)
    replace h := h.1 c2
    refine mm_s1 rfl ?_
    exact mm_s1 rfl ⟨_, rfl, L, N, h⟩
  · show mm_Go (mm_run 5) mc_M_would _ (5, [(0, .inr (.inr 407)), (1, .inl v1), (2, .inl v2), (3, .inl v3)], [], M)
    replace h := h.2 c2
    refine mm_s1 rfl ?_
    refine mm_s1 rfl ?_
    refine mm_s1 rfl ?_
    refine mm_s1 rfl ?_
    refine mm_s1 rfl ⟨(nn_c407 NN).1, ?_⟩
    refine nn_call (D := 3) (by decide) (h n L N) ?_
    intro v M9 q; clear L N h
    obtain ⟨r9, rfl, q9, L, N, h⟩ := q
    show mm_Go (mm_run 5) mc_M_would _ (12, [(0, .inr (.inr 407)), (1, .inl v1), (2, .inl v2), (3, .inl v3)], [.inl r9], M9)
    refine mm_s1 rfl ⟨fun c12 => ?_, fun c12 => ?_⟩
    · show mm_Go (mm_run 5) mc_M_would _ (17, [(0, .inr (.inr 407)), (1, .inl v1), (2, .inl v2), (3, .inl v3)], [], M9)
      replace h := h.1 c12
      refine mm_s1 rfl ?_
      refine mm_s1 rfl ?_
      refine mm_s1 rfl ?_
      refine mm_s1 rfl ⟨(nn_c407 NN).1, ?_⟩
      refine nn_call (D := 1) (by decide) (h n L N) ?_
      intro v M22 q; clear L N h
      obtain ⟨rfl, L, N, h⟩ := q
      show mm_Go (mm_run 5) mc_M_would _ (25, [(0, .inr (.inr 407)), (1, .inl v1), (2, .inl v2), (3, .inl v3)], [], M22)
      refine mm_s1 rfl ?_
      refine mm_s1 rfl ?_
      refine mm_s1 rfl ⟨trivial, ?_⟩
      refine np_M_at (by decide) L N ?_
      show mm_Go (mm_run 5) mc_M_would _ (32, [(0, .inr (.inr 407)), (1, .inl v1), (2, .inl v2), (3, .inl v3)], [.inl (nf_M_at 5474 v1)], M22)
      refine mm_s1 rfl ?_
      show mm_Go (mm_run 5) mc_M_would _ (34, [(0, .inr (.inr 407)), (1, .inl v1), (2, .inl v2), (3, .inl v3), (4, .inl (nf_M_at 5474 v1))], [], M22)
      refine mm_s1 rfl ?_
      refine nn_getr rfl (nn_c407 NN).1 (lf_13_0 L N (nn_c407 NN)) ?_
      refine mm_s1 rfl ?_
      refine mm_s1 rfl ?_
      refine mm_s1 rfl ?_
      show mm_Go (mm_run 5) mc_M_would _ (42, [(0, .inr (.inr 407)), (1, .inl v1), (2, .inl v2), (3, .inl v3), (4, .inl (nf_M_at 5474 v1))], [.inl (mm_w ((nf_M_at 5474 v1) + 5)), .inr (.inr 408)], M22)
      obtain ⟨b42, h⟩ := h
      refine mm_s1 rfl ⟨nn_bd (na_13_0 NN (nn_c407 NN)) b42, ?_⟩
      show mm_Go (mm_run 5) mc_M_would _ (43, [(0, .inr (.inr 407)), (1, .inl v1), (2, .inl v2), (3, .inl v3), (4, .inl (nf_M_at 5474 v1))], [.inl (nn_ri M22 408 (mm_w ((nf_M_at 5474 v1) + 5)))], M22)
      refine mm_s1 rfl ?_
      show mm_Go (mm_run 5) mc_M_would _ (45, [(0, .inr (.inr 407)), (1, .inl v1), (2, .inl v2), (3, .inl v3), (4, .inl (nf_M_at 5474 v1)), (5, .inl (nn_ri M22 408 (mm_w ((nf_M_at 5474 v1) + 5))))], [], M22)
      generalize e_x5_43 : (nn_ri M22 408 (mm_w ((nf_M_at 5474 v1) + 5))) = x5_43
      replace h := h _ e_x5_43.symm
      show mm_Go (mm_run 5) mc_M_would _ (45, [(0, .inr (.inr 407)), (1, .inl v1), (2, .inl v2), (3, .inl v3), (4, .inl (nf_M_at 5474 v1)), (5, .inl x5_43)], [], M22)
      refine mm_s1 rfl ?_
      refine mm_s1 rfl ?_
      refine mm_s1 rfl ?_
      refine mm_s1 rfl ?_
      refine mm_s1 rfl ?_
      show mm_Go (mm_run 5) mc_M_would _ (52, [(0, .inr (.inr 407)), (1, .inl v1), (2, .inl v2), (3, .inl v3), (4, .inl (nf_M_at 5474 v1)), (5, .inl x5_43)], [.inl v3, .inl v2, .inl v1, .inl 5474, .inr (.inr 407)], M22)
      refine mm_s1 rfl ?_
      refine mm_s1 rfl ⟨(nn_c407 NN).1, ?_⟩
      refine nn_call (D := 5) (by decide) (h n L N) ?_
      intro v M53 q; clear L N h
      obtain ⟨rfl, L, N, h⟩ := q
      show mm_Go (mm_run 5) mc_M_would _ (56, [(0, .inr (.inr 407)), (1, .inl v1), (2, .inl v2), (3, .inl v3), (4, .inl (nf_M_at 5474 v1)), (5, .inl x5_43)], [], M53)
      refine mm_s1 rfl ?_
      refine nn_getr rfl (nn_c407 NN).1 (lf_13_0 L N (nn_c407 NN)) ?_
      refine mm_s1 rfl ?_
      refine mm_s1 rfl ?_
      refine mm_s1 rfl ?_
      show mm_Go (mm_run 5) mc_M_would _ (64, [(0, .inr (.inr 407)), (1, .inl v1), (2, .inl v2), (3, .inl v3), (4, .inl (nf_M_at 5474 v1)), (5, .inl x5_43)], [.inl (mm_w ((nf_M_at 5474 v1) + 5)), .inr (.inr 408)], M53)
      obtain ⟨b64, h⟩ := h
      refine mm_s1 rfl ⟨nn_bd (na_13_0 NN (nn_c407 NN)) b64, ?_⟩
      show mm_Go (mm_run 5) mc_M_would _ (65, [(0, .inr (.inr 407)), (1, .inl v1), (2, .inl v2), (3, .inl v3), (4, .inl (nf_M_at 5474 v1)), (5, .inl x5_43)], [.inl (nn_ri M53 408 (mm_w ((nf_M_at 5474 v1) + 5)))], M53)
      refine mm_s1 rfl ?_
      refine mm_s1 rfl ?_
      refine mm_s1 rfl ?_
      refine mm_s1 rfl ⟨fun c69 => ?_, fun c69 => ?_⟩
      · show mm_Go (mm_run 5) mc_M_would _ (76, [(0, .inr (.inr 407)), (1, .inl v1), (2, .inl v2), (3, .inl v3), (4, .inl (nf_M_at 5474 v1)), (5, .inl x5_43)], [], M53)
        replace h := h.1 c69
        refine mm_s1 rfl ?_
        refine mm_s1 rfl ?_
        refine mm_s1 rfl ?_
        refine mm_s1 rfl ?_
        refine mm_s1 rfl ?_
        show mm_Go (mm_run 5) mc_M_would _ (82, [(0, .inr (.inr 407)), (1, .inl v1), (2, .inl v2), (3, .inl v3), (4, .inl (nf_M_at 5474 v1)), (5, .inl x5_43)], [.inl (mm_w (v2 + 1)), .inl (nf_M_at 5474 v1), .inr (.inr 407)], M53)
        refine mm_s1 rfl ⟨(nn_c407 NN).1, ?_⟩
        refine nn_call (D := 2) (by decide) (h n L N) ?_
        intro v M82 q; clear L N h
        obtain ⟨r82, rfl, L, N, h⟩ := q
        show mm_Go (mm_run 5) mc_M_would _ (85, [(0, .inr (.inr 407)), (1, .inl v1), (2, .inl v2), (3, .inl v3), (4, .inl (nf_M_at 5474 v1)), (5, .inl x5_43)], [.inl r82], M82)
        exact mm_s1 rfl ⟨_, rfl, L, N, h⟩
      · show mm_Go (mm_run 5) mc_M_would _ (72, [(0, .inr (.inr 407)), (1, .inl v1), (2, .inl v2), (3, .inl v3), (4, .inl (nf_M_at 5474 v1)), (5, .inl x5_43)], [], M53)
        replace c69 := Decidable.not_not.mp c69
        replace h := h.2 c69
        refine mm_s1 rfl ?_
        refine mm_s1 rfl ?_
        show mm_Go (mm_run 5) mc_M_would _ (85, [(0, .inr (.inr 407)), (1, .inl v1), (2, .inl v2), (3, .inl v3), (4, .inl (nf_M_at 5474 v1)), (5, .inl x5_43)], [.inl 0], M53)
        exact mm_s1 rfl ⟨_, rfl, L, N, h⟩
    · show mm_Go (mm_run 5) mc_M_would _ (15, [(0, .inr (.inr 407)), (1, .inl v1), (2, .inl v2), (3, .inl v3)], [], M9)
      replace c12 := Decidable.not_not.mp c12
      replace h := h.2 c12
      refine mm_s1 rfl ?_
      exact mm_s1 rfl ⟨_, rfl, L, N, h⟩
def nr_LI_put (v1 : Int) (v2 : Int) (v3 : Int) (v4 : Int) (v5 : Int) (M : mm_M) (R : Int → mm_M → Prop) : Prop := ∀ n, nn_L M → M.1 = n → mm_run 7 mi_LI_put [.inr (.inr 1), .inl v1, .inl v2, .inl v3, .inl v4, .inl v5] M (nw_I n R)
set_option maxRecDepth 20000 in
theorem ng_LI_put (v1 : Int) (v2 : Int) (v3 : Int) (v4 : Int) (v5 : Int) (M : mm_M) (R : Int → mm_M → Prop) (h : ((((nf_LI_isKey v1) = 0 ∨ ((nf_LI_isNumber v2) = 0 ∨ ((nf_LI_isNumber v3) = 0 ∨ ((nf_LI_isNumber v4) = 0 ∨ ((nf_LI_isNumber v5) = 0))))) → R (-1) M) ∧ (((nf_LI_isKey v1) ≠ 0 ∧ ((nf_LI_isNumber v2) ≠ 0 ∧ ((nf_LI_isNumber v3) ≠ 0 ∧ ((nf_LI_isNumber v4) ≠ 0 ∧ ((nf_LI_isNumber v5) ≠ 0))))) → (nr_Store_write 2 0 v1 (nf_LI_packed v2 v3 v4 v5) M (fun r54 M54 => R r54 M54))))) : nr_LI_put v1 v2 v3 v4 v5 M R := by
  intro n L N 
  have NN := nn_L_n L N
  show mm_Go (mm_run 6) mc_LI_put _ (0, [(0, .inr (.inr 1)), (1, .inl v1), (2, .inl v2), (3, .inl v3), (4, .inl v4), (5, .inl v5)], [], M)
  refine mm_s1 rfl ?_
  refine mm_s1 rfl ⟨trivial, ?_⟩
  refine np_LI_isKey (by decide) L N ?_
  show mm_Go (mm_run 6) mc_LI_put _ (4, [(0, .inr (.inr 1)), (1, .inl v1), (2, .inl v2), (3, .inl v3), (4, .inl v4), (5, .inl v5)], [.inl (nf_LI_isKey v1)], M)
  refine mm_s1 rfl ⟨fun c4 => ?_, fun c4 => ?_⟩
  · show mm_Go (mm_run 6) mc_LI_put _ (37, [(0, .inr (.inr 1)), (1, .inl v1), (2, .inl v2), (3, .inl v3), (4, .inl v4), (5, .inl v5)], [], M)
    refine mm_s1 rfl ?_
    replace h := h.1 (Or.inl c4)
    exact mm_s1 rfl ⟨_, rfl, L, N, h⟩
  · show mm_Go (mm_run 6) mc_LI_put _ (7, [(0, .inr (.inr 1)), (1, .inl v1), (2, .inl v2), (3, .inl v3), (4, .inl v4), (5, .inl v5)], [], M)
    refine mm_s1 rfl ?_
    refine mm_s1 rfl ⟨trivial, ?_⟩
    refine np_LI_isNumber (by decide) L N ?_
    show mm_Go (mm_run 6) mc_LI_put _ (11, [(0, .inr (.inr 1)), (1, .inl v1), (2, .inl v2), (3, .inl v3), (4, .inl v4), (5, .inl v5)], [.inl (nf_LI_isNumber v2)], M)
    refine mm_s1 rfl ⟨fun c11 => ?_, fun c11 => ?_⟩
    · show mm_Go (mm_run 6) mc_LI_put _ (37, [(0, .inr (.inr 1)), (1, .inl v1), (2, .inl v2), (3, .inl v3), (4, .inl v4), (5, .inl v5)], [], M)
      refine mm_s1 rfl ?_
      replace h := h.1 (Or.inr (Or.inl c11))
      exact mm_s1 rfl ⟨_, rfl, L, N, h⟩
    · show mm_Go (mm_run 6) mc_LI_put _ (14, [(0, .inr (.inr 1)), (1, .inl v1), (2, .inl v2), (3, .inl v3), (4, .inl v4), (5, .inl v5)], [], M)
      refine mm_s1 rfl ?_
      refine mm_s1 rfl ⟨trivial, ?_⟩
      refine np_LI_isNumber (by decide) L N ?_
      show mm_Go (mm_run 6) mc_LI_put _ (18, [(0, .inr (.inr 1)), (1, .inl v1), (2, .inl v2), (3, .inl v3), (4, .inl v4), (5, .inl v5)], [.inl (nf_LI_isNumber v3)], M)
      refine mm_s1 rfl ⟨fun c18 => ?_, fun c18 => ?_⟩
      · show mm_Go (mm_run 6) mc_LI_put _ (37, [(0, .inr (.inr 1)), (1, .inl v1), (2, .inl v2), (3, .inl v3), (4, .inl v4), (5, .inl v5)], [], M)
        refine mm_s1 rfl ?_
        replace h := h.1 (Or.inr (Or.inr (Or.inl c18)))
        exact mm_s1 rfl ⟨_, rfl, L, N, h⟩
      · show mm_Go (mm_run 6) mc_LI_put _ (21, [(0, .inr (.inr 1)), (1, .inl v1), (2, .inl v2), (3, .inl v3), (4, .inl v4), (5, .inl v5)], [], M)
        refine mm_s1 rfl ?_
        refine mm_s1 rfl ⟨trivial, ?_⟩
        refine np_LI_isNumber (by decide) L N ?_
        show mm_Go (mm_run 6) mc_LI_put _ (26, [(0, .inr (.inr 1)), (1, .inl v1), (2, .inl v2), (3, .inl v3), (4, .inl v4), (5, .inl v5)], [.inl (nf_LI_isNumber v4)], M)
        refine mm_s1 rfl ⟨fun c26 => ?_, fun c26 => ?_⟩
        · show mm_Go (mm_run 6) mc_LI_put _ (37, [(0, .inr (.inr 1)), (1, .inl v1), (2, .inl v2), (3, .inl v3), (4, .inl v4), (5, .inl v5)], [], M)
          refine mm_s1 rfl ?_
          replace h := h.1 (Or.inr (Or.inr (Or.inr (Or.inl c26))))
          exact mm_s1 rfl ⟨_, rfl, L, N, h⟩
        · show mm_Go (mm_run 6) mc_LI_put _ (29, [(0, .inr (.inr 1)), (1, .inl v1), (2, .inl v2), (3, .inl v3), (4, .inl v4), (5, .inl v5)], [], M)
          refine mm_s1 rfl ?_
          refine mm_s1 rfl ⟨trivial, ?_⟩
          refine np_LI_isNumber (by decide) L N ?_
          show mm_Go (mm_run 6) mc_LI_put _ (34, [(0, .inr (.inr 1)), (1, .inl v1), (2, .inl v2), (3, .inl v3), (4, .inl v4), (5, .inl v5)], [.inl (nf_LI_isNumber v5)], M)
          refine mm_s1 rfl ⟨fun c34 => ?_, fun c34 => ?_⟩
          · show mm_Go (mm_run 6) mc_LI_put _ (39, [(0, .inr (.inr 1)), (1, .inl v1), (2, .inl v2), (3, .inl v3), (4, .inl v4), (5, .inl v5)], [], M)
            refine mm_s1 rfl ?_
            refine nn_getr rfl (nn_c1 NN).1 (lf_1_0 L N (nn_c1 NN)) ?_
            refine mm_s1 rfl ?_
            refine mm_s1 rfl ?_
            refine mm_s1 rfl ?_
            show mm_Go (mm_run 6) mc_LI_put _ (46, [(0, .inr (.inr 1)), (1, .inl v1), (2, .inl v2), (3, .inl v3), (4, .inl v4), (5, .inl v5)], [.inl v2, .inl v1, .inl 0, .inr (.inr 2)], M)
            refine mm_s1 rfl ?_
            refine mm_s1 rfl ?_
            refine mm_s1 rfl ?_
            refine mm_s1 rfl ⟨trivial, ?_⟩
            refine np_LI_packed (by decide) L N ?_
            show mm_Go (mm_run 6) mc_LI_put _ (54, [(0, .inr (.inr 1)), (1, .inl v1), (2, .inl v2), (3, .inl v3), (4, .inl v4), (5, .inl v5)], [.inl (nf_LI_packed v2 v3 v4 v5), .inl v1, .inl 0, .inr (.inr 2)], M)
            replace h := h.2 ⟨c4, ⟨c11, ⟨c18, ⟨c26, c34⟩⟩⟩⟩
            refine mm_s1 rfl ⟨(nc_1_0 NN (nn_c1 NN)).1, ?_⟩
            refine nn_call (D := 6) (by decide) (h n L N (nc_1_0 NN (nn_c1 NN))) ?_
            intro v M54 q; clear L N h
            obtain ⟨r54, rfl, L, N, h⟩ := q
            show mm_Go (mm_run 6) mc_LI_put _ (57, [(0, .inr (.inr 1)), (1, .inl v1), (2, .inl v2), (3, .inl v3), (4, .inl v4), (5, .inl v5)], [.inl r54], M54)
            exact mm_s1 rfl ⟨_, rfl, L, N, h⟩
          · show mm_Go (mm_run 6) mc_LI_put _ (37, [(0, .inr (.inr 1)), (1, .inl v1), (2, .inl v2), (3, .inl v3), (4, .inl v4), (5, .inl v5)], [], M)
            replace c34 := Decidable.not_not.mp c34
            refine mm_s1 rfl ?_
            replace h := h.1 (Or.inr (Or.inr (Or.inr (Or.inr c34))))
            exact mm_s1 rfl ⟨_, rfl, L, N, h⟩
def nr_LI_change (v1 : Int) (v2 : Int) (v3 : Int) (M : mm_M) (R : Int → mm_M → Prop) : Prop := ∀ n, nn_L M → M.1 = n → mm_run 7 mi_LI_change [.inr (.inr 1), .inl v1, .inl v2, .inl v3] M (nw_I n R)
set_option maxRecDepth 20000 in
theorem ng_LI_change (v1 : Int) (v2 : Int) (v3 : Int) (M : mm_M) (R : Int → mm_M → Prop) (h : ((((nf_LI_isKey v1) ≠ 0) ∧ ((nf_LI_isColumn v2) ≠ 0) ∧ ((nf_LI_isNumber v3) ≠ 0) → (nc_Store_changed 2 v1 v2 v3 M)) ∧ (((nf_LI_isKey v1) = 0 ∨ ((nf_LI_isColumn v2) = 0 ∨ ((nf_LI_isNumber v3) = 0))) → R (-1) M) ∧ (((nf_LI_isKey v1) ≠ 0 ∧ ((nf_LI_isColumn v2) ≠ 0 ∧ ((nf_LI_isNumber v3) ≠ 0))) → (nr_Store_write 2 1 v1 (nf_Store_changed 2 v1 v2 v3 M) M (fun r39 M39 => R r39 M39))))) : nr_LI_change v1 v2 v3 M R := by
  intro n L N 
  have NN := nn_L_n L N
  show mm_Go (mm_run 6) mc_LI_change _ (0, [(0, .inr (.inr 1)), (1, .inl v1), (2, .inl v2), (3, .inl v3)], [], M)
  refine mm_s1 rfl ?_
  refine mm_s1 rfl ⟨trivial, ?_⟩
  refine np_LI_isKey (by decide) L N ?_
  show mm_Go (mm_run 6) mc_LI_change _ (4, [(0, .inr (.inr 1)), (1, .inl v1), (2, .inl v2), (3, .inl v3)], [.inl (nf_LI_isKey v1)], M)
  refine mm_s1 rfl ⟨fun c4 => ?_, fun c4 => ?_⟩
  · show mm_Go (mm_run 6) mc_LI_change _ (21, [(0, .inr (.inr 1)), (1, .inl v1), (2, .inl v2), (3, .inl v3)], [], M)
    refine mm_s1 rfl ?_
    replace h := h.2.1 (Or.inl c4)
    exact mm_s1 rfl ⟨_, rfl, L, N, h⟩
  · show mm_Go (mm_run 6) mc_LI_change _ (7, [(0, .inr (.inr 1)), (1, .inl v1), (2, .inl v2), (3, .inl v3)], [], M)
    refine mm_s1 rfl ?_
    refine mm_s1 rfl ⟨trivial, ?_⟩
    refine np_LI_isColumn (by decide) L N ?_
    show mm_Go (mm_run 6) mc_LI_change _ (11, [(0, .inr (.inr 1)), (1, .inl v1), (2, .inl v2), (3, .inl v3)], [.inl (nf_LI_isColumn v2)], M)
    refine mm_s1 rfl ⟨fun c11 => ?_, fun c11 => ?_⟩
    · show mm_Go (mm_run 6) mc_LI_change _ (21, [(0, .inr (.inr 1)), (1, .inl v1), (2, .inl v2), (3, .inl v3)], [], M)
      refine mm_s1 rfl ?_
      replace h := h.2.1 (Or.inr (Or.inl c11))
      exact mm_s1 rfl ⟨_, rfl, L, N, h⟩
    · show mm_Go (mm_run 6) mc_LI_change _ (14, [(0, .inr (.inr 1)), (1, .inl v1), (2, .inl v2), (3, .inl v3)], [], M)
      refine mm_s1 rfl ?_
      refine mm_s1 rfl ⟨trivial, ?_⟩
      refine np_LI_isNumber (by decide) L N ?_
      show mm_Go (mm_run 6) mc_LI_change _ (18, [(0, .inr (.inr 1)), (1, .inl v1), (2, .inl v2), (3, .inl v3)], [.inl (nf_LI_isNumber v3)], M)
      refine mm_s1 rfl ⟨fun c18 => ?_, fun c18 => ?_⟩
      · show mm_Go (mm_run 6) mc_LI_change _ (23, [(0, .inr (.inr 1)), (1, .inl v1), (2, .inl v2), (3, .inl v3)], [], M)
        refine mm_s1 rfl ?_
        refine nn_getr rfl (nn_c1 NN).1 (lf_1_0 L N (nn_c1 NN)) ?_
        refine mm_s1 rfl ?_
        refine mm_s1 rfl ?_
        refine mm_s1 rfl ?_
        show mm_Go (mm_run 6) mc_LI_change _ (30, [(0, .inr (.inr 1)), (1, .inl v1), (2, .inl v2), (3, .inl v3)], [.inr (.inr 1), .inl v1, .inl 1, .inr (.inr 2)], M)
        refine nn_getr rfl (nn_c1 NN).1 (lf_1_0 L N (nn_c1 NN)) ?_
        refine mm_s1 rfl ?_
        refine mm_s1 rfl ?_
        refine mm_s1 rfl ?_
        have b36 := h.1 ⟨c4, c11, c18⟩
        refine mm_s1 rfl ⟨(nc_1_0 NN (nn_c1 NN)).1, ?_⟩
        refine np_Store_changed (by decide) L N (nc_1_0 NN (nn_c1 NN)) b36 ?_
        show mm_Go (mm_run 6) mc_LI_change _ (39, [(0, .inr (.inr 1)), (1, .inl v1), (2, .inl v2), (3, .inl v3)], [.inl (nf_Store_changed 2 v1 v2 v3 M), .inl v1, .inl 1, .inr (.inr 2)], M)
        replace h := h.2.2 ⟨c4, ⟨c11, c18⟩⟩
        refine mm_s1 rfl ⟨(nc_1_0 NN (nn_c1 NN)).1, ?_⟩
        refine nn_call (D := 6) (by decide) (h n L N (nc_1_0 NN (nn_c1 NN))) ?_
        intro v M39 q; clear L N h
        obtain ⟨r39, rfl, L, N, h⟩ := q
        show mm_Go (mm_run 6) mc_LI_change _ (42, [(0, .inr (.inr 1)), (1, .inl v1), (2, .inl v2), (3, .inl v3)], [.inl r39], M39)
        exact mm_s1 rfl ⟨_, rfl, L, N, h⟩
      · show mm_Go (mm_run 6) mc_LI_change _ (21, [(0, .inr (.inr 1)), (1, .inl v1), (2, .inl v2), (3, .inl v3)], [], M)
        replace c18 := Decidable.not_not.mp c18
        refine mm_s1 rfl ?_
        replace h := h.2.1 (Or.inr (Or.inr c18))
        exact mm_s1 rfl ⟨_, rfl, L, N, h⟩
