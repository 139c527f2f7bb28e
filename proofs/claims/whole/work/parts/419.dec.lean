/-! methods walked by program (wip/whole/dec.py) -/
def nr_M_puts (v1 : Int) (v2 : Int) (v3 : Int) (v4 : Int) (M : mm_M) (R : Int → mm_M → Prop) : Prop := ∀ n, nn_L M → M.1 = n → mm_run 10 mi_M_puts [.inr (.inr 407), .inl v1, .inl v2, .inl v3, .inl v4] M (nw_I n R)
def nk_M_puts_3 (v1 : Int) (v2 : Int) (v3 : Int) (v4 : Int) (v5 : Int) (M : mm_M) (R : Int → mm_M → Prop) : Prop := ∀ n, nn_L M → M.1 = n → mm_Go (mm_run 9) mc_M_puts (nw_I n R) (3, [(0, .inr (.inr 407)), (1, .inl v1), (2, .inl v2), (3, .inl v3), (4, .inl v4), (5, .inl v5)], [], M)
set_option maxRecDepth 20000 in
theorem ng_M_puts (v1 : Int) (v2 : Int) (v3 : Int) (v4 : Int) (M : mm_M) (R : Int → mm_M → Prop) (h : nk_M_puts_3 v1 v2 v3 v4 0 M R) : nr_M_puts v1 v2 v3 v4 M R := by
  intro n L N 
  have NN := nn_L_n L N
  show mm_Go (mm_run 9) mc_M_puts _ (0, [(0, .inr (.inr 407)), (1, .inl v1), (2, .inl v2), (3, .inl v3), (4, .inl v4)], [], M)
  refine mm_s1 rfl ?_
  refine mm_s1 rfl ?_
  show mm_Go (mm_run 9) mc_M_puts _ (3, [(0, .inr (.inr 407)), (1, .inl v1), (2, .inl v2), (3, .inl v3), (4, .inl v4), (5, .inl 0)], [], M)
  exact nn_go_ext (nn_xc rfl (nn_xc rfl (nn_xc rfl (nn_xc rfl (nn_xc rfl (nn_xc rfl nn_xn)))))) (h n L N)
set_option maxRecDepth 20000 in
theorem ng_M_puts_3 (v1 : Int) (v2 : Int) (v3 : Int) (v4 : Int) (v5 : Int) (M : mm_M) (R : Int → mm_M → Prop) (h : ((4 ≤ v5 → (nr_M_writes v1 v3 v4 M (fun r152 M152 => R r152 M152))) ∧ (v5 < 4 → (((0 : Int) ≤ (mm_w ((nf_M_at v1 v5) + 0)) ∧ (mm_w ((nf_M_at v1 v5) + 0)) < (32844 : Int)) ∧ ((((nn_ri M 408 (mm_w ((nf_M_at v1 v5) + 0))) = 2) → ((0 : Int) ≤ (mm_w ((nf_M_at v1 v5) + 1)) ∧ (mm_w ((nf_M_at v1 v5) + 1)) < (32844 : Int))) ∧ (((nn_ri M 408 (mm_w ((nf_M_at v1 v5) + 0))) ≠ 2 ∨ ((nn_ri M 408 (mm_w ((nf_M_at v1 v5) + 1))) = 0)) → nk_M_puts_3 v1 v2 v3 v4 (mm_w (v5 + 1)) M R) ∧ (((nn_ri M 408 (mm_w ((nf_M_at v1 v5) + 0))) = 2 ∧ ((nn_ri M 408 (mm_w ((nf_M_at v1 v5) + 1))) ≠ 0)) → (nr_M_wants (nf_M_at v1 v5) v4 M (fun r47 M47 => ((r47 ≠ 0 → (nr_M_valueOf (nf_M_at v1 v5) v4 M47 (fun r66 M66 => (nr_M_other v1 (nf_M_at v1 v5) v3 r66 M66 (fun r69 M69 => ((0 ≤ r69 → (((0 : Int) ≤ (mm_w (v1 + 6)) ∧ (mm_w (v1 + 6)) < (32844 : Int)) ∧ (((0 : Int) ≤ (mm_w (v1 + 6)) ∧ (mm_w (v1 + 6)) < (32844 : Int)) ∧ (∀ M94 : mm_M, M94 = nn_ui M69 408 (mm_w (v1 + 6)) (mm_w ((nn_ri M69 408 (mm_w (v1 + 6))) + 1)) → (nr_M_valueOf (nf_M_at v1 v5) v4 M94 (fun r106 M106 => (nr_M_whys v1 v2 v3 v5 r106 M106 (fun M109 => (((0 : Int) ≤ (mm_w (v1 + 13)) ∧ (mm_w (v1 + 13)) < (32844 : Int)) ∧ (∀ M122 : mm_M, M122 = nn_ui M109 408 (mm_w (v1 + 13)) r69 → (nr_M_stampOf v1 r69 M122 (fun r135 M135 => (((0 : Int) ≤ (mm_w (v1 + 14)) ∧ (mm_w (v1 + 14)) < (32844 : Int)) ∧ (∀ M138 : mm_M, M138 = nn_ui M135 408 (mm_w (v1 + 14)) r135 → R (-1) M138)))))))))))))) ∧ (r69 < 0 → nk_M_puts_3 v1 v2 v3 v4 (mm_w (v5 + 1)) M69 R))))))) ∧ (r47 = 0 → nk_M_puts_3 v1 v2 v3 v4 (mm_w (v5 + 1)) M47 R)))))))))) : nk_M_puts_3 v1 v2 v3 v4 v5 M R := by
  intro n L N 
  have NN := nn_L_n L N
  show mm_Go (mm_run 9) mc_M_puts _ (3, [(0, .inr (.inr 407)), (1, .inl v1), (2, .inl v2), (3, .inl v3), (4, .inl v4), (5, .inl v5)], [], M)
  refine mm_s1 rfl ?_
  refine mm_s1 rfl ?_
  refine mm_s1 rfl ⟨fun c6 => ?_, fun c6 => ?_⟩
  · show mm_Go (mm_run 9) mc_M_puts _ (147, [(0, .inr (.inr 407)), (1, .inl v1), (2, .inl v2), (3, .inl v3), (4, .inl v4), (5, .inl v5)], [], M)
    replace h := h.1 c6
    refine mm_s1 rfl ?_
    refine mm_s1 rfl ?_
    refine mm_s1 rfl ?_
    refine mm_s1 rfl ?_
    refine mm_s1 rfl ⟨(nn_c407 NN).1, ?_⟩
    refine nn_call (D := 9) (by decide) (h n L N) ?_
    intro v M152 q; clear L N h
    obtain ⟨r152, rfl, L, N, h⟩ := q
    show mm_Go (mm_run 9) mc_M_puts _ (155, [(0, .inr (.inr 407)), (1, .inl v1), (2, .inl v2), (3, .inl v3), (4, .inl v4), (5, .inl v5)], [.inl r152], M152)
    exact mm_s1 rfl ⟨_, rfl, L, N, h⟩
  · show mm_Go (mm_run 9) mc_M_puts _ (9, [(0, .inr (.inr 407)), (1, .inl v1), (2, .inl v2), (3, .inl v3), (4, .inl v4), (5, .inl v5)], [], M)
    replace c6 := Int.not_le.mp c6
    replace h := h.2 c6
    refine mm_s1 rfl ?_
    refine mm_s1 rfl ?_
    refine mm_s1 rfl ⟨trivial, ?_⟩
    refine np_M_at (by decide) L N ?_
    show mm_Go (mm_run 9) mc_M_puts _ (15, [(0, .inr (.inr 407)), (1, .inl v1), (2, .inl v2), (3, .inl v3), (4, .inl v4), (5, .inl v5)], [.inl (nf_M_at v1 v5)], M)
    refine mm_s1 rfl ?_
    show mm_Go (mm_run 9) mc_M_puts _ (17, [(0, .inr (.inr 407)), (1, .inl v1), (2, .inl v2), (3, .inl v3), (4, .inl v4), (5, .inl v5), (6, .inl (nf_M_at v1 v5))], [], M)
    refine mm_s1 rfl ?_
    refine nn_getr rfl (nn_c407 NN).1 (lf_13_0 L N (nn_c407 NN)) ?_
    refine mm_s1 rfl ?_
    refine mm_s1 rfl ?_
    refine mm_s1 rfl ?_
    show mm_Go (mm_run 9) mc_M_puts _ (25, [(0, .inr (.inr 407)), (1, .inl v1), (2, .inl v2), (3, .inl v3), (4, .inl v4), (5, .inl v5), (6, .inl (nf_M_at v1 v5))], [.inl (mm_w ((nf_M_at v1 v5) + 0)), .inr (.inr 408)], M)
    obtain ⟨b25, h⟩ := h
    refine mm_s1 rfl ⟨nn_bd (na_13_0 NN (nn_c407 NN)) b25, ?_⟩
    show mm_Go (mm_run 9) mc_M_puts _ (26, [(0, .inr (.inr 407)), (1, .inl v1), (2, .inl v2), (3, .inl v3), (4, .inl v4), (5, .inl v5), (6, .inl (nf_M_at v1 v5))], [.inl (nn_ri M 408 (mm_w ((nf_M_at v1 v5) + 0)))], M)
    refine mm_s1 rfl ?_
    refine mm_s1 rfl ⟨fun c27 => ?_, fun c27 => ?_⟩
    · show mm_Go (mm_run 9) mc_M_puts _ (141, [(0, .inr (.inr 407)), (1, .inl v1), (2, .inl v2), (3, .inl v3), (4, .inl v4), (5, .inl v5), (6, .inl (nf_M_at v1 v5))], [], M)
      refine mm_s1 rfl ?_
      show mm_Go (mm_run 9) mc_M_puts _ (144, [(0, .inr (.inr 407)), (1, .inl v1), (2, .inl v2), (3, .inl v3), (4, .inl v4), (5, .inl (mm_w (v5 + 1))), (6, .inl (nf_M_at v1 v5))], [], M)
      refine mm_s1 rfl ?_
      show mm_Go (mm_run 9) mc_M_puts _ (3, [(0, .inr (.inr 407)), (1, .inl v1), (2, .inl v2), (3, .inl v3), (4, .inl v4), (5, .inl (mm_w (v5 + 1))), (6, .inl (nf_M_at v1 v5))], [], M)
      replace h := h.2.1 (Or.inl c27)
      exact nn_go_ext (nn_xc rfl (nn_xc rfl (nn_xc rfl (nn_xc rfl (nn_xc rfl (nn_xc rfl nn_xn)))))) (h n L N)
    · show mm_Go (mm_run 9) mc_M_puts _ (30, [(0, .inr (.inr 407)), (1, .inl v1), (2, .inl v2), (3, .inl v3), (4, .inl v4), (5, .inl v5), (6, .inl (nf_M_at v1 v5))], [], M)
      replace c27 := Decidable.not_not.mp c27
      refine mm_s1 rfl ?_
      refine nn_getr rfl (nn_c407 NN).1 (lf_13_0 L N (nn_c407 NN)) ?_
      refine mm_s1 rfl ?_
      refine mm_s1 rfl ?_
      refine mm_s1 rfl ?_
      show mm_Go (mm_run 9) mc_M_puts _ (38, [(0, .inr (.inr 407)), (1, .inl v1), (2, .inl v2), (3, .inl v3), (4, .inl v4), (5, .inl v5), (6, .inl (nf_M_at v1 v5))], [.inl (mm_w ((nf_M_at v1 v5) + 1)), .inr (.inr 408)], M)
      have b38 := h.1 c27
      refine mm_s1 rfl ⟨nn_bd (na_13_0 NN (nn_c407 NN)) b38, ?_⟩
      show mm_Go (mm_run 9) mc_M_puts _ (39, [(0, .inr (.inr 407)), (1, .inl v1), (2, .inl v2), (3, .inl v3), (4, .inl v4), (5, .inl v5), (6, .inl (nf_M_at v1 v5))], [.inl (nn_ri M 408 (mm_w ((nf_M_at v1 v5) + 1)))], M)
      refine mm_s1 rfl ⟨fun c39 => ?_, fun c39 => ?_⟩
      · show mm_Go (mm_run 9) mc_M_puts _ (141, [(0, .inr (.inr 407)), (1, .inl v1), (2, .inl v2), (3, .inl v3), (4, .inl v4), (5, .inl v5), (6, .inl (nf_M_at v1 v5))], [], M)
        refine mm_s1 rfl ?_
        show mm_Go (mm_run 9) mc_M_puts _ (144, [(0, .inr (.inr 407)), (1, .inl v1), (2, .inl v2), (3, .inl v3), (4, .inl v4), (5, .inl (mm_w (v5 + 1))), (6, .inl (nf_M_at v1 v5))], [], M)
        refine mm_s1 rfl ?_
        show mm_Go (mm_run 9) mc_M_puts _ (3, [(0, .inr (.inr 407)), (1, .inl v1), (2, .inl v2), (3, .inl v3), (4, .inl v4), (5, .inl (mm_w (v5 + 1))), (6, .inl (nf_M_at v1 v5))], [], M)
        replace h := h.2.1 (Or.inr c39)
        exact nn_go_ext (nn_xc rfl (nn_xc rfl (nn_xc rfl (nn_xc rfl (nn_xc rfl (nn_xc rfl nn_xn)))))) (h n L N)
      · show mm_Go (mm_run 9) mc_M_puts _ (42, [(0, .inr (.inr 407)), (1, .inl v1), (2, .inl v2), (3, .inl v3), (4, .inl v4), (5, .inl v5), (6, .inl (nf_M_at v1 v5))], [], M)
        refine mm_s1 rfl ?_
        refine mm_s1 rfl ?_
        refine mm_s1 rfl ?_
        replace h := h.2.2 ⟨c27, c39⟩
        refine mm_s1 rfl ⟨(nn_c407 NN).1, ?_⟩
        refine nn_call (D := 3) (by decide) (h n L N) ?_
        intro v M47 q; clear L N h
        obtain ⟨r47, rfl, q47, L, N, h⟩ := q
        show mm_Go (mm_run 9) mc_M_puts _ (50, [(0, .inr (.inr 407)), (1, .inl v1), (2, .inl v2), (3, .inl v3), (4, .inl v4), (5, .inl v5), (6, .inl (nf_M_at v1 v5))], [.inl r47], M47)
        refine mm_s1 rfl ⟨fun c50 => ?_, fun c50 => ?_⟩
        · show mm_Go (mm_run 9) mc_M_puts _ (56, [(0, .inr (.inr 407)), (1, .inl v1), (2, .inl v2), (3, .inl v3), (4, .inl v4), (5, .inl v5), (6, .inl (nf_M_at v1 v5))], [], M47)
          replace h := h.1 c50
          refine mm_s1 rfl ?_
          refine mm_s1 rfl ?_
          refine mm_s1 rfl ?_
          refine mm_s1 rfl ?_
          refine mm_s1 rfl ?_
          show mm_Go (mm_run 9) mc_M_puts _ (62, [(0, .inr (.inr 407)), (1, .inl v1), (2, .inl v2), (3, .inl v3), (4, .inl v4), (5, .inl v5), (6, .inl (nf_M_at v1 v5))], [.inr (.inr 407), .inl v3, .inl (nf_M_at v1 v5), .inl v1, .inr (.inr 407)], M47)
          refine mm_s1 rfl ?_
          refine mm_s1 rfl ?_
          refine mm_s1 rfl ⟨(nn_c407 NN).1, ?_⟩
          refine nn_call (D := 3) (by decide) (h n L N) ?_
          intro v M66 q; clear L N h
          obtain ⟨r66, rfl, L, N, h⟩ := q
          show mm_Go (mm_run 9) mc_M_puts _ (69, [(0, .inr (.inr 407)), (1, .inl v1), (2, .inl v2), (3, .inl v3), (4, .inl v4), (5, .inl v5), (6, .inl (nf_M_at v1 v5))], [.inl r66, .inl v3, .inl (nf_M_at v1 v5), .inl v1, .inr (.inr 407)], M66)
          refine mm_s1 rfl ⟨(nn_c407 NN).1, ?_⟩
          refine nn_call (D := 5) (by decide) (h n L N) ?_
          intro v M69 q; clear L N h
          obtain ⟨r69, rfl, L, N, h⟩ := q
          show mm_Go (mm_run 9) mc_M_puts _ (72, [(0, .inr (.inr 407)), (1, .inl v1), (2, .inl v2), (3, .inl v3), (4, .inl v4), (5, .inl v5), (6, .inl (nf_M_at v1 v5))], [.inl r69], M69)
          refine mm_s1 rfl ?_
          show mm_Go (mm_run 9) mc_M_puts _ (74, [(0, .inr (.inr 407)), (1, .inl v1), (2, .inl v2), (3, .inl v3), (4, .inl v4), (5, .inl v5), (6, .inl (nf_M_at v1 v5)), (7, .inl r69)], [], M69)
          refine mm_s1 rfl ?_
          refine mm_s1 rfl ⟨fun c76 => ?_, fun c76 => ?_⟩
          · show mm_Go (mm_run 9) mc_M_puts _ (82, [(0, .inr (.inr 407)), (1, .inl v1), (2, .inl v2), (3, .inl v3), (4, .inl v4), (5, .inl v5), (6, .inl (nf_M_at v1 v5)), (7, .inl r69)], [], M69)
            replace h := h.1 c76
            refine mm_s1 rfl ?_
            refine nn_getr rfl (nn_c407 NN).1 (lf_13_0 L N (nn_c407 NN)) ?_
            refine mm_s1 rfl ?_
            refine mm_s1 rfl ?_
            refine mm_s1 rfl ?_
            show mm_Go (mm_run 9) mc_M_puts _ (90, [(0, .inr (.inr 407)), (1, .inl v1), (2, .inl v2), (3, .inl v3), (4, .inl v4), (5, .inl v5), (6, .inl (nf_M_at v1 v5)), (7, .inl r69)], [.inl (mm_w (v1 + 6)), .inr (.inr 408)], M69)
            refine mm_s1 rfl ?_
            obtain ⟨b91, h⟩ := h
            refine mm_s1 rfl ⟨nn_bd (na_13_0 NN (nn_c407 NN)) b91, ?_⟩
            show mm_Go (mm_run 9) mc_M_puts _ (92, [(0, .inr (.inr 407)), (1, .inl v1), (2, .inl v2), (3, .inl v3), (4, .inl v4), (5, .inl v5), (6, .inl (nf_M_at v1 v5)), (7, .inl r69)], [.inl (nn_ri M69 408 (mm_w (v1 + 6))), .inl (mm_w (v1 + 6)), .inr (.inr 408)], M69)
            refine mm_s1 rfl ?_
            refine mm_s1 rfl ?_
            obtain ⟨b94, h⟩ := h
            refine mm_s1 rfl ⟨nn_bd (na_13_0 NN (nn_c407 NN)) b94, ?_⟩
            show mm_Go (mm_run 9) mc_M_puts _ (95, [(0, .inr (.inr 407)), (1, .inl v1), (2, .inl v2), (3, .inl v3), (4, .inl v4), (5, .inl v5), (6, .inl (nf_M_at v1 v5)), (7, .inl r69)], [], (nn_ui M69 408 (mm_w (v1 + 6)) (mm_w ((nn_ri M69 408 (mm_w (v1 + 6))) + 1))))
            have L : nn_L (nn_ui M69 408 (mm_w (v1 + 6)) (mm_w ((nn_ri M69 408 (mm_w (v1 + 6))) + 1))) := nn_L_ua L (congrArg Prod.fst (na_13_0 NN (nn_c407 NN))) (by decide)
            have N : (nn_ui M69 408 (mm_w (v1 + 6)) (mm_w ((nn_ri M69 408 (mm_w (v1 + 6))) + 1))).1 = n := N
            generalize e_M94 : (nn_ui M69 408 (mm_w (v1 + 6)) (mm_w ((nn_ri M69 408 (mm_w (v1 + 6))) + 1))) = M94 at L N ⊢
            replace h := h _ e_M94.symm
            show mm_Go (mm_run 9) mc_M_puts _ (95, [(0, .inr (.inr 407)), (1, .inl v1), (2, .inl v2), (3, .inl v3), (4, .inl v4), (5, .inl v5), (6, .inl (nf_M_at v1 v5)), (7, .inl r69)], [], M94)
            refine mm_s1 rfl ?_
            refine mm_s1 rfl ?_
            refine mm_s1 rfl ?_
            refine mm_s1 rfl ?_
            refine mm_s1 rfl ?_
            show mm_Go (mm_run 9) mc_M_puts _ (101, [(0, .inr (.inr 407)), (1, .inl v1), (2, .inl v2), (3, .inl v3), (4, .inl v4), (5, .inl v5), (6, .inl (nf_M_at v1 v5)), (7, .inl r69)], [.inl v5, .inl v3, .inl v2, .inl v1, .inr (.inr 407)], M94)
            refine mm_s1 rfl ?_
            refine mm_s1 rfl ?_
            refine mm_s1 rfl ?_
            refine mm_s1 rfl ⟨(nn_c407 NN).1, ?_⟩
            refine nn_call (D := 3) (by decide) (h n L N) ?_
            intro v M106 q; clear L N h
            obtain ⟨r106, rfl, L, N, h⟩ := q
            show mm_Go (mm_run 9) mc_M_puts _ (109, [(0, .inr (.inr 407)), (1, .inl v1), (2, .inl v2), (3, .inl v3), (4, .inl v4), (5, .inl v5), (6, .inl (nf_M_at v1 v5)), (7, .inl r69)], [.inl r106, .inl v5, .inl v3, .inl v2, .inl v1, .inr (.inr 407)], M106)
            refine mm_s1 rfl ⟨(nn_c407 NN).1, ?_⟩
            refine nn_call (D := 1) (by decide) (h n L N) ?_
            intro v M109 q; clear L N h
            obtain ⟨rfl, L, N, h⟩ := q
            show mm_Go (mm_run 9) mc_M_puts _ (112, [(0, .inr (.inr 407)), (1, .inl v1), (2, .inl v2), (3, .inl v3), (4, .inl v4), (5, .inl v5), (6, .inl (nf_M_at v1 v5)), (7, .inl r69)], [], M109)
            refine mm_s1 rfl ?_
            refine nn_getr rfl (nn_c407 NN).1 (lf_13_0 L N (nn_c407 NN)) ?_
            refine mm_s1 rfl ?_
            refine mm_s1 rfl ?_
            refine mm_s1 rfl ?_
            show mm_Go (mm_run 9) mc_M_puts _ (120, [(0, .inr (.inr 407)), (1, .inl v1), (2, .inl v2), (3, .inl v3), (4, .inl v4), (5, .inl v5), (6, .inl (nf_M_at v1 v5)), (7, .inl r69)], [.inl (mm_w (v1 + 13)), .inr (.inr 408)], M109)
            refine mm_s1 rfl ?_
            obtain ⟨b122, h⟩ := h
            refine mm_s1 rfl ⟨nn_bd (na_13_0 NN (nn_c407 NN)) b122, ?_⟩
            show mm_Go (mm_run 9) mc_M_puts _ (123, [(0, .inr (.inr 407)), (1, .inl v1), (2, .inl v2), (3, .inl v3), (4, .inl v4), (5, .inl v5), (6, .inl (nf_M_at v1 v5)), (7, .inl r69)], [], (nn_ui M109 408 (mm_w (v1 + 13)) r69))
            have L : nn_L (nn_ui M109 408 (mm_w (v1 + 13)) r69) := nn_L_ua L (congrArg Prod.fst (na_13_0 NN (nn_c407 NN))) (by decide)
            have N : (nn_ui M109 408 (mm_w (v1 + 13)) r69).1 = n := N
            generalize e_M122 : (nn_ui M109 408 (mm_w (v1 + 13)) r69) = M122 at L N ⊢
            replace h := h _ e_M122.symm
            show mm_Go (mm_run 9) mc_M_puts _ (123, [(0, .inr (.inr 407)), (1, .inl v1), (2, .inl v2), (3, .inl v3), (4, .inl v4), (5, .inl v5), (6, .inl (nf_M_at v1 v5)), (7, .inl r69)], [], M122)
            refine mm_s1 rfl ?_
            refine nn_getr rfl (nn_c407 NN).1 (lf_13_0 L N (nn_c407 NN)) ?_
            refine mm_s1 rfl ?_
            refine mm_s1 rfl ?_
            refine mm_s1 rfl ?_
            show mm_Go (mm_run 9) mc_M_puts _ (131, [(0, .inr (.inr 407)), (1, .inl v1), (2, .inl v2), (3, .inl v3), (4, .inl v4), (5, .inl v5), (6, .inl (nf_M_at v1 v5)), (7, .inl r69)], [.inl (mm_w (v1 + 14)), .inr (.inr 408)], M122)
            refine mm_s1 rfl ?_
            refine mm_s1 rfl ?_
            refine mm_s1 rfl ?_
            refine mm_s1 rfl ⟨(nn_c407 NN).1, ?_⟩
            refine nn_call (D := 3) (by decide) (h n L N) ?_
            intro v M135 q; clear L N h
            obtain ⟨r135, rfl, L, N, h⟩ := q
            show mm_Go (mm_run 9) mc_M_puts _ (138, [(0, .inr (.inr 407)), (1, .inl v1), (2, .inl v2), (3, .inl v3), (4, .inl v4), (5, .inl v5), (6, .inl (nf_M_at v1 v5)), (7, .inl r69)], [.inl r135, .inl (mm_w (v1 + 14)), .inr (.inr 408)], M135)
            obtain ⟨b138, h⟩ := h
            refine mm_s1 rfl ⟨nn_bd (na_13_0 NN (nn_c407 NN)) b138, ?_⟩
            show mm_Go (mm_run 9) mc_M_puts _ (139, [(0, .inr (.inr 407)), (1, .inl v1), (2, .inl v2), (3, .inl v3), (4, .inl v4), (5, .inl v5), (6, .inl (nf_M_at v1 v5)), (7, .inl r69)], [], (nn_ui M135 408 (mm_w (v1 + 14)) r135))
            have L : nn_L (nn_ui M135 408 (mm_w (v1 + 14)) r135) := nn_L_ua L (congrArg Prod.fst (na_13_0 NN (nn_c407 NN))) (by decide)
            have N : (nn_ui M135 408 (mm_w (v1 + 14)) r135).1 = n := N
            generalize e_M138 : (nn_ui M135 408 (mm_w (v1 + 14)) r135) = M138 at L N ⊢
            replace h := h _ e_M138.symm
            show mm_Go (mm_run 9) mc_M_puts _ (139, [(0, .inr (.inr 407)), (1, .inl v1), (2, .inl v2), (3, .inl v3), (4, .inl v4), (5, .inl v5), (6, .inl (nf_M_at v1 v5)), (7, .inl r69)], [], M138)
            refine mm_s1 rfl ?_
            exact mm_s1 rfl ⟨_, rfl, L, N, h⟩
          · show mm_Go (mm_run 9) mc_M_puts _ (79, [(0, .inr (.inr 407)), (1, .inl v1), (2, .inl v2), (3, .inl v3), (4, .inl v4), (5, .inl v5), (6, .inl (nf_M_at v1 v5)), (7, .inl r69)], [], M69)
            replace c76 := Int.not_le.mp c76
            replace h := h.2 c76
            refine mm_s1 rfl ?_
            show mm_Go (mm_run 9) mc_M_puts _ (141, [(0, .inr (.inr 407)), (1, .inl v1), (2, .inl v2), (3, .inl v3), (4, .inl v4), (5, .inl v5), (6, .inl (nf_M_at v1 v5)), (7, .inl r69)], [], M69)
            refine mm_s1 rfl ?_
            show mm_Go (mm_run 9) mc_M_puts _ (144, [(0, .inr (.inr 407)), (1, .inl v1), (2, .inl v2), (3, .inl v3), (4, .inl v4), (5, .inl (mm_w (v5 + 1))), (6, .inl (nf_M_at v1 v5)), (7, .inl r69)], [], M69)
            refine mm_s1 rfl ?_
            show mm_Go (mm_run 9) mc_M_puts _ (3, [(0, .inr (.inr 407)), (1, .inl v1), (2, .inl v2), (3, .inl v3), (4, .inl v4), (5, .inl (mm_w (v5 + 1))), (6, .inl (nf_M_at v1 v5)), (7, .inl r69)], [], M69)
            exact nn_go_ext (nn_xc rfl (nn_xc rfl (nn_xc rfl (nn_xc rfl (nn_xc rfl (nn_xc rfl nn_xn)))))) (h n L N)
        · show mm_Go (mm_run 9) mc_M_puts _ (53, [(0, .inr (.inr 407)), (1, .inl v1), (2, .inl v2), (3, .inl v3), (4, .inl v4), (5, .inl v5), (6, .inl (nf_M_at v1 v5))], [], M47)
          replace c50 := Decidable.not_not.mp c50
          replace h := h.2 c50
          refine mm_s1 rfl ?_
          show mm_Go (mm_run 9) mc_M_puts _ (141, [(0, .inr (.inr 407)), (1, .inl v1), (2, .inl v2), (3, .inl v3), (4, .inl v4), (5, .inl v5), (6, .inl (nf_M_at v1 v5))], [], M47)
          refine mm_s1 rfl ?_
          show mm_Go (mm_run 9) mc_M_puts _ (144, [(0, .inr (.inr 407)), (1, .inl v1), (2, .inl v2), (3, .inl v3), (4, .inl v4), (5, .inl (mm_w (v5 + 1))), (6, .inl (nf_M_at v1 v5))], [], M47)
          refine mm_s1 rfl ?_
          show mm_Go (mm_run 9) mc_M_puts _ (3, [(0, .inr (.inr 407)), (1, .inl v1), (2, .inl v2), (3, .inl v3), (4, .inl v4), (5, .inl (mm_w (v5 + 1))), (6, .inl (nf_M_at v1 v5))], [], M47)
          exact nn_go_ext (nn_xc rfl (nn_xc rfl (nn_xc rfl (nn_xc rfl (nn_xc rfl (nn_xc rfl nn_xn)))))) (h n L N)
def nr_M_remove (v1 : Int) (M : mm_M) (R : Int → mm_M → Prop) : Prop := ∀ n, nn_L M → M.1 = n → mm_run 10 mi_M_remove [.inr (.inr 407), .inl v1] M (nw_I n R)
set_option maxRecDepth 20000 in
theorem ng_M_remove (v1 : Int) (M : mm_M) (R : Int → mm_M → Prop) (h : (((nf_M_isKey v1) = 0 → R (-1) M) ∧ ((nf_M_isKey v1) ≠ 0 → (nr_M_writes 0 v1 (-1) M (fun r11 M11 => R r11 M11))))) : nr_M_remove v1 M R := by
  intro n L N 
  have NN := nn_L_n L N
  show mm_Go (mm_run 9) mc_M_remove _ (0, [(0, .inr (.inr 407)), (1, .inl v1)], [], M)
  refine mm_s1 rfl ?_
  refine mm_s1 rfl ⟨trivial, ?_⟩
  refine np_M_isKey (by decide) L N ?_
  show mm_Go (mm_run 9) mc_M_remove _ (4, [(0, .inr (.inr 407)), (1, .inl v1)], [.inl (nf_M_isKey v1)], M)
  refine mm_s1 rfl ⟨fun c4 => ?_, fun c4 => ?_⟩
  · show mm_Go (mm_run 9) mc_M_remove _ (17, [(0, .inr (.inr 407)), (1, .inl v1)], [], M)
    replace h := h.1 c4
    refine mm_s1 rfl ?_
    exact mm_s1 rfl ⟨_, rfl, L, N, h⟩
  · show mm_Go (mm_run 9) mc_M_remove _ (7, [(0, .inr (.inr 407)), (1, .inl v1)], [], M)
    replace h := h.2 c4
    refine mm_s1 rfl ?_
    refine mm_s1 rfl ?_
    refine mm_s1 rfl ?_
    refine mm_s1 rfl ?_
    refine mm_s1 rfl ⟨(nn_c407 NN).1, ?_⟩
    refine nn_call (D := 9) (by decide) (h n L N) ?_
    intro v M11 q; clear L N h
    obtain ⟨r11, rfl, L, N, h⟩ := q
    show mm_Go (mm_run 9) mc_M_remove _ (14, [(0, .inr (.inr 407)), (1, .inl v1)], [.inl r11], M11)
    refine mm_s1 rfl ?_
    show mm_Go (mm_run 9) mc_M_remove _ (18, [(0, .inr (.inr 407)), (1, .inl v1)], [.inl r11], M11)
    exact mm_s1 rfl ⟨_, rfl, L, N, h⟩
def nr_M_counts (v1 : Int) (v2 : Int) (M : mm_M) (R : Int → mm_M → Prop) : Prop := ∀ n, nn_L M → M.1 = n → mm_run 10 mi_M_counts [.inr (.inr 407), .inl v1, .inl v2] M (nw_I n R)
set_option maxRecDepth 20000 in
theorem ng_M_counts (v1 : Int) (v2 : Int) (M : mm_M) (R : Int → mm_M → Prop) (h : ((v2 = 0 → (((0 : Int) ≤ (mm_w (v1 + 0)) ∧ (mm_w (v1 + 0)) < (32844 : Int)) ∧ R (nn_ri M 408 (mm_w (v1 + 0))) M)) ∧ (v2 = 1 → (((0 : Int) ≤ (mm_w (v1 + 1)) ∧ (mm_w (v1 + 1)) < (32844 : Int)) ∧ R (nn_ri M 408 (mm_w (v1 + 1))) M)) ∧ (v2 = 2 → (nr_M_inMemory v1 M (fun r92 M92 => R r92 M92))) ∧ (v2 = 3 → (((0 : Int) ≤ (mm_w (v1 + 5)) ∧ (mm_w (v1 + 5)) < (32844 : Int)) ∧ R (nn_ri M 408 (mm_w (v1 + 5))) M)) ∧ (v2 = 4 → (nr_M_versions v1 0 M (fun r108 M108 => R r108 M108))) ∧ (v2 = 5 → (nr_M_there v1 M (fun r114 M114 => R r114 M114))) ∧ (v2 = 6 → (nr_M_versions v1 1 M (fun r121 M121 => R r121 M121))) ∧ (v2 = 7 → (nr_M_sure v1 M (fun r127 M127 => R r127 M127))) ∧ (v2 = 8 → (nr_M_leftOver v1 M (fun r133 M133 => R r133 M133))) ∧ (v2 = 9 → (nr_M_cursors v1 M (fun r139 M139 => R r139 M139))) ∧ (v2 = 10 → (nr_M_indexes v1 M (fun r145 M145 => R r145 M145))) ∧ (v2 = 11 → (((0 : Int) ≤ (mm_w (v1 + 6)) ∧ (mm_w (v1 + 6)) < (32844 : Int)) ∧ R (nn_ri M 408 (mm_w (v1 + 6))) M)) ∧ (v2 = 12 → (((0 : Int) ≤ (mm_w (v1 + 7)) ∧ (mm_w (v1 + 7)) < (32844 : Int)) ∧ R (nn_ri M 408 (mm_w (v1 + 7))) M)) ∧ (v2 = 13 → (nr_M_merging v1 M (fun r171 M171 => R r171 M171))) ∧ ((v2 < 0 ∨ 13 < v2) → R (-1) M))) : nr_M_counts v1 v2 M R := by
  intro n L N 
  have NN := nn_L_n L N
  show mm_Go (mm_run 9) mc_M_counts _ (0, [(0, .inr (.inr 407)), (1, .inl v1), (2, .inl v2)], [], M)
  refine mm_s1 rfl ?_
  refine nn_sw rfl (by decide) (fun k hk hx => ?_) (fun c1 => ?_)
  · match k, hk, hx with
    | 0, _, hx =>
      have c1 : v2 = 0 := hx.trans (by decide)
      replace h := h.1 c1
      show mm_Go (mm_run 9) mc_M_counts _ (72, [(0, .inr (.inr 407)), (1, .inl v1), (2, .inl v2)], [], M)
      refine mm_s1 rfl ?_
      refine nn_getr rfl (nn_c407 NN).1 (lf_13_0 L N (nn_c407 NN)) ?_
      refine mm_s1 rfl ?_
      refine mm_s1 rfl ?_
      refine mm_s1 rfl ?_
      show mm_Go (mm_run 9) mc_M_counts _ (79, [(0, .inr (.inr 407)), (1, .inl v1), (2, .inl v2)], [.inl (mm_w (v1 + 0)), .inr (.inr 408)], M)
      obtain ⟨b79, h⟩ := h
      refine mm_s1 rfl ⟨nn_bd (na_13_0 NN (nn_c407 NN)) b79, ?_⟩
      show mm_Go (mm_run 9) mc_M_counts _ (80, [(0, .inr (.inr 407)), (1, .inl v1), (2, .inl v2)], [.inl (nn_ri M 408 (mm_w (v1 + 0)))], M)
      exact mm_s1 rfl ⟨_, rfl, L, N, h⟩
    | 1, _, hx =>
      have c1 : v2 = 1 := hx.trans (by decide)
      replace h := h.2.1 c1
      show mm_Go (mm_run 9) mc_M_counts _ (81, [(0, .inr (.inr 407)), (1, .inl v1), (2, .inl v2)], [], M)
      refine mm_s1 rfl ?_
      refine nn_getr rfl (nn_c407 NN).1 (lf_13_0 L N (nn_c407 NN)) ?_
      refine mm_s1 rfl ?_
      refine mm_s1 rfl ?_
      refine mm_s1 rfl ?_
      show mm_Go (mm_run 9) mc_M_counts _ (88, [(0, .inr (.inr 407)), (1, .inl v1), (2, .inl v2)], [.inl (mm_w (v1 + 1)), .inr (.inr 408)], M)
      obtain ⟨b88, h⟩ := h
      refine mm_s1 rfl ⟨nn_bd (na_13_0 NN (nn_c407 NN)) b88, ?_⟩
      show mm_Go (mm_run 9) mc_M_counts _ (89, [(0, .inr (.inr 407)), (1, .inl v1), (2, .inl v2)], [.inl (nn_ri M 408 (mm_w (v1 + 1)))], M)
      exact mm_s1 rfl ⟨_, rfl, L, N, h⟩
    | 2, _, hx =>
      have c1 : v2 = 2 := hx.trans (by decide)
      replace h := h.2.2.1 c1
      show mm_Go (mm_run 9) mc_M_counts _ (90, [(0, .inr (.inr 407)), (1, .inl v1), (2, .inl v2)], [], M)
      refine mm_s1 rfl ?_
      refine mm_s1 rfl ?_
      refine mm_s1 rfl ⟨(nn_c407 NN).1, ?_⟩
      refine nn_call (D := 1) (by decide) (h n L N) ?_
      intro v M92 q; clear L N h
      obtain ⟨r92, rfl, L, N, h⟩ := q
      show mm_Go (mm_run 9) mc_M_counts _ (95, [(0, .inr (.inr 407)), (1, .inl v1), (2, .inl v2)], [.inl r92], M92)
      exact mm_s1 rfl ⟨_, rfl, L, N, h⟩
    | 3, _, hx =>
      have c1 : v2 = 3 := hx.trans (by decide)
      replace h := h.2.2.2.1 c1
      show mm_Go (mm_run 9) mc_M_counts _ (96, [(0, .inr (.inr 407)), (1, .inl v1), (2, .inl v2)], [], M)
      refine mm_s1 rfl ?_
      refine nn_getr rfl (nn_c407 NN).1 (lf_13_0 L N (nn_c407 NN)) ?_
      refine mm_s1 rfl ?_
      refine mm_s1 rfl ?_
      refine mm_s1 rfl ?_
      show mm_Go (mm_run 9) mc_M_counts _ (103, [(0, .inr (.inr 407)), (1, .inl v1), (2, .inl v2)], [.inl (mm_w (v1 + 5)), .inr (.inr 408)], M)
      obtain ⟨b103, h⟩ := h
      refine mm_s1 rfl ⟨nn_bd (na_13_0 NN (nn_c407 NN)) b103, ?_⟩
      show mm_Go (mm_run 9) mc_M_counts _ (104, [(0, .inr (.inr 407)), (1, .inl v1), (2, .inl v2)], [.inl (nn_ri M 408 (mm_w (v1 + 5)))], M)
      exact mm_s1 rfl ⟨_, rfl, L, N, h⟩
    | 4, _, hx =>
      have c1 : v2 = 4 := hx.trans (by decide)
      replace h := h.2.2.2.2.1 c1
      show mm_Go (mm_run 9) mc_M_counts _ (105, [(0, .inr (.inr 407)), (1, .inl v1), (2, .inl v2)], [], M)
      refine mm_s1 rfl ?_
      refine mm_s1 rfl ?_
      refine mm_s1 rfl ?_
      refine mm_s1 rfl ⟨(nn_c407 NN).1, ?_⟩
      refine nn_call (D := 2) (by decide) (h n L N) ?_
      intro v M108 q; clear L N h
      obtain ⟨r108, rfl, L, N, h⟩ := q
      show mm_Go (mm_run 9) mc_M_counts _ (111, [(0, .inr (.inr 407)), (1, .inl v1), (2, .inl v2)], [.inl r108], M108)
      exact mm_s1 rfl ⟨_, rfl, L, N, h⟩
    | 5, _, hx =>
      have c1 : v2 = 5 := hx.trans (by decide)
      replace h := h.2.2.2.2.2.1 c1
      show mm_Go (mm_run 9) mc_M_counts _ (112, [(0, .inr (.inr 407)), (1, .inl v1), (2, .inl v2)], [], M)
      refine mm_s1 rfl ?_
      refine mm_s1 rfl ?_
      refine mm_s1 rfl ⟨(nn_c407 NN).1, ?_⟩
      refine nn_call (D := 4) (by decide) (h n L N) ?_
      intro v M114 q; clear L N h
      obtain ⟨r114, rfl, L, N, h⟩ := q
      show mm_Go (mm_run 9) mc_M_counts _ (117, [(0, .inr (.inr 407)), (1, .inl v1), (2, .inl v2)], [.inl r114], M114)
      exact mm_s1 rfl ⟨_, rfl, L, N, h⟩
    | 6, _, hx =>
      have c1 : v2 = 6 := hx.trans (by decide)
      replace h := h.2.2.2.2.2.2.1 c1
      show mm_Go (mm_run 9) mc_M_counts _ (118, [(0, .inr (.inr 407)), (1, .inl v1), (2, .inl v2)], [], M)
      refine mm_s1 rfl ?_
      refine mm_s1 rfl ?_
      refine mm_s1 rfl ?_
      refine mm_s1 rfl ⟨(nn_c407 NN).1, ?_⟩
      refine nn_call (D := 2) (by decide) (h n L N) ?_
      intro v M121 q; clear L N h
      obtain ⟨r121, rfl, L, N, h⟩ := q
      show mm_Go (mm_run 9) mc_M_counts _ (124, [(0, .inr (.inr 407)), (1, .inl v1), (2, .inl v2)], [.inl r121], M121)
      exact mm_s1 rfl ⟨_, rfl, L, N, h⟩
    | 7, _, hx =>
      have c1 : v2 = 7 := hx.trans (by decide)
      replace h := h.2.2.2.2.2.2.2.1 c1
      show mm_Go (mm_run 9) mc_M_counts _ (125, [(0, .inr (.inr 407)), (1, .inl v1), (2, .inl v2)], [], M)
      refine mm_s1 rfl ?_
      refine mm_s1 rfl ?_
      refine mm_s1 rfl ⟨(nn_c407 NN).1, ?_⟩
      refine nn_call (D := 3) (by decide) (h n L N) ?_
      intro v M127 q; clear L N h
      obtain ⟨r127, rfl, L, N, h⟩ := q
      show mm_Go (mm_run 9) mc_M_counts _ (130, [(0, .inr (.inr 407)), (1, .inl v1), (2, .inl v2)], [.inl r127], M127)
      exact mm_s1 rfl ⟨_, rfl, L, N, h⟩
    | 8, _, hx =>
      have c1 : v2 = 8 := hx.trans (by decide)
      replace h := h.2.2.2.2.2.2.2.2.1 c1
      show mm_Go (mm_run 9) mc_M_counts _ (131, [(0, .inr (.inr 407)), (1, .inl v1), (2, .inl v2)], [], M)
      refine mm_s1 rfl ?_
      refine mm_s1 rfl ?_
      refine mm_s1 rfl ⟨(nn_c407 NN).1, ?_⟩
      refine nn_call (D := 3) (by decide) (h n L N) ?_
      intro v M133 q; clear L N h
      obtain ⟨r133, rfl, L, N, h⟩ := q
      show mm_Go (mm_run 9) mc_M_counts _ (136, [(0, .inr (.inr 407)), (1, .inl v1), (2, .inl v2)], [.inl r133], M133)
      exact mm_s1 rfl ⟨_, rfl, L, N, h⟩
    | 9, _, hx =>
      have c1 : v2 = 9 := hx.trans (by decide)
      replace h := h.2.2.2.2.2.2.2.2.2.1 c1
      show mm_Go (mm_run 9) mc_M_counts _ (137, [(0, .inr (.inr 407)), (1, .inl v1), (2, .inl v2)], [], M)
      refine mm_s1 rfl ?_
      refine mm_s1 rfl ?_
      refine mm_s1 rfl ⟨(nn_c407 NN).1, ?_⟩
      refine nn_call (D := 2) (by decide) (h n L N) ?_
      intro v M139 q; clear L N h
      obtain ⟨r139, rfl, L, N, h⟩ := q
      show mm_Go (mm_run 9) mc_M_counts _ (142, [(0, .inr (.inr 407)), (1, .inl v1), (2, .inl v2)], [.inl r139], M139)
      exact mm_s1 rfl ⟨_, rfl, L, N, h⟩
    | 10, _, hx =>
      have c1 : v2 = 10 := hx.trans (by decide)
      replace h := h.2.2.2.2.2.2.2.2.2.2.1 c1
      show mm_Go (mm_run 9) mc_M_counts _ (143, [(0, .inr (.inr 407)), (1, .inl v1), (2, .inl v2)], [], M)
      refine mm_s1 rfl ?_
      refine mm_s1 rfl ?_
      refine mm_s1 rfl ⟨(nn_c407 NN).1, ?_⟩
      refine nn_call (D := 2) (by decide) (h n L N) ?_
      intro v M145 q; clear L N h
      obtain ⟨r145, rfl, L, N, h⟩ := q
      show mm_Go (mm_run 9) mc_M_counts _ (148, [(0, .inr (.inr 407)), (1, .inl v1), (2, .inl v2)], [.inl r145], M145)
      exact mm_s1 rfl ⟨_, rfl, L, N, h⟩
    | 11, _, hx =>
      have c1 : v2 = 11 := hx.trans (by decide)
      replace h := h.2.2.2.2.2.2.2.2.2.2.2.1 c1
      show mm_Go (mm_run 9) mc_M_counts _ (149, [(0, .inr (.inr 407)), (1, .inl v1), (2, .inl v2)], [], M)
      refine mm_s1 rfl ?_
      refine nn_getr rfl (nn_c407 NN).1 (lf_13_0 L N (nn_c407 NN)) ?_
      refine mm_s1 rfl ?_
      refine mm_s1 rfl ?_
      refine mm_s1 rfl ?_
      show mm_Go (mm_run 9) mc_M_counts _ (157, [(0, .inr (.inr 407)), (1, .inl v1), (2, .inl v2)], [.inl (mm_w (v1 + 6)), .inr (.inr 408)], M)
      obtain ⟨b157, h⟩ := h
      refine mm_s1 rfl ⟨nn_bd (na_13_0 NN (nn_c407 NN)) b157, ?_⟩
      show mm_Go (mm_run 9) mc_M_counts _ (158, [(0, .inr (.inr 407)), (1, .inl v1), (2, .inl v2)], [.inl (nn_ri M 408 (mm_w (v1 + 6)))], M)
      exact mm_s1 rfl ⟨_, rfl, L, N, h⟩
    | 12, _, hx =>
      have c1 : v2 = 12 := hx.trans (by decide)
      replace h := h.2.2.2.2.2.2.2.2.2.2.2.2.1 c1
      show mm_Go (mm_run 9) mc_M_counts _ (159, [(0, .inr (.inr 407)), (1, .inl v1), (2, .inl v2)], [], M)
      refine mm_s1 rfl ?_
      refine nn_getr rfl (nn_c407 NN).1 (lf_13_0 L N (nn_c407 NN)) ?_
      refine mm_s1 rfl ?_
      refine mm_s1 rfl ?_
      refine mm_s1 rfl ?_
      show mm_Go (mm_run 9) mc_M_counts _ (167, [(0, .inr (.inr 407)), (1, .inl v1), (2, .inl v2)], [.inl (mm_w (v1 + 7)), .inr (.inr 408)], M)
      obtain ⟨b167, h⟩ := h
      refine mm_s1 rfl ⟨nn_bd (na_13_0 NN (nn_c407 NN)) b167, ?_⟩
      show mm_Go (mm_run 9) mc_M_counts _ (168, [(0, .inr (.inr 407)), (1, .inl v1), (2, .inl v2)], [.inl (nn_ri M 408 (mm_w (v1 + 7)))], M)
      exact mm_s1 rfl ⟨_, rfl, L, N, h⟩
    | 13, _, hx =>
      have c1 : v2 = 13 := hx.trans (by decide)
      replace h := h.2.2.2.2.2.2.2.2.2.2.2.2.2.1 c1
      show mm_Go (mm_run 9) mc_M_counts _ (169, [(0, .inr (.inr 407)), (1, .inl v1), (2, .inl v2)], [], M)
      refine mm_s1 rfl ?_
      refine mm_s1 rfl ?_
      refine mm_s1 rfl ⟨(nn_c407 NN).1, ?_⟩
      refine nn_call (D := 9) (by decide) (h n L N) ?_
      intro v M171 q; clear L N h
      obtain ⟨r171, rfl, L, N, h⟩ := q
      show mm_Go (mm_run 9) mc_M_counts _ (174, [(0, .inr (.inr 407)), (1, .inl v1), (2, .inl v2)], [.inl r171], M171)
      exact mm_s1 rfl ⟨_, rfl, L, N, h⟩
    | k + 14, hk, _ => exact absurd hk (by show ¬ (k + 14 < 14); omega)
  · replace h := h.2.2.2.2.2.2.2.2.2.2.2.2.2.2 c1
    show mm_Go (mm_run 9) mc_M_counts _ (175, [(0, .inr (.inr 407)), (1, .inl v1), (2, .inl v2)], [], M)
    refine mm_s1 rfl ?_
    exact mm_s1 rfl ⟨_, rfl, L, N, h⟩
def nr_Reader_readIndex (v1 : Nat) (v2 : Nat) (M : mm_M) (R : Int → mm_M → Prop) : Prop := ∀ n, nn_L M → M.1 = n → nn_C 11 v1 n → nn_C 5 v2 n → mm_run 11 mi_Reader_readIndex [.inr (.inr 402), .inr (.inr v1), .inr (.inr v2)] M (nw_Z n R)
set_option maxRecDepth 20000 in
theorem ng_Reader_readIndex (v1 : Nat) (v2 : Nat) (M : mm_M) (R : Int → mm_M → Prop) (h : (nr_Reader_split (v1 + 1) (nn_rf M v1 1) M (fun M9 => (∀ M14 : mm_M, M14 = nn_uf M9 402 3 0 → (∀ M19 : mm_M, M19 = nn_uf M14 402 4 0 → (nr_Rule_clear (v2 + 1) M19 (fun M26 => (nr_Reader_passes 3 M26 (fun r31 M31 => ((r31 ≠ 0 → (nr_Reader_readSum (v2 + 1) 0 M31 (fun r49 M49 => ((r49 ≠ 0 → (nr_Reader_passes 4 M49 (fun r59 M59 => ((r59 = 0 → (nr_Reader_passes 6 M59 (fun r82 M82 => (∀ M85 : mm_M, M85 = nn_uf M82 v2 6 r82 → (nr_Reader_passes 7 M85 (fun r92 M92 => (∀ M95 : mm_M, M95 = nn_uf M92 v2 7 r92 → (((0 : Int) ≤ (nn_rf M95 402 3) ∧ (nn_rf M95 402 3) < (201 : Int)) ∧ (((nn_ri M95 403 (nn_rf M95 402 3)) = 0 → R 1 M95) ∧ ((nn_ri M95 403 (nn_rf M95 402 3)) ≠ 0 → (nr_Reader_fails 1 M95 (fun r112 M112 => ((r112 = 0 → R 0 M112) ∧ (r112 ≠ 0 → R 1 M112)))))))))))))) ∧ (r59 ≠ 0 → (nr_Reader_readAtoms (v2 + 1) M59 (fun r70 M70 => ((r70 ≠ 0 → (nr_Reader_passes 6 M70 (fun r82 M82 => (∀ M85 : mm_M, M85 = nn_uf M82 v2 6 r82 → (nr_Reader_passes 7 M85 (fun r92 M92 => (∀ M95 : mm_M, M95 = nn_uf M92 v2 7 r92 → (((0 : Int) ≤ (nn_rf M95 402 3) ∧ (nn_rf M95 402 3) < (201 : Int)) ∧ (((nn_ri M95 403 (nn_rf M95 402 3)) = 0 → R 1 M95) ∧ ((nn_ri M95 403 (nn_rf M95 402 3)) ≠ 0 → (nr_Reader_fails 1 M95 (fun r112 M112 => ((r112 = 0 → R 0 M112) ∧ (r112 ≠ 0 → R 1 M112)))))))))))))) ∧ (r70 = 0 → R 0 M70))))))))) ∧ (r49 = 0 → R 0 M49))))) ∧ (r31 = 0 → (nr_Reader_fails 1 M31 (fun r39 M39 => R r39 M39))))))))))))) : nr_Reader_readIndex v1 v2 M R := by
  intro n L N C1 C2
  have NN := nn_L_n L N
  show mm_Go (mm_run 10) mc_Reader_readIndex _ (0, [(0, .inr (.inr 402)), (1, .inr (.inr v1)), (2, .inr (.inr v2))], [], M)
  refine mm_s1 rfl ?_
  refine mm_s1 rfl ?_
  refine nn_getr rfl C1.1 (lf_11_0 L N C1) ?_
  refine mm_s1 rfl ?_
  refine mm_s1 rfl ⟨C1.1, ?_⟩
  show mm_Go (mm_run 10) mc_Reader_readIndex _ (9, [(0, .inr (.inr 402)), (1, .inr (.inr v1)), (2, .inr (.inr v2))], [.inl (nn_rf M v1 1), .inr (.inr (v1 + 1)), .inr (.inr 402)], M)
  refine mm_s1 rfl ⟨(nn_c402 NN).1, ?_⟩
  refine nn_call (D := 10) (by decide) (h n L N (nc_11_0 NN C1)) ?_
  intro v M9 q; clear L N h
  obtain ⟨rfl, L, N, h⟩ := q
  show mm_Go (mm_run 10) mc_Reader_readIndex _ (12, [(0, .inr (.inr 402)), (1, .inr (.inr v1)), (2, .inr (.inr v2))], [], M9)
  refine mm_s1 rfl ?_
  refine mm_s1 rfl ?_
  refine mm_s1 rfl ⟨(nn_c402 NN).1, ?_⟩
  show mm_Go (mm_run 10) mc_Reader_readIndex _ (17, [(0, .inr (.inr 402)), (1, .inr (.inr v1)), (2, .inr (.inr v2))], [], (nn_uf M9 402 3 0))
  have L : nn_L (nn_uf M9 402 3 0) := nn_L_up L (nn_c402 NN).1 rfl
  have N : (nn_uf M9 402 3 0).1 = n := N
  generalize e_M14 : (nn_uf M9 402 3 0) = M14 at L N ⊢
  replace h := h _ e_M14.symm
  show mm_Go (mm_run 10) mc_Reader_readIndex _ (17, [(0, .inr (.inr 402)), (1, .inr (.inr v1)), (2, .inr (.inr v2))], [], M14)
  refine mm_s1 rfl ?_
  refine mm_s1 rfl ?_
  refine mm_s1 rfl ⟨(nn_c402 NN).1, ?_⟩
  show mm_Go (mm_run 10) mc_Reader_readIndex _ (22, [(0, .inr (.inr 402)), (1, .inr (.inr v1)), (2, .inr (.inr v2))], [], (nn_uf M14 402 4 0))
  have L : nn_L (nn_uf M14 402 4 0) := nn_L_up L (nn_c402 NN).1 rfl
  have N : (nn_uf M14 402 4 0).1 = n := N
  generalize e_M19 : (nn_uf M14 402 4 0) = M19 at L N ⊢
  replace h := h _ e_M19.symm
  show mm_Go (mm_run 10) mc_Reader_readIndex _ (22, [(0, .inr (.inr 402)), (1, .inr (.inr v1)), (2, .inr (.inr v2))], [], M19)
  refine mm_s1 rfl ?_
  refine nn_getr rfl C2.1 (lf_5_0 L N C2) ?_
  refine mm_s1 rfl ⟨(nc_5_0 NN C2).1, ?_⟩
  refine nn_call (D := 1) (by decide) (h n L N (nc_5_0 NN C2)) ?_
  intro v M26 q; clear L N h
  obtain ⟨rfl, L, N, h⟩ := q
  show mm_Go (mm_run 10) mc_Reader_readIndex _ (29, [(0, .inr (.inr 402)), (1, .inr (.inr v1)), (2, .inr (.inr v2))], [], M26)
  refine mm_s1 rfl ?_
  refine mm_s1 rfl ?_
  refine mm_s1 rfl ⟨(nn_c402 NN).1, ?_⟩
  refine nn_call (D := 1) (by decide) (h n L N) ?_
  intro v M31 q; clear L N h
  obtain ⟨r31, rfl, q31, L, N, h⟩ := q
  show mm_Go (mm_run 10) mc_Reader_readIndex _ (34, [(0, .inr (.inr 402)), (1, .inr (.inr v1)), (2, .inr (.inr v2))], [.inl r31], M31)
  refine mm_s1 rfl ⟨fun c34 => ?_, fun c34 => ?_⟩
  · show mm_Go (mm_run 10) mc_Reader_readIndex _ (43, [(0, .inr (.inr 402)), (1, .inr (.inr v1)), (2, .inr (.inr v2))], [], M31)
    replace h := h.1 c34
    refine mm_s1 rfl ?_
    refine mm_s1 rfl ?_
    refine nn_getr rfl C2.1 (lf_5_0 L N C2) ?_
    refine mm_s1 rfl ?_
    refine mm_s1 rfl ⟨(nn_c402 NN).1, ?_⟩
    refine nn_call (D := 3) (by decide) (h n L N (nc_5_0 NN C2)) ?_
    intro v M49 q; clear L N h
    obtain ⟨r49, rfl, q49, L, N, h⟩ := q
    show mm_Go (mm_run 10) mc_Reader_readIndex _ (52, [(0, .inr (.inr 402)), (1, .inr (.inr v1)), (2, .inr (.inr v2))], [.inl r49], M49)
    refine mm_s1 rfl ⟨fun c52 => ?_, fun c52 => ?_⟩
    · show mm_Go (mm_run 10) mc_Reader_readIndex _ (57, [(0, .inr (.inr 402)), (1, .inr (.inr v1)), (2, .inr (.inr v2))], [], M49)
      replace h := h.1 c52
      refine mm_s1 rfl ?_
      refine mm_s1 rfl ?_
      refine mm_s1 rfl ⟨(nn_c402 NN).1, ?_⟩
      refine nn_call (D := 1) (by decide) (h n L N) ?_
      intro v M59 q; clear L N h
      obtain ⟨r59, rfl, q59, L, N, h⟩ := q
      show mm_Go (mm_run 10) mc_Reader_readIndex _ (62, [(0, .inr (.inr 402)), (1, .inr (.inr v1)), (2, .inr (.inr v2))], [.inl r59], M59)
      refine mm_s1 rfl ⟨fun c62 => ?_, fun c62 => ?_⟩
      · show mm_Go (mm_run 10) mc_Reader_readIndex _ (78, [(0, .inr (.inr 402)), (1, .inr (.inr v1)), (2, .inr (.inr v2))], [], M59)
        replace h := h.1 c62
        refine mm_s1 rfl ?_
        refine mm_s1 rfl ?_
        refine mm_s1 rfl ?_
        refine mm_s1 rfl ⟨(nn_c402 NN).1, ?_⟩
        refine nn_call (D := 1) (by decide) (h n L N) ?_
        intro v M82 q; clear L N h
        obtain ⟨r82, rfl, q82, L, N, h⟩ := q
        show mm_Go (mm_run 10) mc_Reader_readIndex _ (85, [(0, .inr (.inr 402)), (1, .inr (.inr v1)), (2, .inr (.inr v2))], [.inl r82, .inr (.inr v2)], M82)
        refine mm_s1 rfl ⟨⟨C2.1, q82⟩, ?_⟩
        show mm_Go (mm_run 10) mc_Reader_readIndex _ (88, [(0, .inr (.inr 402)), (1, .inr (.inr v1)), (2, .inr (.inr v2))], [], (nn_uf M82 v2 6 r82))
        have L : nn_L (nn_uf M82 v2 6 r82) := nn_L_up L C2.1 rfl
        have N : (nn_uf M82 v2 6 r82).1 = n := N
        generalize e_M85 : (nn_uf M82 v2 6 r82) = M85 at L N ⊢
        replace h := h _ e_M85.symm
        show mm_Go (mm_run 10) mc_Reader_readIndex _ (88, [(0, .inr (.inr 402)), (1, .inr (.inr v1)), (2, .inr (.inr v2))], [], M85)
        refine mm_s1 rfl ?_
        refine mm_s1 rfl ?_
        refine mm_s1 rfl ?_
        refine mm_s1 rfl ⟨(nn_c402 NN).1, ?_⟩
        refine nn_call (D := 1) (by decide) (h n L N) ?_
        intro v M92 q; clear L N h
        obtain ⟨r92, rfl, q92, L, N, h⟩ := q
        show mm_Go (mm_run 10) mc_Reader_readIndex _ (95, [(0, .inr (.inr 402)), (1, .inr (.inr v1)), (2, .inr (.inr v2))], [.inl r92, .inr (.inr v2)], M92)
        refine mm_s1 rfl ⟨⟨C2.1, q92⟩, ?_⟩
        show mm_Go (mm_run 10) mc_Reader_readIndex _ (98, [(0, .inr (.inr 402)), (1, .inr (.inr v1)), (2, .inr (.inr v2))], [], (nn_uf M92 v2 7 r92))
        have L : nn_L (nn_uf M92 v2 7 r92) := nn_L_up L C2.1 rfl
        have N : (nn_uf M92 v2 7 r92).1 = n := N
        generalize e_M95 : (nn_uf M92 v2 7 r92) = M95 at L N ⊢
        replace h := h _ e_M95.symm
        show mm_Go (mm_run 10) mc_Reader_readIndex _ (98, [(0, .inr (.inr 402)), (1, .inr (.inr v1)), (2, .inr (.inr v2))], [], M95)
        refine mm_s1 rfl ?_
        refine nn_getr rfl (nn_c402 NN).1 (lf_7_0 L N (nn_c402 NN)) ?_
        refine mm_s1 rfl ?_
        refine mm_s1 rfl ⟨(nn_c402 NN).1, ?_⟩
        show mm_Go (mm_run 10) mc_Reader_readIndex _ (106, [(0, .inr (.inr 402)), (1, .inr (.inr v1)), (2, .inr (.inr v2))], [.inl (nn_rf M95 402 3), .inr (.inr 403)], M95)
        obtain ⟨b106, h⟩ := h
        refine mm_s1 rfl ⟨nn_bd (na_7_0 NN (nn_c402 NN)) b106, ?_⟩
        show mm_Go (mm_run 10) mc_Reader_readIndex _ (107, [(0, .inr (.inr 402)), (1, .inr (.inr v1)), (2, .inr (.inr v2))], [.inl (nn_ri M95 403 (nn_rf M95 402 3))], M95)
        refine mm_s1 rfl ⟨fun c107 => ?_, fun c107 => ?_⟩
        · show mm_Go (mm_run 10) mc_Reader_readIndex _ (118, [(0, .inr (.inr 402)), (1, .inr (.inr v1)), (2, .inr (.inr v2))], [], M95)
          replace h := h.1 c107
          refine mm_s1 rfl ?_
          refine mm_s1 rfl ?_
          show mm_Go (mm_run 10) mc_Reader_readIndex _ (123, [(0, .inr (.inr 402)), (1, .inr (.inr v1)), (2, .inr (.inr v2))], [.inl 1], M95)
          exact mm_s1 rfl ⟨(Or.inr rfl), _, rfl, (Or.inr rfl), L, N, h⟩
        · show mm_Go (mm_run 10) mc_Reader_readIndex _ (110, [(0, .inr (.inr 402)), (1, .inr (.inr v1)), (2, .inr (.inr v2))], [], M95)
          replace h := h.2 c107
          refine mm_s1 rfl ?_
          refine mm_s1 rfl ?_
          refine mm_s1 rfl ⟨(nn_c402 NN).1, ?_⟩
          refine nn_call (D := 1) (by decide) (h n L N) ?_
          intro v M112 q; clear L N h
          obtain ⟨r112, rfl, q112, L, N, h⟩ := q
          show mm_Go (mm_run 10) mc_Reader_readIndex _ (115, [(0, .inr (.inr 402)), (1, .inr (.inr v1)), (2, .inr (.inr v2))], [.inl r112], M112)
          refine mm_s1 rfl ⟨fun c115 => ?_, fun c115 => ?_⟩
          · show mm_Go (mm_run 10) mc_Reader_readIndex _ (122, [(0, .inr (.inr 402)), (1, .inr (.inr v1)), (2, .inr (.inr v2))], [], M112)
            replace h := h.1 c115
            refine mm_s1 rfl ?_
            exact mm_s1 rfl ⟨(Or.inl rfl), _, rfl, (Or.inl rfl), L, N, h⟩
          · show mm_Go (mm_run 10) mc_Reader_readIndex _ (118, [(0, .inr (.inr 402)), (1, .inr (.inr v1)), (2, .inr (.inr v2))], [], M112)
            replace h := h.2 c115
            refine mm_s1 rfl ?_
            refine mm_s1 rfl ?_
            show mm_Go (mm_run 10) mc_Reader_readIndex _ (123, [(0, .inr (.inr 402)), (1, .inr (.inr v1)), (2, .inr (.inr v2))], [.inl 1], M112)
            exact mm_s1 rfl ⟨(Or.inr rfl), _, rfl, (Or.inr rfl), L, N, h⟩
      · show mm_Go (mm_run 10) mc_Reader_readIndex _ (65, [(0, .inr (.inr 402)), (1, .inr (.inr v1)), (2, .inr (.inr v2))], [], M59)
        replace h := h.2 c62
        refine mm_s1 rfl ?_
        refine mm_s1 rfl ?_
        refine nn_getr rfl C2.1 (lf_5_0 L N C2) ?_
        refine mm_s1 rfl ⟨(nn_c402 NN).1, ?_⟩
        refine nn_call (D := 4) (by decide) (h n L N (nc_5_0 NN C2)) ?_
        intro v M70 q; clear L N h
        obtain ⟨r70, rfl, q70, L, N, h⟩ := q
        show mm_Go (mm_run 10) mc_Reader_readIndex _ (73, [(0, .inr (.inr 402)), (1, .inr (.inr v1)), (2, .inr (.inr v2))], [.inl r70], M70)
        refine mm_s1 rfl ⟨fun c73 => ?_, fun c73 => ?_⟩
        · show mm_Go (mm_run 10) mc_Reader_readIndex _ (78, [(0, .inr (.inr 402)), (1, .inr (.inr v1)), (2, .inr (.inr v2))], [], M70)
          replace h := h.1 c73
          refine mm_s1 rfl ?_
          refine mm_s1 rfl ?_
          refine mm_s1 rfl ?_
          refine mm_s1 rfl ⟨(nn_c402 NN).1, ?_⟩
          refine nn_call (D := 1) (by decide) (h n L N) ?_
          intro v M82 q; clear L N h
          obtain ⟨r82, rfl, q82, L, N, h⟩ := q
          show mm_Go (mm_run 10) mc_Reader_readIndex _ (85, [(0, .inr (.inr 402)), (1, .inr (.inr v1)), (2, .inr (.inr v2))], [.inl r82, .inr (.inr v2)], M82)
          refine mm_s1 rfl ⟨⟨C2.1, q82⟩, ?_⟩
          show mm_Go (mm_run 10) mc_Reader_readIndex _ (88, [(0, .inr (.inr 402)), (1, .inr (.inr v1)), (2, .inr (.inr v2))], [], (nn_uf M82 v2 6 r82))
          have L : nn_L (nn_uf M82 v2 6 r82) := nn_L_up L C2.1 rfl
          have N : (nn_uf M82 v2 6 r82).1 = n := N
          generalize e_M85 : (nn_uf M82 v2 6 r82) = M85 at L N ⊢
          replace h := h _ e_M85.symm
          show mm_Go (mm_run 10) mc_Reader_readIndex _ (88, [(0, .inr (.inr 402)), (1, .inr (.inr v1)), (2, .inr (.inr v2))], [], M85)
          refine mm_s1 rfl ?_
          refine mm_s1 rfl ?_
          refine mm_s1 rfl ?_
          refine mm_s1 rfl ⟨(nn_c402 NN).1, ?_⟩
          refine nn_call (D := 1) (by decide) (h n L N) ?_
          intro v M92 q; clear L N h
          obtain ⟨r92, rfl, q92, L, N, h⟩ := q
          show mm_Go (mm_run 10) mc_Reader_readIndex _ (95, [(0, .inr (.inr 402)), (1, .inr (.inr v1)), (2, .inr (.inr v2))], [.inl r92, .inr (.inr v2)], M92)
          refine mm_s1 rfl ⟨⟨C2.1, q92⟩, ?_⟩
          show mm_Go (mm_run 10) mc_Reader_readIndex _ (98, [(0, .inr (.inr 402)), (1, .inr (.inr v1)), (2, .inr (.inr v2))], [], (nn_uf M92 v2 7 r92))
          have L : nn_L (nn_uf M92 v2 7 r92) := nn_L_up L C2.1 rfl
          have N : (nn_uf M92 v2 7 r92).1 = n := N
          generalize e_M95 : (nn_uf M92 v2 7 r92) = M95 at L N ⊢
          replace h := h _ e_M95.symm
          show mm_Go (mm_run 10) mc_Reader_readIndex _ (98, [(0, .inr (.inr 402)), (1, .inr (.inr v1)), (2, .inr (.inr v2))], [], M95)
          refine mm_s1 rfl ?_
          refine nn_getr rfl (nn_c402 NN).1 (lf_7_0 L N (nn_c402 NN)) ?_
          refine mm_s1 rfl ?_
          refine mm_s1 rfl ⟨(nn_c402 NN).1, ?_⟩
          show mm_Go (mm_run 10) mc_Reader_readIndex _ (106, [(0, .inr (.inr 402)), (1, .inr (.inr v1)), (2, .inr (.inr v2))], [.inl (nn_rf M95 402 3), .inr (.inr 403)], M95)
          obtain ⟨b106, h⟩ := h
          refine mm_s1 rfl ⟨nn_bd (na_7_0 NN (nn_c402 NN)) b106, ?_⟩
          show mm_Go (mm_run 10) mc_Reader_readIndex _ (107, [(0, .inr (.inr 402)), (1, .inr (.inr v1)), (2, .inr (.inr v2))], [.inl (nn_ri M95 403 (nn_rf M95 402 3))], M95)
          refine mm_s1 rfl ⟨fun c107 => ?_, fun c107 => ?_⟩
          · show mm_Go (mm_run 10) mc_Reader_readIndex _ (118, [(0, .inr (.inr 402)), (1, .inr (.inr v1)), (2, .inr (.inr v2))], [], M95)
            replace h := h.1 c107
            refine mm_s1 rfl ?_
            refine mm_s1 rfl ?_
            show mm_Go (mm_run 10) mc_Reader_readIndex _ (123, [(0, .inr (.inr 402)), (1, .inr (.inr v1)), (2, .inr (.inr v2))], [.inl 1], M95)
            exact mm_s1 rfl ⟨(Or.inr rfl), _, rfl, (Or.inr rfl), L, N, h⟩
          · show mm_Go (mm_run 10) mc_Reader_readIndex _ (110, [(0, .inr (.inr 402)), (1, .inr (.inr v1)), (2, .inr (.inr v2))], [], M95)
            replace h := h.2 c107
            refine mm_s1 rfl ?_
            refine mm_s1 rfl ?_
            refine mm_s1 rfl ⟨(nn_c402 NN).1, ?_⟩
            refine nn_call (D := 1) (by decide) (h n L N) ?_
            intro v M112 q; clear L N h
            obtain ⟨r112, rfl, q112, L, N, h⟩ := q
            show mm_Go (mm_run 10) mc_Reader_readIndex _ (115, [(0, .inr (.inr 402)), (1, .inr (.inr v1)), (2, .inr (.inr v2))], [.inl r112], M112)
            refine mm_s1 rfl ⟨fun c115 => ?_, fun c115 => ?_⟩
            · show mm_Go (mm_run 10) mc_Reader_readIndex _ (122, [(0, .inr (.inr 402)), (1, .inr (.inr v1)), (2, .inr (.inr v2))], [], M112)
              replace h := h.1 c115
              refine mm_s1 rfl ?_
              exact mm_s1 rfl ⟨(Or.inl rfl), _, rfl, (Or.inl rfl), L, N, h⟩
            · show mm_Go (mm_run 10) mc_Reader_readIndex _ (118, [(0, .inr (.inr 402)), (1, .inr (.inr v1)), (2, .inr (.inr v2))], [], M112)
              replace h := h.2 c115
              refine mm_s1 rfl ?_
              refine mm_s1 rfl ?_
              show mm_Go (mm_run 10) mc_Reader_readIndex _ (123, [(0, .inr (.inr 402)), (1, .inr (.inr v1)), (2, .inr (.inr v2))], [.inl 1], M112)
              exact mm_s1 rfl ⟨(Or.inr rfl), _, rfl, (Or.inr rfl), L, N, h⟩
        · show mm_Go (mm_run 10) mc_Reader_readIndex _ (76, [(0, .inr (.inr 402)), (1, .inr (.inr v1)), (2, .inr (.inr v2))], [], M70)
          replace c73 := Decidable.not_not.mp c73
          replace h := h.2 c73
          refine mm_s1 rfl ?_
          exact mm_s1 rfl ⟨(Or.inl rfl), _, rfl, (Or.inl rfl), L, N, h⟩
    · show mm_Go (mm_run 10) mc_Reader_readIndex _ (55, [(0, .inr (.inr 402)), (1, .inr (.inr v1)), (2, .inr (.inr v2))], [], M49)
      replace c52 := Decidable.not_not.mp c52
      replace h := h.2 c52
      refine mm_s1 rfl ?_
      exact mm_s1 rfl ⟨(Or.inl rfl), _, rfl, (Or.inl rfl), L, N, h⟩
  · show mm_Go (mm_run 10) mc_Reader_readIndex _ (37, [(0, .inr (.inr 402)), (1, .inr (.inr v1)), (2, .inr (.inr v2))], [], M31)
    replace c34 := Decidable.not_not.mp c34
    replace h := h.2 c34
    refine mm_s1 rfl ?_
    refine mm_s1 rfl ?_
    refine mm_s1 rfl ⟨(nn_c402 NN).1, ?_⟩
    refine nn_call (D := 1) (by decide) (h n L N) ?_
    intro v M39 q; clear L N h
    obtain ⟨r39, rfl, q39, L, N, h⟩ := q
    show mm_Go (mm_run 10) mc_Reader_readIndex _ (42, [(0, .inr (.inr 402)), (1, .inr (.inr v1)), (2, .inr (.inr v2))], [.inl r39], M39)
    exact mm_s1 rfl ⟨q39, _, rfl, q39, L, N, h⟩
def nr_M_put (v1 : Int) (v2 : Int) (v3 : Int) (v4 : Int) (v5 : Int) (M : mm_M) (R : Int → mm_M → Prop) : Prop := ∀ n, nn_L M → M.1 = n → mm_run 11 mi_M_put [.inr (.inr 407), .inl v1, .inl v2, .inl v3, .inl v4, .inl v5] M (nw_I n R)
set_option maxRecDepth 20000 in
theorem ng_M_put (v1 : Int) (v2 : Int) (v3 : Int) (v4 : Int) (v5 : Int) (M : mm_M) (R : Int → mm_M → Prop) (h : ((((nf_M_isKey v1) = 0 ∨ ((nf_M_areRow v2 v3 v4 v5) = 0)) → R (-1) M) ∧ (((nf_M_isKey v1) ≠ 0 ∧ ((nf_M_areRow v2 v3 v4 v5) ≠ 0)) → (nr_M_puts 0 0 v1 (nf_M_packed v2 v3 v4 v5) M (fun r32 M32 => R r32 M32))))) : nr_M_put v1 v2 v3 v4 v5 M R := by
  intro n L N 
  have NN := nn_L_n L N
  show mm_Go (mm_run 10) mc_M_put _ (0, [(0, .inr (.inr 407)), (1, .inl v1), (2, .inl v2), (3, .inl v3), (4, .inl v4), (5, .inl v5)], [], M)
  refine mm_s1 rfl ?_
  refine mm_s1 rfl ⟨trivial, ?_⟩
  refine np_M_isKey (by decide) L N ?_
  show mm_Go (mm_run 10) mc_M_put _ (4, [(0, .inr (.inr 407)), (1, .inl v1), (2, .inl v2), (3, .inl v3), (4, .inl v4), (5, .inl v5)], [.inl (nf_M_isKey v1)], M)
  refine mm_s1 rfl ⟨fun c4 => ?_, fun c4 => ?_⟩
  · show mm_Go (mm_run 10) mc_M_put _ (38, [(0, .inr (.inr 407)), (1, .inl v1), (2, .inl v2), (3, .inl v3), (4, .inl v4), (5, .inl v5)], [], M)
    refine mm_s1 rfl ?_
    replace h := h.1 (Or.inl c4)
    exact mm_s1 rfl ⟨_, rfl, L, N, h⟩
  · show mm_Go (mm_run 10) mc_M_put _ (7, [(0, .inr (.inr 407)), (1, .inl v1), (2, .inl v2), (3, .inl v3), (4, .inl v4), (5, .inl v5)], [], M)
    refine mm_s1 rfl ?_
    refine mm_s1 rfl ?_
    refine mm_s1 rfl ?_
    refine mm_s1 rfl ?_
    refine mm_s1 rfl ⟨trivial, ?_⟩
    refine np_M_areRow (by decide) L N ?_
    show mm_Go (mm_run 10) mc_M_put _ (16, [(0, .inr (.inr 407)), (1, .inl v1), (2, .inl v2), (3, .inl v3), (4, .inl v4), (5, .inl v5)], [.inl (nf_M_areRow v2 v3 v4 v5)], M)
    refine mm_s1 rfl ⟨fun c16 => ?_, fun c16 => ?_⟩
    · show mm_Go (mm_run 10) mc_M_put _ (38, [(0, .inr (.inr 407)), (1, .inl v1), (2, .inl v2), (3, .inl v3), (4, .inl v4), (5, .inl v5)], [], M)
      refine mm_s1 rfl ?_
      replace h := h.1 (Or.inr c16)
      exact mm_s1 rfl ⟨_, rfl, L, N, h⟩
    · show mm_Go (mm_run 10) mc_M_put _ (19, [(0, .inr (.inr 407)), (1, .inl v1), (2, .inl v2), (3, .inl v3), (4, .inl v4), (5, .inl v5)], [], M)
      refine mm_s1 rfl ?_
      refine mm_s1 rfl ?_
      refine mm_s1 rfl ?_
      refine mm_s1 rfl ?_
      refine mm_s1 rfl ?_
      show mm_Go (mm_run 10) mc_M_put _ (24, [(0, .inr (.inr 407)), (1, .inl v1), (2, .inl v2), (3, .inl v3), (4, .inl v4), (5, .inl v5)], [.inl v2, .inl v1, .inl 0, .inl 0, .inr (.inr 407)], M)
      refine mm_s1 rfl ?_
      refine mm_s1 rfl ?_
      refine mm_s1 rfl ?_
      refine mm_s1 rfl ⟨trivial, ?_⟩
      refine np_M_packed (by decide) L N ?_
      show mm_Go (mm_run 10) mc_M_put _ (32, [(0, .inr (.inr 407)), (1, .inl v1), (2, .inl v2), (3, .inl v3), (4, .inl v4), (5, .inl v5)], [.inl (nf_M_packed v2 v3 v4 v5), .inl v1, .inl 0, .inl 0, .inr (.inr 407)], M)
      replace h := h.2 ⟨c4, c16⟩
      refine mm_s1 rfl ⟨(nn_c407 NN).1, ?_⟩
      refine nn_call (D := 10) (by decide) (h n L N) ?_
      intro v M32 q; clear L N h
      obtain ⟨r32, rfl, L, N, h⟩ := q
      show mm_Go (mm_run 10) mc_M_put _ (35, [(0, .inr (.inr 407)), (1, .inl v1), (2, .inl v2), (3, .inl v3), (4, .inl v4), (5, .inl v5)], [.inl r32], M32)
      refine mm_s1 rfl ?_
      show mm_Go (mm_run 10) mc_M_put _ (39, [(0, .inr (.inr 407)), (1, .inl v1), (2, .inl v2), (3, .inl v3), (4, .inl v4), (5, .inl v5)], [.inl r32], M32)
      exact mm_s1 rfl ⟨_, rfl, L, N, h⟩
def nr_M_changes (v1 : Int) (v2 : Int) (v3 : Int) (v4 : Int) (M : mm_M) (R : Int → mm_M → Prop) : Prop := ∀ n, nn_L M → M.1 = n → mm_run 11 mi_M_changes [.inr (.inr 407), .inl v1, .inl v2, .inl v3, .inl v4] M (nw_I n R)
set_option maxRecDepth 20000 in
theorem ng_M_changes (v1 : Int) (v2 : Int) (v3 : Int) (v4 : Int) (M : mm_M) (R : Int → mm_M → Prop) (h : (nr_M_isThere v1 v2 M (fun r3 M3 => ((r3 ≠ 0 → (nr_M_rowOf v1 v2 M3 (fun r36 M36 => (nr_M_puts v1 1 v2 (mm_w (r36 + (mm_shl (mm_w (v4 - (nf_M_column r36 v3))) (mm_w (4 * v3))))) M36 (fun r61 M61 => R r61 M61))))) ∧ (r3 = 0 → (((0 : Int) ≤ (mm_w (v1 + 6)) ∧ (mm_w (v1 + 6)) < (32844 : Int)) ∧ (((0 : Int) ≤ (mm_w (v1 + 6)) ∧ (mm_w (v1 + 6)) < (32844 : Int)) ∧ (∀ M21 : mm_M, M21 = nn_ui M3 408 (mm_w (v1 + 6)) (mm_w ((nn_ri M3 408 (mm_w (v1 + 6))) + 1)) → (nr_M_whys v1 1 v2 (-1) (-1) M21 (fun M28 => R (-1) M28)))))))))) : nr_M_changes v1 v2 v3 v4 M R := by
  intro n L N 
  have NN := nn_L_n L N
  show mm_Go (mm_run 10) mc_M_changes _ (0, [(0, .inr (.inr 407)), (1, .inl v1), (2, .inl v2), (3, .inl v3), (4, .inl v4)], [], M)
  refine mm_s1 rfl ?_
  refine mm_s1 rfl ?_
  refine mm_s1 rfl ?_
  refine mm_s1 rfl ⟨(nn_c407 NN).1, ?_⟩
  refine nn_call (D := 3) (by decide) (h n L N) ?_
  intro v M3 q; clear L N h
  obtain ⟨r3, rfl, q3, L, N, h⟩ := q
  show mm_Go (mm_run 10) mc_M_changes _ (6, [(0, .inr (.inr 407)), (1, .inl v1), (2, .inl v2), (3, .inl v3), (4, .inl v4)], [.inl r3], M3)
  refine mm_s1 rfl ⟨fun c6 => ?_, fun c6 => ?_⟩
  · show mm_Go (mm_run 10) mc_M_changes _ (33, [(0, .inr (.inr 407)), (1, .inl v1), (2, .inl v2), (3, .inl v3), (4, .inl v4)], [], M3)
    replace h := h.1 c6
    refine mm_s1 rfl ?_
    refine mm_s1 rfl ?_
    refine mm_s1 rfl ?_
    refine mm_s1 rfl ⟨(nn_c407 NN).1, ?_⟩
    refine nn_call (D := 3) (by decide) (h n L N) ?_
    intro v M36 q; clear L N h
    obtain ⟨r36, rfl, L, N, h⟩ := q
    show mm_Go (mm_run 10) mc_M_changes _ (39, [(0, .inr (.inr 407)), (1, .inl v1), (2, .inl v2), (3, .inl v3), (4, .inl v4)], [.inl r36], M36)
    refine mm_s1 rfl ?_
    show mm_Go (mm_run 10) mc_M_changes _ (41, [(0, .inr (.inr 407)), (1, .inl v1), (2, .inl v2), (3, .inl v3), (4, .inl v4), (5, .inl r36)], [], M36)
    refine mm_s1 rfl ?_
    refine mm_s1 rfl ?_
    refine mm_s1 rfl ?_
    refine mm_s1 rfl ?_
    refine mm_s1 rfl ?_
    show mm_Go (mm_run 10) mc_M_changes _ (47, [(0, .inr (.inr 407)), (1, .inl v1), (2, .inl v2), (3, .inl v3), (4, .inl v4), (5, .inl r36)], [.inl r36, .inl v2, .inl 1, .inl v1, .inr (.inr 407)], M36)
    refine mm_s1 rfl ?_
    refine mm_s1 rfl ?_
    refine mm_s1 rfl ?_
    refine mm_s1 rfl ⟨trivial, ?_⟩
    refine np_M_column (by decide) L N ?_
    show mm_Go (mm_run 10) mc_M_changes _ (55, [(0, .inr (.inr 407)), (1, .inl v1), (2, .inl v2), (3, .inl v3), (4, .inl v4), (5, .inl r36)], [.inl (nf_M_column r36 v3), .inl v4, .inl r36, .inl v2, .inl 1, .inl v1, .inr (.inr 407)], M36)
    refine mm_s1 rfl ?_
    refine mm_s1 rfl ?_
    refine mm_s1 rfl ?_
    refine mm_s1 rfl ?_
    refine mm_s1 rfl ?_
    show mm_Go (mm_run 10) mc_M_changes _ (60, [(0, .inr (.inr 407)), (1, .inl v1), (2, .inl v2), (3, .inl v3), (4, .inl v4), (5, .inl r36)], [.inl (mm_shl (mm_w (v4 - (nf_M_column r36 v3))) (mm_w (4 * v3))), .inl r36, .inl v2, .inl 1, .inl v1, .inr (.inr 407)], M36)
    refine mm_s1 rfl ?_
    refine mm_s1 rfl ⟨(nn_c407 NN).1, ?_⟩
    refine nn_call (D := 10) (by decide) (h n L N) ?_
    intro v M61 q; clear L N h
    obtain ⟨r61, rfl, L, N, h⟩ := q
    show mm_Go (mm_run 10) mc_M_changes _ (64, [(0, .inr (.inr 407)), (1, .inl v1), (2, .inl v2), (3, .inl v3), (4, .inl v4), (5, .inl r36)], [.inl r61], M61)
    exact mm_s1 rfl ⟨_, rfl, L, N, h⟩
  · show mm_Go (mm_run 10) mc_M_changes _ (9, [(0, .inr (.inr 407)), (1, .inl v1), (2, .inl v2), (3, .inl v3), (4, .inl v4)], [], M3)
    replace c6 := Decidable.not_not.mp c6
    replace h := h.2 c6
    refine mm_s1 rfl ?_
    refine nn_getr rfl (nn_c407 NN).1 (lf_13_0 L N (nn_c407 NN)) ?_
    refine mm_s1 rfl ?_
    refine mm_s1 rfl ?_
    refine mm_s1 rfl ?_
    show mm_Go (mm_run 10) mc_M_changes _ (17, [(0, .inr (.inr 407)), (1, .inl v1), (2, .inl v2), (3, .inl v3), (4, .inl v4)], [.inl (mm_w (v1 + 6)), .inr (.inr 408)], M3)
    refine mm_s1 rfl ?_
    obtain ⟨b18, h⟩ := h
    refine mm_s1 rfl ⟨nn_bd (na_13_0 NN (nn_c407 NN)) b18, ?_⟩
    show mm_Go (mm_run 10) mc_M_changes _ (19, [(0, .inr (.inr 407)), (1, .inl v1), (2, .inl v2), (3, .inl v3), (4, .inl v4)], [.inl (nn_ri M3 408 (mm_w (v1 + 6))), .inl (mm_w (v1 + 6)), .inr (.inr 408)], M3)
    refine mm_s1 rfl ?_
    refine mm_s1 rfl ?_
    obtain ⟨b21, h⟩ := h
    refine mm_s1 rfl ⟨nn_bd (na_13_0 NN (nn_c407 NN)) b21, ?_⟩
    show mm_Go (mm_run 10) mc_M_changes _ (22, [(0, .inr (.inr 407)), (1, .inl v1), (2, .inl v2), (3, .inl v3), (4, .inl v4)], [], (nn_ui M3 408 (mm_w (v1 + 6)) (mm_w ((nn_ri M3 408 (mm_w (v1 + 6))) + 1))))
    have L : nn_L (nn_ui M3 408 (mm_w (v1 + 6)) (mm_w ((nn_ri M3 408 (mm_w (v1 + 6))) + 1))) := nn_L_ua L (congrArg Prod.fst (na_13_0 NN (nn_c407 NN))) (by decide)
    have N : (nn_ui M3 408 (mm_w (v1 + 6)) (mm_w ((nn_ri M3 408 (mm_w (v1 + 6))) + 1))).1 = n := N
    generalize e_M21 : (nn_ui M3 408 (mm_w (v1 + 6)) (mm_w ((nn_ri M3 408 (mm_w (v1 + 6))) + 1))) = M21 at L N ⊢
    replace h := h _ e_M21.symm
    show mm_Go (mm_run 10) mc_M_changes _ (22, [(0, .inr (.inr 407)), (1, .inl v1), (2, .inl v2), (3, .inl v3), (4, .inl v4)], [], M21)
    refine mm_s1 rfl ?_
    refine mm_s1 rfl ?_
    refine mm_s1 rfl ?_
    refine mm_s1 rfl ?_
    refine mm_s1 rfl ?_
    show mm_Go (mm_run 10) mc_M_changes _ (27, [(0, .inr (.inr 407)), (1, .inl v1), (2, .inl v2), (3, .inl v3), (4, .inl v4)], [.inl (-1), .inl v2, .inl 1, .inl v1, .inr (.inr 407)], M21)
    refine mm_s1 rfl ?_
    refine mm_s1 rfl ⟨(nn_c407 NN).1, ?_⟩
    refine nn_call (D := 1) (by decide) (h n L N) ?_
    intro v M28 q; clear L N h
    obtain ⟨rfl, L, N, h⟩ := q
    show mm_Go (mm_run 10) mc_M_changes _ (31, [(0, .inr (.inr 407)), (1, .inl v1), (2, .inl v2), (3, .inl v3), (4, .inl v4)], [], M28)
    refine mm_s1 rfl ?_
    exact mm_s1 rfl ⟨_, rfl, L, N, h⟩
def nr_M_count (v1 : Int) (M : mm_M) (R : Int → mm_M → Prop) : Prop := ∀ n, nn_L M → M.1 = n → mm_run 11 mi_M_count [.inr (.inr 407), .inl v1] M (nw_I n R)
set_option maxRecDepth 20000 in
theorem ng_M_count (v1 : Int) (M : mm_M) (R : Int → mm_M → Prop) (h : ((v1 ≠ 14 → (nr_M_counts 0 v1 M (fun r19 M19 => R r19 M19))) ∧ (v1 = 14 → R (nn_ri M 408 20) M))) : nr_M_count v1 M R := by
  intro n L N 
  have NN := nn_L_n L N
  show mm_Go (mm_run 10) mc_M_count _ (0, [(0, .inr (.inr 407)), (1, .inl v1)], [], M)
  refine mm_s1 rfl ?_
  refine mm_s1 rfl ?_
  refine mm_s1 rfl ⟨fun c3 => ?_, fun c3 => ?_⟩
  · show mm_Go (mm_run 10) mc_M_count _ (16, [(0, .inr (.inr 407)), (1, .inl v1)], [], M)
    replace h := h.1 c3
    refine mm_s1 rfl ?_
    refine mm_s1 rfl ?_
    refine mm_s1 rfl ?_
    refine mm_s1 rfl ⟨(nn_c407 NN).1, ?_⟩
    refine nn_call (D := 10) (by decide) (h n L N) ?_
    intro v M19 q; clear L N h
    obtain ⟨r19, rfl, L, N, h⟩ := q
    show mm_Go (mm_run 10) mc_M_count _ (22, [(0, .inr (.inr 407)), (1, .inl v1)], [.inl r19], M19)
    exact mm_s1 rfl ⟨_, rfl, L, N, h⟩
  · show mm_Go (mm_run 10) mc_M_count _ (6, [(0, .inr (.inr 407)), (1, .inl v1)], [], M)
    replace c3 := Decidable.not_not.mp c3
    replace h := h.2 c3
    refine mm_s1 rfl ?_
    refine nn_getr rfl (nn_c407 NN).1 (lf_13_0 L N (nn_c407 NN)) ?_
    refine mm_s1 rfl ?_
    refine mm_s1 rfl ⟨nn_bd (na_13_0 NN (nn_c407 NN)) (by decide), ?_⟩
    show mm_Go (mm_run 10) mc_M_count _ (13, [(0, .inr (.inr 407)), (1, .inl v1)], [.inl (nn_ri M 408 20)], M)
    refine mm_s1 rfl ?_
    show mm_Go (mm_run 10) mc_M_count _ (22, [(0, .inr (.inr 407)), (1, .inl v1)], [.inl (nn_ri M 408 20)], M)
    exact mm_s1 rfl ⟨_, rfl, L, N, h⟩
def nr_Store_defined (v0 : Nat) (M : mm_M) (R : Int → mm_M → Prop) : Prop := ∀ n, nn_L M → M.1 = n → nn_C 9 v0 n → mm_run 12 mi_Store_defined [.inr (.inr v0), .inr (.inr 402)] M (nw_I n R)
def nk_Store_defined_2 (v0 : Nat) (v2 : Int) (M : mm_M) (R : Int → mm_M → Prop) : Prop := ∀ n, nn_L M → M.1 = n → nn_C 9 v0 n → mm_Go (mm_run 11) mc_Store_defined (nw_I n R) (2, [(0, .inr (.inr v0)), (1, .inr (.inr 402)), (2, .inl v2)], [], M)
set_option maxRecDepth 20000 in
theorem ng_Store_defined (v0 : Nat) (M : mm_M) (R : Int → mm_M → Prop) (h : nk_Store_defined_2 v0 0 M R) : nr_Store_defined v0 M R := by
  intro n L N C0
  have NN := nn_L_n L N
  show mm_Go (mm_run 11) mc_Store_defined _ (0, [(0, .inr (.inr v0)), (1, .inr (.inr 402))], [], M)
  refine mm_s1 rfl ?_
  refine mm_s1 rfl ?_
  show mm_Go (mm_run 11) mc_Store_defined _ (2, [(0, .inr (.inr v0)), (1, .inr (.inr 402)), (2, .inl 0)], [], M)
  exact nn_go_ext (nn_xc rfl (nn_xc rfl (nn_xc rfl nn_xn))) (h n L N C0)
set_option maxRecDepth 20000 in
theorem ng_Store_defined_2 (v0 : Nat) (v2 : Int) (M : mm_M) (R : Int → mm_M → Prop) (h : (((v2 < 4) → ((0 : Int) ≤ v2 ∧ v2 < (4 : Int))) ∧ ((4 ≤ v2 ∨ ((nn_rf M (v0 + 90 + 15 * (v2).toNat) 5) = 0)) → (∀ M27 : mm_M, M27 = nn_uf M v0 9 0 → (∀ M32 : mm_M, M32 = nn_uf M27 v0 10 (-1) → ((4 ≤ v2 → ((4 ≤ v2 → (∀ M106 : mm_M, M106 = nn_uf M32 (v0 + 1) 1 0 → R (-2) M106)) ∧ (v2 < 4 → (∀ M88 : mm_M, M88 = nn_uf M32 v0 9 (nn_rf M32 402 4) → ((nc_Reader_place M88) ∧ (∀ M96 : mm_M, M96 = nn_uf M88 v0 10 (nf_Reader_place M88) → (∀ M106 : mm_M, M106 = nn_uf M96 (v0 + 1) 1 0 → R (-1) M106))))))) ∧ (v2 < 4 → (((0 : Int) ≤ v2 ∧ v2 < (4 : Int)) ∧ (nr_Reader_readIndex (v0 + 1) (v0 + 90 + 15 * (v2).toNat) M32 (fun r54 M54 => ((r54 = 0 → ((4 ≤ v2 → (∀ M106 : mm_M, M106 = nn_uf M54 (v0 + 1) 1 0 → R (-2) M106)) ∧ (v2 < 4 → (∀ M88 : mm_M, M88 = nn_uf M54 v0 9 (nn_rf M54 402 4) → ((nc_Reader_place M88) ∧ (∀ M96 : mm_M, M96 = nn_uf M88 v0 10 (nf_Reader_place M88) → (∀ M106 : mm_M, M106 = nn_uf M96 (v0 + 1) 1 0 → R (-1) M106))))))) ∧ (r54 ≠ 0 → (((0 : Int) ≤ v2 ∧ v2 < (4 : Int)) ∧ (nr_Index_begin (v0 + 90 + 15 * (v2).toNat) (v0 + 3) M54 (fun M70 => (∀ M106 : mm_M, M106 = nn_uf M70 (v0 + 1) 1 0 → R v2 M106)))))))))))))) ∧ ((v2 < 4 ∧ ((nn_rf M (v0 + 90 + 15 * (v2).toNat) 5) ≠ 0)) → nk_Store_defined_2 v0 (mm_w (v2 + 1)) M R))) : nk_Store_defined_2 v0 v2 M R := by
  intro n L N C0
  have NN := nn_L_n L N
  show mm_Go (mm_run 11) mc_Store_defined _ (2, [(0, .inr (.inr v0)), (1, .inr (.inr 402)), (2, .inl v2)], [], M)
  refine mm_s1 rfl ?_
  refine mm_s1 rfl ?_
  refine mm_s1 rfl ⟨fun c4 => ?_, fun c4 => ?_⟩
  · show mm_Go (mm_run 11) mc_Store_defined _ (25, [(0, .inr (.inr v0)), (1, .inr (.inr 402)), (2, .inl v2)], [], M)
    refine mm_s1 rfl ?_
    refine mm_s1 rfl ?_
    replace h := h.2.1 (Or.inl c4)
    refine mm_s1 rfl ⟨C0.1, ?_⟩
    show mm_Go (mm_run 11) mc_Store_defined _ (30, [(0, .inr (.inr v0)), (1, .inr (.inr 402)), (2, .inl v2)], [], (nn_uf M v0 9 0))
    have L : nn_L (nn_uf M v0 9 0) := nn_L_up L C0.1 rfl
    have N : (nn_uf M v0 9 0).1 = n := N
    generalize e_M27 : (nn_uf M v0 9 0) = M27 at L N ⊢
    replace h := h _ e_M27.symm
    show mm_Go (mm_run 11) mc_Store_defined _ (30, [(0, .inr (.inr v0)), (1, .inr (.inr 402)), (2, .inl v2)], [], M27)
    refine mm_s1 rfl ?_
    refine mm_s1 rfl ?_
    refine mm_s1 rfl ⟨C0.1, ?_⟩
    show mm_Go (mm_run 11) mc_Store_defined _ (35, [(0, .inr (.inr v0)), (1, .inr (.inr 402)), (2, .inl v2)], [], (nn_uf M27 v0 10 (-1)))
    have L : nn_L (nn_uf M27 v0 10 (-1)) := nn_L_up L C0.1 rfl
    have N : (nn_uf M27 v0 10 (-1)).1 = n := N
    generalize e_M32 : (nn_uf M27 v0 10 (-1)) = M32 at L N ⊢
    replace h := h _ e_M32.symm
    show mm_Go (mm_run 11) mc_Store_defined _ (35, [(0, .inr (.inr v0)), (1, .inr (.inr 402)), (2, .inl v2)], [], M32)
    refine mm_s1 rfl ?_
    refine mm_s1 rfl ?_
    show mm_Go (mm_run 11) mc_Store_defined _ (38, [(0, .inr (.inr v0)), (1, .inr (.inr 402)), (2, .inl v2), (3, .inl (-2))], [], M32)
    refine mm_s1 rfl ?_
    refine mm_s1 rfl ?_
    refine mm_s1 rfl ⟨fun c40 => ?_, fun c40 => ?_⟩
    · show mm_Go (mm_run 11) mc_Store_defined _ (78, [(0, .inr (.inr v0)), (1, .inr (.inr 402)), (2, .inl v2), (3, .inl (-2))], [], M32)
      replace h := h.1 c40
      refine mm_s1 rfl ?_
      refine mm_s1 rfl ?_
      refine mm_s1 rfl ⟨fun c80 => ?_, fun c80 => ?_⟩
      · show mm_Go (mm_run 11) mc_Store_defined _ (101, [(0, .inr (.inr v0)), (1, .inr (.inr 402)), (2, .inl v2), (3, .inl (-2))], [], M32)
        replace h := h.1 c80
        refine mm_s1 rfl ?_
        refine nn_getr rfl C0.1 (lf_9_0 L N C0) ?_
        refine mm_s1 rfl ?_
        refine mm_s1 rfl ⟨(nc_9_0 NN C0).1, ?_⟩
        show mm_Go (mm_run 11) mc_Store_defined _ (109, [(0, .inr (.inr v0)), (1, .inr (.inr 402)), (2, .inl v2), (3, .inl (-2))], [], (nn_uf M32 (v0 + 1) 1 0))
        have L : nn_L (nn_uf M32 (v0 + 1) 1 0) := nn_L_up L (nc_9_0 NN C0).1 rfl
        have N : (nn_uf M32 (v0 + 1) 1 0).1 = n := N
        generalize e_M106 : (nn_uf M32 (v0 + 1) 1 0) = M106 at L N ⊢
        replace h := h _ e_M106.symm
        show mm_Go (mm_run 11) mc_Store_defined _ (109, [(0, .inr (.inr v0)), (1, .inr (.inr 402)), (2, .inl v2), (3, .inl (-2))], [], M106)
        refine mm_s1 rfl ?_
        exact mm_s1 rfl ⟨_, rfl, L, N, h⟩
      · show mm_Go (mm_run 11) mc_Store_defined _ (83, [(0, .inr (.inr v0)), (1, .inr (.inr 402)), (2, .inl v2), (3, .inl (-2))], [], M32)
        replace c80 := Int.not_le.mp c80
        replace h := h.2 c80
        refine mm_s1 rfl ?_
        refine mm_s1 rfl ?_
        refine mm_s1 rfl ⟨(nn_c402 NN).1, ?_⟩
        show mm_Go (mm_run 11) mc_Store_defined _ (88, [(0, .inr (.inr v0)), (1, .inr (.inr 402)), (2, .inl v2), (3, .inl (-2))], [.inl (nn_rf M32 402 4), .inr (.inr v0)], M32)
        refine mm_s1 rfl ⟨C0.1, ?_⟩
        show mm_Go (mm_run 11) mc_Store_defined _ (91, [(0, .inr (.inr v0)), (1, .inr (.inr 402)), (2, .inl v2), (3, .inl (-2))], [], (nn_uf M32 v0 9 (nn_rf M32 402 4)))
        have L : nn_L (nn_uf M32 v0 9 (nn_rf M32 402 4)) := nn_L_up L C0.1 rfl
        have N : (nn_uf M32 v0 9 (nn_rf M32 402 4)).1 = n := N
        generalize e_M88 : (nn_uf M32 v0 9 (nn_rf M32 402 4)) = M88 at L N ⊢
        replace h := h _ e_M88.symm
        show mm_Go (mm_run 11) mc_Store_defined _ (91, [(0, .inr (.inr v0)), (1, .inr (.inr 402)), (2, .inl v2), (3, .inl (-2))], [], M88)
        refine mm_s1 rfl ?_
        refine mm_s1 rfl ?_
        obtain ⟨b93, h⟩ := h
        refine mm_s1 rfl ⟨(nn_c402 NN).1, ?_⟩
        refine np_Reader_place (by decide) L N b93 ?_
        show mm_Go (mm_run 11) mc_Store_defined _ (96, [(0, .inr (.inr v0)), (1, .inr (.inr 402)), (2, .inl v2), (3, .inl (-2))], [.inl (nf_Reader_place M88), .inr (.inr v0)], M88)
        refine mm_s1 rfl ⟨C0.1, ?_⟩
        show mm_Go (mm_run 11) mc_Store_defined _ (99, [(0, .inr (.inr v0)), (1, .inr (.inr 402)), (2, .inl v2), (3, .inl (-2))], [], (nn_uf M88 v0 10 (nf_Reader_place M88)))
        have L : nn_L (nn_uf M88 v0 10 (nf_Reader_place M88)) := nn_L_up L C0.1 rfl
        have N : (nn_uf M88 v0 10 (nf_Reader_place M88)).1 = n := N
        generalize e_M96 : (nn_uf M88 v0 10 (nf_Reader_place M88)) = M96 at L N ⊢
        replace h := h _ e_M96.symm
        show mm_Go (mm_run 11) mc_Store_defined _ (99, [(0, .inr (.inr v0)), (1, .inr (.inr 402)), (2, .inl v2), (3, .inl (-2))], [], M96)
        refine mm_s1 rfl ?_
        refine mm_s1 rfl ?_
        show mm_Go (mm_run 11) mc_Store_defined _ (101, [(0, .inr (.inr v0)), (1, .inr (.inr 402)), (2, .inl v2), (3, .inl (-1))], [], M96)
        refine mm_s1 rfl ?_
        refine nn_getr rfl C0.1 (lf_9_0 L N C0) ?_
        refine mm_s1 rfl ?_
        refine mm_s1 rfl ⟨(nc_9_0 NN C0).1, ?_⟩
        show mm_Go (mm_run 11) mc_Store_defined _ (109, [(0, .inr (.inr v0)), (1, .inr (.inr 402)), (2, .inl v2), (3, .inl (-1))], [], (nn_uf M96 (v0 + 1) 1 0))
        have L : nn_L (nn_uf M96 (v0 + 1) 1 0) := nn_L_up L (nc_9_0 NN C0).1 rfl
        have N : (nn_uf M96 (v0 + 1) 1 0).1 = n := N
        generalize e_M106 : (nn_uf M96 (v0 + 1) 1 0) = M106 at L N ⊢
        replace h := h _ e_M106.symm
        show mm_Go (mm_run 11) mc_Store_defined _ (109, [(0, .inr (.inr v0)), (1, .inr (.inr 402)), (2, .inl v2), (3, .inl (-1))], [], M106)
        refine mm_s1 rfl ?_
        exact mm_s1 rfl ⟨_, rfl, L, N, h⟩
    · show mm_Go (mm_run 11) mc_Store_defined _ (43, [(0, .inr (.inr v0)), (1, .inr (.inr 402)), (2, .inl v2), (3, .inl (-2))], [], M32)
      replace c40 := Int.not_le.mp c40
      replace h := h.2 c40
      refine mm_s1 rfl ?_
      refine mm_s1 rfl ?_
      refine nn_getr rfl C0.1 (lf_9_0 L N C0) ?_
      refine mm_s1 rfl ?_
      refine nn_getr rfl C0.1 (lf_9_2 L N C0) ?_
      show mm_Go (mm_run 11) mc_Store_defined _ (52, [(0, .inr (.inr v0)), (1, .inr (.inr 402)), (2, .inl v2), (3, .inl (-2))], [.inr (.inr (v0 + 85)), .inr (.inr (v0 + 1)), .inr (.inr 402)], M32)
      refine mm_s1 rfl ?_
      obtain ⟨b53, h⟩ := h
      have C53 : nn_C 5 (v0 + 90 + 15 * (v2).toNat) n := (nn_arr NN (nc_9_2 NN C0).2).1 (nc_9_2 NN C0).1 _ (nn_tn b53 (by decide))
      refine nn_aald rfl (nn_bd30 (na_9_2 NN C0) (by decide) b53) (nn_l35 L N (nc_9_2 NN C0) b53) ?_
      show mm_Go (mm_run 11) mc_Store_defined _ (54, [(0, .inr (.inr v0)), (1, .inr (.inr 402)), (2, .inl v2), (3, .inl (-2))], [.inr (.inr (v0 + 90 + 15 * (v2).toNat)), .inr (.inr (v0 + 1)), .inr (.inr 402)], M32)
      refine mm_s1 rfl ⟨(nn_c402 NN).1, ?_⟩
      refine nn_call (D := 11) (by decide) (h n L N (nc_9_0 NN C0) C53) ?_
      intro v M54 q; clear L N h
      obtain ⟨r54, rfl, q54, L, N, h⟩ := q
      show mm_Go (mm_run 11) mc_Store_defined _ (57, [(0, .inr (.inr v0)), (1, .inr (.inr 402)), (2, .inl v2), (3, .inl (-2))], [.inl r54], M54)
      refine mm_s1 rfl ⟨fun c57 => ?_, fun c57 => ?_⟩
      · show mm_Go (mm_run 11) mc_Store_defined _ (78, [(0, .inr (.inr v0)), (1, .inr (.inr 402)), (2, .inl v2), (3, .inl (-2))], [], M54)
        replace h := h.1 c57
        refine mm_s1 rfl ?_
        refine mm_s1 rfl ?_
        refine mm_s1 rfl ⟨fun c80 => ?_, fun c80 => ?_⟩
        · show mm_Go (mm_run 11) mc_Store_defined _ (101, [(0, .inr (.inr v0)), (1, .inr (.inr 402)), (2, .inl v2), (3, .inl (-2))], [], M54)
          replace h := h.1 c80
          refine mm_s1 rfl ?_
          refine nn_getr rfl C0.1 (lf_9_0 L N C0) ?_
          refine mm_s1 rfl ?_
          refine mm_s1 rfl ⟨(nc_9_0 NN C0).1, ?_⟩
          show mm_Go (mm_run 11) mc_Store_defined _ (109, [(0, .inr (.inr v0)), (1, .inr (.inr 402)), (2, .inl v2), (3, .inl (-2))], [], (nn_uf M54 (v0 + 1) 1 0))
          have L : nn_L (nn_uf M54 (v0 + 1) 1 0) := nn_L_up L (nc_9_0 NN C0).1 rfl
          have N : (nn_uf M54 (v0 + 1) 1 0).1 = n := N
          generalize e_M106 : (nn_uf M54 (v0 + 1) 1 0) = M106 at L N ⊢
          replace h := h _ e_M106.symm
          show mm_Go (mm_run 11) mc_Store_defined _ (109, [(0, .inr (.inr v0)), (1, .inr (.inr 402)), (2, .inl v2), (3, .inl (-2))], [], M106)
          refine mm_s1 rfl ?_
          exact mm_s1 rfl ⟨_, rfl, L, N, h⟩
        · show mm_Go (mm_run 11) mc_Store_defined _ (83, [(0, .inr (.inr v0)), (1, .inr (.inr 402)), (2, .inl v2), (3, .inl (-2))], [], M54)
          replace c80 := Int.not_le.mp c80
          replace h := h.2 c80
          refine mm_s1 rfl ?_
          refine mm_s1 rfl ?_
          refine mm_s1 rfl ⟨(nn_c402 NN).1, ?_⟩
          show mm_Go (mm_run 11) mc_Store_defined _ (88, [(0, .inr (.inr v0)), (1, .inr (.inr 402)), (2, .inl v2), (3, .inl (-2))], [.inl (nn_rf M54 402 4), .inr (.inr v0)], M54)
          refine mm_s1 rfl ⟨C0.1, ?_⟩
          show mm_Go (mm_run 11) mc_Store_defined _ (91, [(0, .inr (.inr v0)), (1, .inr (.inr 402)), (2, .inl v2), (3, .inl (-2))], [], (nn_uf M54 v0 9 (nn_rf M54 402 4)))
          have L : nn_L (nn_uf M54 v0 9 (nn_rf M54 402 4)) := nn_L_up L C0.1 rfl
          have N : (nn_uf M54 v0 9 (nn_rf M54 402 4)).1 = n := N
          generalize e_M88 : (nn_uf M54 v0 9 (nn_rf M54 402 4)) = M88 at L N ⊢
          replace h := h _ e_M88.symm
          show mm_Go (mm_run 11) mc_Store_defined _ (91, [(0, .inr (.inr v0)), (1, .inr (.inr 402)), (2, .inl v2), (3, .inl (-2))], [], M88)
          refine mm_s1 rfl ?_
          refine mm_s1 rfl ?_
          obtain ⟨b93, h⟩ := h
          refine mm_s1 rfl ⟨(nn_c402 NN).1, ?_⟩
          refine np_Reader_place (by decide) L N b93 ?_
          show mm_Go (mm_run 11) mc_Store_defined _ (96, [(0, .inr (.inr v0)), (1, .inr (.inr 402)), (2, .inl v2), (3, .inl (-2))], [.inl (nf_Reader_place M88), .inr (.inr v0)], M88)
          refine mm_s1 rfl ⟨C0.1, ?_⟩
          show mm_Go (mm_run 11) mc_Store_defined _ (99, [(0, .inr (.inr v0)), (1, .inr (.inr 402)), (2, .inl v2), (3, .inl (-2))], [], (nn_uf M88 v0 10 (nf_Reader_place M88)))
          have L : nn_L (nn_uf M88 v0 10 (nf_Reader_place M88)) := nn_L_up L C0.1 rfl
          have N : (nn_uf M88 v0 10 (nf_Reader_place M88)).1 = n := N
          generalize e_M96 : (nn_uf M88 v0 10 (nf_Reader_place M88)) = M96 at L N ⊢
          replace h := h _ e_M96.symm
          show mm_Go (mm_run 11) mc_Store_defined _ (99, [(0, .inr (.inr v0)), (1, .inr (.inr 402)), (2, .inl v2), (3, .inl (-2))], [], M96)
          refine mm_s1 rfl ?_
          refine mm_s1 rfl ?_
          show mm_Go (mm_run 11) mc_Store_defined _ (101, [(0, .inr (.inr v0)), (1, .inr (.inr 402)), (2, .inl v2), (3, .inl (-1))], [], M96)
          refine mm_s1 rfl ?_
          refine nn_getr rfl C0.1 (lf_9_0 L N C0) ?_
          refine mm_s1 rfl ?_
          refine mm_s1 rfl ⟨(nc_9_0 NN C0).1, ?_⟩
          show mm_Go (mm_run 11) mc_Store_defined _ (109, [(0, .inr (.inr v0)), (1, .inr (.inr 402)), (2, .inl v2), (3, .inl (-1))], [], (nn_uf M96 (v0 + 1) 1 0))
          have L : nn_L (nn_uf M96 (v0 + 1) 1 0) := nn_L_up L (nc_9_0 NN C0).1 rfl
          have N : (nn_uf M96 (v0 + 1) 1 0).1 = n := N
          generalize e_M106 : (nn_uf M96 (v0 + 1) 1 0) = M106 at L N ⊢
          replace h := h _ e_M106.symm
          show mm_Go (mm_run 11) mc_Store_defined _ (109, [(0, .inr (.inr v0)), (1, .inr (.inr 402)), (2, .inl v2), (3, .inl (-1))], [], M106)
          refine mm_s1 rfl ?_
          exact mm_s1 rfl ⟨_, rfl, L, N, h⟩
      · show mm_Go (mm_run 11) mc_Store_defined _ (60, [(0, .inr (.inr v0)), (1, .inr (.inr 402)), (2, .inl v2), (3, .inl (-2))], [], M54)
        replace h := h.2 c57
        refine mm_s1 rfl ?_
        refine nn_getr rfl C0.1 (lf_9_2 L N C0) ?_
        refine mm_s1 rfl ?_
        obtain ⟨b65, h⟩ := h
        have C65 : nn_C 5 (v0 + 90 + 15 * (v2).toNat) n := (nn_arr NN (nc_9_2 NN C0).2).1 (nc_9_2 NN C0).1 _ (nn_tn b65 (by decide))
        refine nn_aald rfl (nn_bd30 (na_9_2 NN C0) (by decide) b65) (nn_l35 L N (nc_9_2 NN C0) b65) ?_
        show mm_Go (mm_run 11) mc_Store_defined _ (66, [(0, .inr (.inr v0)), (1, .inr (.inr 402)), (2, .inl v2), (3, .inl (-2))], [.inr (.inr (v0 + 90 + 15 * (v2).toNat))], M54)
        refine mm_s1 rfl ?_
        refine nn_getr rfl C0.1 (lf_9_1 L N C0) ?_
        refine mm_s1 rfl ⟨C65.1, ?_⟩
        refine nn_call (D := 4) (by decide) (h n L N C65 (nc_9_1 NN C0)) ?_
        intro v M70 q; clear L N h
        obtain ⟨rfl, L, N, h⟩ := q
        show mm_Go (mm_run 11) mc_Store_defined _ (73, [(0, .inr (.inr v0)), (1, .inr (.inr 402)), (2, .inl v2), (3, .inl (-2))], [], M70)
        refine mm_s1 rfl ?_
        refine mm_s1 rfl ?_
        show mm_Go (mm_run 11) mc_Store_defined _ (75, [(0, .inr (.inr v0)), (1, .inr (.inr 402)), (2, .inl v2), (3, .inl v2)], [], M70)
        refine mm_s1 rfl ?_
        show mm_Go (mm_run 11) mc_Store_defined _ (101, [(0, .inr (.inr v0)), (1, .inr (.inr 402)), (2, .inl v2), (3, .inl v2)], [], M70)
        refine mm_s1 rfl ?_
        refine nn_getr rfl C0.1 (lf_9_0 L N C0) ?_
        refine mm_s1 rfl ?_
        refine mm_s1 rfl ⟨(nc_9_0 NN C0).1, ?_⟩
        show mm_Go (mm_run 11) mc_Store_defined _ (109, [(0, .inr (.inr v0)), (1, .inr (.inr 402)), (2, .inl v2), (3, .inl v2)], [], (nn_uf M70 (v0 + 1) 1 0))
        have L : nn_L (nn_uf M70 (v0 + 1) 1 0) := nn_L_up L (nc_9_0 NN C0).1 rfl
        have N : (nn_uf M70 (v0 + 1) 1 0).1 = n := N
        generalize e_M106 : (nn_uf M70 (v0 + 1) 1 0) = M106 at L N ⊢
        replace h := h _ e_M106.symm
        show mm_Go (mm_run 11) mc_Store_defined _ (109, [(0, .inr (.inr v0)), (1, .inr (.inr 402)), (2, .inl v2), (3, .inl v2)], [], M106)
        refine mm_s1 rfl ?_
        exact mm_s1 rfl ⟨_, rfl, L, N, h⟩
  · show mm_Go (mm_run 11) mc_Store_defined _ (7, [(0, .inr (.inr v0)), (1, .inr (.inr 402)), (2, .inl v2)], [], M)
    replace c4 := Int.not_le.mp c4
    refine mm_s1 rfl ?_
    refine nn_getr rfl C0.1 (lf_9_2 L N C0) ?_
    refine mm_s1 rfl ?_
    have b12 := h.1 c4
    have C12 : nn_C 5 (v0 + 90 + 15 * (v2).toNat) n := (nn_arr NN (nc_9_2 NN C0).2).1 (nc_9_2 NN C0).1 _ (nn_tn b12 (by decide))
    refine nn_aald rfl (nn_bd30 (na_9_2 NN C0) (by decide) b12) (nn_l35 L N (nc_9_2 NN C0) b12) ?_
    show mm_Go (mm_run 11) mc_Store_defined _ (13, [(0, .inr (.inr v0)), (1, .inr (.inr 402)), (2, .inl v2)], [.inr (.inr (v0 + 90 + 15 * (v2).toNat))], M)
    refine mm_s1 rfl ⟨C12.1, ?_⟩
    show mm_Go (mm_run 11) mc_Store_defined _ (16, [(0, .inr (.inr v0)), (1, .inr (.inr 402)), (2, .inl v2)], [.inl (nn_rf M (v0 + 90 + 15 * (v2).toNat) 5)], M)
    refine mm_s1 rfl ⟨fun c16 => ?_, fun c16 => ?_⟩
    · show mm_Go (mm_run 11) mc_Store_defined _ (25, [(0, .inr (.inr v0)), (1, .inr (.inr 402)), (2, .inl v2)], [], M)
      refine mm_s1 rfl ?_
      refine mm_s1 rfl ?_
      replace h := h.2.1 (Or.inr c16)
      refine mm_s1 rfl ⟨C0.1, ?_⟩
      show mm_Go (mm_run 11) mc_Store_defined _ (30, [(0, .inr (.inr v0)), (1, .inr (.inr 402)), (2, .inl v2)], [], (nn_uf M v0 9 0))
      have L : nn_L (nn_uf M v0 9 0) := nn_L_up L C0.1 rfl
      have N : (nn_uf M v0 9 0).1 = n := N
      generalize e_M27 : (nn_uf M v0 9 0) = M27 at L N ⊢
      replace h := h _ e_M27.symm
      show mm_Go (mm_run 11) mc_Store_defined _ (30, [(0, .inr (.inr v0)), (1, .inr (.inr 402)), (2, .inl v2)], [], M27)
      refine mm_s1 rfl ?_
      refine mm_s1 rfl ?_
      refine mm_s1 rfl ⟨C0.1, ?_⟩
      show mm_Go (mm_run 11) mc_Store_defined _ (35, [(0, .inr (.inr v0)), (1, .inr (.inr 402)), (2, .inl v2)], [], (nn_uf M27 v0 10 (-1)))
      have L : nn_L (nn_uf M27 v0 10 (-1)) := nn_L_up L C0.1 rfl
      have N : (nn_uf M27 v0 10 (-1)).1 = n := N
      generalize e_M32 : (nn_uf M27 v0 10 (-1)) = M32 at L N ⊢
      replace h := h _ e_M32.symm
      show mm_Go (mm_run 11) mc_Store_defined _ (35, [(0, .inr (.inr v0)), (1, .inr (.inr 402)), (2, .inl v2)], [], M32)
      refine mm_s1 rfl ?_
      refine mm_s1 rfl ?_
      show mm_Go (mm_run 11) mc_Store_defined _ (38, [(0, .inr (.inr v0)), (1, .inr (.inr 402)), (2, .inl v2), (3, .inl (-2))], [], M32)
      refine mm_s1 rfl ?_
      refine mm_s1 rfl ?_
      refine mm_s1 rfl ⟨fun c40 => ?_, fun c40 => ?_⟩
      · show mm_Go (mm_run 11) mc_Store_defined _ (78, [(0, .inr (.inr v0)), (1, .inr (.inr 402)), (2, .inl v2), (3, .inl (-2))], [], M32)
        replace h := h.1 c40
        refine mm_s1 rfl ?_
        refine mm_s1 rfl ?_
        refine mm_s1 rfl ⟨fun c80 => ?_, fun c80 => ?_⟩
        · show mm_Go (mm_run 11) mc_Store_defined _ (101, [(0, .inr (.inr v0)), (1, .inr (.inr 402)), (2, .inl v2), (3, .inl (-2))], [], M32)
          replace h := h.1 c80
          refine mm_s1 rfl ?_
          refine nn_getr rfl C0.1 (lf_9_0 L N C0) ?_
          refine mm_s1 rfl ?_
          refine mm_s1 rfl ⟨(nc_9_0 NN C0).1, ?_⟩
          show mm_Go (mm_run 11) mc_Store_defined _ (109, [(0, .inr (.inr v0)), (1, .inr (.inr 402)), (2, .inl v2), (3, .inl (-2))], [], (nn_uf M32 (v0 + 1) 1 0))
          have L : nn_L (nn_uf M32 (v0 + 1) 1 0) := nn_L_up L (nc_9_0 NN C0).1 rfl
          have N : (nn_uf M32 (v0 + 1) 1 0).1 = n := N
          generalize e_M106 : (nn_uf M32 (v0 + 1) 1 0) = M106 at L N ⊢
          replace h := h _ e_M106.symm
          show mm_Go (mm_run 11) mc_Store_defined _ (109, [(0, .inr (.inr v0)), (1, .inr (.inr 402)), (2, .inl v2), (3, .inl (-2))], [], M106)
          refine mm_s1 rfl ?_
          exact mm_s1 rfl ⟨_, rfl, L, N, h⟩
        · show mm_Go (mm_run 11) mc_Store_defined _ (83, [(0, .inr (.inr v0)), (1, .inr (.inr 402)), (2, .inl v2), (3, .inl (-2))], [], M32)
          replace c80 := Int.not_le.mp c80
          replace h := h.2 c80
          refine mm_s1 rfl ?_
          refine mm_s1 rfl ?_
          refine mm_s1 rfl ⟨(nn_c402 NN).1, ?_⟩
          show mm_Go (mm_run 11) mc_Store_defined _ (88, [(0, .inr (.inr v0)), (1, .inr (.inr 402)), (2, .inl v2), (3, .inl (-2))], [.inl (nn_rf M32 402 4), .inr (.inr v0)], M32)
          refine mm_s1 rfl ⟨C0.1, ?_⟩
          show mm_Go (mm_run 11) mc_Store_defined _ (91, [(0, .inr (.inr v0)), (1, .inr (.inr 402)), (2, .inl v2), (3, .inl (-2))], [], (nn_uf M32 v0 9 (nn_rf M32 402 4)))
          have L : nn_L (nn_uf M32 v0 9 (nn_rf M32 402 4)) := nn_L_up L C0.1 rfl
          have N : (nn_uf M32 v0 9 (nn_rf M32 402 4)).1 = n := N
          generalize e_M88 : (nn_uf M32 v0 9 (nn_rf M32 402 4)) = M88 at L N ⊢
          replace h := h _ e_M88.symm
          show mm_Go (mm_run 11) mc_Store_defined _ (91, [(0, .inr (.inr v0)), (1, .inr (.inr 402)), (2, .inl v2), (3, .inl (-2))], [], M88)
          refine mm_s1 rfl ?_
          refine mm_s1 rfl ?_
          obtain ⟨b93, h⟩ := h
          refine mm_s1 rfl ⟨(nn_c402 NN).1, ?_⟩
          refine np_Reader_place (by decide) L N b93 ?_
          show mm_Go (mm_run 11) mc_Store_defined _ (96, [(0, .inr (.inr v0)), (1, .inr (.inr 402)), (2, .inl v2), (3, .inl (-2))], [.inl (nf_Reader_place M88), .inr (.inr v0)], M88)
          refine mm_s1 rfl ⟨C0.1, ?_⟩
          show mm_Go (mm_run 11) mc_Store_defined _ (99, [(0, .inr (.inr v0)), (1, .inr (.inr 402)), (2, .inl v2), (3, .inl (-2))], [], (nn_uf M88 v0 10 (nf_Reader_place M88)))
          have L : nn_L (nn_uf M88 v0 10 (nf_Reader_place M88)) := nn_L_up L C0.1 rfl
          have N : (nn_uf M88 v0 10 (nf_Reader_place M88)).1 = n := N
          generalize e_M96 : (nn_uf M88 v0 10 (nf_Reader_place M88)) = M96 at L N ⊢
          replace h := h _ e_M96.symm
          show mm_Go (mm_run 11) mc_Store_defined _ (99, [(0, .inr (.inr v0)), (1, .inr (.inr 402)), (2, .inl v2), (3, .inl (-2))], [], M96)
          refine mm_s1 rfl ?_
          refine mm_s1 rfl ?_
          show mm_Go (mm_run 11) mc_Store_defined _ (101, [(0, .inr (.inr v0)), (1, .inr (.inr 402)), (2, .inl v2), (3, .inl (-1))], [], M96)
          refine mm_s1 rfl ?_
          refine nn_getr rfl C0.1 (lf_9_0 L N C0) ?_
          refine mm_s1 rfl ?_
          refine mm_s1 rfl ⟨(nc_9_0 NN C0).1, ?_⟩
          show mm_Go (mm_run 11) mc_Store_defined _ (109, [(0, .inr (.inr v0)), (1, .inr (.inr 402)), (2, .inl v2), (3, .inl (-1))], [], (nn_uf M96 (v0 + 1) 1 0))
          have L : nn_L (nn_uf M96 (v0 + 1) 1 0) := nn_L_up L (nc_9_0 NN C0).1 rfl
          have N : (nn_uf M96 (v0 + 1) 1 0).1 = n := N
          generalize e_M106 : (nn_uf M96 (v0 + 1) 1 0) = M106 at L N ⊢
          replace h := h _ e_M106.symm
          show mm_Go (mm_run 11) mc_Store_defined _ (109, [(0, .inr (.inr v0)), (1, .inr (.inr 402)), (2, .inl v2), (3, .inl (-1))], [], M106)
          refine mm_s1 rfl ?_
          exact mm_s1 rfl ⟨_, rfl, L, N, h⟩
      · show mm_Go (mm_run 11) mc_Store_defined _ (43, [(0, .inr (.inr v0)), (1, .inr (.inr 402)), (2, .inl v2), (3, .inl (-2))], [], M32)
        replace c40 := Int.not_le.mp c40
        replace h := h.2 c40
        refine mm_s1 rfl ?_
        refine mm_s1 rfl ?_
        refine nn_getr rfl C0.1 (lf_9_0 L N C0) ?_
        refine mm_s1 rfl ?_
        refine nn_getr rfl C0.1 (lf_9_2 L N C0) ?_
        show mm_Go (mm_run 11) mc_Store_defined _ (52, [(0, .inr (.inr v0)), (1, .inr (.inr 402)), (2, .inl v2), (3, .inl (-2))], [.inr (.inr (v0 + 85)), .inr (.inr (v0 + 1)), .inr (.inr 402)], M32)
        refine mm_s1 rfl ?_
        obtain ⟨b53, h⟩ := h
        have C53 : nn_C 5 (v0 + 90 + 15 * (v2).toNat) n := (nn_arr NN (nc_9_2 NN C0).2).1 (nc_9_2 NN C0).1 _ (nn_tn b53 (by decide))
        refine nn_aald rfl (nn_bd30 (na_9_2 NN C0) (by decide) b53) (nn_l35 L N (nc_9_2 NN C0) b53) ?_
        show mm_Go (mm_run 11) mc_Store_defined _ (54, [(0, .inr (.inr v0)), (1, .inr (.inr 402)), (2, .inl v2), (3, .inl (-2))], [.inr (.inr (v0 + 90 + 15 * (v2).toNat)), .inr (.inr (v0 + 1)), .inr (.inr 402)], M32)
        refine mm_s1 rfl ⟨(nn_c402 NN).1, ?_⟩
        refine nn_call (D := 11) (by decide) (h n L N (nc_9_0 NN C0) C53) ?_
        intro v M54 q; clear L N h
        obtain ⟨r54, rfl, q54, L, N, h⟩ := q
        show mm_Go (mm_run 11) mc_Store_defined _ (57, [(0, .inr (.inr v0)), (1, .inr (.inr 402)), (2, .inl v2), (3, .inl (-2))], [.inl r54], M54)
        refine mm_s1 rfl ⟨fun c57 => ?_, fun c57 => ?_⟩
        · show mm_Go (mm_run 11) mc_Store_defined _ (78, [(0, .inr (.inr v0)), (1, .inr (.inr 402)), (2, .inl v2), (3, .inl (-2))], [], M54)
          replace h := h.1 c57
          refine mm_s1 rfl ?_
          refine mm_s1 rfl ?_
          refine mm_s1 rfl ⟨fun c80 => ?_, fun c80 => ?_⟩
          · show mm_Go (mm_run 11) mc_Store_defined _ (101, [(0, .inr (.inr v0)), (1, .inr (.inr 402)), (2, .inl v2), (3, .inl (-2))], [], M54)
            replace h := h.1 c80
            refine mm_s1 rfl ?_
            refine nn_getr rfl C0.1 (lf_9_0 L N C0) ?_
            refine mm_s1 rfl ?_
            refine mm_s1 rfl ⟨(nc_9_0 NN C0).1, ?_⟩
            show mm_Go (mm_run 11) mc_Store_defined _ (109, [(0, .inr (.inr v0)), (1, .inr (.inr 402)), (2, .inl v2), (3, .inl (-2))], [], (nn_uf M54 (v0 + 1) 1 0))
            have L : nn_L (nn_uf M54 (v0 + 1) 1 0) := nn_L_up L (nc_9_0 NN C0).1 rfl
            have N : (nn_uf M54 (v0 + 1) 1 0).1 = n := N
            generalize e_M106 : (nn_uf M54 (v0 + 1) 1 0) = M106 at L N ⊢
            replace h := h _ e_M106.symm
            show mm_Go (mm_run 11) mc_Store_defined _ (109, [(0, .inr (.inr v0)), (1, .inr (.inr 402)), (2, .inl v2), (3, .inl (-2))], [], M106)
            refine mm_s1 rfl ?_
            exact mm_s1 rfl ⟨_, rfl, L, N, h⟩
          · show mm_Go (mm_run 11) mc_Store_defined _ (83, [(0, .inr (.inr v0)), (1, .inr (.inr 402)), (2, .inl v2), (3, .inl (-2))], [], M54)
            replace c80 := Int.not_le.mp c80
            replace h := h.2 c80
            refine mm_s1 rfl ?_
            refine mm_s1 rfl ?_
            refine mm_s1 rfl ⟨(nn_c402 NN).1, ?_⟩
            show mm_Go (mm_run 11) mc_Store_defined _ (88, [(0, .inr (.inr v0)), (1, .inr (.inr 402)), (2, .inl v2), (3, .inl (-2))], [.inl (nn_rf M54 402 4), .inr (.inr v0)], M54)
            refine mm_s1 rfl ⟨C0.1, ?_⟩
            show mm_Go (mm_run 11) mc_Store_defined _ (91, [(0, .inr (.inr v0)), (1, .inr (.inr 402)), (2, .inl v2), (3, .inl (-2))], [], (nn_uf M54 v0 9 (nn_rf M54 402 4)))
            have L : nn_L (nn_uf M54 v0 9 (nn_rf M54 402 4)) := nn_L_up L C0.1 rfl
            have N : (nn_uf M54 v0 9 (nn_rf M54 402 4)).1 = n := N
            generalize e_M88 : (nn_uf M54 v0 9 (nn_rf M54 402 4)) = M88 at L N ⊢
            replace h := h _ e_M88.symm
            show mm_Go (mm_run 11) mc_Store_defined _ (91, [(0, .inr (.inr v0)), (1, .inr (.inr 402)), (2, .inl v2), (3, .inl (-2))], [], M88)
            refine mm_s1 rfl ?_
            refine mm_s1 rfl ?_
            obtain ⟨b93, h⟩ := h
            refine mm_s1 rfl ⟨(nn_c402 NN).1, ?_⟩
            refine np_Reader_place (by decide) L N b93 ?_
            show mm_Go (mm_run 11) mc_Store_defined _ (96, [(0, .inr (.inr v0)), (1, .inr (.inr 402)), (2, .inl v2), (3, .inl (-2))], [.inl (nf_Reader_place M88), .inr (.inr v0)], M88)
            refine mm_s1 rfl ⟨C0.1, ?_⟩
            show mm_Go (mm_run 11) mc_Store_defined _ (99, [(0, .inr (.inr v0)), (1, .inr (.inr 402)), (2, .inl v2), (3, .inl (-2))], [], (nn_uf M88 v0 10 (nf_Reader_place M88)))
            have L : nn_L (nn_uf M88 v0 10 (nf_Reader_place M88)) := nn_L_up L C0.1 rfl
            have N : (nn_uf M88 v0 10 (nf_Reader_place M88)).1 = n := N
            generalize e_M96 : (nn_uf M88 v0 10 (nf_Reader_place M88)) = M96 at L N ⊢
            replace h := h _ e_M96.symm
            show mm_Go (mm_run 11) mc_Store_defined _ (99, [(0, .inr (.inr v0)), (1, .inr (.inr 402)), (2, .inl v2), (3, .inl (-2))], [], M96)
            refine mm_s1 rfl ?_
            refine mm_s1 rfl ?_
            show mm_Go (mm_run 11) mc_Store_defined _ (101, [(0, .inr (.inr v0)), (1, .inr (.inr 402)), (2, .inl v2), (3, .inl (-1))], [], M96)
            refine mm_s1 rfl ?_
            refine nn_getr rfl C0.1 (lf_9_0 L N C0) ?_
            refine mm_s1 rfl ?_
            refine mm_s1 rfl ⟨(nc_9_0 NN C0).1, ?_⟩
            show mm_Go (mm_run 11) mc_Store_defined _ (109, [(0, .inr (.inr v0)), (1, .inr (.inr 402)), (2, .inl v2), (3, .inl (-1))], [], (nn_uf M96 (v0 + 1) 1 0))
            have L : nn_L (nn_uf M96 (v0 + 1) 1 0) := nn_L_up L (nc_9_0 NN C0).1 rfl
            have N : (nn_uf M96 (v0 + 1) 1 0).1 = n := N
            generalize e_M106 : (nn_uf M96 (v0 + 1) 1 0) = M106 at L N ⊢
            replace h := h _ e_M106.symm
            show mm_Go (mm_run 11) mc_Store_defined _ (109, [(0, .inr (.inr v0)), (1, .inr (.inr 402)), (2, .inl v2), (3, .inl (-1))], [], M106)
            refine mm_s1 rfl ?_
            exact mm_s1 rfl ⟨_, rfl, L, N, h⟩
        · show mm_Go (mm_run 11) mc_Store_defined _ (60, [(0, .inr (.inr v0)), (1, .inr (.inr 402)), (2, .inl v2), (3, .inl (-2))], [], M54)
          replace h := h.2 c57
          refine mm_s1 rfl ?_
          refine nn_getr rfl C0.1 (lf_9_2 L N C0) ?_
          refine mm_s1 rfl ?_
          obtain ⟨b65, h⟩ := h
          have C65 : nn_C 5 (v0 + 90 + 15 * (v2).toNat) n := (nn_arr NN (nc_9_2 NN C0).2).1 (nc_9_2 NN C0).1 _ (nn_tn b65 (by decide))
          refine nn_aald rfl (nn_bd30 (na_9_2 NN C0) (by decide) b65) (nn_l35 L N (nc_9_2 NN C0) b65) ?_
          show mm_Go (mm_run 11) mc_Store_defined _ (66, [(0, .inr (.inr v0)), (1, .inr (.inr 402)), (2, .inl v2), (3, .inl (-2))], [.inr (.inr (v0 + 90 + 15 * (v2).toNat))], M54)
          refine mm_s1 rfl ?_
          refine nn_getr rfl C0.1 (lf_9_1 L N C0) ?_
          refine mm_s1 rfl ⟨C65.1, ?_⟩
          refine nn_call (D := 4) (by decide) (h n L N C65 (nc_9_1 NN C0)) ?_
          intro v M70 q; clear L N h
          obtain ⟨rfl, L, N, h⟩ := q
          show mm_Go (mm_run 11) mc_Store_defined _ (73, [(0, .inr (.inr v0)), (1, .inr (.inr 402)), (2, .inl v2), (3, .inl (-2))], [], M70)
          refine mm_s1 rfl ?_
          refine mm_s1 rfl ?_
          show mm_Go (mm_run 11) mc_Store_defined _ (75, [(0, .inr (.inr v0)), (1, .inr (.inr 402)), (2, .inl v2), (3, .inl v2)], [], M70)
          refine mm_s1 rfl ?_
          show mm_Go (mm_run 11) mc_Store_defined _ (101, [(0, .inr (.inr v0)), (1, .inr (.inr 402)), (2, .inl v2), (3, .inl v2)], [], M70)
          refine mm_s1 rfl ?_
          refine nn_getr rfl C0.1 (lf_9_0 L N C0) ?_
          refine mm_s1 rfl ?_
          refine mm_s1 rfl ⟨(nc_9_0 NN C0).1, ?_⟩
          show mm_Go (mm_run 11) mc_Store_defined _ (109, [(0, .inr (.inr v0)), (1, .inr (.inr 402)), (2, .inl v2), (3, .inl v2)], [], (nn_uf M70 (v0 + 1) 1 0))
          have L : nn_L (nn_uf M70 (v0 + 1) 1 0) := nn_L_up L (nc_9_0 NN C0).1 rfl
          have N : (nn_uf M70 (v0 + 1) 1 0).1 = n := N
          generalize e_M106 : (nn_uf M70 (v0 + 1) 1 0) = M106 at L N ⊢
          replace h := h _ e_M106.symm
          show mm_Go (mm_run 11) mc_Store_defined _ (109, [(0, .inr (.inr v0)), (1, .inr (.inr 402)), (2, .inl v2), (3, .inl v2)], [], M106)
          refine mm_s1 rfl ?_
          exact mm_s1 rfl ⟨_, rfl, L, N, h⟩
    · show mm_Go (mm_run 11) mc_Store_defined _ (19, [(0, .inr (.inr v0)), (1, .inr (.inr 402)), (2, .inl v2)], [], M)
      refine mm_s1 rfl ?_
      show mm_Go (mm_run 11) mc_Store_defined _ (22, [(0, .inr (.inr v0)), (1, .inr (.inr 402)), (2, .inl (mm_w (v2 + 1)))], [], M)
      refine mm_s1 rfl ?_
      show mm_Go (mm_run 11) mc_Store_defined _ (2, [(0, .inr (.inr v0)), (1, .inr (.inr 402)), (2, .inl (mm_w (v2 + 1)))], [], M)
      replace h := h.2.2 ⟨c4, c16⟩
      exact nn_go_ext (nn_xc rfl (nn_xc rfl (nn_xc rfl nn_xn))) (h n L N C0)
def nr_M_change (v1 : Int) (v2 : Int) (v3 : Int) (M : mm_M) (R : Int → mm_M → Prop) : Prop := ∀ n, nn_L M → M.1 = n → mm_run 12 mi_M_change [.inr (.inr 407), .inl v1, .inl v2, .inl v3] M (nw_I n R)
set_option maxRecDepth 20000 in
theorem ng_M_change (v1 : Int) (v2 : Int) (v3 : Int) (M : mm_M) (R : Int → mm_M → Prop) (h : ((((nf_M_isKey v1) = 0 ∨ ((nf_M_isIn v2 0 3) = 0 ∨ ((nf_M_isIn v3 0 15) = 0))) → R (-1) M) ∧ (((nf_M_isKey v1) ≠ 0 ∧ ((nf_M_isIn v2 0 3) ≠ 0 ∧ ((nf_M_isIn v3 0 15) ≠ 0))) → (nr_M_changes 0 v1 v2 v3 M (fun r31 M31 => R r31 M31))))) : nr_M_change v1 v2 v3 M R := by
  intro n L N 
  have NN := nn_L_n L N
  show mm_Go (mm_run 11) mc_M_change _ (0, [(0, .inr (.inr 407)), (1, .inl v1), (2, .inl v2), (3, .inl v3)], [], M)
  refine mm_s1 rfl ?_
  refine mm_s1 rfl ⟨trivial, ?_⟩
  refine np_M_isKey (by decide) L N ?_
  show mm_Go (mm_run 11) mc_M_change _ (4, [(0, .inr (.inr 407)), (1, .inl v1), (2, .inl v2), (3, .inl v3)], [.inl (nf_M_isKey v1)], M)
  refine mm_s1 rfl ⟨fun c4 => ?_, fun c4 => ?_⟩
  · show mm_Go (mm_run 11) mc_M_change _ (37, [(0, .inr (.inr 407)), (1, .inl v1), (2, .inl v2), (3, .inl v3)], [], M)
    refine mm_s1 rfl ?_
    replace h := h.1 (Or.inl c4)
    exact mm_s1 rfl ⟨_, rfl, L, N, h⟩
  · show mm_Go (mm_run 11) mc_M_change _ (7, [(0, .inr (.inr 407)), (1, .inl v1), (2, .inl v2), (3, .inl v3)], [], M)
    refine mm_s1 rfl ?_
    refine mm_s1 rfl ?_
    refine mm_s1 rfl ?_
    refine mm_s1 rfl ⟨trivial, ?_⟩
    refine np_M_isIn (by decide) L N ?_
    show mm_Go (mm_run 11) mc_M_change _ (13, [(0, .inr (.inr 407)), (1, .inl v1), (2, .inl v2), (3, .inl v3)], [.inl (nf_M_isIn v2 0 3)], M)
    refine mm_s1 rfl ⟨fun c13 => ?_, fun c13 => ?_⟩
    · show mm_Go (mm_run 11) mc_M_change _ (37, [(0, .inr (.inr 407)), (1, .inl v1), (2, .inl v2), (3, .inl v3)], [], M)
      refine mm_s1 rfl ?_
      replace h := h.1 (Or.inr (Or.inl c13))
      exact mm_s1 rfl ⟨_, rfl, L, N, h⟩
    · show mm_Go (mm_run 11) mc_M_change _ (16, [(0, .inr (.inr 407)), (1, .inl v1), (2, .inl v2), (3, .inl v3)], [], M)
      refine mm_s1 rfl ?_
      refine mm_s1 rfl ?_
      refine mm_s1 rfl ?_
      refine mm_s1 rfl ⟨trivial, ?_⟩
      refine np_M_isIn (by decide) L N ?_
      show mm_Go (mm_run 11) mc_M_change _ (23, [(0, .inr (.inr 407)), (1, .inl v1), (2, .inl v2), (3, .inl v3)], [.inl (nf_M_isIn v3 0 15)], M)
      refine mm_s1 rfl ⟨fun c23 => ?_, fun c23 => ?_⟩
      · show mm_Go (mm_run 11) mc_M_change _ (37, [(0, .inr (.inr 407)), (1, .inl v1), (2, .inl v2), (3, .inl v3)], [], M)
        refine mm_s1 rfl ?_
        replace h := h.1 (Or.inr (Or.inr c23))
        exact mm_s1 rfl ⟨_, rfl, L, N, h⟩
      · show mm_Go (mm_run 11) mc_M_change _ (26, [(0, .inr (.inr 407)), (1, .inl v1), (2, .inl v2), (3, .inl v3)], [], M)
        refine mm_s1 rfl ?_
        refine mm_s1 rfl ?_
        refine mm_s1 rfl ?_
        refine mm_s1 rfl ?_
        refine mm_s1 rfl ?_
        show mm_Go (mm_run 11) mc_M_change _ (31, [(0, .inr (.inr 407)), (1, .inl v1), (2, .inl v2), (3, .inl v3)], [.inl v3, .inl v2, .inl v1, .inl 0, .inr (.inr 407)], M)
        replace h := h.2 ⟨c4, ⟨c13, c23⟩⟩
        refine mm_s1 rfl ⟨(nn_c407 NN).1, ?_⟩
        refine nn_call (D := 11) (by decide) (h n L N) ?_
        intro v M31 q; clear L N h
        obtain ⟨r31, rfl, L, N, h⟩ := q
        show mm_Go (mm_run 11) mc_M_change _ (34, [(0, .inr (.inr 407)), (1, .inl v1), (2, .inl v2), (3, .inl v3)], [.inl r31], M31)
        refine mm_s1 rfl ?_
        show mm_Go (mm_run 11) mc_M_change _ (38, [(0, .inr (.inr 407)), (1, .inl v1), (2, .inl v2), (3, .inl v3)], [.inl r31], M31)
        exact mm_s1 rfl ⟨_, rfl, L, N, h⟩
def nr_M_loads (v1 : Int) (v2 : Int) (v3 : Int) (M : mm_M) (R : Int → mm_M → Prop) : Prop := ∀ n, nn_L M → M.1 = n → mm_run 12 mi_M_loads [.inr (.inr 407), .inl v1, .inl v2, .inl v3] M (nw_I n R)
def nk_M_loads_19 (v1 : Int) (v3 : Int) (v4 : Int) (v5 : Int) (M : mm_M) (R : Int → mm_M → Prop) : Prop := ∀ n, nn_L M → M.1 = n → mm_Go (mm_run 11) mc_M_loads (nw_I n R) (19, [(0, .inr (.inr 407)), (1, .inl v1), (3, .inl v3), (4, .inl v4), (5, .inl v5)], [], M)
set_option maxRecDepth 20000 in
theorem ng_M_loads (v1 : Int) (v2 : Int) (v3 : Int) (M : mm_M) (R : Int → mm_M → Prop) (h : (∀ M2 : mm_M, M2 = nn_uf M 407 2 v2 → (((0 : Int) ≤ (mm_w (v1 + 6)) ∧ (mm_w (v1 + 6)) < (32844 : Int)) ∧ nk_M_loads_19 v1 v3 (nn_ri M2 408 (mm_w (v1 + 6))) 0 M2 R))) : nr_M_loads v1 v2 v3 M R := by
  intro n L N 
  have NN := nn_L_n L N
  show mm_Go (mm_run 11) mc_M_loads _ (0, [(0, .inr (.inr 407)), (1, .inl v1), (2, .inl v2), (3, .inl v3)], [], M)
  refine mm_s1 rfl ?_
  refine mm_s1 rfl ?_
  refine mm_s1 rfl ⟨(nn_c407 NN).1, ?_⟩
  show mm_Go (mm_run 11) mc_M_loads _ (5, [(0, .inr (.inr 407)), (1, .inl v1), (2, .inl v2), (3, .inl v3)], [], (nn_uf M 407 2 v2))
  have L : nn_L (nn_uf M 407 2 v2) := nn_L_up L (nn_c407 NN).1 rfl
  have N : (nn_uf M 407 2 v2).1 = n := N
  generalize e_M2 : (nn_uf M 407 2 v2) = M2 at L N ⊢
  replace h := h _ e_M2.symm
  show mm_Go (mm_run 11) mc_M_loads _ (5, [(0, .inr (.inr 407)), (1, .inl v1), (2, .inl v2), (3, .inl v3)], [], M2)
  refine mm_s1 rfl ?_
  refine nn_getr rfl (nn_c407 NN).1 (lf_13_0 L N (nn_c407 NN)) ?_
  refine mm_s1 rfl ?_
  refine mm_s1 rfl ?_
  refine mm_s1 rfl ?_
  show mm_Go (mm_run 11) mc_M_loads _ (13, [(0, .inr (.inr 407)), (1, .inl v1), (2, .inl v2), (3, .inl v3)], [.inl (mm_w (v1 + 6)), .inr (.inr 408)], M2)
  obtain ⟨b13, h⟩ := h
  refine mm_s1 rfl ⟨nn_bd (na_13_0 NN (nn_c407 NN)) b13, ?_⟩
  show mm_Go (mm_run 11) mc_M_loads _ (14, [(0, .inr (.inr 407)), (1, .inl v1), (2, .inl v2), (3, .inl v3)], [.inl (nn_ri M2 408 (mm_w (v1 + 6)))], M2)
  refine mm_s1 rfl ?_
  show mm_Go (mm_run 11) mc_M_loads _ (16, [(0, .inr (.inr 407)), (1, .inl v1), (2, .inl v2), (3, .inl v3), (4, .inl (nn_ri M2 408 (mm_w (v1 + 6))))], [], M2)
  refine mm_s1 rfl ?_
  refine mm_s1 rfl ?_
  show mm_Go (mm_run 11) mc_M_loads _ (19, [(0, .inr (.inr 407)), (1, .inl v1), (2, .inl v2), (3, .inl v3), (4, .inl (nn_ri M2 408 (mm_w (v1 + 6)))), (5, .inl 0)], [], M2)
  exact nn_go_ext (nn_xc rfl (nn_xc rfl (nn_xc rfl (nn_xc rfl (nn_xc rfl nn_xn))))) (h n L N)
set_option maxRecDepth 20000 in
theorem ng_M_loads_19 (v1 : Int) (v3 : Int) (v4 : Int) (v5 : Int) (M : mm_M) (R : Int → mm_M → Prop) (h : ((v3 ≤ v5 → (((0 : Int) ≤ (mm_w (v1 + 6)) ∧ (mm_w (v1 + 6)) < (32844 : Int)) ∧ R (mm_w ((nn_ri M 408 (mm_w (v1 + 6))) - v4)) M)) ∧ (v5 < v3 → (nr_M_draws 8 M (fun r28 M28 => (nr_M_draws 32 M28 (fun r36 M36 => ((r28 ≠ 0 → ((r28 ≠ 1 → (nr_M_draws 16 M36 (fun r63 M63 => ((r28 ≠ 0 → (nr_M_draws 16 M63 (fun r80 M80 => ((r28 ≤ 1 → ((r28 ≤ 1 → ((r28 ≠ 0 → ((r28 ≠ 1 → (nr_M_puts v1 0 r36 (nf_M_packed r63 r80 0 0) M80 (fun r173 M173 => nk_M_loads_19 v1 v3 v4 (mm_w (v5 + 1)) M173 R))) ∧ (r28 = 1 → (nr_M_changes v1 r36 r63 r80 M80 (fun r151 M151 => nk_M_loads_19 v1 v3 v4 (mm_w (v5 + 1)) M151 R))))) ∧ (r28 = 0 → (nr_M_writes v1 r36 (-1) M80 (fun r131 M131 => nk_M_loads_19 v1 v3 v4 (mm_w (v5 + 1)) M131 R))))) ∧ (1 < r28 → (nr_M_draws 16 M80 (fun r112 M112 => ((r28 ≠ 0 → ((r28 ≠ 1 → (nr_M_puts v1 0 r36 (nf_M_packed r63 r80 0 r112) M112 (fun r173 M173 => nk_M_loads_19 v1 v3 v4 (mm_w (v5 + 1)) M173 R))) ∧ (r28 = 1 → (nr_M_changes v1 r36 r63 r80 M112 (fun r151 M151 => nk_M_loads_19 v1 v3 v4 (mm_w (v5 + 1)) M151 R))))) ∧ (r28 = 0 → (nr_M_writes v1 r36 (-1) M112 (fun r131 M131 => nk_M_loads_19 v1 v3 v4 (mm_w (v5 + 1)) M131 R))))))))) ∧ (1 < r28 → (nr_M_draws 16 M80 (fun r94 M94 => ((r28 ≤ 1 → ((r28 ≠ 0 → ((r28 ≠ 1 → (nr_M_puts v1 0 r36 (nf_M_packed r63 r80 r94 0) M94 (fun r173 M173 => nk_M_loads_19 v1 v3 v4 (mm_w (v5 + 1)) M173 R))) ∧ (r28 = 1 → (nr_M_changes v1 r36 r63 r80 M94 (fun r151 M151 => nk_M_loads_19 v1 v3 v4 (mm_w (v5 + 1)) M151 R))))) ∧ (r28 = 0 → (nr_M_writes v1 r36 (-1) M94 (fun r131 M131 => nk_M_loads_19 v1 v3 v4 (mm_w (v5 + 1)) M131 R))))) ∧ (1 < r28 → (nr_M_draws 16 M94 (fun r112 M112 => ((r28 ≠ 0 → ((r28 ≠ 1 → (nr_M_puts v1 0 r36 (nf_M_packed r63 r80 r94 r112) M112 (fun r173 M173 => nk_M_loads_19 v1 v3 v4 (mm_w (v5 + 1)) M173 R))) ∧ (r28 = 1 → (nr_M_changes v1 r36 r63 r80 M112 (fun r151 M151 => nk_M_loads_19 v1 v3 v4 (mm_w (v5 + 1)) M151 R))))) ∧ (r28 = 0 → (nr_M_writes v1 r36 (-1) M112 (fun r131 M131 => nk_M_loads_19 v1 v3 v4 (mm_w (v5 + 1)) M131 R))))))))))))))) ∧ (r28 = 0 → ((r28 ≤ 1 → ((r28 ≤ 1 → ((r28 ≠ 0 → ((r28 ≠ 1 → (nr_M_puts v1 0 r36 (nf_M_packed r63 0 0 0) M63 (fun r173 M173 => nk_M_loads_19 v1 v3 v4 (mm_w (v5 + 1)) M173 R))) ∧ (r28 = 1 → (nr_M_changes v1 r36 r63 0 M63 (fun r151 M151 => nk_M_loads_19 v1 v3 v4 (mm_w (v5 + 1)) M151 R))))) ∧ (r28 = 0 → (nr_M_writes v1 r36 (-1) M63 (fun r131 M131 => nk_M_loads_19 v1 v3 v4 (mm_w (v5 + 1)) M131 R))))) ∧ (1 < r28 → (nr_M_draws 16 M63 (fun r112 M112 => ((r28 ≠ 0 → ((r28 ≠ 1 → (nr_M_puts v1 0 r36 (nf_M_packed r63 0 0 r112) M112 (fun r173 M173 => nk_M_loads_19 v1 v3 v4 (mm_w (v5 + 1)) M173 R))) ∧ (r28 = 1 → (nr_M_changes v1 r36 r63 0 M112 (fun r151 M151 => nk_M_loads_19 v1 v3 v4 (mm_w (v5 + 1)) M151 R))))) ∧ (r28 = 0 → (nr_M_writes v1 r36 (-1) M112 (fun r131 M131 => nk_M_loads_19 v1 v3 v4 (mm_w (v5 + 1)) M131 R))))))))) ∧ (1 < r28 → (nr_M_draws 16 M63 (fun r94 M94 => ((r28 ≤ 1 → ((r28 ≠ 0 → ((r28 ≠ 1 → (nr_M_puts v1 0 r36 (nf_M_packed r63 0 r94 0) M94 (fun r173 M173 => nk_M_loads_19 v1 v3 v4 (mm_w (v5 + 1)) M173 R))) ∧ (r28 = 1 → (nr_M_changes v1 r36 r63 0 M94 (fun r151 M151 => nk_M_loads_19 v1 v3 v4 (mm_w (v5 + 1)) M151 R))))) ∧ (r28 = 0 → (nr_M_writes v1 r36 (-1) M94 (fun r131 M131 => nk_M_loads_19 v1 v3 v4 (mm_w (v5 + 1)) M131 R))))) ∧ (1 < r28 → (nr_M_draws 16 M94 (fun r112 M112 => ((r28 ≠ 0 → ((r28 ≠ 1 → (nr_M_puts v1 0 r36 (nf_M_packed r63 0 r94 r112) M112 (fun r173 M173 => nk_M_loads_19 v1 v3 v4 (mm_w (v5 + 1)) M173 R))) ∧ (r28 = 1 → (nr_M_changes v1 r36 r63 0 M112 (fun r151 M151 => nk_M_loads_19 v1 v3 v4 (mm_w (v5 + 1)) M151 R))))) ∧ (r28 = 0 → (nr_M_writes v1 r36 (-1) M112 (fun r131 M131 => nk_M_loads_19 v1 v3 v4 (mm_w (v5 + 1)) M131 R))))))))))))))))) ∧ (r28 = 1 → (nr_M_draws 4 M36 (fun r63 M63 => ((r28 ≠ 0 → (nr_M_draws 16 M63 (fun r80 M80 => ((r28 ≤ 1 → ((r28 ≤ 1 → ((r28 ≠ 0 → ((r28 ≠ 1 → (nr_M_puts v1 0 r36 (nf_M_packed r63 r80 0 0) M80 (fun r173 M173 => nk_M_loads_19 v1 v3 v4 (mm_w (v5 + 1)) M173 R))) ∧ (r28 = 1 → (nr_M_changes v1 r36 r63 r80 M80 (fun r151 M151 => nk_M_loads_19 v1 v3 v4 (mm_w (v5 + 1)) M151 R))))) ∧ (r28 = 0 → (nr_M_writes v1 r36 (-1) M80 (fun r131 M131 => nk_M_loads_19 v1 v3 v4 (mm_w (v5 + 1)) M131 R))))) ∧ (1 < r28 → (nr_M_draws 16 M80 (fun r112 M112 => ((r28 ≠ 0 → ((r28 ≠ 1 → (nr_M_puts v1 0 r36 (nf_M_packed r63 r80 0 r112) M112 (fun r173 M173 => nk_M_loads_19 v1 v3 v4 (mm_w (v5 + 1)) M173 R))) ∧ (r28 = 1 → (nr_M_changes v1 r36 r63 r80 M112 (fun r151 M151 => nk_M_loads_19 v1 v3 v4 (mm_w (v5 + 1)) M151 R))))) ∧ (r28 = 0 → (nr_M_writes v1 r36 (-1) M112 (fun r131 M131 => nk_M_loads_19 v1 v3 v4 (mm_w (v5 + 1)) M131 R))))))))) ∧ (1 < r28 → (nr_M_draws 16 M80 (fun r94 M94 => ((r28 ≤ 1 → ((r28 ≠ 0 → ((r28 ≠ 1 → (nr_M_puts v1 0 r36 (nf_M_packed r63 r80 r94 0) M94 (fun r173 M173 => nk_M_loads_19 v1 v3 v4 (mm_w (v5 + 1)) M173 R))) ∧ (r28 = 1 → (nr_M_changes v1 r36 r63 r80 M94 (fun r151 M151 => nk_M_loads_19 v1 v3 v4 (mm_w (v5 + 1)) M151 R))))) ∧ (r28 = 0 → (nr_M_writes v1 r36 (-1) M94 (fun r131 M131 => nk_M_loads_19 v1 v3 v4 (mm_w (v5 + 1)) M131 R))))) ∧ (1 < r28 → (nr_M_draws 16 M94 (fun r112 M112 => ((r28 ≠ 0 → ((r28 ≠ 1 → (nr_M_puts v1 0 r36 (nf_M_packed r63 r80 r94 r112) M112 (fun r173 M173 => nk_M_loads_19 v1 v3 v4 (mm_w (v5 + 1)) M173 R))) ∧ (r28 = 1 → (nr_M_changes v1 r36 r63 r80 M112 (fun r151 M151 => nk_M_loads_19 v1 v3 v4 (mm_w (v5 + 1)) M151 R))))) ∧ (r28 = 0 → (nr_M_writes v1 r36 (-1) M112 (fun r131 M131 => nk_M_loads_19 v1 v3 v4 (mm_w (v5 + 1)) M131 R))))))))))))))) ∧ (r28 = 0 → ((r28 ≤ 1 → ((r28 ≤ 1 → ((r28 ≠ 0 → ((r28 ≠ 1 → (nr_M_puts v1 0 r36 (nf_M_packed r63 0 0 0) M63 (fun r173 M173 => nk_M_loads_19 v1 v3 v4 (mm_w (v5 + 1)) M173 R))) ∧ (r28 = 1 → (nr_M_changes v1 r36 r63 0 M63 (fun r151 M151 => nk_M_loads_19 v1 v3 v4 (mm_w (v5 + 1)) M151 R))))) ∧ (r28 = 0 → (nr_M_writes v1 r36 (-1) M63 (fun r131 M131 => nk_M_loads_19 v1 v3 v4 (mm_w (v5 + 1)) M131 R))))) ∧ (1 < r28 → (nr_M_draws 16 M63 (fun r112 M112 => ((r28 ≠ 0 → ((r28 ≠ 1 → (nr_M_puts v1 0 r36 (nf_M_packed r63 0 0 r112) M112 (fun r173 M173 => nk_M_loads_19 v1 v3 v4 (mm_w (v5 + 1)) M173 R))) ∧ (r28 = 1 → (nr_M_changes v1 r36 r63 0 M112 (fun r151 M151 => nk_M_loads_19 v1 v3 v4 (mm_w (v5 + 1)) M151 R))))) ∧ (r28 = 0 → (nr_M_writes v1 r36 (-1) M112 (fun r131 M131 => nk_M_loads_19 v1 v3 v4 (mm_w (v5 + 1)) M131 R))))))))) ∧ (1 < r28 → (nr_M_draws 16 M63 (fun r94 M94 => ((r28 ≤ 1 → ((r28 ≠ 0 → ((r28 ≠ 1 → (nr_M_puts v1 0 r36 (nf_M_packed r63 0 r94 0) M94 (fun r173 M173 => nk_M_loads_19 v1 v3 v4 (mm_w (v5 + 1)) M173 R))) ∧ (r28 = 1 → (nr_M_changes v1 r36 r63 0 M94 (fun r151 M151 => nk_M_loads_19 v1 v3 v4 (mm_w (v5 + 1)) M151 R))))) ∧ (r28 = 0 → (nr_M_writes v1 r36 (-1) M94 (fun r131 M131 => nk_M_loads_19 v1 v3 v4 (mm_w (v5 + 1)) M131 R))))) ∧ (1 < r28 → (nr_M_draws 16 M94 (fun r112 M112 => ((r28 ≠ 0 → ((r28 ≠ 1 → (nr_M_puts v1 0 r36 (nf_M_packed r63 0 r94 r112) M112 (fun r173 M173 => nk_M_loads_19 v1 v3 v4 (mm_w (v5 + 1)) M173 R))) ∧ (r28 = 1 → (nr_M_changes v1 r36 r63 0 M112 (fun r151 M151 => nk_M_loads_19 v1 v3 v4 (mm_w (v5 + 1)) M151 R))))) ∧ (r28 = 0 → (nr_M_writes v1 r36 (-1) M112 (fun r131 M131 => nk_M_loads_19 v1 v3 v4 (mm_w (v5 + 1)) M131 R))))))))))))))))))) ∧ (r28 = 0 → ((r28 ≠ 0 → (nr_M_draws 16 M36 (fun r80 M80 => ((r28 ≤ 1 → ((r28 ≤ 1 → ((r28 ≠ 0 → ((r28 ≠ 1 → (nr_M_puts v1 0 r36 (nf_M_packed 0 r80 0 0) M80 (fun r173 M173 => nk_M_loads_19 v1 v3 v4 (mm_w (v5 + 1)) M173 R))) ∧ (r28 = 1 → (nr_M_changes v1 r36 0 r80 M80 (fun r151 M151 => nk_M_loads_19 v1 v3 v4 (mm_w (v5 + 1)) M151 R))))) ∧ (r28 = 0 → (nr_M_writes v1 r36 (-1) M80 (fun r131 M131 => nk_M_loads_19 v1 v3 v4 (mm_w (v5 + 1)) M131 R))))) ∧ (1 < r28 → (nr_M_draws 16 M80 (fun r112 M112 => ((r28 ≠ 0 → ((r28 ≠ 1 → (nr_M_puts v1 0 r36 (nf_M_packed 0 r80 0 r112) M112 (fun r173 M173 => nk_M_loads_19 v1 v3 v4 (mm_w (v5 + 1)) M173 R))) ∧ (r28 = 1 → (nr_M_changes v1 r36 0 r80 M112 (fun r151 M151 => nk_M_loads_19 v1 v3 v4 (mm_w (v5 + 1)) M151 R))))) ∧ (r28 = 0 → (nr_M_writes v1 r36 (-1) M112 (fun r131 M131 => nk_M_loads_19 v1 v3 v4 (mm_w (v5 + 1)) M131 R))))))))) ∧ (1 < r28 → (nr_M_draws 16 M80 (fun r94 M94 => ((r28 ≤ 1 → ((r28 ≠ 0 → ((r28 ≠ 1 → (nr_M_puts v1 0 r36 (nf_M_packed 0 r80 r94 0) M94 (fun r173 M173 => nk_M_loads_19 v1 v3 v4 (mm_w (v5 + 1)) M173 R))) ∧ (r28 = 1 → (nr_M_changes v1 r36 0 r80 M94 (fun r151 M151 => nk_M_loads_19 v1 v3 v4 (mm_w (v5 + 1)) M151 R))))) ∧ (r28 = 0 → (nr_M_writes v1 r36 (-1) M94 (fun r131 M131 => nk_M_loads_19 v1 v3 v4 (mm_w (v5 + 1)) M131 R))))) ∧ (1 < r28 → (nr_M_draws 16 M94 (fun r112 M112 => ((r28 ≠ 0 → ((r28 ≠ 1 → (nr_M_puts v1 0 r36 (nf_M_packed 0 r80 r94 r112) M112 (fun r173 M173 => nk_M_loads_19 v1 v3 v4 (mm_w (v5 + 1)) M173 R))) ∧ (r28 = 1 → (nr_M_changes v1 r36 0 r80 M112 (fun r151 M151 => nk_M_loads_19 v1 v3 v4 (mm_w (v5 + 1)) M151 R))))) ∧ (r28 = 0 → (nr_M_writes v1 r36 (-1) M112 (fun r131 M131 => nk_M_loads_19 v1 v3 v4 (mm_w (v5 + 1)) M131 R))))))))))))))) ∧ (r28 = 0 → ((r28 ≤ 1 → ((r28 ≤ 1 → ((r28 ≠ 0 → ((r28 ≠ 1 → (nr_M_puts v1 0 r36 (nf_M_packed 0 0 0 0) M36 (fun r173 M173 => nk_M_loads_19 v1 v3 v4 (mm_w (v5 + 1)) M173 R))) ∧ (r28 = 1 → (nr_M_changes v1 r36 0 0 M36 (fun r151 M151 => nk_M_loads_19 v1 v3 v4 (mm_w (v5 + 1)) M151 R))))) ∧ (r28 = 0 → (nr_M_writes v1 r36 (-1) M36 (fun r131 M131 => nk_M_loads_19 v1 v3 v4 (mm_w (v5 + 1)) M131 R))))) ∧ (1 < r28 → (nr_M_draws 16 M36 (fun r112 M112 => ((r28 ≠ 0 → ((r28 ≠ 1 → (nr_M_puts v1 0 r36 (nf_M_packed 0 0 0 r112) M112 (fun r173 M173 => nk_M_loads_19 v1 v3 v4 (mm_w (v5 + 1)) M173 R))) ∧ (r28 = 1 → (nr_M_changes v1 r36 0 0 M112 (fun r151 M151 => nk_M_loads_19 v1 v3 v4 (mm_w (v5 + 1)) M151 R))))) ∧ (r28 = 0 → (nr_M_writes v1 r36 (-1) M112 (fun r131 M131 => nk_M_loads_19 v1 v3 v4 (mm_w (v5 + 1)) M131 R))))))))) ∧ (1 < r28 → (nr_M_draws 16 M36 (fun r94 M94 => ((r28 ≤ 1 → ((r28 ≠ 0 → ((r28 ≠ 1 → (nr_M_puts v1 0 r36 (nf_M_packed 0 0 r94 0) M94 (fun r173 M173 => nk_M_loads_19 v1 v3 v4 (mm_w (v5 + 1)) M173 R))) ∧ (r28 = 1 → (nr_M_changes v1 r36 0 0 M94 (fun r151 M151 => nk_M_loads_19 v1 v3 v4 (mm_w (v5 + 1)) M151 R))))) ∧ (r28 = 0 → (nr_M_writes v1 r36 (-1) M94 (fun r131 M131 => nk_M_loads_19 v1 v3 v4 (mm_w (v5 + 1)) M131 R))))) ∧ (1 < r28 → (nr_M_draws 16 M94 (fun r112 M112 => ((r28 ≠ 0 → ((r28 ≠ 1 → (nr_M_puts v1 0 r36 (nf_M_packed 0 0 r94 r112) M112 (fun r173 M173 => nk_M_loads_19 v1 v3 v4 (mm_w (v5 + 1)) M173 R))) ∧ (r28 = 1 → (nr_M_changes v1 r36 0 0 M112 (fun r151 M151 => nk_M_loads_19 v1 v3 v4 (mm_w (v5 + 1)) M151 R))))) ∧ (r28 = 0 → (nr_M_writes v1 r36 (-1) M112 (fun r131 M131 => nk_M_loads_19 v1 v3 v4 (mm_w (v5 + 1)) M131 R))))))))))))))))))))))) : nk_M_loads_19 v1 v3 v4 v5 M R := by
  intro n L N 
  have NN := nn_L_n L N
  show mm_Go (mm_run 11) mc_M_loads _ (19, [(0, .inr (.inr 407)), (1, .inl v1), (3, .inl v3), (4, .inl v4), (5, .inl v5)], [], M)
  refine mm_s1 rfl ?_
  refine mm_s1 rfl ?_
  refine mm_s1 rfl ⟨fun c22 => ?_, fun c22 => ?_⟩
  · show mm_Go (mm_run 11) mc_M_loads _ (184, [(0, .inr (.inr 407)), (1, .inl v1), (3, .inl v3), (4, .inl v4), (5, .inl v5)], [], M)
    replace h := h.1 c22
    refine mm_s1 rfl ?_
    refine nn_getr rfl (nn_c407 NN).1 (lf_13_0 L N (nn_c407 NN)) ?_
    refine mm_s1 rfl ?_
    refine mm_s1 rfl ?_
    refine mm_s1 rfl ?_
    show mm_Go (mm_run 11) mc_M_loads _ (192, [(0, .inr (.inr 407)), (1, .inl v1), (3, .inl v3), (4, .inl v4), (5, .inl v5)], [.inl (mm_w (v1 + 6)), .inr (.inr 408)], M)
    obtain ⟨b192, h⟩ := h
    refine mm_s1 rfl ⟨nn_bd (na_13_0 NN (nn_c407 NN)) b192, ?_⟩
    show mm_Go (mm_run 11) mc_M_loads _ (193, [(0, .inr (.inr 407)), (1, .inl v1), (3, .inl v3), (4, .inl v4), (5, .inl v5)], [.inl (nn_ri M 408 (mm_w (v1 + 6)))], M)
    refine mm_s1 rfl ?_
    refine mm_s1 rfl ?_
    exact mm_s1 rfl ⟨_, rfl, L, N, h⟩
  · show mm_Go (mm_run 11) mc_M_loads _ (25, [(0, .inr (.inr 407)), (1, .inl v1), (3, .inl v3), (4, .inl v4), (5, .inl v5)], [], M)
    replace c22 := Int.not_le.mp c22
    replace h := h.2 c22
    refine mm_s1 rfl ?_
    refine mm_s1 rfl ?_
    refine mm_s1 rfl ⟨(nn_c407 NN).1, ?_⟩
    refine nn_call (D := 1) (by decide) (h n L N) ?_
    intro v M28 q; clear L N h
    obtain ⟨r28, rfl, L, N, h⟩ := q
    show mm_Go (mm_run 11) mc_M_loads _ (31, [(0, .inr (.inr 407)), (1, .inl v1), (3, .inl v3), (4, .inl v4), (5, .inl v5)], [.inl r28], M28)
    refine mm_s1 rfl ?_
    show mm_Go (mm_run 11) mc_M_loads _ (33, [(0, .inr (.inr 407)), (1, .inl v1), (3, .inl v3), (4, .inl v4), (5, .inl v5), (6, .inl r28)], [], M28)
    refine mm_s1 rfl ?_
    refine mm_s1 rfl ?_
    refine mm_s1 rfl ⟨(nn_c407 NN).1, ?_⟩
    refine nn_call (D := 1) (by decide) (h n L N) ?_
    intro v M36 q; clear L N h
    obtain ⟨r36, rfl, L, N, h⟩ := q
    show mm_Go (mm_run 11) mc_M_loads _ (39, [(0, .inr (.inr 407)), (1, .inl v1), (3, .inl v3), (4, .inl v4), (5, .inl v5), (6, .inl r28)], [.inl r36], M36)
    refine mm_s1 rfl ?_
    show mm_Go (mm_run 11) mc_M_loads _ (41, [(0, .inr (.inr 407)), (1, .inl v1), (3, .inl v3), (4, .inl v4), (5, .inl v5), (6, .inl r28), (7, .inl r36)], [], M36)
    refine mm_s1 rfl ?_
    refine mm_s1 rfl ⟨fun c43 => ?_, fun c43 => ?_⟩
    · show mm_Go (mm_run 11) mc_M_loads _ (50, [(0, .inr (.inr 407)), (1, .inl v1), (3, .inl v3), (4, .inl v4), (5, .inl v5), (6, .inl r28), (7, .inl r36)], [], M36)
      replace h := h.1 c43
      refine mm_s1 rfl ?_
      refine mm_s1 rfl ?_
      refine mm_s1 rfl ?_
      refine mm_s1 rfl ⟨fun c54 => ?_, fun c54 => ?_⟩
      · show mm_Go (mm_run 11) mc_M_loads _ (61, [(0, .inr (.inr 407)), (1, .inl v1), (3, .inl v3), (4, .inl v4), (5, .inl v5), (6, .inl r28), (7, .inl r36)], [.inr (.inr 407)], M36)
        replace h := h.1 c54
        refine mm_s1 rfl ?_
        refine mm_s1 rfl ⟨(nn_c407 NN).1, ?_⟩
        refine nn_call (D := 1) (by decide) (h n L N) ?_
        intro v M63 q; clear L N h
        obtain ⟨r63, rfl, L, N, h⟩ := q
        show mm_Go (mm_run 11) mc_M_loads _ (66, [(0, .inr (.inr 407)), (1, .inl v1), (3, .inl v3), (4, .inl v4), (5, .inl v5), (6, .inl r28), (7, .inl r36)], [.inl r63], M63)
        refine mm_s1 rfl ?_
        show mm_Go (mm_run 11) mc_M_loads _ (68, [(0, .inr (.inr 407)), (1, .inl v1), (3, .inl v3), (4, .inl v4), (5, .inl v5), (6, .inl r28), (7, .inl r36), (8, .inl r63)], [], M63)
        refine mm_s1 rfl ?_
        refine mm_s1 rfl ⟨fun c70 => ?_, fun c70 => ?_⟩
        · show mm_Go (mm_run 11) mc_M_loads _ (77, [(0, .inr (.inr 407)), (1, .inl v1), (3, .inl v3), (4, .inl v4), (5, .inl v5), (6, .inl r28), (7, .inl r36), (8, .inl r63)], [], M63)
          replace h := h.1 c70
          refine mm_s1 rfl ?_
          refine mm_s1 rfl ?_
          refine mm_s1 rfl ⟨(nn_c407 NN).1, ?_⟩
          refine nn_call (D := 1) (by decide) (h n L N) ?_
          intro v M80 q; clear L N h
          obtain ⟨r80, rfl, L, N, h⟩ := q
          show mm_Go (mm_run 11) mc_M_loads _ (83, [(0, .inr (.inr 407)), (1, .inl v1), (3, .inl v3), (4, .inl v4), (5, .inl v5), (6, .inl r28), (7, .inl r36), (8, .inl r63)], [.inl r80], M80)
          refine mm_s1 rfl ?_
          show mm_Go (mm_run 11) mc_M_loads _ (85, [(0, .inr (.inr 407)), (1, .inl v1), (3, .inl v3), (4, .inl v4), (5, .inl v5), (6, .inl r28), (7, .inl r36), (8, .inl r63), (9, .inl r80)], [], M80)
          refine mm_s1 rfl ?_
          refine mm_s1 rfl ?_
          refine mm_s1 rfl ⟨fun c88 => ?_, fun c88 => ?_⟩
          · show mm_Go (mm_run 11) mc_M_loads _ (100, [(0, .inr (.inr 407)), (1, .inl v1), (3, .inl v3), (4, .inl v4), (5, .inl v5), (6, .inl r28), (7, .inl r36), (8, .inl r63), (9, .inl r80)], [], M80)
            replace h := h.1 c88
            refine mm_s1 rfl ?_
            refine mm_s1 rfl ?_
            show mm_Go (mm_run 11) mc_M_loads _ (103, [(0, .inr (.inr 407)), (1, .inl v1), (3, .inl v3), (4, .inl v4), (5, .inl v5), (6, .inl r28), (7, .inl r36), (8, .inl r63), (9, .inl r80), (10, .inl 0)], [], M80)
            refine mm_s1 rfl ?_
            refine mm_s1 rfl ?_
            refine mm_s1 rfl ⟨fun c106 => ?_, fun c106 => ?_⟩
            · show mm_Go (mm_run 11) mc_M_loads _ (118, [(0, .inr (.inr 407)), (1, .inl v1), (3, .inl v3), (4, .inl v4), (5, .inl v5), (6, .inl r28), (7, .inl r36), (8, .inl r63), (9, .inl r80), (10, .inl 0)], [], M80)
              replace h := h.1 c106
              refine mm_s1 rfl ?_
              refine mm_s1 rfl ?_
              show mm_Go (mm_run 11) mc_M_loads _ (121, [(0, .inr (.inr 407)), (1, .inl v1), (3, .inl v3), (4, .inl v4), (5, .inl v5), (6, .inl r28), (7, .inl r36), (8, .inl r63), (9, .inl r80), (10, .inl 0), (11, .inl 0)], [], M80)
              refine mm_s1 rfl ?_
              refine mm_s1 rfl ⟨fun c123 => ?_, fun c123 => ?_⟩
              · show mm_Go (mm_run 11) mc_M_loads _ (137, [(0, .inr (.inr 407)), (1, .inl v1), (3, .inl v3), (4, .inl v4), (5, .inl v5), (6, .inl r28), (7, .inl r36), (8, .inl r63), (9, .inl r80), (10, .inl 0), (11, .inl 0)], [], M80)
                replace h := h.1 c123
                refine mm_s1 rfl ?_
                refine mm_s1 rfl ?_
                refine mm_s1 rfl ⟨fun c140 => ?_, fun c140 => ?_⟩
                · show mm_Go (mm_run 11) mc_M_loads _ (157, [(0, .inr (.inr 407)), (1, .inl v1), (3, .inl v3), (4, .inl v4), (5, .inl v5), (6, .inl r28), (7, .inl r36), (8, .inl r63), (9, .inl r80), (10, .inl 0), (11, .inl 0)], [], M80)
                  replace h := h.1 c140
                  refine mm_s1 rfl ?_
                  refine mm_s1 rfl ?_
                  refine mm_s1 rfl ?_
                  refine mm_s1 rfl ?_
                  refine mm_s1 rfl ?_
                  show mm_Go (mm_run 11) mc_M_loads _ (164, [(0, .inr (.inr 407)), (1, .inl v1), (3, .inl v3), (4, .inl v4), (5, .inl v5), (6, .inl r28), (7, .inl r36), (8, .inl r63), (9, .inl r80), (10, .inl 0), (11, .inl 0)], [.inl r63, .inl r36, .inl 0, .inl v1, .inr (.inr 407)], M80)
                  refine mm_s1 rfl ?_
                  refine mm_s1 rfl ?_
                  refine mm_s1 rfl ?_
                  refine mm_s1 rfl ⟨trivial, ?_⟩
                  refine np_M_packed (by decide) L N ?_
                  show mm_Go (mm_run 11) mc_M_loads _ (173, [(0, .inr (.inr 407)), (1, .inl v1), (3, .inl v3), (4, .inl v4), (5, .inl v5), (6, .inl r28), (7, .inl r36), (8, .inl r63), (9, .inl r80), (10, .inl 0), (11, .inl 0)], [.inl (nf_M_packed r63 r80 0 0), .inl r36, .inl 0, .inl v1, .inr (.inr 407)], M80)
                  refine mm_s1 rfl ⟨(nn_c407 NN).1, ?_⟩
                  refine nn_call (D := 10) (by decide) (h n L N) ?_
                  intro v M173 q; clear L N h
                  obtain ⟨r173, rfl, L, N, h⟩ := q
                  show mm_Go (mm_run 11) mc_M_loads _ (176, [(0, .inr (.inr 407)), (1, .inl v1), (3, .inl v3), (4, .inl v4), (5, .inl v5), (6, .inl r28), (7, .inl r36), (8, .inl r63), (9, .inl r80), (10, .inl 0), (11, .inl 0)], [.inl r173], M173)
                  refine mm_s1 rfl ?_
                  show mm_Go (mm_run 11) mc_M_loads _ (178, [(0, .inr (.inr 407)), (1, .inl v1), (3, .inl v3), (4, .inl v4), (5, .inl v5), (6, .inl r28), (7, .inl r36), (8, .inl r63), (9, .inl r80), (10, .inl 0), (11, .inl 0), (12, .inl r173)], [], M173)
                  refine mm_s1 rfl ?_
                  show mm_Go (mm_run 11) mc_M_loads _ (181, [(0, .inr (.inr 407)), (1, .inl v1), (3, .inl v3), (4, .inl v4), (5, .inl (mm_w (v5 + 1))), (6, .inl r28), (7, .inl r36), (8, .inl r63), (9, .inl r80), (10, .inl 0), (11, .inl 0), (12, .inl r173)], [], M173)
                  refine mm_s1 rfl ?_
                  show mm_Go (mm_run 11) mc_M_loads _ (19, [(0, .inr (.inr 407)), (1, .inl v1), (3, .inl v3), (4, .inl v4), (5, .inl (mm_w (v5 + 1))), (6, .inl r28), (7, .inl r36), (8, .inl r63), (9, .inl r80), (10, .inl 0), (11, .inl 0), (12, .inl r173)], [], M173)
                  exact nn_go_ext (nn_xc rfl (nn_xc rfl (nn_xc rfl (nn_xc rfl (nn_xc rfl nn_xn))))) (h n L N)
                · show mm_Go (mm_run 11) mc_M_loads _ (143, [(0, .inr (.inr 407)), (1, .inl v1), (3, .inl v3), (4, .inl v4), (5, .inl v5), (6, .inl r28), (7, .inl r36), (8, .inl r63), (9, .inl r80), (10, .inl 0), (11, .inl 0)], [], M80)
                  replace c140 := Decidable.not_not.mp c140
                  replace h := h.2 c140
                  refine mm_s1 rfl ?_
                  refine mm_s1 rfl ?_
                  refine mm_s1 rfl ?_
                  refine mm_s1 rfl ?_
                  refine mm_s1 rfl ?_
                  show mm_Go (mm_run 11) mc_M_loads _ (151, [(0, .inr (.inr 407)), (1, .inl v1), (3, .inl v3), (4, .inl v4), (5, .inl v5), (6, .inl r28), (7, .inl r36), (8, .inl r63), (9, .inl r80), (10, .inl 0), (11, .inl 0)], [.inl r80, .inl r63, .inl r36, .inl v1, .inr (.inr 407)], M80)
                  refine mm_s1 rfl ⟨(nn_c407 NN).1, ?_⟩
                  refine nn_call (D := 11) (by decide) (h n L N) ?_
                  intro v M151 q; clear L N h
                  obtain ⟨r151, rfl, L, N, h⟩ := q
                  show mm_Go (mm_run 11) mc_M_loads _ (154, [(0, .inr (.inr 407)), (1, .inl v1), (3, .inl v3), (4, .inl v4), (5, .inl v5), (6, .inl r28), (7, .inl r36), (8, .inl r63), (9, .inl r80), (10, .inl 0), (11, .inl 0)], [.inl r151], M151)
                  refine mm_s1 rfl ?_
                  show mm_Go (mm_run 11) mc_M_loads _ (176, [(0, .inr (.inr 407)), (1, .inl v1), (3, .inl v3), (4, .inl v4), (5, .inl v5), (6, .inl r28), (7, .inl r36), (8, .inl r63), (9, .inl r80), (10, .inl 0), (11, .inl 0)], [.inl r151], M151)
                  refine mm_s1 rfl ?_
                  show mm_Go (mm_run 11) mc_M_loads _ (178, [(0, .inr (.inr 407)), (1, .inl v1), (3, .inl v3), (4, .inl v4), (5, .inl v5), (6, .inl r28), (7, .inl r36), (8, .inl r63), (9, .inl r80), (10, .inl 0), (11, .inl 0), (12, .inl r151)], [], M151)
                  refine mm_s1 rfl ?_
                  show mm_Go (mm_run 11) mc_M_loads _ (181, [(0, .inr (.inr 407)), (1, .inl v1), (3, .inl v3), (4, .inl v4), (5, .inl (mm_w (v5 + 1))), (6, .inl r28), (7, .inl r36), (8, .inl r63), (9, .inl r80), (10, .inl 0), (11, .inl 0), (12, .inl r151)], [], M151)
                  refine mm_s1 rfl ?_
                  show mm_Go (mm_run 11) mc_M_loads _ (19, [(0, .inr (.inr 407)), (1, .inl v1), (3, .inl v3), (4, .inl v4), (5, .inl (mm_w (v5 + 1))), (6, .inl r28), (7, .inl r36), (8, .inl r63), (9, .inl r80), (10, .inl 0), (11, .inl 0), (12, .inl r151)], [], M151)
                  exact nn_go_ext (nn_xc rfl (nn_xc rfl (nn_xc rfl (nn_xc rfl (nn_xc rfl nn_xn))))) (h n L N)
              · show mm_Go (mm_run 11) mc_M_loads _ (126, [(0, .inr (.inr 407)), (1, .inl v1), (3, .inl v3), (4, .inl v4), (5, .inl v5), (6, .inl r28), (7, .inl r36), (8, .inl r63), (9, .inl r80), (10, .inl 0), (11, .inl 0)], [], M80)
                replace c123 := Decidable.not_not.mp c123
                replace h := h.2 c123
                refine mm_s1 rfl ?_
                refine mm_s1 rfl ?_
                refine mm_s1 rfl ?_
                refine mm_s1 rfl ?_
                refine mm_s1 rfl ⟨(nn_c407 NN).1, ?_⟩
                refine nn_call (D := 9) (by decide) (h n L N) ?_
                intro v M131 q; clear L N h
                obtain ⟨r131, rfl, L, N, h⟩ := q
                show mm_Go (mm_run 11) mc_M_loads _ (134, [(0, .inr (.inr 407)), (1, .inl v1), (3, .inl v3), (4, .inl v4), (5, .inl v5), (6, .inl r28), (7, .inl r36), (8, .inl r63), (9, .inl r80), (10, .inl 0), (11, .inl 0)], [.inl r131], M131)
                refine mm_s1 rfl ?_
                show mm_Go (mm_run 11) mc_M_loads _ (176, [(0, .inr (.inr 407)), (1, .inl v1), (3, .inl v3), (4, .inl v4), (5, .inl v5), (6, .inl r28), (7, .inl r36), (8, .inl r63), (9, .inl r80), (10, .inl 0), (11, .inl 0)], [.inl r131], M131)
                refine mm_s1 rfl ?_
                show mm_Go (mm_run 11) mc_M_loads _ (178, [(0, .inr (.inr 407)), (1, .inl v1), (3, .inl v3), (4, .inl v4), (5, .inl v5), (6, .inl r28), (7, .inl r36), (8, .inl r63), (9, .inl r80), (10, .inl 0), (11, .inl 0), (12, .inl r131)], [], M131)
                refine mm_s1 rfl ?_
                show mm_Go (mm_run 11) mc_M_loads _ (181, [(0, .inr (.inr 407)), (1, .inl v1), (3, .inl v3), (4, .inl v4), (5, .inl (mm_w (v5 + 1))), (6, .inl r28), (7, .inl r36), (8, .inl r63), (9, .inl r80), (10, .inl 0), (11, .inl 0), (12, .inl r131)], [], M131)
                refine mm_s1 rfl ?_
                show mm_Go (mm_run 11) mc_M_loads _ (19, [(0, .inr (.inr 407)), (1, .inl v1), (3, .inl v3), (4, .inl v4), (5, .inl (mm_w (v5 + 1))), (6, .inl r28), (7, .inl r36), (8, .inl r63), (9, .inl r80), (10, .inl 0), (11, .inl 0), (12, .inl r131)], [], M131)
                exact nn_go_ext (nn_xc rfl (nn_xc rfl (nn_xc rfl (nn_xc rfl (nn_xc rfl nn_xn))))) (h n L N)
            · show mm_Go (mm_run 11) mc_M_loads _ (109, [(0, .inr (.inr 407)), (1, .inl v1), (3, .inl v3), (4, .inl v4), (5, .inl v5), (6, .inl r28), (7, .inl r36), (8, .inl r63), (9, .inl r80), (10, .inl 0)], [], M80)
              replace c106 := Int.not_le.mp c106
              replace h := h.2 c106
              refine mm_s1 rfl ?_
              refine mm_s1 rfl ?_
              refine mm_s1 rfl ⟨(nn_c407 NN).1, ?_⟩
              refine nn_call (D := 1) (by decide) (h n L N) ?_
              intro v M112 q; clear L N h
              obtain ⟨r112, rfl, L, N, h⟩ := q
              show mm_Go (mm_run 11) mc_M_loads _ (115, [(0, .inr (.inr 407)), (1, .inl v1), (3, .inl v3), (4, .inl v4), (5, .inl v5), (6, .inl r28), (7, .inl r36), (8, .inl r63), (9, .inl r80), (10, .inl 0)], [.inl r112], M112)
              refine mm_s1 rfl ?_
              show mm_Go (mm_run 11) mc_M_loads _ (119, [(0, .inr (.inr 407)), (1, .inl v1), (3, .inl v3), (4, .inl v4), (5, .inl v5), (6, .inl r28), (7, .inl r36), (8, .inl r63), (9, .inl r80), (10, .inl 0)], [.inl r112], M112)
              refine mm_s1 rfl ?_
              show mm_Go (mm_run 11) mc_M_loads _ (121, [(0, .inr (.inr 407)), (1, .inl v1), (3, .inl v3), (4, .inl v4), (5, .inl v5), (6, .inl r28), (7, .inl r36), (8, .inl r63), (9, .inl r80), (10, .inl 0), (11, .inl r112)], [], M112)
              refine mm_s1 rfl ?_
              refine mm_s1 rfl ⟨fun c123 => ?_, fun c123 => ?_⟩
              · show mm_Go (mm_run 11) mc_M_loads _ (137, [(0, .inr (.inr 407)), (1, .inl v1), (3, .inl v3), (4, .inl v4), (5, .inl v5), (6, .inl r28), (7, .inl r36), (8, .inl r63), (9, .inl r80), (10, .inl 0), (11, .inl r112)], [], M112)
                replace h := h.1 c123
                refine mm_s1 rfl ?_
                refine mm_s1 rfl ?_
                refine mm_s1 rfl ⟨fun c140 => ?_, fun c140 => ?_⟩
                · show mm_Go (mm_run 11) mc_M_loads _ (157, [(0, .inr (.inr 407)), (1, .inl v1), (3, .inl v3), (4, .inl v4), (5, .inl v5), (6, .inl r28), (7, .inl r36), (8, .inl r63), (9, .inl r80), (10, .inl 0), (11, .inl r112)], [], M112)
                  replace h := h.1 c140
                  refine mm_s1 rfl ?_
                  refine mm_s1 rfl ?_
                  refine mm_s1 rfl ?_
                  refine mm_s1 rfl ?_
                  refine mm_s1 rfl ?_
                  show mm_Go (mm_run 11) mc_M_loads _ (164, [(0, .inr (.inr 407)), (1, .inl v1), (3, .inl v3), (4, .inl v4), (5, .inl v5), (6, .inl r28), (7, .inl r36), (8, .inl r63), (9, .inl r80), (10, .inl 0), (11, .inl r112)], [.inl r63, .inl r36, .inl 0, .inl v1, .inr (.inr 407)], M112)
                  refine mm_s1 rfl ?_
                  refine mm_s1 rfl ?_
                  refine mm_s1 rfl ?_
                  refine mm_s1 rfl ⟨trivial, ?_⟩
                  refine np_M_packed (by decide) L N ?_
                  show mm_Go (mm_run 11) mc_M_loads _ (173, [(0, .inr (.inr 407)), (1, .inl v1), (3, .inl v3), (4, .inl v4), (5, .inl v5), (6, .inl r28), (7, .inl r36), (8, .inl r63), (9, .inl r80), (10, .inl 0), (11, .inl r112)], [.inl (nf_M_packed r63 r80 0 r112), .inl r36, .inl 0, .inl v1, .inr (.inr 407)], M112)
                  refine mm_s1 rfl ⟨(nn_c407 NN).1, ?_⟩
                  refine nn_call (D := 10) (by decide) (h n L N) ?_
                  intro v M173 q; clear L N h
                  obtain ⟨r173, rfl, L, N, h⟩ := q
                  show mm_Go (mm_run 11) mc_M_loads _ (176, [(0, .inr (.inr 407)), (1, .inl v1), (3, .inl v3), (4, .inl v4), (5, .inl v5), (6, .inl r28), (7, .inl r36), (8, .inl r63), (9, .inl r80), (10, .inl 0), (11, .inl r112)], [.inl r173], M173)
                  refine mm_s1 rfl ?_
                  show mm_Go (mm_run 11) mc_M_loads _ (178, [(0, .inr (.inr 407)), (1, .inl v1), (3, .inl v3), (4, .inl v4), (5, .inl v5), (6, .inl r28), (7, .inl r36), (8, .inl r63), (9, .inl r80), (10, .inl 0), (11, .inl r112), (12, .inl r173)], [], M173)
                  refine mm_s1 rfl ?_
                  show mm_Go (mm_run 11) mc_M_loads _ (181, [(0, .inr (.inr 407)), (1, .inl v1), (3, .inl v3), (4, .inl v4), (5, .inl (mm_w (v5 + 1))), (6, .inl r28), (7, .inl r36), (8, .inl r63), (9, .inl r80), (10, .inl 0), (11, .inl r112), (12, .inl r173)], [], M173)
                  refine mm_s1 rfl ?_
                  show mm_Go (mm_run 11) mc_M_loads _ (19, [(0, .inr (.inr 407)), (1, .inl v1), (3, .inl v3), (4, .inl v4), (5, .inl (mm_w (v5 + 1))), (6, .inl r28), (7, .inl r36), (8, .inl r63), (9, .inl r80), (10, .inl 0), (11, .inl r112), (12, .inl r173)], [], M173)
                  exact nn_go_ext (nn_xc rfl (nn_xc rfl (nn_xc rfl (nn_xc rfl (nn_xc rfl nn_xn))))) (h n L N)
                · show mm_Go (mm_run 11) mc_M_loads _ (143, [(0, .inr (.inr 407)), (1, .inl v1), (3, .inl v3), (4, .inl v4), (5, .inl v5), (6, .inl r28), (7, .inl r36), (8, .inl r63), (9, .inl r80), (10, .inl 0), (11, .inl r112)], [], M112)
                  replace c140 := Decidable.not_not.mp c140
                  replace h := h.2 c140
                  refine mm_s1 rfl ?_
                  refine mm_s1 rfl ?_
                  refine mm_s1 rfl ?_
                  refine mm_s1 rfl ?_
                  refine mm_s1 rfl ?_
                  show mm_Go (mm_run 11) mc_M_loads _ (151, [(0, .inr (.inr 407)), (1, .inl v1), (3, .inl v3), (4, .inl v4), (5, .inl v5), (6, .inl r28), (7, .inl r36), (8, .inl r63), (9, .inl r80), (10, .inl 0), (11, .inl r112)], [.inl r80, .inl r63, .inl r36, .inl v1, .inr (.inr 407)], M112)
                  refine mm_s1 rfl ⟨(nn_c407 NN).1, ?_⟩
                  refine nn_call (D := 11) (by decide) (h n L N) ?_
                  intro v M151 q; clear L N h
                  obtain ⟨r151, rfl, L, N, h⟩ := q
                  show mm_Go (mm_run 11) mc_M_loads _ (154, [(0, .inr (.inr 407)), (1, .inl v1), (3, .inl v3), (4, .inl v4), (5, .inl v5), (6, .inl r28), (7, .inl r36), (8, .inl r63), (9, .inl r80), (10, .inl 0), (11, .inl r112)], [.inl r151], M151)
                  refine mm_s1 rfl ?_
                  show mm_Go (mm_run 11) mc_M_loads _ (176, [(0, .inr (.inr 407)), (1, .inl v1), (3, .inl v3), (4, .inl v4), (5, .inl v5), (6, .inl r28), (7, .inl r36), (8, .inl r63), (9, .inl r80), (10, .inl 0), (11, .inl r112)], [.inl r151], M151)
                  refine mm_s1 rfl ?_
                  show mm_Go (mm_run 11) mc_M_loads _ (178, [(0, .inr (.inr 407)), (1, .inl v1), (3, .inl v3), (4, .inl v4), (5, .inl v5), (6, .inl r28), (7, .inl r36), (8, .inl r63), (9, .inl r80), (10, .inl 0), (11, .inl r112), (12, .inl r151)], [], M151)
                  refine mm_s1 rfl ?_
                  show mm_Go (mm_run 11) mc_M_loads _ (181, [(0, .inr (.inr 407)), (1, .inl v1), (3, .inl v3), (4, .inl v4), (5, .inl (mm_w (v5 + 1))), (6, .inl r28), (7, .inl r36), (8, .inl r63), (9, .inl r80), (10, .inl 0), (11, .inl r112), (12, .inl r151)], [], M151)
                  refine mm_s1 rfl ?_
                  show mm_Go (mm_run 11) mc_M_loads _ (19, [(0, .inr (.inr 407)), (1, .inl v1), (3, .inl v3), (4, .inl v4), (5, .inl (mm_w (v5 + 1))), (6, .inl r28), (7, .inl r36), (8, .inl r63), (9, .inl r80), (10, .inl 0), (11, .inl r112), (12, .inl r151)], [], M151)
                  exact nn_go_ext (nn_xc rfl (nn_xc rfl (nn_xc rfl (nn_xc rfl (nn_xc rfl nn_xn))))) (h n L N)
              · show mm_Go (mm_run 11) mc_M_loads _ (126, [(0, .inr (.inr 407)), (1, .inl v1), (3, .inl v3), (4, .inl v4), (5, .inl v5), (6, .inl r28), (7, .inl r36), (8, .inl r63), (9, .inl r80), (10, .inl 0), (11, .inl r112)], [], M112)
                replace c123 := Decidable.not_not.mp c123
                replace h := h.2 c123
                refine mm_s1 rfl ?_
                refine mm_s1 rfl ?_
                refine mm_s1 rfl ?_
                refine mm_s1 rfl ?_
                refine mm_s1 rfl ⟨(nn_c407 NN).1, ?_⟩
                refine nn_call (D := 9) (by decide) (h n L N) ?_
                intro v M131 q; clear L N h
                obtain ⟨r131, rfl, L, N, h⟩ := q
                show mm_Go (mm_run 11) mc_M_loads _ (134, [(0, .inr (.inr 407)), (1, .inl v1), (3, .inl v3), (4, .inl v4), (5, .inl v5), (6, .inl r28), (7, .inl r36), (8, .inl r63), (9, .inl r80), (10, .inl 0), (11, .inl r112)], [.inl r131], M131)
                refine mm_s1 rfl ?_
                show mm_Go (mm_run 11) mc_M_loads _ (176, [(0, .inr (.inr 407)), (1, .inl v1), (3, .inl v3), (4, .inl v4), (5, .inl v5), (6, .inl r28), (7, .inl r36), (8, .inl r63), (9, .inl r80), (10, .inl 0), (11, .inl r112)], [.inl r131], M131)
                refine mm_s1 rfl ?_
                show mm_Go (mm_run 11) mc_M_loads _ (178, [(0, .inr (.inr 407)), (1, .inl v1), (3, .inl v3), (4, .inl v4), (5, .inl v5), (6, .inl r28), (7, .inl r36), (8, .inl r63), (9, .inl r80), (10, .inl 0), (11, .inl r112), (12, .inl r131)], [], M131)
                refine mm_s1 rfl ?_
                show mm_Go (mm_run 11) mc_M_loads _ (181, [(0, .inr (.inr 407)), (1, .inl v1), (3, .inl v3), (4, .inl v4), (5, .inl (mm_w (v5 + 1))), (6, .inl r28), (7, .inl r36), (8, .inl r63), (9, .inl r80), (10, .inl 0), (11, .inl r112), (12, .inl r131)], [], M131)
                refine mm_s1 rfl ?_
                show mm_Go (mm_run 11) mc_M_loads _ (19, [(0, .inr (.inr 407)), (1, .inl v1), (3, .inl v3), (4, .inl v4), (5, .inl (mm_w (v5 + 1))), (6, .inl r28), (7, .inl r36), (8, .inl r63), (9, .inl r80), (10, .inl 0), (11, .inl r112), (12, .inl r131)], [], M131)
                exact nn_go_ext (nn_xc rfl (nn_xc rfl (nn_xc rfl (nn_xc rfl (nn_xc rfl nn_xn))))) (h n L N)
          · show mm_Go (mm_run 11) mc_M_loads _ (91, [(0, .inr (.inr 407)), (1, .inl v1), (3, .inl v3), (4, .inl v4), (5, .inl v5), (6, .inl r28), (7, .inl r36), (8, .inl r63), (9, .inl r80)], [], M80)
            replace c88 := Int.not_le.mp c88
            replace h := h.2 c88
            refine mm_s1 rfl ?_
            refine mm_s1 rfl ?_
            refine mm_s1 rfl ⟨(nn_c407 NN).1, ?_⟩
            refine nn_call (D := 1) (by decide) (h n L N) ?_
            intro v M94 q; clear L N h
            obtain ⟨r94, rfl, L, N, h⟩ := q
            show mm_Go (mm_run 11) mc_M_loads _ (97, [(0, .inr (.inr 407)), (1, .inl v1), (3, .inl v3), (4, .inl v4), (5, .inl v5), (6, .inl r28), (7, .inl r36), (8, .inl r63), (9, .inl r80)], [.inl r94], M94)
            refine mm_s1 rfl ?_
            show mm_Go (mm_run 11) mc_M_loads _ (101, [(0, .inr (.inr 407)), (1, .inl v1), (3, .inl v3), (4, .inl v4), (5, .inl v5), (6, .inl r28), (7, .inl r36), (8, .inl r63), (9, .inl r80)], [.inl r94], M94)
            refine mm_s1 rfl ?_
            show mm_Go (mm_run 11) mc_M_loads _ (103, [(0, .inr (.inr 407)), (1, .inl v1), (3, .inl v3), (4, .inl v4), (5, .inl v5), (6, .inl r28), (7, .inl r36), (8, .inl r63), (9, .inl r80), (10, .inl r94)], [], M94)
            refine mm_s1 rfl ?_
            refine mm_s1 rfl ?_
            refine mm_s1 rfl ⟨fun c106 => ?_, fun c106 => ?_⟩
            · show mm_Go (mm_run 11) mc_M_loads _ (118, [(0, .inr (.inr 407)), (1, .inl v1), (3, .inl v3), (4, .inl v4), (5, .inl v5), (6, .inl r28), (7, .inl r36), (8, .inl r63), (9, .inl r80), (10, .inl r94)], [], M94)
              replace h := h.1 c106
              refine mm_s1 rfl ?_
              refine mm_s1 rfl ?_
              show mm_Go (mm_run 11) mc_M_loads _ (121, [(0, .inr (.inr 407)), (1, .inl v1), (3, .inl v3), (4, .inl v4), (5, .inl v5), (6, .inl r28), (7, .inl r36), (8, .inl r63), (9, .inl r80), (10, .inl r94), (11, .inl 0)], [], M94)
              refine mm_s1 rfl ?_
              refine mm_s1 rfl ⟨fun c123 => ?_, fun c123 => ?_⟩
              · show mm_Go (mm_run 11) mc_M_loads _ (137, [(0, .inr (.inr 407)), (1, .inl v1), (3, .inl v3), (4, .inl v4), (5, .inl v5), (6, .inl r28), (7, .inl r36), (8, .inl r63), (9, .inl r80), (10, .inl r94), (11, .inl 0)], [], M94)
                replace h := h.1 c123
                refine mm_s1 rfl ?_
                refine mm_s1 rfl ?_
                refine mm_s1 rfl ⟨fun c140 => ?_, fun c140 => ?_⟩
                · show mm_Go (mm_run 11) mc_M_loads _ (157, [(0, .inr (.inr 407)), (1, .inl v1), (3, .inl v3), (4, .inl v4), (5, .inl v5), (6, .inl r28), (7, .inl r36), (8, .inl r63), (9, .inl r80), (10, .inl r94), (11, .inl 0)], [], M94)
                  replace h := h.1 c140
                  refine mm_s1 rfl ?_
                  refine mm_s1 rfl ?_
                  refine mm_s1 rfl ?_
                  refine mm_s1 rfl ?_
                  refine mm_s1 rfl ?_
                  show mm_Go (mm_run 11) mc_M_loads _ (164, [(0, .inr (.inr 407)), (1, .inl v1), (3, .inl v3), (4, .inl v4), (5, .inl v5), (6, .inl r28), (7, .inl r36), (8, .inl r63), (9, .inl r80), (10, .inl r94), (11, .inl 0)], [.inl r63, .inl r36, .inl 0, .inl v1, .inr (.inr 407)], M94)
                  refine mm_s1 rfl ?_
                  refine mm_s1 rfl ?_
                  refine mm_s1 rfl ?_
                  refine mm_s1 rfl ⟨trivial, ?_⟩
                  refine np_M_packed (by decide) L N ?_
                  show mm_Go (mm_run 11) mc_M_loads _ (173, [(0, .inr (.inr 407)), (1, .inl v1), (3, .inl v3), (4, .inl v4), (5, .inl v5), (6, .inl r28), (7, .inl r36), (8, .inl r63), (9, .inl r80), (10, .inl r94), (11, .inl 0)], [.inl (nf_M_packed r63 r80 r94 0), .inl r36, .inl 0, .inl v1, .inr (.inr 407)], M94)
                  refine mm_s1 rfl ⟨(nn_c407 NN).1, ?_⟩
                  refine nn_call (D := 10) (by decide) (h n L N) ?_
                  intro v M173 q; clear L N h
                  obtain ⟨r173, rfl, L, N, h⟩ := q
                  show mm_Go (mm_run 11) mc_M_loads _ (176, [(0, .inr (.inr 407)), (1, .inl v1), (3, .inl v3), (4, .inl v4), (5, .inl v5), (6, .inl r28), (7, .inl r36), (8, .inl r63), (9, .inl r80), (10, .inl r94), (11, .inl 0)], [.inl r173], M173)
                  refine mm_s1 rfl ?_
                  show mm_Go (mm_run 11) mc_M_loads _ (178, [(0, .inr (.inr 407)), (1, .inl v1), (3, .inl v3), (4, .inl v4), (5, .inl v5), (6, .inl r28), (7, .inl r36), (8, .inl r63), (9, .inl r80), (10, .inl r94), (11, .inl 0), (12, .inl r173)], [], M173)
                  refine mm_s1 rfl ?_
                  show mm_Go (mm_run 11) mc_M_loads _ (181, [(0, .inr (.inr 407)), (1, .inl v1), (3, .inl v3), (4, .inl v4), (5, .inl (mm_w (v5 + 1))), (6, .inl r28), (7, .inl r36), (8, .inl r63), (9, .inl r80), (10, .inl r94), (11, .inl 0), (12, .inl r173)], [], M173)
                  refine mm_s1 rfl ?_
                  show mm_Go (mm_run 11) mc_M_loads _ (19, [(0, .inr (.inr 407)), (1, .inl v1), (3, .inl v3), (4, .inl v4), (5, .inl (mm_w (v5 + 1))), (6, .inl r28), (7, .inl r36), (8, .inl r63), (9, .inl r80), (10, .inl r94), (11, .inl 0), (12, .inl r173)], [], M173)
                  exact nn_go_ext (nn_xc rfl (nn_xc rfl (nn_xc rfl (nn_xc rfl (nn_xc rfl nn_xn))))) (h n L N)
                · show mm_Go (mm_run 11) mc_M_loads _ (143, [(0, .inr (.inr 407)), (1, .inl v1), (3, .inl v3), (4, .inl v4), (5, .inl v5), (6, .inl r28), (7, .inl r36), (8, .inl r63), (9, .inl r80), (10, .inl r94), (11, .inl 0)], [], M94)
                  replace c140 := Decidable.not_not.mp c140
                  replace h := h.2 c140
                  refine mm_s1 rfl ?_
                  refine mm_s1 rfl ?_
                  refine mm_s1 rfl ?_
                  refine mm_s1 rfl ?_
                  refine mm_s1 rfl ?_
                  show mm_Go (mm_run 11) mc_M_loads _ (151, [(0, .inr (.inr 407)), (1, .inl v1), (3, .inl v3), (4, .inl v4), (5, .inl v5), (6, .inl r28), (7, .inl r36), (8, .inl r63), (9, .inl r80), (10, .inl r94), (11, .inl 0)], [.inl r80, .inl r63, .inl r36, .inl v1, .inr (.inr 407)], M94)
                  refine mm_s1 rfl ⟨(nn_c407 NN).1, ?_⟩
                  refine nn_call (D := 11) (by decide) (h n L N) ?_
                  intro v M151 q; clear L N h
                  obtain ⟨r151, rfl, L, N, h⟩ := q
                  show mm_Go (mm_run 11) mc_M_loads _ (154, [(0, .inr (.inr 407)), (1, .inl v1), (3, .inl v3), (4, .inl v4), (5, .inl v5), (6, .inl r28), (7, .inl r36), (8, .inl r63), (9, .inl r80), (10, .inl r94), (11, .inl 0)], [.inl r151], M151)
                  refine mm_s1 rfl ?_
                  show mm_Go (mm_run 11) mc_M_loads _ (176, [(0, .inr (.inr 407)), (1, .inl v1), (3, .inl v3), (4, .inl v4), (5, .inl v5), (6, .inl r28), (7, .inl r36), (8, .inl r63), (9, .inl r80), (10, .inl r94), (11, .inl 0)], [.inl r151], M151)
                  refine mm_s1 rfl ?_
                  show mm_Go (mm_run 11) mc_M_loads _ (178, [(0, .inr (.inr 407)), (1, .inl v1), (3, .inl v3), (4, .inl v4), (5, .inl v5), (6, .inl r28), (7, .inl r36), (8, .inl r63), (9, .inl r80), (10, .inl r94), (11, .inl 0), (12, .inl r151)], [], M151)
                  refine mm_s1 rfl ?_
                  show mm_Go (mm_run 11) mc_M_loads _ (181, [(0, .inr (.inr 407)), (1, .inl v1), (3, .inl v3), (4, .inl v4), (5, .inl (mm_w (v5 + 1))), (6, .inl r28), (7, .inl r36), (8, .inl r63), (9, .inl r80), (10, .inl r94), (11, .inl 0), (12, .inl r151)], [], M151)
                  refine mm_s1 rfl ?_
                  show mm_Go (mm_run 11) mc_M_loads _ (19, [(0, .inr (.inr 407)), (1, .inl v1), (3, .inl v3), (4, .inl v4), (5, .inl (mm_w (v5 + 1))), (6, .inl r28), (7, .inl r36), (8, .inl r63), (9, .inl r80), (10, .inl r94), (11, .inl 0), (12, .inl r151)], [], M151)
                  exact nn_go_ext (nn_xc rfl (nn_xc rfl (nn_xc rfl (nn_xc rfl (nn_xc rfl nn_xn))))) (h n L N)
              · show mm_Go (mm_run 11) mc_M_loads _ (126, [(0, .inr (.inr 407)), (1, .inl v1), (3, .inl v3), (4, .inl v4), (5, .inl v5), (6, .inl r28), (7, .inl r36), (8, .inl r63), (9, .inl r80), (10, .inl r94), (11, .inl 0)], [], M94)
                replace c123 := Decidable.not_not.mp c123
                replace h := h.2 c123
                refine mm_s1 rfl ?_
                refine mm_s1 rfl ?_
                refine mm_s1 rfl ?_
                refine mm_s1 rfl ?_
                refine mm_s1 rfl ⟨(nn_c407 NN).1, ?_⟩
                refine nn_call (D := 9) (by decide) (h n L N) ?_
                intro v M131 q; clear L N h
                obtain ⟨r131, rfl, L, N, h⟩ := q
                show mm_Go (mm_run 11) mc_M_loads _ (134, [(0, .inr (.inr 407)), (1, .inl v1), (3, .inl v3), (4, .inl v4), (5, .inl v5), (6, .inl r28), (7, .inl r36), (8, .inl r63), (9, .inl r80), (10, .inl r94), (11, .inl 0)], [.inl r131], M131)
                refine mm_s1 rfl ?_
                show mm_Go (mm_run 11) mc_M_loads _ (176, [(0, .inr (.inr 407)), (1, .inl v1), (3, .inl v3), (4, .inl v4), (5, .inl v5), (6, .inl r28), (7, .inl r36), (8, .inl r63), (9, .inl r80), (10, .inl r94), (11, .inl 0)], [.inl r131], M131)
                refine mm_s1 rfl ?_
                show mm_Go (mm_run 11) mc_M_loads _ (178, [(0, .inr (.inr 407)), (1, .inl v1), (3, .inl v3), (4, .inl v4), (5, .inl v5), (6, .inl r28), (7, .inl r36), (8, .inl r63), (9, .inl r80), (10, .inl r94), (11, .inl 0), (12, .inl r131)], [], M131)
                refine mm_s1 rfl ?_
                show mm_Go (mm_run 11) mc_M_loads _ (181, [(0, .inr (.inr 407)), (1, .inl v1), (3, .inl v3), (4, .inl v4), (5, .inl (mm_w (v5 + 1))), (6, .inl r28), (7, .inl r36), (8, .inl r63), (9, .inl r80), (10, .inl r94), (11, .inl 0), (12, .inl r131)], [], M131)
                refine mm_s1 rfl ?_
                show mm_Go (mm_run 11) mc_M_loads _ (19, [(0, .inr (.inr 407)), (1, .inl v1), (3, .inl v3), (4, .inl v4), (5, .inl (mm_w (v5 + 1))), (6, .inl r28), (7, .inl r36), (8, .inl r63), (9, .inl r80), (10, .inl r94), (11, .inl 0), (12, .inl r131)], [], M131)
                exact nn_go_ext (nn_xc rfl (nn_xc rfl (nn_xc rfl (nn_xc rfl (nn_xc rfl nn_xn))))) (h n L N)
            · show mm_Go (mm_run 11) mc_M_loads _ (109, [(0, .inr (.inr 407)), (1, .inl v1), (3, .inl v3), (4, .inl v4), (5, .inl v5), (6, .inl r28), (7, .inl r36), (8, .inl r63), (9, .inl r80), (10, .inl r94)], [], M94)
              replace c106 := Int.not_le.mp c106
              replace h := h.2 c106
              refine mm_s1 rfl ?_
              refine mm_s1 rfl ?_
              refine mm_s1 rfl ⟨(nn_c407 NN).1, ?_⟩
              refine nn_call (D := 1) (by decide) (h n L N) ?_
              intro v M112 q; clear L N h
              obtain ⟨r112, rfl, L, N, h⟩ := q
              show mm_Go (mm_run 11) mc_M_loads _ (115, [(0, .inr (.inr 407)), (1, .inl v1), (3, .inl v3), (4, .inl v4), (5, .inl v5), (6, .inl r28), (7, .inl r36), (8, .inl r63), (9, .inl r80), (10, .inl r94)], [.inl r112], M112)
              refine mm_s1 rfl ?_
              show mm_Go (mm_run 11) mc_M_loads _ (119, [(0, .inr (.inr 407)), (1, .inl v1), (3, .inl v3), (4, .inl v4), (5, .inl v5), (6, .inl r28), (7, .inl r36), (8, .inl r63), (9, .inl r80), (10, .inl r94)], [.inl r112], M112)
              refine mm_s1 rfl ?_
              show mm_Go (mm_run 11) mc_M_loads _ (121, [(0, .inr (.inr 407)), (1, .inl v1), (3, .inl v3), (4, .inl v4), (5, .inl v5), (6, .inl r28), (7, .inl r36), (8, .inl r63), (9, .inl r80), (10, .inl r94), (11, .inl r112)], [], M112)
              refine mm_s1 rfl ?_
              refine mm_s1 rfl ⟨fun c123 => ?_, fun c123 => ?_⟩
              · show mm_Go (mm_run 11) mc_M_loads _ (137, [(0, .inr (.inr 407)), (1, .inl v1), (3, .inl v3), (4, .inl v4), (5, .inl v5), (6, .inl r28), (7, .inl r36), (8, .inl r63), (9, .inl r80), (10, .inl r94), (11, .inl r112)], [], M112)
                replace h := h.1 c123
                refine mm_s1 rfl ?_
                refine mm_s1 rfl ?_
                refine mm_s1 rfl ⟨fun c140 => ?_, fun c140 => ?_⟩
                · show mm_Go (mm_run 11) mc_M_loads _ (157, [(0, .inr (.inr 407)), (1, .inl v1), (3, .inl v3), (4, .inl v4), (5, .inl v5), (6, .inl r28), (7, .inl r36), (8, .inl r63), (9, .inl r80), (10, .inl r94), (11, .inl r112)], [], M112)
                  replace h := h.1 c140
                  refine mm_s1 rfl ?_
                  refine mm_s1 rfl ?_
                  refine mm_s1 rfl ?_
                  refine mm_s1 rfl ?_
                  refine mm_s1 rfl ?_
                  show mm_Go (mm_run 11) mc_M_loads _ (164, [(0, .inr (.inr 407)), (1, .inl v1), (3, .inl v3), (4, .inl v4), (5, .inl v5), (6, .inl r28), (7, .inl r36), (8, .inl r63), (9, .inl r80), (10, .inl r94), (11, .inl r112)], [.inl r63, .inl r36, .inl 0, .inl v1, .inr (.inr 407)], M112)
                  refine mm_s1 rfl ?_
                  refine mm_s1 rfl ?_
                  refine mm_s1 rfl ?_
                  refine mm_s1 rfl ⟨trivial, ?_⟩
                  refine np_M_packed (by decide) L N ?_
                  show mm_Go (mm_run 11) mc_M_loads _ (173, [(0, .inr (.inr 407)), (1, .inl v1), (3, .inl v3), (4, .inl v4), (5, .inl v5), (6, .inl r28), (7, .inl r36), (8, .inl r63), (9, .inl r80), (10, .inl r94), (11, .inl r112)], [.inl (nf_M_packed r63 r80 r94 r112), .inl r36, .inl 0, .inl v1, .inr (.inr 407)], M112)
                  refine mm_s1 rfl ⟨(nn_c407 NN).1, ?_⟩
                  refine nn_call (D := 10) (by decide) (h n L N) ?_
                  intro v M173 q; clear L N h
                  obtain ⟨r173, rfl, L, N, h⟩ := q
                  show mm_Go (mm_run 11) mc_M_loads _ (176, [(0, .inr (.inr 407)), (1, .inl v1), (3, .inl v3), (4, .inl v4), (5, .inl v5), (6, .inl r28), (7, .inl r36), (8, .inl r63), (9, .inl r80), (10, .inl r94), (11, .inl r112)], [.inl r173], M173)
                  refine mm_s1 rfl ?_
                  show mm_Go (mm_run 11) mc_M_loads _ (178, [(0, .inr (.inr 407)), (1, .inl v1), (3, .inl v3), (4, .inl v4), (5, .inl v5), (6, .inl r28), (7, .inl r36), (8, .inl r63), (9, .inl r80), (10, .inl r94), (11, .inl r112), (12, .inl r173)], [], M173)
                  refine mm_s1 rfl ?_
                  show mm_Go (mm_run 11) mc_M_loads _ (181, [(0, .inr (.inr 407)), (1, .inl v1), (3, .inl v3), (4, .inl v4), (5, .inl (mm_w (v5 + 1))), (6, .inl r28), (7, .inl r36), (8, .inl r63), (9, .inl r80), (10, .inl r94), (11, .inl r112), (12, .inl r173)], [], M173)
                  refine mm_s1 rfl ?_
                  show mm_Go (mm_run 11) mc_M_loads _ (19, [(0, .inr (.inr 407)), (1, .inl v1), (3, .inl v3), (4, .inl v4), (5, .inl (mm_w (v5 + 1))), (6, .inl r28), (7, .inl r36), (8, .inl r63), (9, .inl r80), (10, .inl r94), (11, .inl r112), (12, .inl r173)], [], M173)
                  exact nn_go_ext (nn_xc rfl (nn_xc rfl (nn_xc rfl (nn_xc rfl (nn_xc rfl nn_xn))))) (h n L N)
                · show mm_Go (mm_run 11) mc_M_loads _ (143, [(0, .inr (.inr 407)), (1, .inl v1), (3, .inl v3), (4, .inl v4), (5, .inl v5), (6, .inl r28), (7, .inl r36), (8, .inl r63), (9, .inl r80), (10, .inl r94), (11, .inl r112)], [], M112)
                  replace c140 := Decidable.not_not.mp c140
                  replace h := h.2 c140
                  refine mm_s1 rfl ?_
                  refine mm_s1 rfl ?_
                  refine mm_s1 rfl ?_
                  refine mm_s1 rfl ?_
                  refine mm_s1 rfl ?_
                  show mm_Go (mm_run 11) mc_M_loads _ (151, [(0, .inr (.inr 407)), (1, .inl v1), (3, .inl v3), (4, .inl v4), (5, .inl v5), (6, .inl r28), (7, .inl r36), (8, .inl r63), (9, .inl r80), (10, .inl r94), (11, .inl r112)], [.inl r80, .inl r63, .inl r36, .inl v1, .inr (.inr 407)], M112)
                  refine mm_s1 rfl ⟨(nn_c407 NN).1, ?_⟩
                  refine nn_call (D := 11) (by decide) (h n L N) ?_
                  intro v M151 q; clear L N h
                  obtain ⟨r151, rfl, L, N, h⟩ := q
                  show mm_Go (mm_run 11) mc_M_loads _ (154, [(0, .inr (.inr 407)), (1, .inl v1), (3, .inl v3), (4, .inl v4), (5, .inl v5), (6, .inl r28), (7, .inl r36), (8, .inl r63), (9, .inl r80), (10, .inl r94), (11, .inl r112)], [.inl r151], M151)
                  refine mm_s1 rfl ?_
                  show mm_Go (mm_run 11) mc_M_loads _ (176, [(0, .inr (.inr 407)), (1, .inl v1), (3, .inl v3), (4, .inl v4), (5, .inl v5), (6, .inl r28), (7, .inl r36), (8, .inl r63), (9, .inl r80), (10, .inl r94), (11, .inl r112)], [.inl r151], M151)
                  refine mm_s1 rfl ?_
                  show mm_Go (mm_run 11) mc_M_loads _ (178, [(0, .inr (.inr 407)), (1, .inl v1), (3, .inl v3), (4, .inl v4), (5, .inl v5), (6, .inl r28), (7, .inl r36), (8, .inl r63), (9, .inl r80), (10, .inl r94), (11, .inl r112), (12, .inl r151)], [], M151)
                  refine mm_s1 rfl ?_
                  show mm_Go (mm_run 11) mc_M_loads _ (181, [(0, .inr (.inr 407)), (1, .inl v1), (3, .inl v3), (4, .inl v4), (5, .inl (mm_w (v5 + 1))), (6, .inl r28), (7, .inl r36), (8, .inl r63), (9, .inl r80), (10, .inl r94), (11, .inl r112), (12, .inl r151)], [], M151)
                  refine mm_s1 rfl ?_
                  show mm_Go (mm_run 11) mc_M_loads _ (19, [(0, .inr (.inr 407)), (1, .inl v1), (3, .inl v3), (4, .inl v4), (5, .inl (mm_w (v5 + 1))), (6, .inl r28), (7, .inl r36), (8, .inl r63), (9, .inl r80), (10, .inl r94), (11, .inl r112), (12, .inl r151)], [], M151)
                  exact nn_go_ext (nn_xc rfl (nn_xc rfl (nn_xc rfl (nn_xc rfl (nn_xc rfl nn_xn))))) (h n L N)
              · show mm_Go (mm_run 11) mc_M_loads _ (126, [(0, .inr (.inr 407)), (1, .inl v1), (3, .inl v3), (4, .inl v4), (5, .inl v5), (6, .inl r28), (7, .inl r36), (8, .inl r63), (9, .inl r80), (10, .inl r94), (11, .inl r112)], [], M112)
                replace c123 := Decidable.not_not.mp c123
                replace h := h.2 c123
                refine mm_s1 rfl ?_
                refine mm_s1 rfl ?_
                refine mm_s1 rfl ?_
                refine mm_s1 rfl ?_
                refine mm_s1 rfl ⟨(nn_c407 NN).1, ?_⟩
                refine nn_call (D := 9) (by decide) (h n L N) ?_
                intro v M131 q; clear L N h
                obtain ⟨r131, rfl, L, N, h⟩ := q
                show mm_Go (mm_run 11) mc_M_loads _ (134, [(0, .inr (.inr 407)), (1, .inl v1), (3, .inl v3), (4, .inl v4), (5, .inl v5), (6, .inl r28), (7, .inl r36), (8, .inl r63), (9, .inl r80), (10, .inl r94), (11, .inl r112)], [.inl r131], M131)
                refine mm_s1 rfl ?_
                show mm_Go (mm_run 11) mc_M_loads _ (176, [(0, .inr (.inr 407)), (1, .inl v1), (3, .inl v3), (4, .inl v4), (5, .inl v5), (6, .inl r28), (7, .inl r36), (8, .inl r63), (9, .inl r80), (10, .inl r94), (11, .inl r112)], [.inl r131], M131)
                refine mm_s1 rfl ?_
                show mm_Go (mm_run 11) mc_M_loads _ (178, [(0, .inr (.inr 407)), (1, .inl v1), (3, .inl v3), (4, .inl v4), (5, .inl v5), (6, .inl r28), (7, .inl r36), (8, .inl r63), (9, .inl r80), (10, .inl r94), (11, .inl r112), (12, .inl r131)], [], M131)
                refine mm_s1 rfl ?_
                show mm_Go (mm_run 11) mc_M_loads _ (181, [(0, .inr (.inr 407)), (1, .inl v1), (3, .inl v3), (4, .inl v4), (5, .inl (mm_w (v5 + 1))), (6, .inl r28), (7, .inl r36), (8, .inl r63), (9, .inl r80), (10, .inl r94), (11, .inl r112), (12, .inl r131)], [], M131)
                refine mm_s1 rfl ?_
                show mm_Go (mm_run 11) mc_M_loads _ (19, [(0, .inr (.inr 407)), (1, .inl v1), (3, .inl v3), (4, .inl v4), (5, .inl (mm_w (v5 + 1))), (6, .inl r28), (7, .inl r36), (8, .inl r63), (9, .inl r80), (10, .inl r94), (11, .inl r112), (12, .inl r131)], [], M131)
                exact nn_go_ext (nn_xc rfl (nn_xc rfl (nn_xc rfl (nn_xc rfl (nn_xc rfl nn_xn))))) (h n L N)
        · show mm_Go (mm_run 11) mc_M_loads _ (73, [(0, .inr (.inr 407)), (1, .inl v1), (3, .inl v3), (4, .inl v4), (5, .inl v5), (6, .inl r28), (7, .inl r36), (8, .inl r63)], [], M63)
          replace c70 := Decidable.not_not.mp c70
          replace h := h.2 c70
          refine mm_s1 rfl ?_
          refine mm_s1 rfl ?_
          show mm_Go (mm_run 11) mc_M_loads _ (83, [(0, .inr (.inr 407)), (1, .inl v1), (3, .inl v3), (4, .inl v4), (5, .inl v5), (6, .inl r28), (7, .inl r36), (8, .inl r63)], [.inl 0], M63)
          refine mm_s1 rfl ?_
          show mm_Go (mm_run 11) mc_M_loads _ (85, [(0, .inr (.inr 407)), (1, .inl v1), (3, .inl v3), (4, .inl v4), (5, .inl v5), (6, .inl r28), (7, .inl r36), (8, .inl r63), (9, .inl 0)], [], M63)
          refine mm_s1 rfl ?_
          refine mm_s1 rfl ?_
          refine mm_s1 rfl ⟨fun c88 => ?_, fun c88 => ?_⟩
          · show mm_Go (mm_run 11) mc_M_loads _ (100, [(0, .inr (.inr 407)), (1, .inl v1), (3, .inl v3), (4, .inl v4), (5, .inl v5), (6, .inl r28), (7, .inl r36), (8, .inl r63), (9, .inl 0)], [], M63)
            replace h := h.1 c88
            refine mm_s1 rfl ?_
            refine mm_s1 rfl ?_
            show mm_Go (mm_run 11) mc_M_loads _ (103, [(0, .inr (.inr 407)), (1, .inl v1), (3, .inl v3), (4, .inl v4), (5, .inl v5), (6, .inl r28), (7, .inl r36), (8, .inl r63), (9, .inl 0), (10, .inl 0)], [], M63)
            refine mm_s1 rfl ?_
            refine mm_s1 rfl ?_
            refine mm_s1 rfl ⟨fun c106 => ?_, fun c106 => ?_⟩
            · show mm_Go (mm_run 11) mc_M_loads _ (118, [(0, .inr (.inr 407)), (1, .inl v1), (3, .inl v3), (4, .inl v4), (5, .inl v5), (6, .inl r28), (7, .inl r36), (8, .inl r63), (9, .inl 0), (10, .inl 0)], [], M63)
              replace h := h.1 c106
              refine mm_s1 rfl ?_
              refine mm_s1 rfl ?_
              show mm_Go (mm_run 11) mc_M_loads _ (121, [(0, .inr (.inr 407)), (1, .inl v1), (3, .inl v3), (4, .inl v4), (5, .inl v5), (6, .inl r28), (7, .inl r36), (8, .inl r63), (9, .inl 0), (10, .inl 0), (11, .inl 0)], [], M63)
              refine mm_s1 rfl ?_
              refine mm_s1 rfl ⟨fun c123 => ?_, fun c123 => ?_⟩
              · show mm_Go (mm_run 11) mc_M_loads _ (137, [(0, .inr (.inr 407)), (1, .inl v1), (3, .inl v3), (4, .inl v4), (5, .inl v5), (6, .inl r28), (7, .inl r36), (8, .inl r63), (9, .inl 0), (10, .inl 0), (11, .inl 0)], [], M63)
                replace h := h.1 c123
                refine mm_s1 rfl ?_
                refine mm_s1 rfl ?_
                refine mm_s1 rfl ⟨fun c140 => ?_, fun c140 => ?_⟩
                · show mm_Go (mm_run 11) mc_M_loads _ (157, [(0, .inr (.inr 407)), (1, .inl v1), (3, .inl v3), (4, .inl v4), (5, .inl v5), (6, .inl r28), (7, .inl r36), (8, .inl r63), (9, .inl 0), (10, .inl 0), (11, .inl 0)], [], M63)
                  replace h := h.1 c140
                  refine mm_s1 rfl ?_
                  refine mm_s1 rfl ?_
                  refine mm_s1 rfl ?_
                  refine mm_s1 rfl ?_
                  refine mm_s1 rfl ?_
                  show mm_Go (mm_run 11) mc_M_loads _ (164, [(0, .inr (.inr 407)), (1, .inl v1), (3, .inl v3), (4, .inl v4), (5, .inl v5), (6, .inl r28), (7, .inl r36), (8, .inl r63), (9, .inl 0), (10, .inl 0), (11, .inl 0)], [.inl r63, .inl r36, .inl 0, .inl v1, .inr (.inr 407)], M63)
                  refine mm_s1 rfl ?_
                  refine mm_s1 rfl ?_
                  refine mm_s1 rfl ?_
                  refine mm_s1 rfl ⟨trivial, ?_⟩
                  refine np_M_packed (by decide) L N ?_
                  show mm_Go (mm_run 11) mc_M_loads _ (173, [(0, .inr (.inr 407)), (1, .inl v1), (3, .inl v3), (4, .inl v4), (5, .inl v5), (6, .inl r28), (7, .inl r36), (8, .inl r63), (9, .inl 0), (10, .inl 0), (11, .inl 0)], [.inl (nf_M_packed r63 0 0 0), .inl r36, .inl 0, .inl v1, .inr (.inr 407)], M63)
                  refine mm_s1 rfl ⟨(nn_c407 NN).1, ?_⟩
                  refine nn_call (D := 10) (by decide) (h n L N) ?_
                  intro v M173 q; clear L N h
                  obtain ⟨r173, rfl, L, N, h⟩ := q
                  show mm_Go (mm_run 11) mc_M_loads _ (176, [(0, .inr (.inr 407)), (1, .inl v1), (3, .inl v3), (4, .inl v4), (5, .inl v5), (6, .inl r28), (7, .inl r36), (8, .inl r63), (9, .inl 0), (10, .inl 0), (11, .inl 0)], [.inl r173], M173)
                  refine mm_s1 rfl ?_
                  show mm_Go (mm_run 11) mc_M_loads _ (178, [(0, .inr (.inr 407)), (1, .inl v1), (3, .inl v3), (4, .inl v4), (5, .inl v5), (6, .inl r28), (7, .inl r36), (8, .inl r63), (9, .inl 0), (10, .inl 0), (11, .inl 0), (12, .inl r173)], [], M173)
                  refine mm_s1 rfl ?_
                  show mm_Go (mm_run 11) mc_M_loads _ (181, [(0, .inr (.inr 407)), (1, .inl v1), (3, .inl v3), (4, .inl v4), (5, .inl (mm_w (v5 + 1))), (6, .inl r28), (7, .inl r36), (8, .inl r63), (9, .inl 0), (10, .inl 0), (11, .inl 0), (12, .inl r173)], [], M173)
                  refine mm_s1 rfl ?_
                  show mm_Go (mm_run 11) mc_M_loads _ (19, [(0, .inr (.inr 407)), (1, .inl v1), (3, .inl v3), (4, .inl v4), (5, .inl (mm_w (v5 + 1))), (6, .inl r28), (7, .inl r36), (8, .inl r63), (9, .inl 0), (10, .inl 0), (11, .inl 0), (12, .inl r173)], [], M173)
                  exact nn_go_ext (nn_xc rfl (nn_xc rfl (nn_xc rfl (nn_xc rfl (nn_xc rfl nn_xn))))) (h n L N)
                · show mm_Go (mm_run 11) mc_M_loads _ (143, [(0, .inr (.inr 407)), (1, .inl v1), (3, .inl v3), (4, .inl v4), (5, .inl v5), (6, .inl r28), (7, .inl r36), (8, .inl r63), (9, .inl 0), (10, .inl 0), (11, .inl 0)], [], M63)
                  replace c140 := Decidable.not_not.mp c140
                  replace h := h.2 c140
                  refine mm_s1 rfl ?_
                  refine mm_s1 rfl ?_
                  refine mm_s1 rfl ?_
                  refine mm_s1 rfl ?_
                  refine mm_s1 rfl ?_
                  show mm_Go (mm_run 11) mc_M_loads _ (151, [(0, .inr (.inr 407)), (1, .inl v1), (3, .inl v3), (4, .inl v4), (5, .inl v5), (6, .inl r28), (7, .inl r36), (8, .inl r63), (9, .inl 0), (10, .inl 0), (11, .inl 0)], [.inl 0, .inl r63, .inl r36, .inl v1, .inr (.inr 407)], M63)
                  refine mm_s1 rfl ⟨(nn_c407 NN).1, ?_⟩
                  refine nn_call (D := 11) (by decide) (h n L N) ?_
                  intro v M151 q; clear L N h
                  obtain ⟨r151, rfl, L, N, h⟩ := q
                  show mm_Go (mm_run 11) mc_M_loads _ (154, [(0, .inr (.inr 407)), (1, .inl v1), (3, .inl v3), (4, .inl v4), (5, .inl v5), (6, .inl r28), (7, .inl r36), (8, .inl r63), (9, .inl 0), (10, .inl 0), (11, .inl 0)], [.inl r151], M151)
                  refine mm_s1 rfl ?_
                  show mm_Go (mm_run 11) mc_M_loads _ (176, [(0, .inr (.inr 407)), (1, .inl v1), (3, .inl v3), (4, .inl v4), (5, .inl v5), (6, .inl r28), (7, .inl r36), (8, .inl r63), (9, .inl 0), (10, .inl 0), (11, .inl 0)], [.inl r151], M151)
                  refine mm_s1 rfl ?_
                  show mm_Go (mm_run 11) mc_M_loads _ (178, [(0, .inr (.inr 407)), (1, .inl v1), (3, .inl v3), (4, .inl v4), (5, .inl v5), (6, .inl r28), (7, .inl r36), (8, .inl r63), (9, .inl 0), (10, .inl 0), (11, .inl 0), (12, .inl r151)], [], M151)
                  refine mm_s1 rfl ?_
                  show mm_Go (mm_run 11) mc_M_loads _ (181, [(0, .inr (.inr 407)), (1, .inl v1), (3, .inl v3), (4, .inl v4), (5, .inl (mm_w (v5 + 1))), (6, .inl r28), (7, .inl r36), (8, .inl r63), (9, .inl 0), (10, .inl 0), (11, .inl 0), (12, .inl r151)], [], M151)
                  refine mm_s1 rfl ?_
                  show mm_Go (mm_run 11) mc_M_loads _ (19, [(0, .inr (.inr 407)), (1, .inl v1), (3, .inl v3), (4, .inl v4), (5, .inl (mm_w (v5 + 1))), (6, .inl r28), (7, .inl r36), (8, .inl r63), (9, .inl 0), (10, .inl 0), (11, .inl 0), (12, .inl r151)], [], M151)
                  exact nn_go_ext (nn_xc rfl (nn_xc rfl (nn_xc rfl (nn_xc rfl (nn_xc rfl nn_xn))))) (h n L N)
              · show mm_Go (mm_run 11) mc_M_loads _ (126, [(0, .inr (.inr 407)), (1, .inl v1), (3, .inl v3), (4, .inl v4), (5, .inl v5), (6, .inl r28), (7, .inl r36), (8, .inl r63), (9, .inl 0), (10, .inl 0), (11, .inl 0)], [], M63)
                replace c123 := Decidable.not_not.mp c123
                replace h := h.2 c123
                refine mm_s1 rfl ?_
                refine mm_s1 rfl ?_
                refine mm_s1 rfl ?_
                refine mm_s1 rfl ?_
                refine mm_s1 rfl ⟨(nn_c407 NN).1, ?_⟩
                refine nn_call (D := 9) (by decide) (h n L N) ?_
                intro v M131 q; clear L N h
                obtain ⟨r131, rfl, L, N, h⟩ := q
                show mm_Go (mm_run 11) mc_M_loads _ (134, [(0, .inr (.inr 407)), (1, .inl v1), (3, .inl v3), (4, .inl v4), (5, .inl v5), (6, .inl r28), (7, .inl r36), (8, .inl r63), (9, .inl 0), (10, .inl 0), (11, .inl 0)], [.inl r131], M131)
                refine mm_s1 rfl ?_
                show mm_Go (mm_run 11) mc_M_loads _ (176, [(0, .inr (.inr 407)), (1, .inl v1), (3, .inl v3), (4, .inl v4), (5, .inl v5), (6, .inl r28), (7, .inl r36), (8, .inl r63), (9, .inl 0), (10, .inl 0), (11, .inl 0)], [.inl r131], M131)
                refine mm_s1 rfl ?_
                show mm_Go (mm_run 11) mc_M_loads _ (178, [(0, .inr (.inr 407)), (1, .inl v1), (3, .inl v3), (4, .inl v4), (5, .inl v5), (6, .inl r28), (7, .inl r36), (8, .inl r63), (9, .inl 0), (10, .inl 0), (11, .inl 0), (12, .inl r131)], [], M131)
                refine mm_s1 rfl ?_
                show mm_Go (mm_run 11) mc_M_loads _ (181, [(0, .inr (.inr 407)), (1, .inl v1), (3, .inl v3), (4, .inl v4), (5, .inl (mm_w (v5 + 1))), (6, .inl r28), (7, .inl r36), (8, .inl r63), (9, .inl 0), (10, .inl 0), (11, .inl 0), (12, .inl r131)], [], M131)
                refine mm_s1 rfl ?_
                show mm_Go (mm_run 11) mc_M_loads _ (19, [(0, .inr (.inr 407)), (1, .inl v1), (3, .inl v3), (4, .inl v4), (5, .inl (mm_w (v5 + 1))), (6, .inl r28), (7, .inl r36), (8, .inl r63), (9, .inl 0), (10, .inl 0), (11, .inl 0), (12, .inl r131)], [], M131)
                exact nn_go_ext (nn_xc rfl (nn_xc rfl (nn_xc rfl (nn_xc rfl (nn_xc rfl nn_xn))))) (h n L N)
            · show mm_Go (mm_run 11) mc_M_loads _ (109, [(0, .inr (.inr 407)), (1, .inl v1), (3, .inl v3), (4, .inl v4), (5, .inl v5), (6, .inl r28), (7, .inl r36), (8, .inl r63), (9, .inl 0), (10, .inl 0)], [], M63)
              replace c106 := Int.not_le.mp c106
              replace h := h.2 c106
              refine mm_s1 rfl ?_
              refine mm_s1 rfl ?_
              refine mm_s1 rfl ⟨(nn_c407 NN).1, ?_⟩
              refine nn_call (D := 1) (by decide) (h n L N) ?_
              intro v M112 q; clear L N h
              obtain ⟨r112, rfl, L, N, h⟩ := q
              show mm_Go (mm_run 11) mc_M_loads _ (115, [(0, .inr (.inr 407)), (1, .inl v1), (3, .inl v3), (4, .inl v4), (5, .inl v5), (6, .inl r28), (7, .inl r36), (8, .inl r63), (9, .inl 0), (10, .inl 0)], [.inl r112], M112)
              refine mm_s1 rfl ?_
              show mm_Go (mm_run 11) mc_M_loads _ (119, [(0, .inr (.inr 407)), (1, .inl v1), (3, .inl v3), (4, .inl v4), (5, .inl v5), (6, .inl r28), (7, .inl r36), (8, .inl r63), (9, .inl 0), (10, .inl 0)], [.inl r112], M112)
              refine mm_s1 rfl ?_
              show mm_Go (mm_run 11) mc_M_loads _ (121, [(0, .inr (.inr 407)), (1, .inl v1), (3, .inl v3), (4, .inl v4), (5, .inl v5), (6, .inl r28), (7, .inl r36), (8, .inl r63), (9, .inl 0), (10, .inl 0), (11, .inl r112)], [], M112)
              refine mm_s1 rfl ?_
              refine mm_s1 rfl ⟨fun c123 => ?_, fun c123 => ?_⟩
              · show mm_Go (mm_run 11) mc_M_loads _ (137, [(0, .inr (.inr 407)), (1, .inl v1), (3, .inl v3), (4, .inl v4), (5, .inl v5), (6, .inl r28), (7, .inl r36), (8, .inl r63), (9, .inl 0), (10, .inl 0), (11, .inl r112)], [], M112)
                replace h := h.1 c123
                refine mm_s1 rfl ?_
                refine mm_s1 rfl ?_
                refine mm_s1 rfl ⟨fun c140 => ?_, fun c140 => ?_⟩
                · show mm_Go (mm_run 11) mc_M_loads _ (157, [(0, .inr (.inr 407)), (1, .inl v1), (3, .inl v3), (4, .inl v4), (5, .inl v5), (6, .inl r28), (7, .inl r36), (8, .inl r63), (9, .inl 0), (10, .inl 0), (11, .inl r112)], [], M112)
                  replace h := h.1 c140
                  refine mm_s1 rfl ?_
                  refine mm_s1 rfl ?_
                  refine mm_s1 rfl ?_
                  refine mm_s1 rfl ?_
                  refine mm_s1 rfl ?_
                  show mm_Go (mm_run 11) mc_M_loads _ (164, [(0, .inr (.inr 407)), (1, .inl v1), (3, .inl v3), (4, .inl v4), (5, .inl v5), (6, .inl r28), (7, .inl r36), (8, .inl r63), (9, .inl 0), (10, .inl 0), (11, .inl r112)], [.inl r63, .inl r36, .inl 0, .inl v1, .inr (.inr 407)], M112)
                  refine mm_s1 rfl ?_
                  refine mm_s1 rfl ?_
                  refine mm_s1 rfl ?_
                  refine mm_s1 rfl ⟨trivial, ?_⟩
                  refine np_M_packed (by decide) L N ?_
                  show mm_Go (mm_run 11) mc_M_loads _ (173, [(0, .inr (.inr 407)), (1, .inl v1), (3, .inl v3), (4, .inl v4), (5, .inl v5), (6, .inl r28), (7, .inl r36), (8, .inl r63), (9, .inl 0), (10, .inl 0), (11, .inl r112)], [.inl (nf_M_packed r63 0 0 r112), .inl r36, .inl 0, .inl v1, .inr (.inr 407)], M112)
                  refine mm_s1 rfl ⟨(nn_c407 NN).1, ?_⟩
                  refine nn_call (D := 10) (by decide) (h n L N) ?_
                  intro v M173 q; clear L N h
                  obtain ⟨r173, rfl, L, N, h⟩ := q
                  show mm_Go (mm_run 11) mc_M_loads _ (176, [(0, .inr (.inr 407)), (1, .inl v1), (3, .inl v3), (4, .inl v4), (5, .inl v5), (6, .inl r28), (7, .inl r36), (8, .inl r63), (9, .inl 0), (10, .inl 0), (11, .inl r112)], [.inl r173], M173)
                  refine mm_s1 rfl ?_
                  show mm_Go (mm_run 11) mc_M_loads _ (178, [(0, .inr (.inr 407)), (1, .inl v1), (3, .inl v3), (4, .inl v4), (5, .inl v5), (6, .inl r28), (7, .inl r36), (8, .inl r63), (9, .inl 0), (10, .inl 0), (11, .inl r112), (12, .inl r173)], [], M173)
                  refine mm_s1 rfl ?_
                  show mm_Go (mm_run 11) mc_M_loads _ (181, [(0, .inr (.inr 407)), (1, .inl v1), (3, .inl v3), (4, .inl v4), (5, .inl (mm_w (v5 + 1))), (6, .inl r28), (7, .inl r36), (8, .inl r63), (9, .inl 0), (10, .inl 0), (11, .inl r112), (12, .inl r173)], [], M173)
                  refine mm_s1 rfl ?_
                  show mm_Go (mm_run 11) mc_M_loads _ (19, [(0, .inr (.inr 407)), (1, .inl v1), (3, .inl v3), (4, .inl v4), (5, .inl (mm_w (v5 + 1))), (6, .inl r28), (7, .inl r36), (8, .inl r63), (9, .inl 0), (10, .inl 0), (11, .inl r112), (12, .inl r173)], [], M173)
                  exact nn_go_ext (nn_xc rfl (nn_xc rfl (nn_xc rfl (nn_xc rfl (nn_xc rfl nn_xn))))) (h n L N)
                · show mm_Go (mm_run 11) mc_M_loads _ (143, [(0, .inr (.inr 407)), (1, .inl v1), (3, .inl v3), (4, .inl v4), (5, .inl v5), (6, .inl r28), (7, .inl r36), (8, .inl r63), (9, .inl 0), (10, .inl 0), (11, .inl r112)], [], M112)
                  replace c140 := Decidable.not_not.mp c140
                  replace h := h.2 c140
                  refine mm_s1 rfl ?_
                  refine mm_s1 rfl ?_
                  refine mm_s1 rfl ?_
                  refine mm_s1 rfl ?_
                  refine mm_s1 rfl ?_
                  show mm_Go (mm_run 11) mc_M_loads _ (151, [(0, .inr (.inr 407)), (1, .inl v1), (3, .inl v3), (4, .inl v4), (5, .inl v5), (6, .inl r28), (7, .inl r36), (8, .inl r63), (9, .inl 0), (10, .inl 0), (11, .inl r112)], [.inl 0, .inl r63, .inl r36, .inl v1, .inr (.inr 407)], M112)
                  refine mm_s1 rfl ⟨(nn_c407 NN).1, ?_⟩
                  refine nn_call (D := 11) (by decide) (h n L N) ?_
                  intro v M151 q; clear L N h
                  obtain ⟨r151, rfl, L, N, h⟩ := q
                  show mm_Go (mm_run 11) mc_M_loads _ (154, [(0, .inr (.inr 407)), (1, .inl v1), (3, .inl v3), (4, .inl v4), (5, .inl v5), (6, .inl r28), (7, .inl r36), (8, .inl r63), (9, .inl 0), (10, .inl 0), (11, .inl r112)], [.inl r151], M151)
                  refine mm_s1 rfl ?_
                  show mm_Go (mm_run 11) mc_M_loads _ (176, [(0, .inr (.inr 407)), (1, .inl v1), (3, .inl v3), (4, .inl v4), (5, .inl v5), (6, .inl r28), (7, .inl r36), (8, .inl r63), (9, .inl 0), (10, .inl 0), (11, .inl r112)], [.inl r151], M151)
                  refine mm_s1 rfl ?_
                  show mm_Go (mm_run 11) mc_M_loads _ (178, [(0, .inr (.inr 407)), (1, .inl v1), (3, .inl v3), (4, .inl v4), (5, .inl v5), (6, .inl r28), (7, .inl r36), (8, .inl r63), (9, .inl 0), (10, .inl 0), (11, .inl r112), (12, .inl r151)], [], M151)
                  refine mm_s1 rfl ?_
                  show mm_Go (mm_run 11) mc_M_loads _ (181, [(0, .inr (.inr 407)), (1, .inl v1), (3, .inl v3), (4, .inl v4), (5, .inl (mm_w (v5 + 1))), (6, .inl r28), (7, .inl r36), (8, .inl r63), (9, .inl 0), (10, .inl 0), (11, .inl r112), (12, .inl r151)], [], M151)
                  refine mm_s1 rfl ?_
                  show mm_Go (mm_run 11) mc_M_loads _ (19, [(0, .inr (.inr 407)), (1, .inl v1), (3, .inl v3), (4, .inl v4), (5, .inl (mm_w (v5 + 1))), (6, .inl r28), (7, .inl r36), (8, .inl r63), (9, .inl 0), (10, .inl 0), (11, .inl r112), (12, .inl r151)], [], M151)
                  exact nn_go_ext (nn_xc rfl (nn_xc rfl (nn_xc rfl (nn_xc rfl (nn_xc rfl nn_xn))))) (h n L N)
              · show mm_Go (mm_run 11) mc_M_loads _ (126, [(0, .inr (.inr 407)), (1, .inl v1), (3, .inl v3), (4, .inl v4), (5, .inl v5), (6, .inl r28), (7, .inl r36), (8, .inl r63), (9, .inl 0), (10, .inl 0), (11, .inl r112)], [], M112)
                replace c123 := Decidable.not_not.mp c123
                replace h := h.2 c123
                refine mm_s1 rfl ?_
                refine mm_s1 rfl ?_
                refine mm_s1 rfl ?_
                refine mm_s1 rfl ?_
                refine mm_s1 rfl ⟨(nn_c407 NN).1, ?_⟩
                refine nn_call (D := 9) (by decide) (h n L N) ?_
                intro v M131 q; clear L N h
                obtain ⟨r131, rfl, L, N, h⟩ := q
                show mm_Go (mm_run 11) mc_M_loads _ (134, [(0, .inr (.inr 407)), (1, .inl v1), (3, .inl v3), (4, .inl v4), (5, .inl v5), (6, .inl r28), (7, .inl r36), (8, .inl r63), (9, .inl 0), (10, .inl 0), (11, .inl r112)], [.inl r131], M131)
                refine mm_s1 rfl ?_
                show mm_Go (mm_run 11) mc_M_loads _ (176, [(0, .inr (.inr 407)), (1, .inl v1), (3, .inl v3), (4, .inl v4), (5, .inl v5), (6, .inl r28), (7, .inl r36), (8, .inl r63), (9, .inl 0), (10, .inl 0), (11, .inl r112)], [.inl r131], M131)
                refine mm_s1 rfl ?_
                show mm_Go (mm_run 11) mc_M_loads _ (178, [(0, .inr (.inr 407)), (1, .inl v1), (3, .inl v3), (4, .inl v4), (5, .inl v5), (6, .inl r28), (7, .inl r36), (8, .inl r63), (9, .inl 0), (10, .inl 0), (11, .inl r112), (12, .inl r131)], [], M131)
                refine mm_s1 rfl ?_
                show mm_Go (mm_run 11) mc_M_loads _ (181, [(0, .inr (.inr 407)), (1, .inl v1), (3, .inl v3), (4, .inl v4), (5, .inl (mm_w (v5 + 1))), (6, .inl r28), (7, .inl r36), (8, .inl r63), (9, .inl 0), (10, .inl 0), (11, .inl r112), (12, .inl r131)], [], M131)
                refine mm_s1 rfl ?_
                show mm_Go (mm_run 11) mc_M_loads _ (19, [(0, .inr (.inr 407)), (1, .inl v1), (3, .inl v3), (4, .inl v4), (5, .inl (mm_w (v5 + 1))), (6, .inl r28), (7, .inl r36), (8, .inl r63), (9, .inl 0), (10, .inl 0), (11, .inl r112), (12, .inl r131)], [], M131)
                exact nn_go_ext (nn_xc rfl (nn_xc rfl (nn_xc rfl (nn_xc rfl (nn_xc rfl nn_xn))))) (h n L N)
          · show mm_Go (mm_run 11) mc_M_loads _ (91, [(0, .inr (.inr 407)), (1, .inl v1), (3, .inl v3), (4, .inl v4), (5, .inl v5), (6, .inl r28), (7, .inl r36), (8, .inl r63), (9, .inl 0)], [], M63)
            replace c88 := Int.not_le.mp c88
            replace h := h.2 c88
            refine mm_s1 rfl ?_
            refine mm_s1 rfl ?_
            refine mm_s1 rfl ⟨(nn_c407 NN).1, ?_⟩
            refine nn_call (D := 1) (by decide) (h n L N) ?_
            intro v M94 q; clear L N h
            obtain ⟨r94, rfl, L, N, h⟩ := q
            show mm_Go (mm_run 11) mc_M_loads _ (97, [(0, .inr (.inr 407)), (1, .inl v1), (3, .inl v3), (4, .inl v4), (5, .inl v5), (6, .inl r28), (7, .inl r36), (8, .inl r63), (9, .inl 0)], [.inl r94], M94)
            refine mm_s1 rfl ?_
            show mm_Go (mm_run 11) mc_M_loads _ (101, [(0, .inr (.inr 407)), (1, .inl v1), (3, .inl v3), (4, .inl v4), (5, .inl v5), (6, .inl r28), (7, .inl r36), (8, .inl r63), (9, .inl 0)], [.inl r94], M94)
            refine mm_s1 rfl ?_
            show mm_Go (mm_run 11) mc_M_loads _ (103, [(0, .inr (.inr 407)), (1, .inl v1), (3, .inl v3), (4, .inl v4), (5, .inl v5), (6, .inl r28), (7, .inl r36), (8, .inl r63), (9, .inl 0), (10, .inl r94)], [], M94)
            refine mm_s1 rfl ?_
            refine mm_s1 rfl ?_
            refine mm_s1 rfl ⟨fun c106 => ?_, fun c106 => ?_⟩
            · show mm_Go (mm_run 11) mc_M_loads _ (118, [(0, .inr (.inr 407)), (1, .inl v1), (3, .inl v3), (4, .inl v4), (5, .inl v5), (6, .inl r28), (7, .inl r36), (8, .inl r63), (9, .inl 0), (10, .inl r94)], [], M94)
              replace h := h.1 c106
              refine mm_s1 rfl ?_
              refine mm_s1 rfl ?_
              show mm_Go (mm_run 11) mc_M_loads _ (121, [(0, .inr (.inr 407)), (1, .inl v1), (3, .inl v3), (4, .inl v4), (5, .inl v5), (6, .inl r28), (7, .inl r36), (8, .inl r63), (9, .inl 0), (10, .inl r94), (11, .inl 0)], [], M94)
              refine mm_s1 rfl ?_
              refine mm_s1 rfl ⟨fun c123 => ?_, fun c123 => ?_⟩
              · show mm_Go (mm_run 11) mc_M_loads _ (137, [(0, .inr (.inr 407)), (1, .inl v1), (3, .inl v3), (4, .inl v4), (5, .inl v5), (6, .inl r28), (7, .inl r36), (8, .inl r63), (9, .inl 0), (10, .inl r94), (11, .inl 0)], [], M94)
                replace h := h.1 c123
                refine mm_s1 rfl ?_
                refine mm_s1 rfl ?_
                refine mm_s1 rfl ⟨fun c140 => ?_, fun c140 => ?_⟩
                · show mm_Go (mm_run 11) mc_M_loads _ (157, [(0, .inr (.inr 407)), (1, .inl v1), (3, .inl v3), (4, .inl v4), (5, .inl v5), (6, .inl r28), (7, .inl r36), (8, .inl r63), (9, .inl 0), (10, .inl r94), (11, .inl 0)], [], M94)
                  replace h := h.1 c140
                  refine mm_s1 rfl ?_
                  refine mm_s1 rfl ?_
                  refine mm_s1 rfl ?_
                  refine mm_s1 rfl ?_
                  refine mm_s1 rfl ?_
                  show mm_Go (mm_run 11) mc_M_loads _ (164, [(0, .inr (.inr 407)), (1, .inl v1), (3, .inl v3), (4, .inl v4), (5, .inl v5), (6, .inl r28), (7, .inl r36), (8, .inl r63), (9, .inl 0), (10, .inl r94), (11, .inl 0)], [.inl r63, .inl r36, .inl 0, .inl v1, .inr (.inr 407)], M94)
                  refine mm_s1 rfl ?_
                  refine mm_s1 rfl ?_
                  refine mm_s1 rfl ?_
                  refine mm_s1 rfl ⟨trivial, ?_⟩
                  refine np_M_packed (by decide) L N ?_
                  show mm_Go (mm_run 11) mc_M_loads _ (173, [(0, .inr (.inr 407)), (1, .inl v1), (3, .inl v3), (4, .inl v4), (5, .inl v5), (6, .inl r28), (7, .inl r36), (8, .inl r63), (9, .inl 0), (10, .inl r94), (11, .inl 0)], [.inl (nf_M_packed r63 0 r94 0), .inl r36, .inl 0, .inl v1, .inr (.inr 407)], M94)
                  refine mm_s1 rfl ⟨(nn_c407 NN).1, ?_⟩
                  refine nn_call (D := 10) (by decide) (h n L N) ?_
                  intro v M173 q; clear L N h
                  obtain ⟨r173, rfl, L, N, h⟩ := q
                  show mm_Go (mm_run 11) mc_M_loads _ (176, [(0, .inr (.inr 407)), (1, .inl v1), (3, .inl v3), (4, .inl v4), (5, .inl v5), (6, .inl r28), (7, .inl r36), (8, .inl r63), (9, .inl 0), (10, .inl r94), (11, .inl 0)], [.inl r173], M173)
                  refine mm_s1 rfl ?_
                  show mm_Go (mm_run 11) mc_M_loads _ (178, [(0, .inr (.inr 407)), (1, .inl v1), (3, .inl v3), (4, .inl v4), (5, .inl v5), (6, .inl r28), (7, .inl r36), (8, .inl r63), (9, .inl 0), (10, .inl r94), (11, .inl 0), (12, .inl r173)], [], M173)
                  refine mm_s1 rfl ?_
                  show mm_Go (mm_run 11) mc_M_loads _ (181, [(0, .inr (.inr 407)), (1, .inl v1), (3, .inl v3), (4, .inl v4), (5, .inl (mm_w (v5 + 1))), (6, .inl r28), (7, .inl r36), (8, .inl r63), (9, .inl 0), (10, .inl r94), (11, .inl 0), (12, .inl r173)], [], M173)
                  refine mm_s1 rfl ?_
                  show mm_Go (mm_run 11) mc_M_loads _ (19, [(0, .inr (.inr 407)), (1, .inl v1), (3, .inl v3), (4, .inl v4), (5, .inl (mm_w (v5 + 1))), (6, .inl r28), (7, .inl r36), (8, .inl r63), (9, .inl 0), (10, .inl r94), (11, .inl 0), (12, .inl r173)], [], M173)
                  exact nn_go_ext (nn_xc rfl (nn_xc rfl (nn_xc rfl (nn_xc rfl (nn_xc rfl nn_xn))))) (h n L N)
                · show mm_Go (mm_run 11) mc_M_loads _ (143, [(0, .inr (.inr 407)), (1, .inl v1), (3, .inl v3), (4, .inl v4), (5, .inl v5), (6, .inl r28), (7, .inl r36), (8, .inl r63), (9, .inl 0), (10, .inl r94), (11, .inl 0)], [], M94)
                  replace c140 := Decidable.not_not.mp c140
                  replace h := h.2 c140
                  refine mm_s1 rfl ?_
                  refine mm_s1 rfl ?_
                  refine mm_s1 rfl ?_
                  refine mm_s1 rfl ?_
                  refine mm_s1 rfl ?_
                  show mm_Go (mm_run 11) mc_M_loads _ (151, [(0, .inr (.inr 407)), (1, .inl v1), (3, .inl v3), (4, .inl v4), (5, .inl v5), (6, .inl r28), (7, .inl r36), (8, .inl r63), (9, .inl 0), (10, .inl r94), (11, .inl 0)], [.inl 0, .inl r63, .inl r36, .inl v1, .inr (.inr 407)], M94)
                  refine mm_s1 rfl ⟨(nn_c407 NN).1, ?_⟩
                  refine nn_call (D := 11) (by decide) (h n L N) ?_
                  intro v M151 q; clear L N h
                  obtain ⟨r151, rfl, L, N, h⟩ := q
                  show mm_Go (mm_run 11) mc_M_loads _ (154, [(0, .inr (.inr 407)), (1, .inl v1), (3, .inl v3), (4, .inl v4), (5, .inl v5), (6, .inl r28), (7, .inl r36), (8, .inl r63), (9, .inl 0), (10, .inl r94), (11, .inl 0)], [.inl r151], M151)
                  refine mm_s1 rfl ?_
                  show mm_Go (mm_run 11) mc_M_loads _ (176, [(0, .inr (.inr 407)), (1, .inl v1), (3, .inl v3), (4, .inl v4), (5, .inl v5), (6, .inl r28), (7, .inl r36), (8, .inl r63), (9, .inl 0), (10, .inl r94), (11, .inl 0)], [.inl r151], M151)
                  refine mm_s1 rfl ?_
                  show mm_Go (mm_run 11) mc_M_loads _ (178, [(0, .inr (.inr 407)), (1, .inl v1), (3, .inl v3), (4, .inl v4), (5, .inl v5), (6, .inl r28), (7, .inl r36), (8, .inl r63), (9, .inl 0), (10, .inl r94), (11, .inl 0), (12, .inl r151)], [], M151)
                  refine mm_s1 rfl ?_
                  show mm_Go (mm_run 11) mc_M_loads _ (181, [(0, .inr (.inr 407)), (1, .inl v1), (3, .inl v3), (4, .inl v4), (5, .inl (mm_w (v5 + 1))), (6, .inl r28), (7, .inl r36), (8, .inl r63), (9, .inl 0), (10, .inl r94), (11, .inl 0), (12, .inl r151)], [], M151)
                  refine mm_s1 rfl ?_
                  show mm_Go (mm_run 11) mc_M_loads _ (19, [(0, .inr (.inr 407)), (1, .inl v1), (3, .inl v3), (4, .inl v4), (5, .inl (mm_w (v5 + 1))), (6, .inl r28), (7, .inl r36), (8, .inl r63), (9, .inl 0), (10, .inl r94), (11, .inl 0), (12, .inl r151)], [], M151)
                  exact nn_go_ext (nn_xc rfl (nn_xc rfl (nn_xc rfl (nn_xc rfl (nn_xc rfl nn_xn))))) (h n L N)
              · show mm_Go (mm_run 11) mc_M_loads _ (126, [(0, .inr (.inr 407)), (1, .inl v1), (3, .inl v3), (4, .inl v4), (5, .inl v5), (6, .inl r28), (7, .inl r36), (8, .inl r63), (9, .inl 0), (10, .inl r94), (11, .inl 0)], [], M94)
                replace c123 := Decidable.not_not.mp c123
                replace h := h.2 c123
                refine mm_s1 rfl ?_
                refine mm_s1 rfl ?_
                refine mm_s1 rfl ?_
                refine mm_s1 rfl ?_
                refine mm_s1 rfl ⟨(nn_c407 NN).1, ?_⟩
                refine nn_call (D := 9) (by decide) (h n L N) ?_
                intro v M131 q; clear L N h
                obtain ⟨r131, rfl, L, N, h⟩ := q
                show mm_Go (mm_run 11) mc_M_loads _ (134, [(0, .inr (.inr 407)), (1, .inl v1), (3, .inl v3), (4, .inl v4), (5, .inl v5), (6, .inl r28), (7, .inl r36), (8, .inl r63), (9, .inl 0), (10, .inl r94), (11, .inl 0)], [.inl r131], M131)
                refine mm_s1 rfl ?_
                show mm_Go (mm_run 11) mc_M_loads _ (176, [(0, .inr (.inr 407)), (1, .inl v1), (3, .inl v3), (4, .inl v4), (5, .inl v5), (6, .inl r28), (7, .inl r36), (8, .inl r63), (9, .inl 0), (10, .inl r94), (11, .inl 0)], [.inl r131], M131)
                refine mm_s1 rfl ?_
                show mm_Go (mm_run 11) mc_M_loads _ (178, [(0, .inr (.inr 407)), (1, .inl v1), (3, .inl v3), (4, .inl v4), (5, .inl v5), (6, .inl r28), (7, .inl r36), (8, .inl r63), (9, .inl 0), (10, .inl r94), (11, .inl 0), (12, .inl r131)], [], M131)
                refine mm_s1 rfl ?_
                show mm_Go (mm_run 11) mc_M_loads _ (181, [(0, .inr (.inr 407)), (1, .inl v1), (3, .inl v3), (4, .inl v4), (5, .inl (mm_w (v5 + 1))), (6, .inl r28), (7, .inl r36), (8, .inl r63), (9, .inl 0), (10, .inl r94), (11, .inl 0), (12, .inl r131)], [], M131)
                refine mm_s1 rfl ?_
                show mm_Go (mm_run 11) mc_M_loads _ (19, [(0, .inr (.inr 407)), (1, .inl v1), (3, .inl v3), (4, .inl v4), (5, .inl (mm_w (v5 + 1))), (6, .inl r28), (7, .inl r36), (8, .inl r63), (9, .inl 0), (10, .inl r94), (11, .inl 0), (12, .inl r131)], [], M131)
                exact nn_go_ext (nn_xc rfl (nn_xc rfl (nn_xc rfl (nn_xc rfl (nn_xc rfl nn_xn))))) (h n L N)
            · show mm_Go (mm_run 11) mc_M_loads _ (109, [(0, .inr (.inr 407)), (1, .inl v1), (3, .inl v3), (4, .inl v4), (5, .inl v5), (6, .inl r28), (7, .inl r36), (8, .inl r63), (9, .inl 0), (10, .inl r94)], [], M94)
              replace c106 := Int.not_le.mp c106
              replace h := h.2 c106
              refine mm_s1 rfl ?_
              refine mm_s1 rfl ?_
              refine mm_s1 rfl ⟨(nn_c407 NN).1, ?_⟩
              refine nn_call (D := 1) (by decide) (h n L N) ?_
              intro v M112 q; clear L N h
              obtain ⟨r112, rfl, L, N, h⟩ := q
              show mm_Go (mm_run 11) mc_M_loads _ (115, [(0, .inr (.inr 407)), (1, .inl v1), (3, .inl v3), (4, .inl v4), (5, .inl v5), (6, .inl r28), (7, .inl r36), (8, .inl r63), (9, .inl 0), (10, .inl r94)], [.inl r112], M112)
              refine mm_s1 rfl ?_
              show mm_Go (mm_run 11) mc_M_loads _ (119, [(0, .inr (.inr 407)), (1, .inl v1), (3, .inl v3), (4, .inl v4), (5, .inl v5), (6, .inl r28), (7, .inl r36), (8, .inl r63), (9, .inl 0), (10, .inl r94)], [.inl r112], M112)
              refine mm_s1 rfl ?_
              show mm_Go (mm_run 11) mc_M_loads _ (121, [(0, .inr (.inr 407)), (1, .inl v1), (3, .inl v3), (4, .inl v4), (5, .inl v5), (6, .inl r28), (7, .inl r36), (8, .inl r63), (9, .inl 0), (10, .inl r94), (11, .inl r112)], [], M112)
              refine mm_s1 rfl ?_
              refine mm_s1 rfl ⟨fun c123 => ?_, fun c123 => ?_⟩
              · show mm_Go (mm_run 11) mc_M_loads _ (137, [(0, .inr (.inr 407)), (1, .inl v1), (3, .inl v3), (4, .inl v4), (5, .inl v5), (6, .inl r28), (7, .inl r36), (8, .inl r63), (9, .inl 0), (10, .inl r94), (11, .inl r112)], [], M112)
                replace h := h.1 c123
                refine mm_s1 rfl ?_
                refine mm_s1 rfl ?_
                refine mm_s1 rfl ⟨fun c140 => ?_, fun c140 => ?_⟩
                · show mm_Go (mm_run 11) mc_M_loads _ (157, [(0, .inr (.inr 407)), (1, .inl v1), (3, .inl v3), (4, .inl v4), (5, .inl v5), (6, .inl r28), (7, .inl r36), (8, .inl r63), (9, .inl 0), (10, .inl r94), (11, .inl r112)], [], M112)
                  replace h := h.1 c140
                  refine mm_s1 rfl ?_
                  refine mm_s1 rfl ?_
                  refine mm_s1 rfl ?_
                  refine mm_s1 rfl ?_
                  refine mm_s1 rfl ?_
                  show mm_Go (mm_run 11) mc_M_loads _ (164, [(0, .inr (.inr 407)), (1, .inl v1), (3, .inl v3), (4, .inl v4), (5, .inl v5), (6, .inl r28), (7, .inl r36), (8, .inl r63), (9, .inl 0), (10, .inl r94), (11, .inl r112)], [.inl r63, .inl r36, .inl 0, .inl v1, .inr (.inr 407)], M112)
                  refine mm_s1 rfl ?_
                  refine mm_s1 rfl ?_
                  refine mm_s1 rfl ?_
                  refine mm_s1 rfl ⟨trivial, ?_⟩
                  refine np_M_packed (by decide) L N ?_
                  show mm_Go (mm_run 11) mc_M_loads _ (173, [(0, .inr (.inr 407)), (1, .inl v1), (3, .inl v3), (4, .inl v4), (5, .inl v5), (6, .inl r28), (7, .inl r36), (8, .inl r63), (9, .inl 0), (10, .inl r94), (11, .inl r112)], [.inl (nf_M_packed r63 0 r94 r112), .inl r36, .inl 0, .inl v1, .inr (.inr 407)], M112)
                  refine mm_s1 rfl ⟨(nn_c407 NN).1, ?_⟩
                  refine nn_call (D := 10) (by decide) (h n L N) ?_
                  intro v M173 q; clear L N h
                  obtain ⟨r173, rfl, L, N, h⟩ := q
                  show mm_Go (mm_run 11) mc_M_loads _ (176, [(0, .inr (.inr 407)), (1, .inl v1), (3, .inl v3), (4, .inl v4), (5, .inl v5), (6, .inl r28), (7, .inl r36), (8, .inl r63), (9, .inl 0), (10, .inl r94), (11, .inl r112)], [.inl r173], M173)
                  refine mm_s1 rfl ?_
                  show mm_Go (mm_run 11) mc_M_loads _ (178, [(0, .inr (.inr 407)), (1, .inl v1), (3, .inl v3), (4, .inl v4), (5, .inl v5), (6, .inl r28), (7, .inl r36), (8, .inl r63), (9, .inl 0), (10, .inl r94), (11, .inl r112), (12, .inl r173)], [], M173)
                  refine mm_s1 rfl ?_
                  show mm_Go (mm_run 11) mc_M_loads _ (181, [(0, .inr (.inr 407)), (1, .inl v1), (3, .inl v3), (4, .inl v4), (5, .inl (mm_w (v5 + 1))), (6, .inl r28), (7, .inl r36), (8, .inl r63), (9, .inl 0), (10, .inl r94), (11, .inl r112), (12, .inl r173)], [], M173)
                  refine mm_s1 rfl ?_
                  show mm_Go (mm_run 11) mc_M_loads _ (19, [(0, .inr (.inr 407)), (1, .inl v1), (3, .inl v3), (4, .inl v4), (5, .inl (mm_w (v5 + 1))), (6, .inl r28), (7, .inl r36), (8, .inl r63), (9, .inl 0), (10, .inl r94), (11, .inl r112), (12, .inl r173)], [], M173)
                  exact nn_go_ext (nn_xc rfl (nn_xc rfl (nn_xc rfl (nn_xc rfl (nn_xc rfl nn_xn))))) (h n L N)
                · show mm_Go (mm_run 11) mc_M_loads _ (143, [(0, .inr (.inr 407)), (1, .inl v1), (3, .inl v3), (4, .inl v4), (5, .inl v5), (6, .inl r28), (7, .inl r36), (8, .inl r63), (9, .inl 0), (10, .inl r94), (11, .inl r112)], [], M112)
                  replace c140 := Decidable.not_not.mp c140
                  replace h := h.2 c140
                  refine mm_s1 rfl ?_
                  refine mm_s1 rfl ?_
                  refine mm_s1 rfl ?_
                  refine mm_s1 rfl ?_
                  refine mm_s1 rfl ?_
                  show mm_Go (mm_run 11) mc_M_loads _ (151, [(0, .inr (.inr 407)), (1, .inl v1), (3, .inl v3), (4, .inl v4), (5, .inl v5), (6, .inl r28), (7, .inl r36), (8, .inl r63), (9, .inl 0), (10, .inl r94), (11, .inl r112)], [.inl 0, .inl r63, .inl r36, .inl v1, .inr (.inr 407)], M112)
                  refine mm_s1 rfl ⟨(nn_c407 NN).1, ?_⟩
                  refine nn_call (D := 11) (by decide) (h n L N) ?_
                  intro v M151 q; clear L N h
                  obtain ⟨r151, rfl, L, N, h⟩ := q
                  show mm_Go (mm_run 11) mc_M_loads _ (154, [(0, .inr (.inr 407)), (1, .inl v1), (3, .inl v3), (4, .inl v4), (5, .inl v5), (6, .inl r28), (7, .inl r36), (8, .inl r63), (9, .inl 0), (10, .inl r94), (11, .inl r112)], [.inl r151], M151)
                  refine mm_s1 rfl ?_
                  show mm_Go (mm_run 11) mc_M_loads _ (176, [(0, .inr (.inr 407)), (1, .inl v1), (3, .inl v3), (4, .inl v4), (5, .inl v5), (6, .inl r28), (7, .inl r36), (8, .inl r63), (9, .inl 0), (10, .inl r94), (11, .inl r112)], [.inl r151], M151)
                  refine mm_s1 rfl ?_
                  show mm_Go (mm_run 11) mc_M_loads _ (178, [(0, .inr (.inr 407)), (1, .inl v1), (3, .inl v3), (4, .inl v4), (5, .inl v5), (6, .inl r28), (7, .inl r36), (8, .inl r63), (9, .inl 0), (10, .inl r94), (11, .inl r112), (12, .inl r151)], [], M151)
                  refine mm_s1 rfl ?_
                  show mm_Go (mm_run 11) mc_M_loads _ (181, [(0, .inr (.inr 407)), (1, .inl v1), (3, .inl v3), (4, .inl v4), (5, .inl (mm_w (v5 + 1))), (6, .inl r28), (7, .inl r36), (8, .inl r63), (9, .inl 0), (10, .inl r94), (11, .inl r112), (12, .inl r151)], [], M151)
                  refine mm_s1 rfl ?_
                  show mm_Go (mm_run 11) mc_M_loads _ (19, [(0, .inr (.inr 407)), (1, .inl v1), (3, .inl v3), (4, .inl v4), (5, .inl (mm_w (v5 + 1))), (6, .inl r28), (7, .inl r36), (8, .inl r63), (9, .inl 0), (10, .inl r94), (11, .inl r112), (12, .inl r151)], [], M151)
                  exact nn_go_ext (nn_xc rfl (nn_xc rfl (nn_xc rfl (nn_xc rfl (nn_xc rfl nn_xn))))) (h n L N)
              · show mm_Go (mm_run 11) mc_M_loads _ (126, [(0, .inr (.inr 407)), (1, .inl v1), (3, .inl v3), (4, .inl v4), (5, .inl v5), (6, .inl r28), (7, .inl r36), (8, .inl r63), (9, .inl 0), (10, .inl r94), (11, .inl r112)], [], M112)
                replace c123 := Decidable.not_not.mp c123
                replace h := h.2 c123
                refine mm_s1 rfl ?_
                refine mm_s1 rfl ?_
                refine mm_s1 rfl ?_
                refine mm_s1 rfl ?_
                refine mm_s1 rfl ⟨(nn_c407 NN).1, ?_⟩
                refine nn_call (D := 9) (by decide) (h n L N) ?_
                intro v M131 q; clear L N h
                obtain ⟨r131, rfl, L, N, h⟩ := q
                show mm_Go (mm_run 11) mc_M_loads _ (134, [(0, .inr (.inr 407)), (1, .inl v1), (3, .inl v3), (4, .inl v4), (5, .inl v5), (6, .inl r28), (7, .inl r36), (8, .inl r63), (9, .inl 0), (10, .inl r94), (11, .inl r112)], [.inl r131], M131)
                refine mm_s1 rfl ?_
                show mm_Go (mm_run 11) mc_M_loads _ (176, [(0, .inr (.inr 407)), (1, .inl v1), (3, .inl v3), (4, .inl v4), (5, .inl v5), (6, .inl r28), (7, .inl r36), (8, .inl r63), (9, .inl 0), (10, .inl r94), (11, .inl r112)], [.inl r131], M131)
                refine mm_s1 rfl ?_
                show mm_Go (mm_run 11) mc_M_loads _ (178, [(0, .inr (.inr 407)), (1, .inl v1), (3, .inl v3), (4, .inl v4), (5, .inl v5), (6, .inl r28), (7, .inl r36), (8, .inl r63), (9, .inl 0), (10, .inl r94), (11, .inl r112), (12, .inl r131)], [], M131)
                refine mm_s1 rfl ?_
                show mm_Go (mm_run 11) mc_M_loads _ (181, [(0, .inr (.inr 407)), (1, .inl v1), (3, .inl v3), (4, .inl v4), (5, .inl (mm_w (v5 + 1))), (6, .inl r28), (7, .inl r36), (8, .inl r63), (9, .inl 0), (10, .inl r94), (11, .inl r112), (12, .inl r131)], [], M131)
                refine mm_s1 rfl ?_
                show mm_Go (mm_run 11) mc_M_loads _ (19, [(0, .inr (.inr 407)), (1, .inl v1), (3, .inl v3), (4, .inl v4), (5, .inl (mm_w (v5 + 1))), (6, .inl r28), (7, .inl r36), (8, .inl r63), (9, .inl 0), (10, .inl r94), (11, .inl r112), (12, .inl r131)], [], M131)
                exact nn_go_ext (nn_xc rfl (nn_xc rfl (nn_xc rfl (nn_xc rfl (nn_xc rfl nn_xn))))) (h n L N)
      · show mm_Go (mm_run 11) mc_M_loads _ (57, [(0, .inr (.inr 407)), (1, .inl v1), (3, .inl v3), (4, .inl v4), (5, .inl v5), (6, .inl r28), (7, .inl r36)], [.inr (.inr 407)], M36)
        replace c54 := Decidable.not_not.mp c54
        replace h := h.2 c54
        refine mm_s1 rfl ?_
        refine mm_s1 rfl ?_
        show mm_Go (mm_run 11) mc_M_loads _ (63, [(0, .inr (.inr 407)), (1, .inl v1), (3, .inl v3), (4, .inl v4), (5, .inl v5), (6, .inl r28), (7, .inl r36)], [.inl 4, .inr (.inr 407)], M36)
        refine mm_s1 rfl ⟨(nn_c407 NN).1, ?_⟩
        refine nn_call (D := 1) (by decide) (h n L N) ?_
        intro v M63 q; clear L N h
        obtain ⟨r63, rfl, L, N, h⟩ := q
        show mm_Go (mm_run 11) mc_M_loads _ (66, [(0, .inr (.inr 407)), (1, .inl v1), (3, .inl v3), (4, .inl v4), (5, .inl v5), (6, .inl r28), (7, .inl r36)], [.inl r63], M63)
        refine mm_s1 rfl ?_
        show mm_Go (mm_run 11) mc_M_loads _ (68, [(0, .inr (.inr 407)), (1, .inl v1), (3, .inl v3), (4, .inl v4), (5, .inl v5), (6, .inl r28), (7, .inl r36), (8, .inl r63)], [], M63)
        refine mm_s1 rfl ?_
        refine mm_s1 rfl ⟨fun c70 => ?_, fun c70 => ?_⟩
        · show mm_Go (mm_run 11) mc_M_loads _ (77, [(0, .inr (.inr 407)), (1, .inl v1), (3, .inl v3), (4, .inl v4), (5, .inl v5), (6, .inl r28), (7, .inl r36), (8, .inl r63)], [], M63)
          replace h := h.1 c70
          refine mm_s1 rfl ?_
          refine mm_s1 rfl ?_
          refine mm_s1 rfl ⟨(nn_c407 NN).1, ?_⟩
          refine nn_call (D := 1) (by decide) (h n L N) ?_
          intro v M80 q; clear L N h
          obtain ⟨r80, rfl, L, N, h⟩ := q
          show mm_Go (mm_run 11) mc_M_loads _ (83, [(0, .inr (.inr 407)), (1, .inl v1), (3, .inl v3), (4, .inl v4), (5, .inl v5), (6, .inl r28), (7, .inl r36), (8, .inl r63)], [.inl r80], M80)
          refine mm_s1 rfl ?_
          show mm_Go (mm_run 11) mc_M_loads _ (85, [(0, .inr (.inr 407)), (1, .inl v1), (3, .inl v3), (4, .inl v4), (5, .inl v5), (6, .inl r28), (7, .inl r36), (8, .inl r63), (9, .inl r80)], [], M80)
          refine mm_s1 rfl ?_
          refine mm_s1 rfl ?_
          refine mm_s1 rfl ⟨fun c88 => ?_, fun c88 => ?_⟩
          · show mm_Go (mm_run 11) mc_M_loads _ (100, [(0, .inr (.inr 407)), (1, .inl v1), (3, .inl v3), (4, .inl v4), (5, .inl v5), (6, .inl r28), (7, .inl r36), (8, .inl r63), (9, .inl r80)], [], M80)
            replace h := h.1 c88
            refine mm_s1 rfl ?_
            refine mm_s1 rfl ?_
            show mm_Go (mm_run 11) mc_M_loads _ (103, [(0, .inr (.inr 407)), (1, .inl v1), (3, .inl v3), (4, .inl v4), (5, .inl v5), (6, .inl r28), (7, .inl r36), (8, .inl r63), (9, .inl r80), (10, .inl 0)], [], M80)
            refine mm_s1 rfl ?_
            refine mm_s1 rfl ?_
            refine mm_s1 rfl ⟨fun c106 => ?_, fun c106 => ?_⟩
            · show mm_Go (mm_run 11) mc_M_loads _ (118, [(0, .inr (.inr 407)), (1, .inl v1), (3, .inl v3), (4, .inl v4), (5, .inl v5), (6, .inl r28), (7, .inl r36), (8, .inl r63), (9, .inl r80), (10, .inl 0)], [], M80)
              replace h := h.1 c106
              refine mm_s1 rfl ?_
              refine mm_s1 rfl ?_
              show mm_Go (mm_run 11) mc_M_loads _ (121, [(0, .inr (.inr 407)), (1, .inl v1), (3, .inl v3), (4, .inl v4), (5, .inl v5), (6, .inl r28), (7, .inl r36), (8, .inl r63), (9, .inl r80), (10, .inl 0), (11, .inl 0)], [], M80)
              refine mm_s1 rfl ?_
              refine mm_s1 rfl ⟨fun c123 => ?_, fun c123 => ?_⟩
              · show mm_Go (mm_run 11) mc_M_loads _ (137, [(0, .inr (.inr 407)), (1, .inl v1), (3, .inl v3), (4, .inl v4), (5, .inl v5), (6, .inl r28), (7, .inl r36), (8, .inl r63), (9, .inl r80), (10, .inl 0), (11, .inl 0)], [], M80)
                replace h := h.1 c123
                refine mm_s1 rfl ?_
                refine mm_s1 rfl ?_
                refine mm_s1 rfl ⟨fun c140 => ?_, fun c140 => ?_⟩
                · show mm_Go (mm_run 11) mc_M_loads _ (157, [(0, .inr (.inr 407)), (1, .inl v1), (3, .inl v3), (4, .inl v4), (5, .inl v5), (6, .inl r28), (7, .inl r36), (8, .inl r63), (9, .inl r80), (10, .inl 0), (11, .inl 0)], [], M80)
                  replace h := h.1 c140
                  refine mm_s1 rfl ?_
                  refine mm_s1 rfl ?_
                  refine mm_s1 rfl ?_
                  refine mm_s1 rfl ?_
                  refine mm_s1 rfl ?_
                  show mm_Go (mm_run 11) mc_M_loads _ (164, [(0, .inr (.inr 407)), (1, .inl v1), (3, .inl v3), (4, .inl v4), (5, .inl v5), (6, .inl r28), (7, .inl r36), (8, .inl r63), (9, .inl r80), (10, .inl 0), (11, .inl 0)], [.inl r63, .inl r36, .inl 0, .inl v1, .inr (.inr 407)], M80)
                  refine mm_s1 rfl ?_
                  refine mm_s1 rfl ?_
                  refine mm_s1 rfl ?_
                  refine mm_s1 rfl ⟨trivial, ?_⟩
                  refine np_M_packed (by decide) L N ?_
                  show mm_Go (mm_run 11) mc_M_loads _ (173, [(0, .inr (.inr 407)), (1, .inl v1), (3, .inl v3), (4, .inl v4), (5, .inl v5), (6, .inl r28), (7, .inl r36), (8, .inl r63), (9, .inl r80), (10, .inl 0), (11, .inl 0)], [.inl (nf_M_packed r63 r80 0 0), .inl r36, .inl 0, .inl v1, .inr (.inr 407)], M80)
                  refine mm_s1 rfl ⟨(nn_c407 NN).1, ?_⟩
                  refine nn_call (D := 10) (by decide) (h n L N) ?_
                  intro v M173 q; clear L N h
                  obtain ⟨r173, rfl, L, N, h⟩ := q
                  show mm_Go (mm_run 11) mc_M_loads _ (176, [(0, .inr (.inr 407)), (1, .inl v1), (3, .inl v3), (4, .inl v4), (5, .inl v5), (6, .inl r28), (7, .inl r36), (8, .inl r63), (9, .inl r80), (10, .inl 0), (11, .inl 0)], [.inl r173], M173)
                  refine mm_s1 rfl ?_
                  show mm_Go (mm_run 11) mc_M_loads _ (178, [(0, .inr (.inr 407)), (1, .inl v1), (3, .inl v3), (4, .inl v4), (5, .inl v5), (6, .inl r28), (7, .inl r36), (8, .inl r63), (9, .inl r80), (10, .inl 0), (11, .inl 0), (12, .inl r173)], [], M173)
                  refine mm_s1 rfl ?_
                  show mm_Go (mm_run 11) mc_M_loads _ (181, [(0, .inr (.inr 407)), (1, .inl v1), (3, .inl v3), (4, .inl v4), (5, .inl (mm_w (v5 + 1))), (6, .inl r28), (7, .inl r36), (8, .inl r63), (9, .inl r80), (10, .inl 0), (11, .inl 0), (12, .inl r173)], [], M173)
                  refine mm_s1 rfl ?_
                  show mm_Go (mm_run 11) mc_M_loads _ (19, [(0, .inr (.inr 407)), (1, .inl v1), (3, .inl v3), (4, .inl v4), (5, .inl (mm_w (v5 + 1))), (6, .inl r28), (7, .inl r36), (8, .inl r63), (9, .inl r80), (10, .inl 0), (11, .inl 0), (12, .inl r173)], [], M173)
                  exact nn_go_ext (nn_xc rfl (nn_xc rfl (nn_xc rfl (nn_xc rfl (nn_xc rfl nn_xn))))) (h n L N)
                · show mm_Go (mm_run 11) mc_M_loads _ (143, [(0, .inr (.inr 407)), (1, .inl v1), (3, .inl v3), (4, .inl v4), (5, .inl v5), (6, .inl r28), (7, .inl r36), (8, .inl r63), (9, .inl r80), (10, .inl 0), (11, .inl 0)], [], M80)
                  replace c140 := Decidable.not_not.mp c140
                  replace h := h.2 c140
                  refine mm_s1 rfl ?_
                  refine mm_s1 rfl ?_
                  refine mm_s1 rfl ?_
                  refine mm_s1 rfl ?_
                  refine mm_s1 rfl ?_
                  show mm_Go (mm_run 11) mc_M_loads _ (151, [(0, .inr (.inr 407)), (1, .inl v1), (3, .inl v3), (4, .inl v4), (5, .inl v5), (6, .inl r28), (7, .inl r36), (8, .inl r63), (9, .inl r80), (10, .inl 0), (11, .inl 0)], [.inl r80, .inl r63, .inl r36, .inl v1, .inr (.inr 407)], M80)
                  refine mm_s1 rfl ⟨(nn_c407 NN).1, ?_⟩
                  refine nn_call (D := 11) (by decide) (h n L N) ?_
                  intro v M151 q; clear L N h
                  obtain ⟨r151, rfl, L, N, h⟩ := q
                  show mm_Go (mm_run 11) mc_M_loads _ (154, [(0, .inr (.inr 407)), (1, .inl v1), (3, .inl v3), (4, .inl v4), (5, .inl v5), (6, .inl r28), (7, .inl r36), (8, .inl r63), (9, .inl r80), (10, .inl 0), (11, .inl 0)], [.inl r151], M151)
                  refine mm_s1 rfl ?_
                  show mm_Go (mm_run 11) mc_M_loads _ (176, [(0, .inr (.inr 407)), (1, .inl v1), (3, .inl v3), (4, .inl v4), (5, .inl v5), (6, .inl r28), (7, .inl r36), (8, .inl r63), (9, .inl r80), (10, .inl 0), (11, .inl 0)], [.inl r151], M151)
                  refine mm_s1 rfl ?_
                  show mm_Go (mm_run 11) mc_M_loads _ (178, [(0, .inr (.inr 407)), (1, .inl v1), (3, .inl v3), (4, .inl v4), (5, .inl v5), (6, .inl r28), (7, .inl r36), (8, .inl r63), (9, .inl r80), (10, .inl 0), (11, .inl 0), (12, .inl r151)], [], M151)
                  refine mm_s1 rfl ?_
                  show mm_Go (mm_run 11) mc_M_loads _ (181, [(0, .inr (.inr 407)), (1, .inl v1), (3, .inl v3), (4, .inl v4), (5, .inl (mm_w (v5 + 1))), (6, .inl r28), (7, .inl r36), (8, .inl r63), (9, .inl r80), (10, .inl 0), (11, .inl 0), (12, .inl r151)], [], M151)
                  refine mm_s1 rfl ?_
                  show mm_Go (mm_run 11) mc_M_loads _ (19, [(0, .inr (.inr 407)), (1, .inl v1), (3, .inl v3), (4, .inl v4), (5, .inl (mm_w (v5 + 1))), (6, .inl r28), (7, .inl r36), (8, .inl r63), (9, .inl r80), (10, .inl 0), (11, .inl 0), (12, .inl r151)], [], M151)
                  exact nn_go_ext (nn_xc rfl (nn_xc rfl (nn_xc rfl (nn_xc rfl (nn_xc rfl nn_xn))))) (h n L N)
              · show mm_Go (mm_run 11) mc_M_loads _ (126, [(0, .inr (.inr 407)), (1, .inl v1), (3, .inl v3), (4, .inl v4), (5, .inl v5), (6, .inl r28), (7, .inl r36), (8, .inl r63), (9, .inl r80), (10, .inl 0), (11, .inl 0)], [], M80)
                replace c123 := Decidable.not_not.mp c123
                replace h := h.2 c123
                refine mm_s1 rfl ?_
                refine mm_s1 rfl ?_
                refine mm_s1 rfl ?_
                refine mm_s1 rfl ?_
                refine mm_s1 rfl ⟨(nn_c407 NN).1, ?_⟩
                refine nn_call (D := 9) (by decide) (h n L N) ?_
                intro v M131 q; clear L N h
                obtain ⟨r131, rfl, L, N, h⟩ := q
                show mm_Go (mm_run 11) mc_M_loads _ (134, [(0, .inr (.inr 407)), (1, .inl v1), (3, .inl v3), (4, .inl v4), (5, .inl v5), (6, .inl r28), (7, .inl r36), (8, .inl r63), (9, .inl r80), (10, .inl 0), (11, .inl 0)], [.inl r131], M131)
                refine mm_s1 rfl ?_
                show mm_Go (mm_run 11) mc_M_loads _ (176, [(0, .inr (.inr 407)), (1, .inl v1), (3, .inl v3), (4, .inl v4), (5, .inl v5), (6, .inl r28), (7, .inl r36), (8, .inl r63), (9, .inl r80), (10, .inl 0), (11, .inl 0)], [.inl r131], M131)
                refine mm_s1 rfl ?_
                show mm_Go (mm_run 11) mc_M_loads _ (178, [(0, .inr (.inr 407)), (1, .inl v1), (3, .inl v3), (4, .inl v4), (5, .inl v5), (6, .inl r28), (7, .inl r36), (8, .inl r63), (9, .inl r80), (10, .inl 0), (11, .inl 0), (12, .inl r131)], [], M131)
                refine mm_s1 rfl ?_
                show mm_Go (mm_run 11) mc_M_loads _ (181, [(0, .inr (.inr 407)), (1, .inl v1), (3, .inl v3), (4, .inl v4), (5, .inl (mm_w (v5 + 1))), (6, .inl r28), (7, .inl r36), (8, .inl r63), (9, .inl r80), (10, .inl 0), (11, .inl 0), (12, .inl r131)], [], M131)
                refine mm_s1 rfl ?_
                show mm_Go (mm_run 11) mc_M_loads _ (19, [(0, .inr (.inr 407)), (1, .inl v1), (3, .inl v3), (4, .inl v4), (5, .inl (mm_w (v5 + 1))), (6, .inl r28), (7, .inl r36), (8, .inl r63), (9, .inl r80), (10, .inl 0), (11, .inl 0), (12, .inl r131)], [], M131)
                exact nn_go_ext (nn_xc rfl (nn_xc rfl (nn_xc rfl (nn_xc rfl (nn_xc rfl nn_xn))))) (h n L N)
            · show mm_Go (mm_run 11) mc_M_loads _ (109, [(0, .inr (.inr 407)), (1, .inl v1), (3, .inl v3), (4, .inl v4), (5, .inl v5), (6, .inl r28), (7, .inl r36), (8, .inl r63), (9, .inl r80), (10, .inl 0)], [], M80)
              replace c106 := Int.not_le.mp c106
              replace h := h.2 c106
              refine mm_s1 rfl ?_
              refine mm_s1 rfl ?_
              refine mm_s1 rfl ⟨(nn_c407 NN).1, ?_⟩
              refine nn_call (D := 1) (by decide) (h n L N) ?_
              intro v M112 q; clear L N h
              obtain ⟨r112, rfl, L, N, h⟩ := q
              show mm_Go (mm_run 11) mc_M_loads _ (115, [(0, .inr (.inr 407)), (1, .inl v1), (3, .inl v3), (4, .inl v4), (5, .inl v5), (6, .inl r28), (7, .inl r36), (8, .inl r63), (9, .inl r80), (10, .inl 0)], [.inl r112], M112)
              refine mm_s1 rfl ?_
              show mm_Go (mm_run 11) mc_M_loads _ (119, [(0, .inr (.inr 407)), (1, .inl v1), (3, .inl v3), (4, .inl v4), (5, .inl v5), (6, .inl r28), (7, .inl r36), (8, .inl r63), (9, .inl r80), (10, .inl 0)], [.inl r112], M112)
              refine mm_s1 rfl ?_
              show mm_Go (mm_run 11) mc_M_loads _ (121, [(0, .inr (.inr 407)), (1, .inl v1), (3, .inl v3), (4, .inl v4), (5, .inl v5), (6, .inl r28), (7, .inl r36), (8, .inl r63), (9, .inl r80), (10, .inl 0), (11, .inl r112)], [], M112)
              refine mm_s1 rfl ?_
              refine mm_s1 rfl ⟨fun c123 => ?_, fun c123 => ?_⟩
              · show mm_Go (mm_run 11) mc_M_loads _ (137, [(0, .inr (.inr 407)), (1, .inl v1), (3, .inl v3), (4, .inl v4), (5, .inl v5), (6, .inl r28), (7, .inl r36), (8, .inl r63), (9, .inl r80), (10, .inl 0), (11, .inl r112)], [], M112)
                replace h := h.1 c123
                refine mm_s1 rfl ?_
                refine mm_s1 rfl ?_
                refine mm_s1 rfl ⟨fun c140 => ?_, fun c140 => ?_⟩
                · show mm_Go (mm_run 11) mc_M_loads _ (157, [(0, .inr (.inr 407)), (1, .inl v1), (3, .inl v3), (4, .inl v4), (5, .inl v5), (6, .inl r28), (7, .inl r36), (8, .inl r63), (9, .inl r80), (10, .inl 0), (11, .inl r112)], [], M112)
                  replace h := h.1 c140
                  refine mm_s1 rfl ?_
                  refine mm_s1 rfl ?_
                  refine mm_s1 rfl ?_
                  refine mm_s1 rfl ?_
                  refine mm_s1 rfl ?_
                  show mm_Go (mm_run 11) mc_M_loads _ (164, [(0, .inr (.inr 407)), (1, .inl v1), (3, .inl v3), (4, .inl v4), (5, .inl v5), (6, .inl r28), (7, .inl r36), (8, .inl r63), (9, .inl r80), (10, .inl 0), (11, .inl r112)], [.inl r63, .inl r36, .inl 0, .inl v1, .inr (.inr 407)], M112)
                  refine mm_s1 rfl ?_
                  refine mm_s1 rfl ?_
                  refine mm_s1 rfl ?_
                  refine mm_s1 rfl ⟨trivial, ?_⟩
                  refine np_M_packed (by decide) L N ?_
                  show mm_Go (mm_run 11) mc_M_loads _ (173, [(0, .inr (.inr 407)), (1, .inl v1), (3, .inl v3), (4, .inl v4), (5, .inl v5), (6, .inl r28), (7, .inl r36), (8, .inl r63), (9, .inl r80), (10, .inl 0), (11, .inl r112)], [.inl (nf_M_packed r63 r80 0 r112), .inl r36, .inl 0, .inl v1, .inr (.inr 407)], M112)
                  refine mm_s1 rfl ⟨(nn_c407 NN).1, ?_⟩
                  refine nn_call (D := 10) (by decide) (h n L N) ?_
                  intro v M173 q; clear L N h
                  obtain ⟨r173, rfl, L, N, h⟩ := q
                  show mm_Go (mm_run 11) mc_M_loads _ (176, [(0, .inr (.inr 407)), (1, .inl v1), (3, .inl v3), (4, .inl v4), (5, .inl v5), (6, .inl r28), (7, .inl r36), (8, .inl r63), (9, .inl r80), (10, .inl 0), (11, .inl r112)], [.inl r173], M173)
                  refine mm_s1 rfl ?_
                  show mm_Go (mm_run 11) mc_M_loads _ (178, [(0, .inr (.inr 407)), (1, .inl v1), (3, .inl v3), (4, .inl v4), (5, .inl v5), (6, .inl r28), (7, .inl r36), (8, .inl r63), (9, .inl r80), (10, .inl 0), (11, .inl r112), (12, .inl r173)], [], M173)
                  refine mm_s1 rfl ?_
                  show mm_Go (mm_run 11) mc_M_loads _ (181, [(0, .inr (.inr 407)), (1, .inl v1), (3, .inl v3), (4, .inl v4), (5, .inl (mm_w (v5 + 1))), (6, .inl r28), (7, .inl r36), (8, .inl r63), (9, .inl r80), (10, .inl 0), (11, .inl r112), (12, .inl r173)], [], M173)
                  refine mm_s1 rfl ?_
                  show mm_Go (mm_run 11) mc_M_loads _ (19, [(0, .inr (.inr 407)), (1, .inl v1), (3, .inl v3), (4, .inl v4), (5, .inl (mm_w (v5 + 1))), (6, .inl r28), (7, .inl r36), (8, .inl r63), (9, .inl r80), (10, .inl 0), (11, .inl r112), (12, .inl r173)], [], M173)
                  exact nn_go_ext (nn_xc rfl (nn_xc rfl (nn_xc rfl (nn_xc rfl (nn_xc rfl nn_xn))))) (h n L N)
                · show mm_Go (mm_run 11) mc_M_loads _ (143, [(0, .inr (.inr 407)), (1, .inl v1), (3, .inl v3), (4, .inl v4), (5, .inl v5), (6, .inl r28), (7, .inl r36), (8, .inl r63), (9, .inl r80), (10, .inl 0), (11, .inl r112)], [], M112)
                  replace c140 := Decidable.not_not.mp c140
                  replace h := h.2 c140
                  refine mm_s1 rfl ?_
                  refine mm_s1 rfl ?_
                  refine mm_s1 rfl ?_
                  refine mm_s1 rfl ?_
                  refine mm_s1 rfl ?_
                  show mm_Go (mm_run 11) mc_M_loads _ (151, [(0, .inr (.inr 407)), (1, .inl v1), (3, .inl v3), (4, .inl v4), (5, .inl v5), (6, .inl r28), (7, .inl r36), (8, .inl r63), (9, .inl r80), (10, .inl 0), (11, .inl r112)], [.inl r80, .inl r63, .inl r36, .inl v1, .inr (.inr 407)], M112)
                  refine mm_s1 rfl ⟨(nn_c407 NN).1, ?_⟩
                  refine nn_call (D := 11) (by decide) (h n L N) ?_
                  intro v M151 q; clear L N h
                  obtain ⟨r151, rfl, L, N, h⟩ := q
                  show mm_Go (mm_run 11) mc_M_loads _ (154, [(0, .inr (.inr 407)), (1, .inl v1), (3, .inl v3), (4, .inl v4), (5, .inl v5), (6, .inl r28), (7, .inl r36), (8, .inl r63), (9, .inl r80), (10, .inl 0), (11, .inl r112)], [.inl r151], M151)
                  refine mm_s1 rfl ?_
                  show mm_Go (mm_run 11) mc_M_loads _ (176, [(0, .inr (.inr 407)), (1, .inl v1), (3, .inl v3), (4, .inl v4), (5, .inl v5), (6, .inl r28), (7, .inl r36), (8, .inl r63), (9, .inl r80), (10, .inl 0), (11, .inl r112)], [.inl r151], M151)
                  refine mm_s1 rfl ?_
                  show mm_Go (mm_run 11) mc_M_loads _ (178, [(0, .inr (.inr 407)), (1, .inl v1), (3, .inl v3), (4, .inl v4), (5, .inl v5), (6, .inl r28), (7, .inl r36), (8, .inl r63), (9, .inl r80), (10, .inl 0), (11, .inl r112), (12, .inl r151)], [], M151)
                  refine mm_s1 rfl ?_
                  show mm_Go (mm_run 11) mc_M_loads _ (181, [(0, .inr (.inr 407)), (1, .inl v1), (3, .inl v3), (4, .inl v4), (5, .inl (mm_w (v5 + 1))), (6, .inl r28), (7, .inl r36), (8, .inl r63), (9, .inl r80), (10, .inl 0), (11, .inl r112), (12, .inl r151)], [], M151)
                  refine mm_s1 rfl ?_
                  show mm_Go (mm_run 11) mc_M_loads _ (19, [(0, .inr (.inr 407)), (1, .inl v1), (3, .inl v3), (4, .inl v4), (5, .inl (mm_w (v5 + 1))), (6, .inl r28), (7, .inl r36), (8, .inl r63), (9, .inl r80), (10, .inl 0), (11, .inl r112), (12, .inl r151)], [], M151)
                  exact nn_go_ext (nn_xc rfl (nn_xc rfl (nn_xc rfl (nn_xc rfl (nn_xc rfl nn_xn))))) (h n L N)
              · show mm_Go (mm_run 11) mc_M_loads _ (126, [(0, .inr (.inr 407)), (1, .inl v1), (3, .inl v3), (4, .inl v4), (5, .inl v5), (6, .inl r28), (7, .inl r36), (8, .inl r63), (9, .inl r80), (10, .inl 0), (11, .inl r112)], [], M112)
                replace c123 := Decidable.not_not.mp c123
                replace h := h.2 c123
                refine mm_s1 rfl ?_
                refine mm_s1 rfl ?_
                refine mm_s1 rfl ?_
                refine mm_s1 rfl ?_
                refine mm_s1 rfl ⟨(nn_c407 NN).1, ?_⟩
                refine nn_call (D := 9) (by decide) (h n L N) ?_
                intro v M131 q; clear L N h
                obtain ⟨r131, rfl, L, N, h⟩ := q
                show mm_Go (mm_run 11) mc_M_loads _ (134, [(0, .inr (.inr 407)), (1, .inl v1), (3, .inl v3), (4, .inl v4), (5, .inl v5), (6, .inl r28), (7, .inl r36), (8, .inl r63), (9, .inl r80), (10, .inl 0), (11, .inl r112)], [.inl r131], M131)
                refine mm_s1 rfl ?_
                show mm_Go (mm_run 11) mc_M_loads _ (176, [(0, .inr (.inr 407)), (1, .inl v1), (3, .inl v3), (4, .inl v4), (5, .inl v5), (6, .inl r28), (7, .inl r36), (8, .inl r63), (9, .inl r80), (10, .inl 0), (11, .inl r112)], [.inl r131], M131)
                refine mm_s1 rfl ?_
                show mm_Go (mm_run 11) mc_M_loads _ (178, [(0, .inr (.inr 407)), (1, .inl v1), (3, .inl v3), (4, .inl v4), (5, .inl v5), (6, .inl r28), (7, .inl r36), (8, .inl r63), (9, .inl r80), (10, .inl 0), (11, .inl r112), (12, .inl r131)], [], M131)
                refine mm_s1 rfl ?_
                show mm_Go (mm_run 11) mc_M_loads _ (181, [(0, .inr (.inr 407)), (1, .inl v1), (3, .inl v3), (4, .inl v4), (5, .inl (mm_w (v5 + 1))), (6, .inl r28), (7, .inl r36), (8, .inl r63), (9, .inl r80), (10, .inl 0), (11, .inl r112), (12, .inl r131)], [], M131)
                refine mm_s1 rfl ?_
                show mm_Go (mm_run 11) mc_M_loads _ (19, [(0, .inr (.inr 407)), (1, .inl v1), (3, .inl v3), (4, .inl v4), (5, .inl (mm_w (v5 + 1))), (6, .inl r28), (7, .inl r36), (8, .inl r63), (9, .inl r80), (10, .inl 0), (11, .inl r112), (12, .inl r131)], [], M131)
                exact nn_go_ext (nn_xc rfl (nn_xc rfl (nn_xc rfl (nn_xc rfl (nn_xc rfl nn_xn))))) (h n L N)
          · show mm_Go (mm_run 11) mc_M_loads _ (91, [(0, .inr (.inr 407)), (1, .inl v1), (3, .inl v3), (4, .inl v4), (5, .inl v5), (6, .inl r28), (7, .inl r36), (8, .inl r63), (9, .inl r80)], [], M80)
            replace c88 := Int.not_le.mp c88
            replace h := h.2 c88
            refine mm_s1 rfl ?_
            refine mm_s1 rfl ?_
            refine mm_s1 rfl ⟨(nn_c407 NN).1, ?_⟩
            refine nn_call (D := 1) (by decide) (h n L N) ?_
            intro v M94 q; clear L N h
            obtain ⟨r94, rfl, L, N, h⟩ := q
            show mm_Go (mm_run 11) mc_M_loads _ (97, [(0, .inr (.inr 407)), (1, .inl v1), (3, .inl v3), (4, .inl v4), (5, .inl v5), (6, .inl r28), (7, .inl r36), (8, .inl r63), (9, .inl r80)], [.inl r94], M94)
            refine mm_s1 rfl ?_
            show mm_Go (mm_run 11) mc_M_loads _ (101, [(0, .inr (.inr 407)), (1, .inl v1), (3, .inl v3), (4, .inl v4), (5, .inl v5), (6, .inl r28), (7, .inl r36), (8, .inl r63), (9, .inl r80)], [.inl r94], M94)
            refine mm_s1 rfl ?_
            show mm_Go (mm_run 11) mc_M_loads _ (103, [(0, .inr (.inr 407)), (1, .inl v1), (3, .inl v3), (4, .inl v4), (5, .inl v5), (6, .inl r28), (7, .inl r36), (8, .inl r63), (9, .inl r80), (10, .inl r94)], [], M94)
            refine mm_s1 rfl ?_
            refine mm_s1 rfl ?_
            refine mm_s1 rfl ⟨fun c106 => ?_, fun c106 => ?_⟩
            · show mm_Go (mm_run 11) mc_M_loads _ (118, [(0, .inr (.inr 407)), (1, .inl v1), (3, .inl v3), (4, .inl v4), (5, .inl v5), (6, .inl r28), (7, .inl r36), (8, .inl r63), (9, .inl r80), (10, .inl r94)], [], M94)
              replace h := h.1 c106
              refine mm_s1 rfl ?_
              refine mm_s1 rfl ?_
              show mm_Go (mm_run 11) mc_M_loads _ (121, [(0, .inr (.inr 407)), (1, .inl v1), (3, .inl v3), (4, .inl v4), (5, .inl v5), (6, .inl r28), (7, .inl r36), (8, .inl r63), (9, .inl r80), (10, .inl r94), (11, .inl 0)], [], M94)
              refine mm_s1 rfl ?_
              refine mm_s1 rfl ⟨fun c123 => ?_, fun c123 => ?_⟩
              · show mm_Go (mm_run 11) mc_M_loads _ (137, [(0, .inr (.inr 407)), (1, .inl v1), (3, .inl v3), (4, .inl v4), (5, .inl v5), (6, .inl r28), (7, .inl r36), (8, .inl r63), (9, .inl r80), (10, .inl r94), (11, .inl 0)], [], M94)
                replace h := h.1 c123
                refine mm_s1 rfl ?_
                refine mm_s1 rfl ?_
                refine mm_s1 rfl ⟨fun c140 => ?_, fun c140 => ?_⟩
                · show mm_Go (mm_run 11) mc_M_loads _ (157, [(0, .inr (.inr 407)), (1, .inl v1), (3, .inl v3), (4, .inl v4), (5, .inl v5), (6, .inl r28), (7, .inl r36), (8, .inl r63), (9, .inl r80), (10, .inl r94), (11, .inl 0)], [], M94)
                  replace h := h.1 c140
                  refine mm_s1 rfl ?_
                  refine mm_s1 rfl ?_
                  refine mm_s1 rfl ?_
                  refine mm_s1 rfl ?_
                  refine mm_s1 rfl ?_
                  show mm_Go (mm_run 11) mc_M_loads _ (164, [(0, .inr (.inr 407)), (1, .inl v1), (3, .inl v3), (4, .inl v4), (5, .inl v5), (6, .inl r28), (7, .inl r36), (8, .inl r63), (9, .inl r80), (10, .inl r94), (11, .inl 0)], [.inl r63, .inl r36, .inl 0, .inl v1, .inr (.inr 407)], M94)
                  refine mm_s1 rfl ?_
                  refine mm_s1 rfl ?_
                  refine mm_s1 rfl ?_
                  refine mm_s1 rfl ⟨trivial, ?_⟩
                  refine np_M_packed (by decide) L N ?_
                  show mm_Go (mm_run 11) mc_M_loads _ (173, [(0, .inr (.inr 407)), (1, .inl v1), (3, .inl v3), (4, .inl v4), (5, .inl v5), (6, .inl r28), (7, .inl r36), (8, .inl r63), (9, .inl r80), (10, .inl r94), (11, .inl 0)], [.inl (nf_M_packed r63 r80 r94 0), .inl r36, .inl 0, .inl v1, .inr (.inr 407)], M94)
                  refine mm_s1 rfl ⟨(nn_c407 NN).1, ?_⟩
                  refine nn_call (D := 10) (by decide) (h n L N) ?_
                  intro v M173 q; clear L N h
                  obtain ⟨r173, rfl, L, N, h⟩ := q
                  show mm_Go (mm_run 11) mc_M_loads _ (176, [(0, .inr (.inr 407)), (1, .inl v1), (3, .inl v3), (4, .inl v4), (5, .inl v5), (6, .inl r28), (7, .inl r36), (8, .inl r63), (9, .inl r80), (10, .inl r94), (11, .inl 0)], [.inl r173], M173)
                  refine mm_s1 rfl ?_
                  show mm_Go (mm_run 11) mc_M_loads _ (178, [(0, .inr (.inr 407)), (1, .inl v1), (3, .inl v3), (4, .inl v4), (5, .inl v5), (6, .inl r28), (7, .inl r36), (8, .inl r63), (9, .inl r80), (10, .inl r94), (11, .inl 0), (12, .inl r173)], [], M173)
                  refine mm_s1 rfl ?_
                  show mm_Go (mm_run 11) mc_M_loads _ (181, [(0, .inr (.inr 407)), (1, .inl v1), (3, .inl v3), (4, .inl v4), (5, .inl (mm_w (v5 + 1))), (6, .inl r28), (7, .inl r36), (8, .inl r63), (9, .inl r80), (10, .inl r94), (11, .inl 0), (12, .inl r173)], [], M173)
                  refine mm_s1 rfl ?_
                  show mm_Go (mm_run 11) mc_M_loads _ (19, [(0, .inr (.inr 407)), (1, .inl v1), (3, .inl v3), (4, .inl v4), (5, .inl (mm_w (v5 + 1))), (6, .inl r28), (7, .inl r36), (8, .inl r63), (9, .inl r80), (10, .inl r94), (11, .inl 0), (12, .inl r173)], [], M173)
                  exact nn_go_ext (nn_xc rfl (nn_xc rfl (nn_xc rfl (nn_xc rfl (nn_xc rfl nn_xn))))) (h n L N)
                · show mm_Go (mm_run 11) mc_M_loads _ (143, [(0, .inr (.inr 407)), (1, .inl v1), (3, .inl v3), (4, .inl v4), (5, .inl v5), (6, .inl r28), (7, .inl r36), (8, .inl r63), (9, .inl r80), (10, .inl r94), (11, .inl 0)], [], M94)
                  replace c140 := Decidable.not_not.mp c140
                  replace h := h.2 c140
                  refine mm_s1 rfl ?_
                  refine mm_s1 rfl ?_
                  refine mm_s1 rfl ?_
                  refine mm_s1 rfl ?_
                  refine mm_s1 rfl ?_
                  show mm_Go (mm_run 11) mc_M_loads _ (151, [(0, .inr (.inr 407)), (1, .inl v1), (3, .inl v3), (4, .inl v4), (5, .inl v5), (6, .inl r28), (7, .inl r36), (8, .inl r63), (9, .inl r80), (10, .inl r94), (11, .inl 0)], [.inl r80, .inl r63, .inl r36, .inl v1, .inr (.inr 407)], M94)
                  refine mm_s1 rfl ⟨(nn_c407 NN).1, ?_⟩
                  refine nn_call (D := 11) (by decide) (h n L N) ?_
                  intro v M151 q; clear L N h
                  obtain ⟨r151, rfl, L, N, h⟩ := q
                  show mm_Go (mm_run 11) mc_M_loads _ (154, [(0, .inr (.inr 407)), (1, .inl v1), (3, .inl v3), (4, .inl v4), (5, .inl v5), (6, .inl r28), (7, .inl r36), (8, .inl r63), (9, .inl r80), (10, .inl r94), (11, .inl 0)], [.inl r151], M151)
                  refine mm_s1 rfl ?_
                  show mm_Go (mm_run 11) mc_M_loads _ (176, [(0, .inr (.inr 407)), (1, .inl v1), (3, .inl v3), (4, .inl v4), (5, .inl v5), (6, .inl r28), (7, .inl r36), (8, .inl r63), (9, .inl r80), (10, .inl r94), (11, .inl 0)], [.inl r151], M151)
                  refine mm_s1 rfl ?_
                  show mm_Go (mm_run 11) mc_M_loads _ (178, [(0, .inr (.inr 407)), (1, .inl v1), (3, .inl v3), (4, .inl v4), (5, .inl v5), (6, .inl r28), (7, .inl r36), (8, .inl r63), (9, .inl r80), (10, .inl r94), (11, .inl 0), (12, .inl r151)], [], M151)
                  refine mm_s1 rfl ?_
                  show mm_Go (mm_run 11) mc_M_loads _ (181, [(0, .inr (.inr 407)), (1, .inl v1), (3, .inl v3), (4, .inl v4), (5, .inl (mm_w (v5 + 1))), (6, .inl r28), (7, .inl r36), (8, .inl r63), (9, .inl r80), (10, .inl r94), (11, .inl 0), (12, .inl r151)], [], M151)
                  refine mm_s1 rfl ?_
                  show mm_Go (mm_run 11) mc_M_loads _ (19, [(0, .inr (.inr 407)), (1, .inl v1), (3, .inl v3), (4, .inl v4), (5, .inl (mm_w (v5 + 1))), (6, .inl r28), (7, .inl r36), (8, .inl r63), (9, .inl r80), (10, .inl r94), (11, .inl 0), (12, .inl r151)], [], M151)
                  exact nn_go_ext (nn_xc rfl (nn_xc rfl (nn_xc rfl (nn_xc rfl (nn_xc rfl nn_xn))))) (h n L N)
              · show mm_Go (mm_run 11) mc_M_loads _ (126, [(0, .inr (.inr 407)), (1, .inl v1), (3, .inl v3), (4, .inl v4), (5, .inl v5), (6, .inl r28), (7, .inl r36), (8, .inl r63), (9, .inl r80), (10, .inl r94), (11, .inl 0)], [], M94)
                replace c123 := Decidable.not_not.mp c123
                replace h := h.2 c123
                refine mm_s1 rfl ?_
                refine mm_s1 rfl ?_
                refine mm_s1 rfl ?_
                refine mm_s1 rfl ?_
                refine mm_s1 rfl ⟨(nn_c407 NN).1, ?_⟩
                refine nn_call (D := 9) (by decide) (h n L N) ?_
                intro v M131 q; clear L N h
                obtain ⟨r131, rfl, L, N, h⟩ := q
                show mm_Go (mm_run 11) mc_M_loads _ (134, [(0, .inr (.inr 407)), (1, .inl v1), (3, .inl v3), (4, .inl v4), (5, .inl v5), (6, .inl r28), (7, .inl r36), (8, .inl r63), (9, .inl r80), (10, .inl r94), (11, .inl 0)], [.inl r131], M131)
                refine mm_s1 rfl ?_
                show mm_Go (mm_run 11) mc_M_loads _ (176, [(0, .inr (.inr 407)), (1, .inl v1), (3, .inl v3), (4, .inl v4), (5, .inl v5), (6, .inl r28), (7, .inl r36), (8, .inl r63), (9, .inl r80), (10, .inl r94), (11, .inl 0)], [.inl r131], M131)
                refine mm_s1 rfl ?_
                show mm_Go (mm_run 11) mc_M_loads _ (178, [(0, .inr (.inr 407)), (1, .inl v1), (3, .inl v3), (4, .inl v4), (5, .inl v5), (6, .inl r28), (7, .inl r36), (8, .inl r63), (9, .inl r80), (10, .inl r94), (11, .inl 0), (12, .inl r131)], [], M131)
                refine mm_s1 rfl ?_
                show mm_Go (mm_run 11) mc_M_loads _ (181, [(0, .inr (.inr 407)), (1, .inl v1), (3, .inl v3), (4, .inl v4), (5, .inl (mm_w (v5 + 1))), (6, .inl r28), (7, .inl r36), (8, .inl r63), (9, .inl r80), (10, .inl r94), (11, .inl 0), (12, .inl r131)], [], M131)
                refine mm_s1 rfl ?_
                show mm_Go (mm_run 11) mc_M_loads _ (19, [(0, .inr (.inr 407)), (1, .inl v1), (3, .inl v3), (4, .inl v4), (5, .inl (mm_w (v5 + 1))), (6, .inl r28), (7, .inl r36), (8, .inl r63), (9, .inl r80), (10, .inl r94), (11, .inl 0), (12, .inl r131)], [], M131)
                exact nn_go_ext (nn_xc rfl (nn_xc rfl (nn_xc rfl (nn_xc rfl (nn_xc rfl nn_xn))))) (h n L N)
            · show mm_Go (mm_run 11) mc_M_loads _ (109, [(0, .inr (.inr 407)), (1, .inl v1), (3, .inl v3), (4, .inl v4), (5, .inl v5), (6, .inl r28), (7, .inl r36), (8, .inl r63), (9, .inl r80), (10, .inl r94)], [], M94)
              replace c106 := Int.not_le.mp c106
              replace h := h.2 c106
              refine mm_s1 rfl ?_
              refine mm_s1 rfl ?_
              refine mm_s1 rfl ⟨(nn_c407 NN).1, ?_⟩
              refine nn_call (D := 1) (by decide) (h n L N) ?_
              intro v M112 q; clear L N h
              obtain ⟨r112, rfl, L, N, h⟩ := q
              show mm_Go (mm_run 11) mc_M_loads _ (115, [(0, .inr (.inr 407)), (1, .inl v1), (3, .inl v3), (4, .inl v4), (5, .inl v5), (6, .inl r28), (7, .inl r36), (8, .inl r63), (9, .inl r80), (10, .inl r94)], [.inl r112], M112)
              refine mm_s1 rfl ?_
              show mm_Go (mm_run 11) mc_M_loads _ (119, [(0, .inr (.inr 407)), (1, .inl v1), (3, .inl v3), (4, .inl v4), (5, .inl v5), (6, .inl r28), (7, .inl r36), (8, .inl r63), (9, .inl r80), (10, .inl r94)], [.inl r112], M112)
              refine mm_s1 rfl ?_
              show mm_Go (mm_run 11) mc_M_loads _ (121, [(0, .inr (.inr 407)), (1, .inl v1), (3, .inl v3), (4, .inl v4), (5, .inl v5), (6, .inl r28), (7, .inl r36), (8, .inl r63), (9, .inl r80), (10, .inl r94), (11, .inl r112)], [], M112)
              refine mm_s1 rfl ?_
              refine mm_s1 rfl ⟨fun c123 => ?_, fun c123 => ?_⟩
              · show mm_Go (mm_run 11) mc_M_loads _ (137, [(0, .inr (.inr 407)), (1, .inl v1), (3, .inl v3), (4, .inl v4), (5, .inl v5), (6, .inl r28), (7, .inl r36), (8, .inl r63), (9, .inl r80), (10, .inl r94), (11, .inl r112)], [], M112)
                replace h := h.1 c123
                refine mm_s1 rfl ?_
                refine mm_s1 rfl ?_
                refine mm_s1 rfl ⟨fun c140 => ?_, fun c140 => ?_⟩
                · show mm_Go (mm_run 11) mc_M_loads _ (157, [(0, .inr (.inr 407)), (1, .inl v1), (3, .inl v3), (4, .inl v4), (5, .inl v5), (6, .inl r28), (7, .inl r36), (8, .inl r63), (9, .inl r80), (10, .inl r94), (11, .inl r112)], [], M112)
                  replace h := h.1 c140
                  refine mm_s1 rfl ?_
                  refine mm_s1 rfl ?_
                  refine mm_s1 rfl ?_
                  refine mm_s1 rfl ?_
                  refine mm_s1 rfl ?_
                  show mm_Go (mm_run 11) mc_M_loads _ (164, [(0, .inr (.inr 407)), (1, .inl v1), (3, .inl v3), (4, .inl v4), (5, .inl v5), (6, .inl r28), (7, .inl r36), (8, .inl r63), (9, .inl r80), (10, .inl r94), (11, .inl r112)], [.inl r63, .inl r36, .inl 0, .inl v1, .inr (.inr 407)], M112)
                  refine mm_s1 rfl ?_
                  refine mm_s1 rfl ?_
                  refine mm_s1 rfl ?_
                  refine mm_s1 rfl ⟨trivial, ?_⟩
                  refine np_M_packed (by decide) L N ?_
                  show mm_Go (mm_run 11) mc_M_loads _ (173, [(0, .inr (.inr 407)), (1, .inl v1), (3, .inl v3), (4, .inl v4), (5, .inl v5), (6, .inl r28), (7, .inl r36), (8, .inl r63), (9, .inl r80), (10, .inl r94), (11, .inl r112)], [.inl (nf_M_packed r63 r80 r94 r112), .inl r36, .inl 0, .inl v1, .inr (.inr 407)], M112)
                  refine mm_s1 rfl ⟨(nn_c407 NN).1, ?_⟩
                  refine nn_call (D := 10) (by decide) (h n L N) ?_
                  intro v M173 q; clear L N h
                  obtain ⟨r173, rfl, L, N, h⟩ := q
                  show mm_Go (mm_run 11) mc_M_loads _ (176, [(0, .inr (.inr 407)), (1, .inl v1), (3, .inl v3), (4, .inl v4), (5, .inl v5), (6, .inl r28), (7, .inl r36), (8, .inl r63), (9, .inl r80), (10, .inl r94), (11, .inl r112)], [.inl r173], M173)
                  refine mm_s1 rfl ?_
                  show mm_Go (mm_run 11) mc_M_loads _ (178, [(0, .inr (.inr 407)), (1, .inl v1), (3, .inl v3), (4, .inl v4), (5, .inl v5), (6, .inl r28), (7, .inl r36), (8, .inl r63), (9, .inl r80), (10, .inl r94), (11, .inl r112), (12, .inl r173)], [], M173)
                  refine mm_s1 rfl ?_
                  show mm_Go (mm_run 11) mc_M_loads _ (181, [(0, .inr (.inr 407)), (1, .inl v1), (3, .inl v3), (4, .inl v4), (5, .inl (mm_w (v5 + 1))), (6, .inl r28), (7, .inl r36), (8, .inl r63), (9, .inl r80), (10, .inl r94), (11, .inl r112), (12, .inl r173)], [], M173)
                  refine mm_s1 rfl ?_
                  show mm_Go (mm_run 11) mc_M_loads _ (19, [(0, .inr (.inr 407)), (1, .inl v1), (3, .inl v3), (4, .inl v4), (5, .inl (mm_w (v5 + 1))), (6, .inl r28), (7, .inl r36), (8, .inl r63), (9, .inl r80), (10, .inl r94), (11, .inl r112), (12, .inl r173)], [], M173)
                  exact nn_go_ext (nn_xc rfl (nn_xc rfl (nn_xc rfl (nn_xc rfl (nn_xc rfl nn_xn))))) (h n L N)
                · show mm_Go (mm_run 11) mc_M_loads _ (143, [(0, .inr (.inr 407)), (1, .inl v1), (3, .inl v3), (4, .inl v4), (5, .inl v5), (6, .inl r28), (7, .inl r36), (8, .inl r63), (9, .inl r80), (10, .inl r94), (11, .inl r112)], [], M112)
                  replace c140 := Decidable.not_not.mp c140
                  replace h := h.2 c140
                  refine mm_s1 rfl ?_
                  refine mm_s1 rfl ?_
                  refine mm_s1 rfl ?_
                  refine mm_s1 rfl ?_
                  refine mm_s1 rfl ?_
                  show mm_Go (mm_run 11) mc_M_loads _ (151, [(0, .inr (.inr 407)), (1, .inl v1), (3, .inl v3), (4, .inl v4), (5, .inl v5), (6, .inl r28), (7, .inl r36), (8, .inl r63), (9, .inl r80), (10, .inl r94), (11, .inl r112)], [.inl r80, .inl r63, .inl r36, .inl v1, .inr (.inr 407)], M112)
                  refine mm_s1 rfl ⟨(nn_c407 NN).1, ?_⟩
                  refine nn_call (D := 11) (by decide) (h n L N) ?_
                  intro v M151 q; clear L N h
                  obtain ⟨r151, rfl, L, N, h⟩ := q
                  show mm_Go (mm_run 11) mc_M_loads _ (154, [(0, .inr (.inr 407)), (1, .inl v1), (3, .inl v3), (4, .inl v4), (5, .inl v5), (6, .inl r28), (7, .inl r36), (8, .inl r63), (9, .inl r80), (10, .inl r94), (11, .inl r112)], [.inl r151], M151)
                  refine mm_s1 rfl ?_
                  show mm_Go (mm_run 11) mc_M_loads _ (176, [(0, .inr (.inr 407)), (1, .inl v1), (3, .inl v3), (4, .inl v4), (5, .inl v5), (6, .inl r28), (7, .inl r36), (8, .inl r63), (9, .inl r80), (10, .inl r94), (11, .inl r112)], [.inl r151], M151)
                  refine mm_s1 rfl ?_
                  show mm_Go (mm_run 11) mc_M_loads _ (178, [(0, .inr (.inr 407)), (1, .inl v1), (3, .inl v3), (4, .inl v4), (5, .inl v5), (6, .inl r28), (7, .inl r36), (8, .inl r63), (9, .inl r80), (10, .inl r94), (11, .inl r112), (12, .inl r151)], [], M151)
                  refine mm_s1 rfl ?_
                  show mm_Go (mm_run 11) mc_M_loads _ (181, [(0, .inr (.inr 407)), (1, .inl v1), (3, .inl v3), (4, .inl v4), (5, .inl (mm_w (v5 + 1))), (6, .inl r28), (7, .inl r36), (8, .inl r63), (9, .inl r80), (10, .inl r94), (11, .inl r112), (12, .inl r151)], [], M151)
                  refine mm_s1 rfl ?_
                  show mm_Go (mm_run 11) mc_M_loads _ (19, [(0, .inr (.inr 407)), (1, .inl v1), (3, .inl v3), (4, .inl v4), (5, .inl (mm_w (v5 + 1))), (6, .inl r28), (7, .inl r36), (8, .inl r63), (9, .inl r80), (10, .inl r94), (11, .inl r112), (12, .inl r151)], [], M151)
                  exact nn_go_ext (nn_xc rfl (nn_xc rfl (nn_xc rfl (nn_xc rfl (nn_xc rfl nn_xn))))) (h n L N)
              · show mm_Go (mm_run 11) mc_M_loads _ (126, [(0, .inr (.inr 407)), (1, .inl v1), (3, .inl v3), (4, .inl v4), (5, .inl v5), (6, .inl r28), (7, .inl r36), (8, .inl r63), (9, .inl r80), (10, .inl r94), (11, .inl r112)], [], M112)
                replace c123 := Decidable.not_not.mp c123
                replace h := h.2 c123
                refine mm_s1 rfl ?_
                refine mm_s1 rfl ?_
                refine mm_s1 rfl ?_
                refine mm_s1 rfl ?_
                refine mm_s1 rfl ⟨(nn_c407 NN).1, ?_⟩
                refine nn_call (D := 9) (by decide) (h n L N) ?_
                intro v M131 q; clear L N h
                obtain ⟨r131, rfl, L, N, h⟩ := q
                show mm_Go (mm_run 11) mc_M_loads _ (134, [(0, .inr (.inr 407)), (1, .inl v1), (3, .inl v3), (4, .inl v4), (5, .inl v5), (6, .inl r28), (7, .inl r36), (8, .inl r63), (9, .inl r80), (10, .inl r94), (11, .inl r112)], [.inl r131], M131)
                refine mm_s1 rfl ?_
                show mm_Go (mm_run 11) mc_M_loads _ (176, [(0, .inr (.inr 407)), (1, .inl v1), (3, .inl v3), (4, .inl v4), (5, .inl v5), (6, .inl r28), (7, .inl r36), (8, .inl r63), (9, .inl r80), (10, .inl r94), (11, .inl r112)], [.inl r131], M131)
                refine mm_s1 rfl ?_
                show mm_Go (mm_run 11) mc_M_loads _ (178, [(0, .inr (.inr 407)), (1, .inl v1), (3, .inl v3), (4, .inl v4), (5, .inl v5), (6, .inl r28), (7, .inl r36), (8, .inl r63), (9, .inl r80), (10, .inl r94), (11, .inl r112), (12, .inl r131)], [], M131)
                refine mm_s1 rfl ?_
                show mm_Go (mm_run 11) mc_M_loads _ (181, [(0, .inr (.inr 407)), (1, .inl v1), (3, .inl v3), (4, .inl v4), (5, .inl (mm_w (v5 + 1))), (6, .inl r28), (7, .inl r36), (8, .inl r63), (9, .inl r80), (10, .inl r94), (11, .inl r112), (12, .inl r131)], [], M131)
                refine mm_s1 rfl ?_
                show mm_Go (mm_run 11) mc_M_loads _ (19, [(0, .inr (.inr 407)), (1, .inl v1), (3, .inl v3), (4, .inl v4), (5, .inl (mm_w (v5 + 1))), (6, .inl r28), (7, .inl r36), (8, .inl r63), (9, .inl r80), (10, .inl r94), (11, .inl r112), (12, .inl r131)], [], M131)
                exact nn_go_ext (nn_xc rfl (nn_xc rfl (nn_xc rfl (nn_xc rfl (nn_xc rfl nn_xn))))) (h n L N)
        · show mm_Go (mm_run 11) mc_M_loads _ (73, [(0, .inr (.inr 407)), (1, .inl v1), (3, .inl v3), (4, .inl v4), (5, .inl v5), (6, .inl r28), (7, .inl r36), (8, .inl r63)], [], M63)
          replace c70 := Decidable.not_not.mp c70
          replace h := h.2 c70
          refine mm_s1 rfl ?_
          refine mm_s1 rfl ?_
          show mm_Go (mm_run 11) mc_M_loads _ (83, [(0, .inr (.inr 407)), (1, .inl v1), (3, .inl v3), (4, .inl v4), (5, .inl v5), (6, .inl r28), (7, .inl r36), (8, .inl r63)], [.inl 0], M63)
          refine mm_s1 rfl ?_
          show mm_Go (mm_run 11) mc_M_loads _ (85, [(0, .inr (.inr 407)), (1, .inl v1), (3, .inl v3), (4, .inl v4), (5, .inl v5), (6, .inl r28), (7, .inl r36), (8, .inl r63), (9, .inl 0)], [], M63)
          refine mm_s1 rfl ?_
          refine mm_s1 rfl ?_
          refine mm_s1 rfl ⟨fun c88 => ?_, fun c88 => ?_⟩
          · show mm_Go (mm_run 11) mc_M_loads _ (100, [(0, .inr (.inr 407)), (1, .inl v1), (3, .inl v3), (4, .inl v4), (5, .inl v5), (6, .inl r28), (7, .inl r36), (8, .inl r63), (9, .inl 0)], [], M63)
            replace h := h.1 c88
            refine mm_s1 rfl ?_
            refine mm_s1 rfl ?_
            show mm_Go (mm_run 11) mc_M_loads _ (103, [(0, .inr (.inr 407)), (1, .inl v1), (3, .inl v3), (4, .inl v4), (5, .inl v5), (6, .inl r28), (7, .inl r36), (8, .inl r63), (9, .inl 0), (10, .inl 0)], [], M63)
            refine mm_s1 rfl ?_
            refine mm_s1 rfl ?_
            refine mm_s1 rfl ⟨fun c106 => ?_, fun c106 => ?_⟩
            · show mm_Go (mm_run 11) mc_M_loads _ (118, [(0, .inr (.inr 407)), (1, .inl v1), (3, .inl v3), (4, .inl v4), (5, .inl v5), (6, .inl r28), (7, .inl r36), (8, .inl r63), (9, .inl 0), (10, .inl 0)], [], M63)
              replace h := h.1 c106
              refine mm_s1 rfl ?_
              refine mm_s1 rfl ?_
              show mm_Go (mm_run 11) mc_M_loads _ (121, [(0, .inr (.inr 407)), (1, .inl v1), (3, .inl v3), (4, .inl v4), (5, .inl v5), (6, .inl r28), (7, .inl r36), (8, .inl r63), (9, .inl 0), (10, .inl 0), (11, .inl 0)], [], M63)
              refine mm_s1 rfl ?_
              refine mm_s1 rfl ⟨fun c123 => ?_, fun c123 => ?_⟩
              · show mm_Go (mm_run 11) mc_M_loads _ (137, [(0, .inr (.inr 407)), (1, .inl v1), (3, .inl v3), (4, .inl v4), (5, .inl v5), (6, .inl r28), (7, .inl r36), (8, .inl r63), (9, .inl 0), (10, .inl 0), (11, .inl 0)], [], M63)
                replace h := h.1 c123
                refine mm_s1 rfl ?_
                refine mm_s1 rfl ?_
                refine mm_s1 rfl ⟨fun c140 => ?_, fun c140 => ?_⟩
                · show mm_Go (mm_run 11) mc_M_loads _ (157, [(0, .inr (.inr 407)), (1, .inl v1), (3, .inl v3), (4, .inl v4), (5, .inl v5), (6, .inl r28), (7, .inl r36), (8, .inl r63), (9, .inl 0), (10, .inl 0), (11, .inl 0)], [], M63)
                  replace h := h.1 c140
                  refine mm_s1 rfl ?_
                  refine mm_s1 rfl ?_
                  refine mm_s1 rfl ?_
                  refine mm_s1 rfl ?_
                  refine mm_s1 rfl ?_
                  show mm_Go (mm_run 11) mc_M_loads _ (164, [(0, .inr (.inr 407)), (1, .inl v1), (3, .inl v3), (4, .inl v4), (5, .inl v5), (6, .inl r28), (7, .inl r36), (8, .inl r63), (9, .inl 0), (10, .inl 0), (11, .inl 0)], [.inl r63, .inl r36, .inl 0, .inl v1, .inr (.inr 407)], M63)
                  refine mm_s1 rfl ?_
                  refine mm_s1 rfl ?_
                  refine mm_s1 rfl ?_
                  refine mm_s1 rfl ⟨trivial, ?_⟩
                  refine np_M_packed (by decide) L N ?_
                  show mm_Go (mm_run 11) mc_M_loads _ (173, [(0, .inr (.inr 407)), (1, .inl v1), (3, .inl v3), (4, .inl v4), (5, .inl v5), (6, .inl r28), (7, .inl r36), (8, .inl r63), (9, .inl 0), (10, .inl 0), (11, .inl 0)], [.inl (nf_M_packed r63 0 0 0), .inl r36, .inl 0, .inl v1, .inr (.inr 407)], M63)
                  refine mm_s1 rfl ⟨(nn_c407 NN).1, ?_⟩
                  refine nn_call (D := 10) (by decide) (h n L N) ?_
                  intro v M173 q; clear L N h
                  obtain ⟨r173, rfl, L, N, h⟩ := q
                  show mm_Go (mm_run 11) mc_M_loads _ (176, [(0, .inr (.inr 407)), (1, .inl v1), (3, .inl v3), (4, .inl v4), (5, .inl v5), (6, .inl r28), (7, .inl r36), (8, .inl r63), (9, .inl 0), (10, .inl 0), (11, .inl 0)], [.inl r173], M173)
                  refine mm_s1 rfl ?_
                  show mm_Go (mm_run 11) mc_M_loads _ (178, [(0, .inr (.inr 407)), (1, .inl v1), (3, .inl v3), (4, .inl v4), (5, .inl v5), (6, .inl r28), (7, .inl r36), (8, .inl r63), (9, .inl 0), (10, .inl 0), (11, .inl 0), (12, .inl r173)], [], M173)
                  refine mm_s1 rfl ?_
                  show mm_Go (mm_run 11) mc_M_loads _ (181, [(0, .inr (.inr 407)), (1, .inl v1), (3, .inl v3), (4, .inl v4), (5, .inl (mm_w (v5 + 1))), (6, .inl r28), (7, .inl r36), (8, .inl r63), (9, .inl 0), (10, .inl 0), (11, .inl 0), (12, .inl r173)], [], M173)
                  refine mm_s1 rfl ?_
                  show mm_Go (mm_run 11) mc_M_loads _ (19, [(0, .inr (.inr 407)), (1, .inl v1), (3, .inl v3), (4, .inl v4), (5, .inl (mm_w (v5 + 1))), (6, .inl r28), (7, .inl r36), (8, .inl r63), (9, .inl 0), (10, .inl 0), (11, .inl 0), (12, .inl r173)], [], M173)
                  exact nn_go_ext (nn_xc rfl (nn_xc rfl (nn_xc rfl (nn_xc rfl (nn_xc rfl nn_xn))))) (h n L N)
                · show mm_Go (mm_run 11) mc_M_loads _ (143, [(0, .inr (.inr 407)), (1, .inl v1), (3, .inl v3), (4, .inl v4), (5, .inl v5), (6, .inl r28), (7, .inl r36), (8, .inl r63), (9, .inl 0), (10, .inl 0), (11, .inl 0)], [], M63)
                  replace c140 := Decidable.not_not.mp c140
                  replace h := h.2 c140
                  refine mm_s1 rfl ?_
                  refine mm_s1 rfl ?_
                  refine mm_s1 rfl ?_
                  refine mm_s1 rfl ?_
                  refine mm_s1 rfl ?_
                  show mm_Go (mm_run 11) mc_M_loads _ (151, [(0, .inr (.inr 407)), (1, .inl v1), (3, .inl v3), (4, .inl v4), (5, .inl v5), (6, .inl r28), (7, .inl r36), (8, .inl r63), (9, .inl 0), (10, .inl 0), (11, .inl 0)], [.inl 0, .inl r63, .inl r36, .inl v1, .inr (.inr 407)], M63)
                  refine mm_s1 rfl ⟨(nn_c407 NN).1, ?_⟩
                  refine nn_call (D := 11) (by decide) (h n L N) ?_
                  intro v M151 q; clear L N h
                  obtain ⟨r151, rfl, L, N, h⟩ := q
                  show mm_Go (mm_run 11) mc_M_loads _ (154, [(0, .inr (.inr 407)), (1, .inl v1), (3, .inl v3), (4, .inl v4), (5, .inl v5), (6, .inl r28), (7, .inl r36), (8, .inl r63), (9, .inl 0), (10, .inl 0), (11, .inl 0)], [.inl r151], M151)
                  refine mm_s1 rfl ?_
                  show mm_Go (mm_run 11) mc_M_loads _ (176, [(0, .inr (.inr 407)), (1, .inl v1), (3, .inl v3), (4, .inl v4), (5, .inl v5), (6, .inl r28), (7, .inl r36), (8, .inl r63), (9, .inl 0), (10, .inl 0), (11, .inl 0)], [.inl r151], M151)
                  refine mm_s1 rfl ?_
                  show mm_Go (mm_run 11) mc_M_loads _ (178, [(0, .inr (.inr 407)), (1, .inl v1), (3, .inl v3), (4, .inl v4), (5, .inl v5), (6, .inl r28), (7, .inl r36), (8, .inl r63), (9, .inl 0), (10, .inl 0), (11, .inl 0), (12, .inl r151)], [], M151)
                  refine mm_s1 rfl ?_
                  show mm_Go (mm_run 11) mc_M_loads _ (181, [(0, .inr (.inr 407)), (1, .inl v1), (3, .inl v3), (4, .inl v4), (5, .inl (mm_w (v5 + 1))), (6, .inl r28), (7, .inl r36), (8, .inl r63), (9, .inl 0), (10, .inl 0), (11, .inl 0), (12, .inl r151)], [], M151)
                  refine mm_s1 rfl ?_
                  show mm_Go (mm_run 11) mc_M_loads _ (19, [(0, .inr (.inr 407)), (1, .inl v1), (3, .inl v3), (4, .inl v4), (5, .inl (mm_w (v5 + 1))), (6, .inl r28), (7, .inl r36), (8, .inl r63), (9, .inl 0), (10, .inl 0), (11, .inl 0), (12, .inl r151)], [], M151)
                  exact nn_go_ext (nn_xc rfl (nn_xc rfl (nn_xc rfl (nn_xc rfl (nn_xc rfl nn_xn))))) (h n L N)
              · show mm_Go (mm_run 11) mc_M_loads _ (126, [(0, .inr (.inr 407)), (1, .inl v1), (3, .inl v3), (4, .inl v4), (5, .inl v5), (6, .inl r28), (7, .inl r36), (8, .inl r63), (9, .inl 0), (10, .inl 0), (11, .inl 0)], [], M63)
                replace c123 := Decidable.not_not.mp c123
                replace h := h.2 c123
                refine mm_s1 rfl ?_
                refine mm_s1 rfl ?_
                refine mm_s1 rfl ?_
                refine mm_s1 rfl ?_
                refine mm_s1 rfl ⟨(nn_c407 NN).1, ?_⟩
                refine nn_call (D := 9) (by decide) (h n L N) ?_
                intro v M131 q; clear L N h
                obtain ⟨r131, rfl, L, N, h⟩ := q
                show mm_Go (mm_run 11) mc_M_loads _ (134, [(0, .inr (.inr 407)), (1, .inl v1), (3, .inl v3), (4, .inl v4), (5, .inl v5), (6, .inl r28), (7, .inl r36), (8, .inl r63), (9, .inl 0), (10, .inl 0), (11, .inl 0)], [.inl r131], M131)
                refine mm_s1 rfl ?_
                show mm_Go (mm_run 11) mc_M_loads _ (176, [(0, .inr (.inr 407)), (1, .inl v1), (3, .inl v3), (4, .inl v4), (5, .inl v5), (6, .inl r28), (7, .inl r36), (8, .inl r63), (9, .inl 0), (10, .inl 0), (11, .inl 0)], [.inl r131], M131)
                refine mm_s1 rfl ?_
                show mm_Go (mm_run 11) mc_M_loads _ (178, [(0, .inr (.inr 407)), (1, .inl v1), (3, .inl v3), (4, .inl v4), (5, .inl v5), (6, .inl r28), (7, .inl r36), (8, .inl r63), (9, .inl 0), (10, .inl 0), (11, .inl 0), (12, .inl r131)], [], M131)
                refine mm_s1 rfl ?_
                show mm_Go (mm_run 11) mc_M_loads _ (181, [(0, .inr (.inr 407)), (1, .inl v1), (3, .inl v3), (4, .inl v4), (5, .inl (mm_w (v5 + 1))), (6, .inl r28), (7, .inl r36), (8, .inl r63), (9, .inl 0), (10, .inl 0), (11, .inl 0), (12, .inl r131)], [], M131)
                refine mm_s1 rfl ?_
                show mm_Go (mm_run 11) mc_M_loads _ (19, [(0, .inr (.inr 407)), (1, .inl v1), (3, .inl v3), (4, .inl v4), (5, .inl (mm_w (v5 + 1))), (6, .inl r28), (7, .inl r36), (8, .inl r63), (9, .inl 0), (10, .inl 0), (11, .inl 0), (12, .inl r131)], [], M131)
                exact nn_go_ext (nn_xc rfl (nn_xc rfl (nn_xc rfl (nn_xc rfl (nn_xc rfl nn_xn))))) (h n L N)
            · show mm_Go (mm_run 11) mc_M_loads _ (109, [(0, .inr (.inr 407)), (1, .inl v1), (3, .inl v3), (4, .inl v4), (5, .inl v5), (6, .inl r28), (7, .inl r36), (8, .inl r63), (9, .inl 0), (10, .inl 0)], [], M63)
              replace c106 := Int.not_le.mp c106
              replace h := h.2 c106
              refine mm_s1 rfl ?_
              refine mm_s1 rfl ?_
              refine mm_s1 rfl ⟨(nn_c407 NN).1, ?_⟩
              refine nn_call (D := 1) (by decide) (h n L N) ?_
              intro v M112 q; clear L N h
              obtain ⟨r112, rfl, L, N, h⟩ := q
              show mm_Go (mm_run 11) mc_M_loads _ (115, [(0, .inr (.inr 407)), (1, .inl v1), (3, .inl v3), (4, .inl v4), (5, .inl v5), (6, .inl r28), (7, .inl r36), (8, .inl r63), (9, .inl 0), (10, .inl 0)], [.inl r112], M112)
              refine mm_s1 rfl ?_
              show mm_Go (mm_run 11) mc_M_loads _ (119, [(0, .inr (.inr 407)), (1, .inl v1), (3, .inl v3), (4, .inl v4), (5, .inl v5), (6, .inl r28), (7, .inl r36), (8, .inl r63), (9, .inl 0), (10, .inl 0)], [.inl r112], M112)
              refine mm_s1 rfl ?_
              show mm_Go (mm_run 11) mc_M_loads _ (121, [(0, .inr (.inr 407)), (1, .inl v1), (3, .inl v3), (4, .inl v4), (5, .inl v5), (6, .inl r28), (7, .inl r36), (8, .inl r63), (9, .inl 0), (10, .inl 0), (11, .inl r112)], [], M112)
              refine mm_s1 rfl ?_
              refine mm_s1 rfl ⟨fun c123 => ?_, fun c123 => ?_⟩
              · show mm_Go (mm_run 11) mc_M_loads _ (137, [(0, .inr (.inr 407)), (1, .inl v1), (3, .inl v3), (4, .inl v4), (5, .inl v5), (6, .inl r28), (7, .inl r36), (8, .inl r63), (9, .inl 0), (10, .inl 0), (11, .inl r112)], [], M112)
                replace h := h.1 c123
                refine mm_s1 rfl ?_
                refine mm_s1 rfl ?_
                refine mm_s1 rfl ⟨fun c140 => ?_, fun c140 => ?_⟩
                · show mm_Go (mm_run 11) mc_M_loads _ (157, [(0, .inr (.inr 407)), (1, .inl v1), (3, .inl v3), (4, .inl v4), (5, .inl v5), (6, .inl r28), (7, .inl r36), (8, .inl r63), (9, .inl 0), (10, .inl 0), (11, .inl r112)], [], M112)
                  replace h := h.1 c140
                  refine mm_s1 rfl ?_
                  refine mm_s1 rfl ?_
                  refine mm_s1 rfl ?_
                  refine mm_s1 rfl ?_
                  refine mm_s1 rfl ?_
                  show mm_Go (mm_run 11) mc_M_loads _ (164, [(0, .inr (.inr 407)), (1, .inl v1), (3, .inl v3), (4, .inl v4), (5, .inl v5), (6, .inl r28), (7, .inl r36), (8, .inl r63), (9, .inl 0), (10, .inl 0), (11, .inl r112)], [.inl r63, .inl r36, .inl 0, .inl v1, .inr (.inr 407)], M112)
                  refine mm_s1 rfl ?_
                  refine mm_s1 rfl ?_
                  refine mm_s1 rfl ?_
                  refine mm_s1 rfl ⟨trivial, ?_⟩
                  refine np_M_packed (by decide) L N ?_
                  show mm_Go (mm_run 11) mc_M_loads _ (173, [(0, .inr (.inr 407)), (1, .inl v1), (3, .inl v3), (4, .inl v4), (5, .inl v5), (6, .inl r28), (7, .inl r36), (8, .inl r63), (9, .inl 0), (10, .inl 0), (11, .inl r112)], [.inl (nf_M_packed r63 0 0 r112), .inl r36, .inl 0, .inl v1, .inr (.inr 407)], M112)
                  refine mm_s1 rfl ⟨(nn_c407 NN).1, ?_⟩
                  refine nn_call (D := 10) (by decide) (h n L N) ?_
                  intro v M173 q; clear L N h
                  obtain ⟨r173, rfl, L, N, h⟩ := q
                  show mm_Go (mm_run 11) mc_M_loads _ (176, [(0, .inr (.inr 407)), (1, .inl v1), (3, .inl v3), (4, .inl v4), (5, .inl v5), (6, .inl r28), (7, .inl r36), (8, .inl r63), (9, .inl 0), (10, .inl 0), (11, .inl r112)], [.inl r173], M173)
                  refine mm_s1 rfl ?_
                  show mm_Go (mm_run 11) mc_M_loads _ (178, [(0, .inr (.inr 407)), (1, .inl v1), (3, .inl v3), (4, .inl v4), (5, .inl v5), (6, .inl r28), (7, .inl r36), (8, .inl r63), (9, .inl 0), (10, .inl 0), (11, .inl r112), (12, .inl r173)], [], M173)
                  refine mm_s1 rfl ?_
                  show mm_Go (mm_run 11) mc_M_loads _ (181, [(0, .inr (.inr 407)), (1, .inl v1), (3, .inl v3), (4, .inl v4), (5, .inl (mm_w (v5 + 1))), (6, .inl r28), (7, .inl r36), (8, .inl r63), (9, .inl 0), (10, .inl 0), (11, .inl r112), (12, .inl r173)], [], M173)
                  refine mm_s1 rfl ?_
                  show mm_Go (mm_run 11) mc_M_loads _ (19, [(0, .inr (.inr 407)), (1, .inl v1), (3, .inl v3), (4, .inl v4), (5, .inl (mm_w (v5 + 1))), (6, .inl r28), (7, .inl r36), (8, .inl r63), (9, .inl 0), (10, .inl 0), (11, .inl r112), (12, .inl r173)], [], M173)
                  exact nn_go_ext (nn_xc rfl (nn_xc rfl (nn_xc rfl (nn_xc rfl (nn_xc rfl nn_xn))))) (h n L N)
                · show mm_Go (mm_run 11) mc_M_loads _ (143, [(0, .inr (.inr 407)), (1, .inl v1), (3, .inl v3), (4, .inl v4), (5, .inl v5), (6, .inl r28), (7, .inl r36), (8, .inl r63), (9, .inl 0), (10, .inl 0), (11, .inl r112)], [], M112)
                  replace c140 := Decidable.not_not.mp c140
                  replace h := h.2 c140
                  refine mm_s1 rfl ?_
                  refine mm_s1 rfl ?_
                  refine mm_s1 rfl ?_
                  refine mm_s1 rfl ?_
                  refine mm_s1 rfl ?_
                  show mm_Go (mm_run 11) mc_M_loads _ (151, [(0, .inr (.inr 407)), (1, .inl v1), (3, .inl v3), (4, .inl v4), (5, .inl v5), (6, .inl r28), (7, .inl r36), (8, .inl r63), (9, .inl 0), (10, .inl 0), (11, .inl r112)], [.inl 0, .inl r63, .inl r36, .inl v1, .inr (.inr 407)], M112)
                  refine mm_s1 rfl ⟨(nn_c407 NN).1, ?_⟩
                  refine nn_call (D := 11) (by decide) (h n L N) ?_
                  intro v M151 q; clear L N h
                  obtain ⟨r151, rfl, L, N, h⟩ := q
                  show mm_Go (mm_run 11) mc_M_loads _ (154, [(0, .inr (.inr 407)), (1, .inl v1), (3, .inl v3), (4, .inl v4), (5, .inl v5), (6, .inl r28), (7, .inl r36), (8, .inl r63), (9, .inl 0), (10, .inl 0), (11, .inl r112)], [.inl r151], M151)
                  refine mm_s1 rfl ?_
                  show mm_Go (mm_run 11) mc_M_loads _ (176, [(0, .inr (.inr 407)), (1, .inl v1), (3, .inl v3), (4, .inl v4), (5, .inl v5), (6, .inl r28), (7, .inl r36), (8, .inl r63), (9, .inl 0), (10, .inl 0), (11, .inl r112)], [.inl r151], M151)
                  refine mm_s1 rfl ?_
                  show mm_Go (mm_run 11) mc_M_loads _ (178, [(0, .inr (.inr 407)), (1, .inl v1), (3, .inl v3), (4, .inl v4), (5, .inl v5), (6, .inl r28), (7, .inl r36), (8, .inl r63), (9, .inl 0), (10, .inl 0), (11, .inl r112), (12, .inl r151)], [], M151)
                  refine mm_s1 rfl ?_
                  show mm_Go (mm_run 11) mc_M_loads _ (181, [(0, .inr (.inr 407)), (1, .inl v1), (3, .inl v3), (4, .inl v4), (5, .inl (mm_w (v5 + 1))), (6, .inl r28), (7, .inl r36), (8, .inl r63), (9, .inl 0), (10, .inl 0), (11, .inl r112), (12, .inl r151)], [], M151)
                  refine mm_s1 rfl ?_
                  show mm_Go (mm_run 11) mc_M_loads _ (19, [(0, .inr (.inr 407)), (1, .inl v1), (3, .inl v3), (4, .inl v4), (5, .inl (mm_w (v5 + 1))), (6, .inl r28), (7, .inl r36), (8, .inl r63), (9, .inl 0), (10, .inl 0), (11, .inl r112), (12, .inl r151)], [], M151)
                  exact nn_go_ext (nn_xc rfl (nn_xc rfl (nn_xc rfl (nn_xc rfl (nn_xc rfl nn_xn))))) (h n L N)
              · show mm_Go (mm_run 11) mc_M_loads _ (126, [(0, .inr (.inr 407)), (1, .inl v1), (3, .inl v3), (4, .inl v4), (5, .inl v5), (6, .inl r28), (7, .inl r36), (8, .inl r63), (9, .inl 0), (10, .inl 0), (11, .inl r112)], [], M112)
                replace c123 := Decidable.not_not.mp c123
                replace h := h.2 c123
                refine mm_s1 rfl ?_
                refine mm_s1 rfl ?_
                refine mm_s1 rfl ?_
                refine mm_s1 rfl ?_
                refine mm_s1 rfl ⟨(nn_c407 NN).1, ?_⟩
                refine nn_call (D := 9) (by decide) (h n L N) ?_
                intro v M131 q; clear L N h
                obtain ⟨r131, rfl, L, N, h⟩ := q
                show mm_Go (mm_run 11) mc_M_loads _ (134, [(0, .inr (.inr 407)), (1, .inl v1), (3, .inl v3), (4, .inl v4), (5, .inl v5), (6, .inl r28), (7, .inl r36), (8, .inl r63), (9, .inl 0), (10, .inl 0), (11, .inl r112)], [.inl r131], M131)
                refine mm_s1 rfl ?_
                show mm_Go (mm_run 11) mc_M_loads _ (176, [(0, .inr (.inr 407)), (1, .inl v1), (3, .inl v3), (4, .inl v4), (5, .inl v5), (6, .inl r28), (7, .inl r36), (8, .inl r63), (9, .inl 0), (10, .inl 0), (11, .inl r112)], [.inl r131], M131)
                refine mm_s1 rfl ?_
                show mm_Go (mm_run 11) mc_M_loads _ (178, [(0, .inr (.inr 407)), (1, .inl v1), (3, .inl v3), (4, .inl v4), (5, .inl v5), (6, .inl r28), (7, .inl r36), (8, .inl r63), (9, .inl 0), (10, .inl 0), (11, .inl r112), (12, .inl r131)], [], M131)
                refine mm_s1 rfl ?_
                show mm_Go (mm_run 11) mc_M_loads _ (181, [(0, .inr (.inr 407)), (1, .inl v1), (3, .inl v3), (4, .inl v4), (5, .inl (mm_w (v5 + 1))), (6, .inl r28), (7, .inl r36), (8, .inl r63), (9, .inl 0), (10, .inl 0), (11, .inl r112), (12, .inl r131)], [], M131)
                refine mm_s1 rfl ?_
                show mm_Go (mm_run 11) mc_M_loads _ (19, [(0, .inr (.inr 407)), (1, .inl v1), (3, .inl v3), (4, .inl v4), (5, .inl (mm_w (v5 + 1))), (6, .inl r28), (7, .inl r36), (8, .inl r63), (9, .inl 0), (10, .inl 0), (11, .inl r112), (12, .inl r131)], [], M131)
                exact nn_go_ext (nn_xc rfl (nn_xc rfl (nn_xc rfl (nn_xc rfl (nn_xc rfl nn_xn))))) (h n L N)
          · show mm_Go (mm_run 11) mc_M_loads _ (91, [(0, .inr (.inr 407)), (1, .inl v1), (3, .inl v3), (4, .inl v4), (5, .inl v5), (6, .inl r28), (7, .inl r36), (8, .inl r63), (9, .inl 0)], [], M63)
            replace c88 := Int.not_le.mp c88
            replace h := h.2 c88
            refine mm_s1 rfl ?_
            refine mm_s1 rfl ?_
            refine mm_s1 rfl ⟨(nn_c407 NN).1, ?_⟩
            refine nn_call (D := 1) (by decide) (h n L N) ?_
            intro v M94 q; clear L N h
            obtain ⟨r94, rfl, L, N, h⟩ := q
            show mm_Go (mm_run 11) mc_M_loads _ (97, [(0, .inr (.inr 407)), (1, .inl v1), (3, .inl v3), (4, .inl v4), (5, .inl v5), (6, .inl r28), (7, .inl r36), (8, .inl r63), (9, .inl 0)], [.inl r94], M94)
            refine mm_s1 rfl ?_
            show mm_Go (mm_run 11) mc_M_loads _ (101, [(0, .inr (.inr 407)), (1, .inl v1), (3, .inl v3), (4, .inl v4), (5, .inl v5), (6, .inl r28), (7, .inl r36), (8, .inl r63), (9, .inl 0)], [.inl r94], M94)
            refine mm_s1 rfl ?_
            show mm_Go (mm_run 11) mc_M_loads _ (103, [(0, .inr (.inr 407)), (1, .inl v1), (3, .inl v3), (4, .inl v4), (5, .inl v5), (6, .inl r28), (7, .inl r36), (8, .inl r63), (9, .inl 0), (10, .inl r94)], [], M94)
            refine mm_s1 rfl ?_
            refine mm_s1 rfl ?_
            refine mm_s1 rfl ⟨fun c106 => ?_, fun c106 => ?_⟩
            · show mm_Go (mm_run 11) mc_M_loads _ (118, [(0, .inr (.inr 407)), (1, .inl v1), (3, .inl v3), (4, .inl v4), (5, .inl v5), (6, .inl r28), (7, .inl r36), (8, .inl r63), (9, .inl 0), (10, .inl r94)], [], M94)
              replace h := h.1 c106
              refine mm_s1 rfl ?_
              refine mm_s1 rfl ?_
              show mm_Go (mm_run 11) mc_M_loads _ (121, [(0, .inr (.inr 407)), (1, .inl v1), (3, .inl v3), (4, .inl v4), (5, .inl v5), (6, .inl r28), (7, .inl r36), (8, .inl r63), (9, .inl 0), (10, .inl r94), (11, .inl 0)], [], M94)
              refine mm_s1 rfl ?_
              refine mm_s1 rfl ⟨fun c123 => ?_, fun c123 => ?_⟩
              · show mm_Go (mm_run 11) mc_M_loads _ (137, [(0, .inr (.inr 407)), (1, .inl v1), (3, .inl v3), (4, .inl v4), (5, .inl v5), (6, .inl r28), (7, .inl r36), (8, .inl r63), (9, .inl 0), (10, .inl r94), (11, .inl 0)], [], M94)
                replace h := h.1 c123
                refine mm_s1 rfl ?_
                refine mm_s1 rfl ?_
                refine mm_s1 rfl ⟨fun c140 => ?_, fun c140 => ?_⟩
                · show mm_Go (mm_run 11) mc_M_loads _ (157, [(0, .inr (.inr 407)), (1, .inl v1), (3, .inl v3), (4, .inl v4), (5, .inl v5), (6, .inl r28), (7, .inl r36), (8, .inl r63), (9, .inl 0), (10, .inl r94), (11, .inl 0)], [], M94)
                  replace h := h.1 c140
                  refine mm_s1 rfl ?_
                  refine mm_s1 rfl ?_
                  refine mm_s1 rfl ?_
                  refine mm_s1 rfl ?_
                  refine mm_s1 rfl ?_
                  show mm_Go (mm_run 11) mc_M_loads _ (164, [(0, .inr (.inr 407)), (1, .inl v1), (3, .inl v3), (4, .inl v4), (5, .inl v5), (6, .inl r28), (7, .inl r36), (8, .inl r63), (9, .inl 0), (10, .inl r94), (11, .inl 0)], [.inl r63, .inl r36, .inl 0, .inl v1, .inr (.inr 407)], M94)
                  refine mm_s1 rfl ?_
                  refine mm_s1 rfl ?_
                  refine mm_s1 rfl ?_
                  refine mm_s1 rfl ⟨trivial, ?_⟩
                  refine np_M_packed (by decide) L N ?_
                  show mm_Go (mm_run 11) mc_M_loads _ (173, [(0, .inr (.inr 407)), (1, .inl v1), (3, .inl v3), (4, .inl v4), (5, .inl v5), (6, .inl r28), (7, .inl r36), (8, .inl r63), (9, .inl 0), (10, .inl r94), (11, .inl 0)], [.inl (nf_M_packed r63 0 r94 0), .inl r36, .inl 0, .inl v1, .inr (.inr 407)], M94)
                  refine mm_s1 rfl ⟨(nn_c407 NN).1, ?_⟩
                  refine nn_call (D := 10) (by decide) (h n L N) ?_
                  intro v M173 q; clear L N h
                  obtain ⟨r173, rfl, L, N, h⟩ := q
                  show mm_Go (mm_run 11) mc_M_loads _ (176, [(0, .inr (.inr 407)), (1, .inl v1), (3, .inl v3), (4, .inl v4), (5, .inl v5), (6, .inl r28), (7, .inl r36), (8, .inl r63), (9, .inl 0), (10, .inl r94), (11, .inl 0)], [.inl r173], M173)
                  refine mm_s1 rfl ?_
                  show mm_Go (mm_run 11) mc_M_loads _ (178, [(0, .inr (.inr 407)), (1, .inl v1), (3, .inl v3), (4, .inl v4), (5, .inl v5), (6, .inl r28), (7, .inl r36), (8, .inl r63), (9, .inl 0), (10, .inl r94), (11, .inl 0), (12, .inl r173)], [], M173)
                  refine mm_s1 rfl ?_
                  show mm_Go (mm_run 11) mc_M_loads _ (181, [(0, .inr (.inr 407)), (1, .inl v1), (3, .inl v3), (4, .inl v4), (5, .inl (mm_w (v5 + 1))), (6, .inl r28), (7, .inl r36), (8, .inl r63), (9, .inl 0), (10, .inl r94), (11, .inl 0), (12, .inl r173)], [], M173)
                  refine mm_s1 rfl ?_
                  show mm_Go (mm_run 11) mc_M_loads _ (19, [(0, .inr (.inr 407)), (1, .inl v1), (3, .inl v3), (4, .inl v4), (5, .inl (mm_w (v5 + 1))), (6, .inl r28), (7, .inl r36), (8, .inl r63), (9, .inl 0), (10, .inl r94), (11, .inl 0), (12, .inl r173)], [], M173)
                  exact nn_go_ext (nn_xc rfl (nn_xc rfl (nn_xc rfl (nn_xc rfl (nn_xc rfl nn_xn))))) (h n L N)
                · show mm_Go (mm_run 11) mc_M_loads _ (143, [(0, .inr (.inr 407)), (1, .inl v1), (3, .inl v3), (4, .inl v4), (5, .inl v5), (6, .inl r28), (7, .inl r36), (8, .inl r63), (9, .inl 0), (10, .inl r94), (11, .inl 0)], [], M94)
                  replace c140 := Decidable.not_not.mp c140
                  replace h := h.2 c140
                  refine mm_s1 rfl ?_
                  refine mm_s1 rfl ?_
                  refine mm_s1 rfl ?_
                  refine mm_s1 rfl ?_
                  refine mm_s1 rfl ?_
                  show mm_Go (mm_run 11) mc_M_loads _ (151, [(0, .inr (.inr 407)), (1, .inl v1), (3, .inl v3), (4, .inl v4), (5, .inl v5), (6, .inl r28), (7, .inl r36), (8, .inl r63), (9, .inl 0), (10, .inl r94), (11, .inl 0)], [.inl 0, .inl r63, .inl r36, .inl v1, .inr (.inr 407)], M94)
                  refine mm_s1 rfl ⟨(nn_c407 NN).1, ?_⟩
                  refine nn_call (D := 11) (by decide) (h n L N) ?_
                  intro v M151 q; clear L N h
                  obtain ⟨r151, rfl, L, N, h⟩ := q
                  show mm_Go (mm_run 11) mc_M_loads _ (154, [(0, .inr (.inr 407)), (1, .inl v1), (3, .inl v3), (4, .inl v4), (5, .inl v5), (6, .inl r28), (7, .inl r36), (8, .inl r63), (9, .inl 0), (10, .inl r94), (11, .inl 0)], [.inl r151], M151)
                  refine mm_s1 rfl ?_
                  show mm_Go (mm_run 11) mc_M_loads _ (176, [(0, .inr (.inr 407)), (1, .inl v1), (3, .inl v3), (4, .inl v4), (5, .inl v5), (6, .inl r28), (7, .inl r36), (8, .inl r63), (9, .inl 0), (10, .inl r94), (11, .inl 0)], [.inl r151], M151)
                  refine mm_s1 rfl ?_
                  show mm_Go (mm_run 11) mc_M_loads _ (178, [(0, .inr (.inr 407)), (1, .inl v1), (3, .inl v3), (4, .inl v4), (5, .inl v5), (6, .inl r28), (7, .inl r36), (8, .inl r63), (9, .inl 0), (10, .inl r94), (11, .inl 0), (12, .inl r151)], [], M151)
                  refine mm_s1 rfl ?_
                  show mm_Go (mm_run 11) mc_M_loads _ (181, [(0, .inr (.inr 407)), (1, .inl v1), (3, .inl v3), (4, .inl v4), (5, .inl (mm_w (v5 + 1))), (6, .inl r28), (7, .inl r36), (8, .inl r63), (9, .inl 0), (10, .inl r94), (11, .inl 0), (12, .inl r151)], [], M151)
                  refine mm_s1 rfl ?_
                  show mm_Go (mm_run 11) mc_M_loads _ (19, [(0, .inr (.inr 407)), (1, .inl v1), (3, .inl v3), (4, .inl v4), (5, .inl (mm_w (v5 + 1))), (6, .inl r28), (7, .inl r36), (8, .inl r63), (9, .inl 0), (10, .inl r94), (11, .inl 0), (12, .inl r151)], [], M151)
                  exact nn_go_ext (nn_xc rfl (nn_xc rfl (nn_xc rfl (nn_xc rfl (nn_xc rfl nn_xn))))) (h n L N)
              · show mm_Go (mm_run 11) mc_M_loads _ (126, [(0, .inr (.inr 407)), (1, .inl v1), (3, .inl v3), (4, .inl v4), (5, .inl v5), (6, .inl r28), (7, .inl r36), (8, .inl r63), (9, .inl 0), (10, .inl r94), (11, .inl 0)], [], M94)
                replace c123 := Decidable.not_not.mp c123
                replace h := h.2 c123
                refine mm_s1 rfl ?_
                refine mm_s1 rfl ?_
                refine mm_s1 rfl ?_
                refine mm_s1 rfl ?_
                refine mm_s1 rfl ⟨(nn_c407 NN).1, ?_⟩
                refine nn_call (D := 9) (by decide) (h n L N) ?_
                intro v M131 q; clear L N h
                obtain ⟨r131, rfl, L, N, h⟩ := q
                show mm_Go (mm_run 11) mc_M_loads _ (134, [(0, .inr (.inr 407)), (1, .inl v1), (3, .inl v3), (4, .inl v4), (5, .inl v5), (6, .inl r28), (7, .inl r36), (8, .inl r63), (9, .inl 0), (10, .inl r94), (11, .inl 0)], [.inl r131], M131)
                refine mm_s1 rfl ?_
                show mm_Go (mm_run 11) mc_M_loads _ (176, [(0, .inr (.inr 407)), (1, .inl v1), (3, .inl v3), (4, .inl v4), (5, .inl v5), (6, .inl r28), (7, .inl r36), (8, .inl r63), (9, .inl 0), (10, .inl r94), (11, .inl 0)], [.inl r131], M131)
                refine mm_s1 rfl ?_
                show mm_Go (mm_run 11) mc_M_loads _ (178, [(0, .inr (.inr 407)), (1, .inl v1), (3, .inl v3), (4, .inl v4), (5, .inl v5), (6, .inl r28), (7, .inl r36), (8, .inl r63), (9, .inl 0), (10, .inl r94), (11, .inl 0), (12, .inl r131)], [], M131)
                refine mm_s1 rfl ?_
                show mm_Go (mm_run 11) mc_M_loads _ (181, [(0, .inr (.inr 407)), (1, .inl v1), (3, .inl v3), (4, .inl v4), (5, .inl (mm_w (v5 + 1))), (6, .inl r28), (7, .inl r36), (8, .inl r63), (9, .inl 0), (10, .inl r94), (11, .inl 0), (12, .inl r131)], [], M131)
                refine mm_s1 rfl ?_
                show mm_Go (mm_run 11) mc_M_loads _ (19, [(0, .inr (.inr 407)), (1, .inl v1), (3, .inl v3), (4, .inl v4), (5, .inl (mm_w (v5 + 1))), (6, .inl r28), (7, .inl r36), (8, .inl r63), (9, .inl 0), (10, .inl r94), (11, .inl 0), (12, .inl r131)], [], M131)
                exact nn_go_ext (nn_xc rfl (nn_xc rfl (nn_xc rfl (nn_xc rfl (nn_xc rfl nn_xn))))) (h n L N)
            · show mm_Go (mm_run 11) mc_M_loads _ (109, [(0, .inr (.inr 407)), (1, .inl v1), (3, .inl v3), (4, .inl v4), (5, .inl v5), (6, .inl r28), (7, .inl r36), (8, .inl r63), (9, .inl 0), (10, .inl r94)], [], M94)
              replace c106 := Int.not_le.mp c106
              replace h := h.2 c106
              refine mm_s1 rfl ?_
              refine mm_s1 rfl ?_
              refine mm_s1 rfl ⟨(nn_c407 NN).1, ?_⟩
              refine nn_call (D := 1) (by decide) (h n L N) ?_
              intro v M112 q; clear L N h
              obtain ⟨r112, rfl, L, N, h⟩ := q
              show mm_Go (mm_run 11) mc_M_loads _ (115, [(0, .inr (.inr 407)), (1, .inl v1), (3, .inl v3), (4, .inl v4), (5, .inl v5), (6, .inl r28), (7, .inl r36), (8, .inl r63), (9, .inl 0), (10, .inl r94)], [.inl r112], M112)
              refine mm_s1 rfl ?_
              show mm_Go (mm_run 11) mc_M_loads _ (119, [(0, .inr (.inr 407)), (1, .inl v1), (3, .inl v3), (4, .inl v4), (5, .inl v5), (6, .inl r28), (7, .inl r36), (8, .inl r63), (9, .inl 0), (10, .inl r94)], [.inl r112], M112)
              refine mm_s1 rfl ?_
              show mm_Go (mm_run 11) mc_M_loads _ (121, [(0, .inr (.inr 407)), (1, .inl v1), (3, .inl v3), (4, .inl v4), (5, .inl v5), (6, .inl r28), (7, .inl r36), (8, .inl r63), (9, .inl 0), (10, .inl r94), (11, .inl r112)], [], M112)
              refine mm_s1 rfl ?_
              refine mm_s1 rfl ⟨fun c123 => ?_, fun c123 => ?_⟩
              · show mm_Go (mm_run 11) mc_M_loads _ (137, [(0, .inr (.inr 407)), (1, .inl v1), (3, .inl v3), (4, .inl v4), (5, .inl v5), (6, .inl r28), (7, .inl r36), (8, .inl r63), (9, .inl 0), (10, .inl r94), (11, .inl r112)], [], M112)
                replace h := h.1 c123
                refine mm_s1 rfl ?_
                refine mm_s1 rfl ?_
                refine mm_s1 rfl ⟨fun c140 => ?_, fun c140 => ?_⟩
                · show mm_Go (mm_run 11) mc_M_loads _ (157, [(0, .inr (.inr 407)), (1, .inl v1), (3, .inl v3), (4, .inl v4), (5, .inl v5), (6, .inl r28), (7, .inl r36), (8, .inl r63), (9, .inl 0), (10, .inl r94), (11, .inl r112)], [], M112)
                  replace h := h.1 c140
                  refine mm_s1 rfl ?_
                  refine mm_s1 rfl ?_
                  refine mm_s1 rfl ?_
                  refine mm_s1 rfl ?_
                  refine mm_s1 rfl ?_
                  show mm_Go (mm_run 11) mc_M_loads _ (164, [(0, .inr (.inr 407)), (1, .inl v1), (3, .inl v3), (4, .inl v4), (5, .inl v5), (6, .inl r28), (7, .inl r36), (8, .inl r63), (9, .inl 0), (10, .inl r94), (11, .inl r112)], [.inl r63, .inl r36, .inl 0, .inl v1, .inr (.inr 407)], M112)
                  refine mm_s1 rfl ?_
                  refine mm_s1 rfl ?_
                  refine mm_s1 rfl ?_
                  refine mm_s1 rfl ⟨trivial, ?_⟩
                  refine np_M_packed (by decide) L N ?_
                  show mm_Go (mm_run 11) mc_M_loads _ (173, [(0, .inr (.inr 407)), (1, .inl v1), (3, .inl v3), (4, .inl v4), (5, .inl v5), (6, .inl r28), (7, .inl r36), (8, .inl r63), (9, .inl 0), (10, .inl r94), (11, .inl r112)], [.inl (nf_M_packed r63 0 r94 r112), .inl r36, .inl 0, .inl v1, .inr (.inr 407)], M112)
                  refine mm_s1 rfl ⟨(nn_c407 NN).1, ?_⟩
                  refine nn_call (D := 10) (by decide) (h n L N) ?_
                  intro v M173 q; clear L N h
                  obtain ⟨r173, rfl, L, N, h⟩ := q
                  show mm_Go (mm_run 11) mc_M_loads _ (176, [(0, .inr (.inr 407)), (1, .inl v1), (3, .inl v3), (4, .inl v4), (5, .inl v5), (6, .inl r28), (7, .inl r36), (8, .inl r63), (9, .inl 0), (10, .inl r94), (11, .inl r112)], [.inl r173], M173)
                  refine mm_s1 rfl ?_
                  show mm_Go (mm_run 11) mc_M_loads _ (178, [(0, .inr (.inr 407)), (1, .inl v1), (3, .inl v3), (4, .inl v4), (5, .inl v5), (6, .inl r28), (7, .inl r36), (8, .inl r63), (9, .inl 0), (10, .inl r94), (11, .inl r112), (12, .inl r173)], [], M173)
                  refine mm_s1 rfl ?_
                  show mm_Go (mm_run 11) mc_M_loads _ (181, [(0, .inr (.inr 407)), (1, .inl v1), (3, .inl v3), (4, .inl v4), (5, .inl (mm_w (v5 + 1))), (6, .inl r28), (7, .inl r36), (8, .inl r63), (9, .inl 0), (10, .inl r94), (11, .inl r112), (12, .inl r173)], [], M173)
                  refine mm_s1 rfl ?_
                  show mm_Go (mm_run 11) mc_M_loads _ (19, [(0, .inr (.inr 407)), (1, .inl v1), (3, .inl v3), (4, .inl v4), (5, .inl (mm_w (v5 + 1))), (6, .inl r28), (7, .inl r36), (8, .inl r63), (9, .inl 0), (10, .inl r94), (11, .inl r112), (12, .inl r173)], [], M173)
                  exact nn_go_ext (nn_xc rfl (nn_xc rfl (nn_xc rfl (nn_xc rfl (nn_xc rfl nn_xn))))) (h n L N)
                · show mm_Go (mm_run 11) mc_M_loads _ (143, [(0, .inr (.inr 407)), (1, .inl v1), (3, .inl v3), (4, .inl v4), (5, .inl v5), (6, .inl r28), (7, .inl r36), (8, .inl r63), (9, .inl 0), (10, .inl r94), (11, .inl r112)], [], M112)
                  replace c140 := Decidable.not_not.mp c140
                  replace h := h.2 c140
                  refine mm_s1 rfl ?_
                  refine mm_s1 rfl ?_
                  refine mm_s1 rfl ?_
                  refine mm_s1 rfl ?_
                  refine mm_s1 rfl ?_
                  show mm_Go (mm_run 11) mc_M_loads _ (151, [(0, .inr (.inr 407)), (1, .inl v1), (3, .inl v3), (4, .inl v4), (5, .inl v5), (6, .inl r28), (7, .inl r36), (8, .inl r63), (9, .inl 0), (10, .inl r94), (11, .inl r112)], [.inl 0, .inl r63, .inl r36, .inl v1, .inr (.inr 407)], M112)
                  refine mm_s1 rfl ⟨(nn_c407 NN).1, ?_⟩
                  refine nn_call (D := 11) (by decide) (h n L N) ?_
                  intro v M151 q; clear L N h
                  obtain ⟨r151, rfl, L, N, h⟩ := q
                  show mm_Go (mm_run 11) mc_M_loads _ (154, [(0, .inr (.inr 407)), (1, .inl v1), (3, .inl v3), (4, .inl v4), (5, .inl v5), (6, .inl r28), (7, .inl r36), (8, .inl r63), (9, .inl 0), (10, .inl r94), (11, .inl r112)], [.inl r151], M151)
                  refine mm_s1 rfl ?_
                  show mm_Go (mm_run 11) mc_M_loads _ (176, [(0, .inr (.inr 407)), (1, .inl v1), (3, .inl v3), (4, .inl v4), (5, .inl v5), (6, .inl r28), (7, .inl r36), (8, .inl r63), (9, .inl 0), (10, .inl r94), (11, .inl r112)], [.inl r151], M151)
                  refine mm_s1 rfl ?_
                  show mm_Go (mm_run 11) mc_M_loads _ (178, [(0, .inr (.inr 407)), (1, .inl v1), (3, .inl v3), (4, .inl v4), (5, .inl v5), (6, .inl r28), (7, .inl r36), (8, .inl r63), (9, .inl 0), (10, .inl r94), (11, .inl r112), (12, .inl r151)], [], M151)
                  refine mm_s1 rfl ?_
                  show mm_Go (mm_run 11) mc_M_loads _ (181, [(0, .inr (.inr 407)), (1, .inl v1), (3, .inl v3), (4, .inl v4), (5, .inl (mm_w (v5 + 1))), (6, .inl r28), (7, .inl r36), (8, .inl r63), (9, .inl 0), (10, .inl r94), (11, .inl r112), (12, .inl r151)], [], M151)
                  refine mm_s1 rfl ?_
                  show mm_Go (mm_run 11) mc_M_loads _ (19, [(0, .inr (.inr 407)), (1, .inl v1), (3, .inl v3), (4, .inl v4), (5, .inl (mm_w (v5 + 1))), (6, .inl r28), (7, .inl r36), (8, .inl r63), (9, .inl 0), (10, .inl r94), (11, .inl r112), (12, .inl r151)], [], M151)
                  exact nn_go_ext (nn_xc rfl (nn_xc rfl (nn_xc rfl (nn_xc rfl (nn_xc rfl nn_xn))))) (h n L N)
              · show mm_Go (mm_run 11) mc_M_loads _ (126, [(0, .inr (.inr 407)), (1, .inl v1), (3, .inl v3), (4, .inl v4), (5, .inl v5), (6, .inl r28), (7, .inl r36), (8, .inl r63), (9, .inl 0), (10, .inl r94), (11, .inl r112)], [], M112)
                replace c123 := Decidable.not_not.mp c123
                replace h := h.2 c123
                refine mm_s1 rfl ?_
                refine mm_s1 rfl ?_
                refine mm_s1 rfl ?_
                refine mm_s1 rfl ?_
                refine mm_s1 rfl ⟨(nn_c407 NN).1, ?_⟩
                refine nn_call (D := 9) (by decide) (h n L N) ?_
                intro v M131 q; clear L N h
                obtain ⟨r131, rfl, L, N, h⟩ := q
                show mm_Go (mm_run 11) mc_M_loads _ (134, [(0, .inr (.inr 407)), (1, .inl v1), (3, .inl v3), (4, .inl v4), (5, .inl v5), (6, .inl r28), (7, .inl r36), (8, .inl r63), (9, .inl 0), (10, .inl r94), (11, .inl r112)], [.inl r131], M131)
                refine mm_s1 rfl ?_
                show mm_Go (mm_run 11) mc_M_loads _ (176, [(0, .inr (.inr 407)), (1, .inl v1), (3, .inl v3), (4, .inl v4), (5, .inl v5), (6, .inl r28), (7, .inl r36), (8, .inl r63), (9, .inl 0), (10, .inl r94), (11, .inl r112)], [.inl r131], M131)
                refine mm_s1 rfl ?_
                show mm_Go (mm_run 11) mc_M_loads _ (178, [(0, .inr (.inr 407)), (1, .inl v1), (3, .inl v3), (4, .inl v4), (5, .inl v5), (6, .inl r28), (7, .inl r36), (8, .inl r63), (9, .inl 0), (10, .inl r94), (11, .inl r112), (12, .inl r131)], [], M131)
                refine mm_s1 rfl ?_
                show mm_Go (mm_run 11) mc_M_loads _ (181, [(0, .inr (.inr 407)), (1, .inl v1), (3, .inl v3), (4, .inl v4), (5, .inl (mm_w (v5 + 1))), (6, .inl r28), (7, .inl r36), (8, .inl r63), (9, .inl 0), (10, .inl r94), (11, .inl r112), (12, .inl r131)], [], M131)
                refine mm_s1 rfl ?_
                show mm_Go (mm_run 11) mc_M_loads _ (19, [(0, .inr (.inr 407)), (1, .inl v1), (3, .inl v3), (4, .inl v4), (5, .inl (mm_w (v5 + 1))), (6, .inl r28), (7, .inl r36), (8, .inl r63), (9, .inl 0), (10, .inl r94), (11, .inl r112), (12, .inl r131)], [], M131)
                exact nn_go_ext (nn_xc rfl (nn_xc rfl (nn_xc rfl (nn_xc rfl (nn_xc rfl nn_xn))))) (h n L N)
    · show mm_Go (mm_run 11) mc_M_loads _ (46, [(0, .inr (.inr 407)), (1, .inl v1), (3, .inl v3), (4, .inl v4), (5, .inl v5), (6, .inl r28), (7, .inl r36)], [], M36)
      replace c43 := Decidable.not_not.mp c43
      replace h := h.2 c43
      refine mm_s1 rfl ?_
      refine mm_s1 rfl ?_
      show mm_Go (mm_run 11) mc_M_loads _ (66, [(0, .inr (.inr 407)), (1, .inl v1), (3, .inl v3), (4, .inl v4), (5, .inl v5), (6, .inl r28), (7, .inl r36)], [.inl 0], M36)
      refine mm_s1 rfl ?_
      show mm_Go (mm_run 11) mc_M_loads _ (68, [(0, .inr (.inr 407)), (1, .inl v1), (3, .inl v3), (4, .inl v4), (5, .inl v5), (6, .inl r28), (7, .inl r36), (8, .inl 0)], [], M36)
      refine mm_s1 rfl ?_
      refine mm_s1 rfl ⟨fun c70 => ?_, fun c70 => ?_⟩
      · show mm_Go (mm_run 11) mc_M_loads _ (77, [(0, .inr (.inr 407)), (1, .inl v1), (3, .inl v3), (4, .inl v4), (5, .inl v5), (6, .inl r28), (7, .inl r36), (8, .inl 0)], [], M36)
        replace h := h.1 c70
        refine mm_s1 rfl ?_
        refine mm_s1 rfl ?_
        refine mm_s1 rfl ⟨(nn_c407 NN).1, ?_⟩
        refine nn_call (D := 1) (by decide) (h n L N) ?_
        intro v M80 q; clear L N h
        obtain ⟨r80, rfl, L, N, h⟩ := q
        show mm_Go (mm_run 11) mc_M_loads _ (83, [(0, .inr (.inr 407)), (1, .inl v1), (3, .inl v3), (4, .inl v4), (5, .inl v5), (6, .inl r28), (7, .inl r36), (8, .inl 0)], [.inl r80], M80)
        refine mm_s1 rfl ?_
        show mm_Go (mm_run 11) mc_M_loads _ (85, [(0, .inr (.inr 407)), (1, .inl v1), (3, .inl v3), (4, .inl v4), (5, .inl v5), (6, .inl r28), (7, .inl r36), (8, .inl 0), (9, .inl r80)], [], M80)
        refine mm_s1 rfl ?_
        refine mm_s1 rfl ?_
        refine mm_s1 rfl ⟨fun c88 => ?_, fun c88 => ?_⟩
        · show mm_Go (mm_run 11) mc_M_loads _ (100, [(0, .inr (.inr 407)), (1, .inl v1), (3, .inl v3), (4, .inl v4), (5, .inl v5), (6, .inl r28), (7, .inl r36), (8, .inl 0), (9, .inl r80)], [], M80)
          replace h := h.1 c88
          refine mm_s1 rfl ?_
          refine mm_s1 rfl ?_
          show mm_Go (mm_run 11) mc_M_loads _ (103, [(0, .inr (.inr 407)), (1, .inl v1), (3, .inl v3), (4, .inl v4), (5, .inl v5), (6, .inl r28), (7, .inl r36), (8, .inl 0), (9, .inl r80), (10, .inl 0)], [], M80)
          refine mm_s1 rfl ?_
          refine mm_s1 rfl ?_
          refine mm_s1 rfl ⟨fun c106 => ?_, fun c106 => ?_⟩
          · show mm_Go (mm_run 11) mc_M_loads _ (118, [(0, .inr (.inr 407)), (1, .inl v1), (3, .inl v3), (4, .inl v4), (5, .inl v5), (6, .inl r28), (7, .inl r36), (8, .inl 0), (9, .inl r80), (10, .inl 0)], [], M80)
            replace h := h.1 c106
            refine mm_s1 rfl ?_
            refine mm_s1 rfl ?_
            show mm_Go (mm_run 11) mc_M_loads _ (121, [(0, .inr (.inr 407)), (1, .inl v1), (3, .inl v3), (4, .inl v4), (5, .inl v5), (6, .inl r28), (7, .inl r36), (8, .inl 0), (9, .inl r80), (10, .inl 0), (11, .inl 0)], [], M80)
            refine mm_s1 rfl ?_
            refine mm_s1 rfl ⟨fun c123 => ?_, fun c123 => ?_⟩
            · show mm_Go (mm_run 11) mc_M_loads _ (137, [(0, .inr (.inr 407)), (1, .inl v1), (3, .inl v3), (4, .inl v4), (5, .inl v5), (6, .inl r28), (7, .inl r36), (8, .inl 0), (9, .inl r80), (10, .inl 0), (11, .inl 0)], [], M80)
              replace h := h.1 c123
              refine mm_s1 rfl ?_
              refine mm_s1 rfl ?_
              refine mm_s1 rfl ⟨fun c140 => ?_, fun c140 => ?_⟩
              · show mm_Go (mm_run 11) mc_M_loads _ (157, [(0, .inr (.inr 407)), (1, .inl v1), (3, .inl v3), (4, .inl v4), (5, .inl v5), (6, .inl r28), (7, .inl r36), (8, .inl 0), (9, .inl r80), (10, .inl 0), (11, .inl 0)], [], M80)
                replace h := h.1 c140
                refine mm_s1 rfl ?_
                refine mm_s1 rfl ?_
                refine mm_s1 rfl ?_
                refine mm_s1 rfl ?_
                refine mm_s1 rfl ?_
                show mm_Go (mm_run 11) mc_M_loads _ (164, [(0, .inr (.inr 407)), (1, .inl v1), (3, .inl v3), (4, .inl v4), (5, .inl v5), (6, .inl r28), (7, .inl r36), (8, .inl 0), (9, .inl r80), (10, .inl 0), (11, .inl 0)], [.inl 0, .inl r36, .inl 0, .inl v1, .inr (.inr 407)], M80)
                refine mm_s1 rfl ?_
                refine mm_s1 rfl ?_
                refine mm_s1 rfl ?_
                refine mm_s1 rfl ⟨trivial, ?_⟩
                refine np_M_packed (by decide) L N ?_
                show mm_Go (mm_run 11) mc_M_loads _ (173, [(0, .inr (.inr 407)), (1, .inl v1), (3, .inl v3), (4, .inl v4), (5, .inl v5), (6, .inl r28), (7, .inl r36), (8, .inl 0), (9, .inl r80), (10, .inl 0), (11, .inl 0)], [.inl (nf_M_packed 0 r80 0 0), .inl r36, .inl 0, .inl v1, .inr (.inr 407)], M80)
                refine mm_s1 rfl ⟨(nn_c407 NN).1, ?_⟩
                refine nn_call (D := 10) (by decide) (h n L N) ?_
                intro v M173 q; clear L N h
                obtain ⟨r173, rfl, L, N, h⟩ := q
                show mm_Go (mm_run 11) mc_M_loads _ (176, [(0, .inr (.inr 407)), (1, .inl v1), (3, .inl v3), (4, .inl v4), (5, .inl v5), (6, .inl r28), (7, .inl r36), (8, .inl 0), (9, .inl r80), (10, .inl 0), (11, .inl 0)], [.inl r173], M173)
                refine mm_s1 rfl ?_
                show mm_Go (mm_run 11) mc_M_loads _ (178, [(0, .inr (.inr 407)), (1, .inl v1), (3, .inl v3), (4, .inl v4), (5, .inl v5), (6, .inl r28), (7, .inl r36), (8, .inl 0), (9, .inl r80), (10, .inl 0), (11, .inl 0), (12, .inl r173)], [], M173)
                refine mm_s1 rfl ?_
                show mm_Go (mm_run 11) mc_M_loads _ (181, [(0, .inr (.inr 407)), (1, .inl v1), (3, .inl v3), (4, .inl v4), (5, .inl (mm_w (v5 + 1))), (6, .inl r28), (7, .inl r36), (8, .inl 0), (9, .inl r80), (10, .inl 0), (11, .inl 0), (12, .inl r173)], [], M173)
                refine mm_s1 rfl ?_
                show mm_Go (mm_run 11) mc_M_loads _ (19, [(0, .inr (.inr 407)), (1, .inl v1), (3, .inl v3), (4, .inl v4), (5, .inl (mm_w (v5 + 1))), (6, .inl r28), (7, .inl r36), (8, .inl 0), (9, .inl r80), (10, .inl 0), (11, .inl 0), (12, .inl r173)], [], M173)
                exact nn_go_ext (nn_xc rfl (nn_xc rfl (nn_xc rfl (nn_xc rfl (nn_xc rfl nn_xn))))) (h n L N)
              · show mm_Go (mm_run 11) mc_M_loads _ (143, [(0, .inr (.inr 407)), (1, .inl v1), (3, .inl v3), (4, .inl v4), (5, .inl v5), (6, .inl r28), (7, .inl r36), (8, .inl 0), (9, .inl r80), (10, .inl 0), (11, .inl 0)], [], M80)
                replace c140 := Decidable.not_not.mp c140
                replace h := h.2 c140
                refine mm_s1 rfl ?_
                refine mm_s1 rfl ?_
                refine mm_s1 rfl ?_
                refine mm_s1 rfl ?_
                refine mm_s1 rfl ?_
                show mm_Go (mm_run 11) mc_M_loads _ (151, [(0, .inr (.inr 407)), (1, .inl v1), (3, .inl v3), (4, .inl v4), (5, .inl v5), (6, .inl r28), (7, .inl r36), (8, .inl 0), (9, .inl r80), (10, .inl 0), (11, .inl 0)], [.inl r80, .inl 0, .inl r36, .inl v1, .inr (.inr 407)], M80)
                refine mm_s1 rfl ⟨(nn_c407 NN).1, ?_⟩
                refine nn_call (D := 11) (by decide) (h n L N) ?_
                intro v M151 q; clear L N h
                obtain ⟨r151, rfl, L, N, h⟩ := q
                show mm_Go (mm_run 11) mc_M_loads _ (154, [(0, .inr (.inr 407)), (1, .inl v1), (3, .inl v3), (4, .inl v4), (5, .inl v5), (6, .inl r28), (7, .inl r36), (8, .inl 0), (9, .inl r80), (10, .inl 0), (11, .inl 0)], [.inl r151], M151)
                refine mm_s1 rfl ?_
                show mm_Go (mm_run 11) mc_M_loads _ (176, [(0, .inr (.inr 407)), (1, .inl v1), (3, .inl v3), (4, .inl v4), (5, .inl v5), (6, .inl r28), (7, .inl r36), (8, .inl 0), (9, .inl r80), (10, .inl 0), (11, .inl 0)], [.inl r151], M151)
                refine mm_s1 rfl ?_
                show mm_Go (mm_run 11) mc_M_loads _ (178, [(0, .inr (.inr 407)), (1, .inl v1), (3, .inl v3), (4, .inl v4), (5, .inl v5), (6, .inl r28), (7, .inl r36), (8, .inl 0), (9, .inl r80), (10, .inl 0), (11, .inl 0), (12, .inl r151)], [], M151)
                refine mm_s1 rfl ?_
                show mm_Go (mm_run 11) mc_M_loads _ (181, [(0, .inr (.inr 407)), (1, .inl v1), (3, .inl v3), (4, .inl v4), (5, .inl (mm_w (v5 + 1))), (6, .inl r28), (7, .inl r36), (8, .inl 0), (9, .inl r80), (10, .inl 0), (11, .inl 0), (12, .inl r151)], [], M151)
                refine mm_s1 rfl ?_
                show mm_Go (mm_run 11) mc_M_loads _ (19, [(0, .inr (.inr 407)), (1, .inl v1), (3, .inl v3), (4, .inl v4), (5, .inl (mm_w (v5 + 1))), (6, .inl r28), (7, .inl r36), (8, .inl 0), (9, .inl r80), (10, .inl 0), (11, .inl 0), (12, .inl r151)], [], M151)
                exact nn_go_ext (nn_xc rfl (nn_xc rfl (nn_xc rfl (nn_xc rfl (nn_xc rfl nn_xn))))) (h n L N)
            · show mm_Go (mm_run 11) mc_M_loads _ (126, [(0, .inr (.inr 407)), (1, .inl v1), (3, .inl v3), (4, .inl v4), (5, .inl v5), (6, .inl r28), (7, .inl r36), (8, .inl 0), (9, .inl r80), (10, .inl 0), (11, .inl 0)], [], M80)
              replace c123 := Decidable.not_not.mp c123
              replace h := h.2 c123
              refine mm_s1 rfl ?_
              refine mm_s1 rfl ?_
              refine mm_s1 rfl ?_
              refine mm_s1 rfl ?_
              refine mm_s1 rfl ⟨(nn_c407 NN).1, ?_⟩
              refine nn_call (D := 9) (by decide) (h n L N) ?_
              intro v M131 q; clear L N h
              obtain ⟨r131, rfl, L, N, h⟩ := q
              show mm_Go (mm_run 11) mc_M_loads _ (134, [(0, .inr (.inr 407)), (1, .inl v1), (3, .inl v3), (4, .inl v4), (5, .inl v5), (6, .inl r28), (7, .inl r36), (8, .inl 0), (9, .inl r80), (10, .inl 0), (11, .inl 0)], [.inl r131], M131)
              refine mm_s1 rfl ?_
              show mm_Go (mm_run 11) mc_M_loads _ (176, [(0, .inr (.inr 407)), (1, .inl v1), (3, .inl v3), (4, .inl v4), (5, .inl v5), (6, .inl r28), (7, .inl r36), (8, .inl 0), (9, .inl r80), (10, .inl 0), (11, .inl 0)], [.inl r131], M131)
              refine mm_s1 rfl ?_
              show mm_Go (mm_run 11) mc_M_loads _ (178, [(0, .inr (.inr 407)), (1, .inl v1), (3, .inl v3), (4, .inl v4), (5, .inl v5), (6, .inl r28), (7, .inl r36), (8, .inl 0), (9, .inl r80), (10, .inl 0), (11, .inl 0), (12, .inl r131)], [], M131)
              refine mm_s1 rfl ?_
              show mm_Go (mm_run 11) mc_M_loads _ (181, [(0, .inr (.inr 407)), (1, .inl v1), (3, .inl v3), (4, .inl v4), (5, .inl (mm_w (v5 + 1))), (6, .inl r28), (7, .inl r36), (8, .inl 0), (9, .inl r80), (10, .inl 0), (11, .inl 0), (12, .inl r131)], [], M131)
              refine mm_s1 rfl ?_
              show mm_Go (mm_run 11) mc_M_loads _ (19, [(0, .inr (.inr 407)), (1, .inl v1), (3, .inl v3), (4, .inl v4), (5, .inl (mm_w (v5 + 1))), (6, .inl r28), (7, .inl r36), (8, .inl 0), (9, .inl r80), (10, .inl 0), (11, .inl 0), (12, .inl r131)], [], M131)
              exact nn_go_ext (nn_xc rfl (nn_xc rfl (nn_xc rfl (nn_xc rfl (nn_xc rfl nn_xn))))) (h n L N)
          · show mm_Go (mm_run 11) mc_M_loads _ (109, [(0, .inr (.inr 407)), (1, .inl v1), (3, .inl v3), (4, .inl v4), (5, .inl v5), (6, .inl r28), (7, .inl r36), (8, .inl 0), (9, .inl r80), (10, .inl 0)], [], M80)
            replace c106 := Int.not_le.mp c106
            replace h := h.2 c106
            refine mm_s1 rfl ?_
            refine mm_s1 rfl ?_
            refine mm_s1 rfl ⟨(nn_c407 NN).1, ?_⟩
            refine nn_call (D := 1) (by decide) (h n L N) ?_
            intro v M112 q; clear L N h
            obtain ⟨r112, rfl, L, N, h⟩ := q
            show mm_Go (mm_run 11) mc_M_loads _ (115, [(0, .inr (.inr 407)), (1, .inl v1), (3, .inl v3), (4, .inl v4), (5, .inl v5), (6, .inl r28), (7, .inl r36), (8, .inl 0), (9, .inl r80), (10, .inl 0)], [.inl r112], M112)
            refine mm_s1 rfl ?_
            show mm_Go (mm_run 11) mc_M_loads _ (119, [(0, .inr (.inr 407)), (1, .inl v1), (3, .inl v3), (4, .inl v4), (5, .inl v5), (6, .inl r28), (7, .inl r36), (8, .inl 0), (9, .inl r80), (10, .inl 0)], [.inl r112], M112)
            refine mm_s1 rfl ?_
            show mm_Go (mm_run 11) mc_M_loads _ (121, [(0, .inr (.inr 407)), (1, .inl v1), (3, .inl v3), (4, .inl v4), (5, .inl v5), (6, .inl r28), (7, .inl r36), (8, .inl 0), (9, .inl r80), (10, .inl 0), (11, .inl r112)], [], M112)
            refine mm_s1 rfl ?_
            refine mm_s1 rfl ⟨fun c123 => ?_, fun c123 => ?_⟩
            · show mm_Go (mm_run 11) mc_M_loads _ (137, [(0, .inr (.inr 407)), (1, .inl v1), (3, .inl v3), (4, .inl v4), (5, .inl v5), (6, .inl r28), (7, .inl r36), (8, .inl 0), (9, .inl r80), (10, .inl 0), (11, .inl r112)], [], M112)
              replace h := h.1 c123
              refine mm_s1 rfl ?_
              refine mm_s1 rfl ?_
              refine mm_s1 rfl ⟨fun c140 => ?_, fun c140 => ?_⟩
              · show mm_Go (mm_run 11) mc_M_loads _ (157, [(0, .inr (.inr 407)), (1, .inl v1), (3, .inl v3), (4, .inl v4), (5, .inl v5), (6, .inl r28), (7, .inl r36), (8, .inl 0), (9, .inl r80), (10, .inl 0), (11, .inl r112)], [], M112)
                replace h := h.1 c140
                refine mm_s1 rfl ?_
                refine mm_s1 rfl ?_
                refine mm_s1 rfl ?_
                refine mm_s1 rfl ?_
                refine mm_s1 rfl ?_
                show mm_Go (mm_run 11) mc_M_loads _ (164, [(0, .inr (.inr 407)), (1, .inl v1), (3, .inl v3), (4, .inl v4), (5, .inl v5), (6, .inl r28), (7, .inl r36), (8, .inl 0), (9, .inl r80), (10, .inl 0), (11, .inl r112)], [.inl 0, .inl r36, .inl 0, .inl v1, .inr (.inr 407)], M112)
                refine mm_s1 rfl ?_
                refine mm_s1 rfl ?_
                refine mm_s1 rfl ?_
                refine mm_s1 rfl ⟨trivial, ?_⟩
                refine np_M_packed (by decide) L N ?_
                show mm_Go (mm_run 11) mc_M_loads _ (173, [(0, .inr (.inr 407)), (1, .inl v1), (3, .inl v3), (4, .inl v4), (5, .inl v5), (6, .inl r28), (7, .inl r36), (8, .inl 0), (9, .inl r80), (10, .inl 0), (11, .inl r112)], [.inl (nf_M_packed 0 r80 0 r112), .inl r36, .inl 0, .inl v1, .inr (.inr 407)], M112)
                refine mm_s1 rfl ⟨(nn_c407 NN).1, ?_⟩
                refine nn_call (D := 10) (by decide) (h n L N) ?_
                intro v M173 q; clear L N h
                obtain ⟨r173, rfl, L, N, h⟩ := q
                show mm_Go (mm_run 11) mc_M_loads _ (176, [(0, .inr (.inr 407)), (1, .inl v1), (3, .inl v3), (4, .inl v4), (5, .inl v5), (6, .inl r28), (7, .inl r36), (8, .inl 0), (9, .inl r80), (10, .inl 0), (11, .inl r112)], [.inl r173], M173)
                refine mm_s1 rfl ?_
                show mm_Go (mm_run 11) mc_M_loads _ (178, [(0, .inr (.inr 407)), (1, .inl v1), (3, .inl v3), (4, .inl v4), (5, .inl v5), (6, .inl r28), (7, .inl r36), (8, .inl 0), (9, .inl r80), (10, .inl 0), (11, .inl r112), (12, .inl r173)], [], M173)
                refine mm_s1 rfl ?_
                show mm_Go (mm_run 11) mc_M_loads _ (181, [(0, .inr (.inr 407)), (1, .inl v1), (3, .inl v3), (4, .inl v4), (5, .inl (mm_w (v5 + 1))), (6, .inl r28), (7, .inl r36), (8, .inl 0), (9, .inl r80), (10, .inl 0), (11, .inl r112), (12, .inl r173)], [], M173)
                refine mm_s1 rfl ?_
                show mm_Go (mm_run 11) mc_M_loads _ (19, [(0, .inr (.inr 407)), (1, .inl v1), (3, .inl v3), (4, .inl v4), (5, .inl (mm_w (v5 + 1))), (6, .inl r28), (7, .inl r36), (8, .inl 0), (9, .inl r80), (10, .inl 0), (11, .inl r112), (12, .inl r173)], [], M173)
                exact nn_go_ext (nn_xc rfl (nn_xc rfl (nn_xc rfl (nn_xc rfl (nn_xc rfl nn_xn))))) (h n L N)
              · show mm_Go (mm_run 11) mc_M_loads _ (143, [(0, .inr (.inr 407)), (1, .inl v1), (3, .inl v3), (4, .inl v4), (5, .inl v5), (6, .inl r28), (7, .inl r36), (8, .inl 0), (9, .inl r80), (10, .inl 0), (11, .inl r112)], [], M112)
                replace c140 := Decidable.not_not.mp c140
                replace h := h.2 c140
                refine mm_s1 rfl ?_
                refine mm_s1 rfl ?_
                refine mm_s1 rfl ?_
                refine mm_s1 rfl ?_
                refine mm_s1 rfl ?_
                show mm_Go (mm_run 11) mc_M_loads _ (151, [(0, .inr (.inr 407)), (1, .inl v1), (3, .inl v3), (4, .inl v4), (5, .inl v5), (6, .inl r28), (7, .inl r36), (8, .inl 0), (9, .inl r80), (10, .inl 0), (11, .inl r112)], [.inl r80, .inl 0, .inl r36, .inl v1, .inr (.inr 407)], M112)
                refine mm_s1 rfl ⟨(nn_c407 NN).1, ?_⟩
                refine nn_call (D := 11) (by decide) (h n L N) ?_
                intro v M151 q; clear L N h
                obtain ⟨r151, rfl, L, N, h⟩ := q
                show mm_Go (mm_run 11) mc_M_loads _ (154, [(0, .inr (.inr 407)), (1, .inl v1), (3, .inl v3), (4, .inl v4), (5, .inl v5), (6, .inl r28), (7, .inl r36), (8, .inl 0), (9, .inl r80), (10, .inl 0), (11, .inl r112)], [.inl r151], M151)
                refine mm_s1 rfl ?_
                show mm_Go (mm_run 11) mc_M_loads _ (176, [(0, .inr (.inr 407)), (1, .inl v1), (3, .inl v3), (4, .inl v4), (5, .inl v5), (6, .inl r28), (7, .inl r36), (8, .inl 0), (9, .inl r80), (10, .inl 0), (11, .inl r112)], [.inl r151], M151)
                refine mm_s1 rfl ?_
                show mm_Go (mm_run 11) mc_M_loads _ (178, [(0, .inr (.inr 407)), (1, .inl v1), (3, .inl v3), (4, .inl v4), (5, .inl v5), (6, .inl r28), (7, .inl r36), (8, .inl 0), (9, .inl r80), (10, .inl 0), (11, .inl r112), (12, .inl r151)], [], M151)
                refine mm_s1 rfl ?_
                show mm_Go (mm_run 11) mc_M_loads _ (181, [(0, .inr (.inr 407)), (1, .inl v1), (3, .inl v3), (4, .inl v4), (5, .inl (mm_w (v5 + 1))), (6, .inl r28), (7, .inl r36), (8, .inl 0), (9, .inl r80), (10, .inl 0), (11, .inl r112), (12, .inl r151)], [], M151)
                refine mm_s1 rfl ?_
                show mm_Go (mm_run 11) mc_M_loads _ (19, [(0, .inr (.inr 407)), (1, .inl v1), (3, .inl v3), (4, .inl v4), (5, .inl (mm_w (v5 + 1))), (6, .inl r28), (7, .inl r36), (8, .inl 0), (9, .inl r80), (10, .inl 0), (11, .inl r112), (12, .inl r151)], [], M151)
                exact nn_go_ext (nn_xc rfl (nn_xc rfl (nn_xc rfl (nn_xc rfl (nn_xc rfl nn_xn))))) (h n L N)
            · show mm_Go (mm_run 11) mc_M_loads _ (126, [(0, .inr (.inr 407)), (1, .inl v1), (3, .inl v3), (4, .inl v4), (5, .inl v5), (6, .inl r28), (7, .inl r36), (8, .inl 0), (9, .inl r80), (10, .inl 0), (11, .inl r112)], [], M112)
              replace c123 := Decidable.not_not.mp c123
              replace h := h.2 c123
              refine mm_s1 rfl ?_
              refine mm_s1 rfl ?_
              refine mm_s1 rfl ?_
              refine mm_s1 rfl ?_
              refine mm_s1 rfl ⟨(nn_c407 NN).1, ?_⟩
              refine nn_call (D := 9) (by decide) (h n L N) ?_
              intro v M131 q; clear L N h
              obtain ⟨r131, rfl, L, N, h⟩ := q
              show mm_Go (mm_run 11) mc_M_loads _ (134, [(0, .inr (.inr 407)), (1, .inl v1), (3, .inl v3), (4, .inl v4), (5, .inl v5), (6, .inl r28), (7, .inl r36), (8, .inl 0), (9, .inl r80), (10, .inl 0), (11, .inl r112)], [.inl r131], M131)
              refine mm_s1 rfl ?_
              show mm_Go (mm_run 11) mc_M_loads _ (176, [(0, .inr (.inr 407)), (1, .inl v1), (3, .inl v3), (4, .inl v4), (5, .inl v5), (6, .inl r28), (7, .inl r36), (8, .inl 0), (9, .inl r80), (10, .inl 0), (11, .inl r112)], [.inl r131], M131)
              refine mm_s1 rfl ?_
              show mm_Go (mm_run 11) mc_M_loads _ (178, [(0, .inr (.inr 407)), (1, .inl v1), (3, .inl v3), (4, .inl v4), (5, .inl v5), (6, .inl r28), (7, .inl r36), (8, .inl 0), (9, .inl r80), (10, .inl 0), (11, .inl r112), (12, .inl r131)], [], M131)
              refine mm_s1 rfl ?_
              show mm_Go (mm_run 11) mc_M_loads _ (181, [(0, .inr (.inr 407)), (1, .inl v1), (3, .inl v3), (4, .inl v4), (5, .inl (mm_w (v5 + 1))), (6, .inl r28), (7, .inl r36), (8, .inl 0), (9, .inl r80), (10, .inl 0), (11, .inl r112), (12, .inl r131)], [], M131)
              refine mm_s1 rfl ?_
              show mm_Go (mm_run 11) mc_M_loads _ (19, [(0, .inr (.inr 407)), (1, .inl v1), (3, .inl v3), (4, .inl v4), (5, .inl (mm_w (v5 + 1))), (6, .inl r28), (7, .inl r36), (8, .inl 0), (9, .inl r80), (10, .inl 0), (11, .inl r112), (12, .inl r131)], [], M131)
              exact nn_go_ext (nn_xc rfl (nn_xc rfl (nn_xc rfl (nn_xc rfl (nn_xc rfl nn_xn))))) (h n L N)
        · show mm_Go (mm_run 11) mc_M_loads _ (91, [(0, .inr (.inr 407)), (1, .inl v1), (3, .inl v3), (4, .inl v4), (5, .inl v5), (6, .inl r28), (7, .inl r36), (8, .inl 0), (9, .inl r80)], [], M80)
          replace c88 := Int.not_le.mp c88
          replace h := h.2 c88
          refine mm_s1 rfl ?_
          refine mm_s1 rfl ?_
          refine mm_s1 rfl ⟨(nn_c407 NN).1, ?_⟩
          refine nn_call (D := 1) (by decide) (h n L N) ?_
          intro v M94 q; clear L N h
          obtain ⟨r94, rfl, L, N, h⟩ := q
          show mm_Go (mm_run 11) mc_M_loads _ (97, [(0, .inr (.inr 407)), (1, .inl v1), (3, .inl v3), (4, .inl v4), (5, .inl v5), (6, .inl r28), (7, .inl r36), (8, .inl 0), (9, .inl r80)], [.inl r94], M94)
          refine mm_s1 rfl ?_
          show mm_Go (mm_run 11) mc_M_loads _ (101, [(0, .inr (.inr 407)), (1, .inl v1), (3, .inl v3), (4, .inl v4), (5, .inl v5), (6, .inl r28), (7, .inl r36), (8, .inl 0), (9, .inl r80)], [.inl r94], M94)
          refine mm_s1 rfl ?_
          show mm_Go (mm_run 11) mc_M_loads _ (103, [(0, .inr (.inr 407)), (1, .inl v1), (3, .inl v3), (4, .inl v4), (5, .inl v5), (6, .inl r28), (7, .inl r36), (8, .inl 0), (9, .inl r80), (10, .inl r94)], [], M94)
          refine mm_s1 rfl ?_
          refine mm_s1 rfl ?_
          refine mm_s1 rfl ⟨fun c106 => ?_, fun c106 => ?_⟩
          · show mm_Go (mm_run 11) mc_M_loads _ (118, [(0, .inr (.inr 407)), (1, .inl v1), (3, .inl v3), (4, .inl v4), (5, .inl v5), (6, .inl r28), (7, .inl r36), (8, .inl 0), (9, .inl r80), (10, .inl r94)], [], M94)
            replace h := h.1 c106
            refine mm_s1 rfl ?_
            refine mm_s1 rfl ?_
            show mm_Go (mm_run 11) mc_M_loads _ (121, [(0, .inr (.inr 407)), (1, .inl v1), (3, .inl v3), (4, .inl v4), (5, .inl v5), (6, .inl r28), (7, .inl r36), (8, .inl 0), (9, .inl r80), (10, .inl r94), (11, .inl 0)], [], M94)
            refine mm_s1 rfl ?_
            refine mm_s1 rfl ⟨fun c123 => ?_, fun c123 => ?_⟩
            · show mm_Go (mm_run 11) mc_M_loads _ (137, [(0, .inr (.inr 407)), (1, .inl v1), (3, .inl v3), (4, .inl v4), (5, .inl v5), (6, .inl r28), (7, .inl r36), (8, .inl 0), (9, .inl r80), (10, .inl r94), (11, .inl 0)], [], M94)
              replace h := h.1 c123
              refine mm_s1 rfl ?_
              refine mm_s1 rfl ?_
              refine mm_s1 rfl ⟨fun c140 => ?_, fun c140 => ?_⟩
              · show mm_Go (mm_run 11) mc_M_loads _ (157, [(0, .inr (.inr 407)), (1, .inl v1), (3, .inl v3), (4, .inl v4), (5, .inl v5), (6, .inl r28), (7, .inl r36), (8, .inl 0), (9, .inl r80), (10, .inl r94), (11, .inl 0)], [], M94)
                replace h := h.1 c140
                refine mm_s1 rfl ?_
                refine mm_s1 rfl ?_
                refine mm_s1 rfl ?_
                refine mm_s1 rfl ?_
                refine mm_s1 rfl ?_
                show mm_Go (mm_run 11) mc_M_loads _ (164, [(0, .inr (.inr 407)), (1, .inl v1), (3, .inl v3), (4, .inl v4), (5, .inl v5), (6, .inl r28), (7, .inl r36), (8, .inl 0), (9, .inl r80), (10, .inl r94), (11, .inl 0)], [.inl 0, .inl r36, .inl 0, .inl v1, .inr (.inr 407)], M94)
                refine mm_s1 rfl ?_
                refine mm_s1 rfl ?_
                refine mm_s1 rfl ?_
                refine mm_s1 rfl ⟨trivial, ?_⟩
                refine np_M_packed (by decide) L N ?_
                show mm_Go (mm_run 11) mc_M_loads _ (173, [(0, .inr (.inr 407)), (1, .inl v1), (3, .inl v3), (4, .inl v4), (5, .inl v5), (6, .inl r28), (7, .inl r36), (8, .inl 0), (9, .inl r80), (10, .inl r94), (11, .inl 0)], [.inl (nf_M_packed 0 r80 r94 0), .inl r36, .inl 0, .inl v1, .inr (.inr 407)], M94)
                refine mm_s1 rfl ⟨(nn_c407 NN).1, ?_⟩
                refine nn_call (D := 10) (by decide) (h n L N) ?_
                intro v M173 q; clear L N h
                obtain ⟨r173, rfl, L, N, h⟩ := q
                show mm_Go (mm_run 11) mc_M_loads _ (176, [(0, .inr (.inr 407)), (1, .inl v1), (3, .inl v3), (4, .inl v4), (5, .inl v5), (6, .inl r28), (7, .inl r36), (8, .inl 0), (9, .inl r80), (10, .inl r94), (11, .inl 0)], [.inl r173], M173)
                refine mm_s1 rfl ?_
                show mm_Go (mm_run 11) mc_M_loads _ (178, [(0, .inr (.inr 407)), (1, .inl v1), (3, .inl v3), (4, .inl v4), (5, .inl v5), (6, .inl r28), (7, .inl r36), (8, .inl 0), (9, .inl r80), (10, .inl r94), (11, .inl 0), (12, .inl r173)], [], M173)
                refine mm_s1 rfl ?_
                show mm_Go (mm_run 11) mc_M_loads _ (181, [(0, .inr (.inr 407)), (1, .inl v1), (3, .inl v3), (4, .inl v4), (5, .inl (mm_w (v5 + 1))), (6, .inl r28), (7, .inl r36), (8, .inl 0), (9, .inl r80), (10, .inl r94), (11, .inl 0), (12, .inl r173)], [], M173)
                refine mm_s1 rfl ?_
                show mm_Go (mm_run 11) mc_M_loads _ (19, [(0, .inr (.inr 407)), (1, .inl v1), (3, .inl v3), (4, .inl v4), (5, .inl (mm_w (v5 + 1))), (6, .inl r28), (7, .inl r36), (8, .inl 0), (9, .inl r80), (10, .inl r94), (11, .inl 0), (12, .inl r173)], [], M173)
                exact nn_go_ext (nn_xc rfl (nn_xc rfl (nn_xc rfl (nn_xc rfl (nn_xc rfl nn_xn))))) (h n L N)
              · show mm_Go (mm_run 11) mc_M_loads _ (143, [(0, .inr (.inr 407)), (1, .inl v1), (3, .inl v3), (4, .inl v4), (5, .inl v5), (6, .inl r28), (7, .inl r36), (8, .inl 0), (9, .inl r80), (10, .inl r94), (11, .inl 0)], [], M94)
                replace c140 := Decidable.not_not.mp c140
                replace h := h.2 c140
                refine mm_s1 rfl ?_
                refine mm_s1 rfl ?_
                refine mm_s1 rfl ?_
                refine mm_s1 rfl ?_
                refine mm_s1 rfl ?_
                show mm_Go (mm_run 11) mc_M_loads _ (151, [(0, .inr (.inr 407)), (1, .inl v1), (3, .inl v3), (4, .inl v4), (5, .inl v5), (6, .inl r28), (7, .inl r36), (8, .inl 0), (9, .inl r80), (10, .inl r94), (11, .inl 0)], [.inl r80, .inl 0, .inl r36, .inl v1, .inr (.inr 407)], M94)
                refine mm_s1 rfl ⟨(nn_c407 NN).1, ?_⟩
                refine nn_call (D := 11) (by decide) (h n L N) ?_
                intro v M151 q; clear L N h
                obtain ⟨r151, rfl, L, N, h⟩ := q
                show mm_Go (mm_run 11) mc_M_loads _ (154, [(0, .inr (.inr 407)), (1, .inl v1), (3, .inl v3), (4, .inl v4), (5, .inl v5), (6, .inl r28), (7, .inl r36), (8, .inl 0), (9, .inl r80), (10, .inl r94), (11, .inl 0)], [.inl r151], M151)
                refine mm_s1 rfl ?_
                show mm_Go (mm_run 11) mc_M_loads _ (176, [(0, .inr (.inr 407)), (1, .inl v1), (3, .inl v3), (4, .inl v4), (5, .inl v5), (6, .inl r28), (7, .inl r36), (8, .inl 0), (9, .inl r80), (10, .inl r94), (11, .inl 0)], [.inl r151], M151)
                refine mm_s1 rfl ?_
                show mm_Go (mm_run 11) mc_M_loads _ (178, [(0, .inr (.inr 407)), (1, .inl v1), (3, .inl v3), (4, .inl v4), (5, .inl v5), (6, .inl r28), (7, .inl r36), (8, .inl 0), (9, .inl r80), (10, .inl r94), (11, .inl 0), (12, .inl r151)], [], M151)
                refine mm_s1 rfl ?_
                show mm_Go (mm_run 11) mc_M_loads _ (181, [(0, .inr (.inr 407)), (1, .inl v1), (3, .inl v3), (4, .inl v4), (5, .inl (mm_w (v5 + 1))), (6, .inl r28), (7, .inl r36), (8, .inl 0), (9, .inl r80), (10, .inl r94), (11, .inl 0), (12, .inl r151)], [], M151)
                refine mm_s1 rfl ?_
                show mm_Go (mm_run 11) mc_M_loads _ (19, [(0, .inr (.inr 407)), (1, .inl v1), (3, .inl v3), (4, .inl v4), (5, .inl (mm_w (v5 + 1))), (6, .inl r28), (7, .inl r36), (8, .inl 0), (9, .inl r80), (10, .inl r94), (11, .inl 0), (12, .inl r151)], [], M151)
                exact nn_go_ext (nn_xc rfl (nn_xc rfl (nn_xc rfl (nn_xc rfl (nn_xc rfl nn_xn))))) (h n L N)
            · show mm_Go (mm_run 11) mc_M_loads _ (126, [(0, .inr (.inr 407)), (1, .inl v1), (3, .inl v3), (4, .inl v4), (5, .inl v5), (6, .inl r28), (7, .inl r36), (8, .inl 0), (9, .inl r80), (10, .inl r94), (11, .inl 0)], [], M94)
              replace c123 := Decidable.not_not.mp c123
              replace h := h.2 c123
              refine mm_s1 rfl ?_
              refine mm_s1 rfl ?_
              refine mm_s1 rfl ?_
              refine mm_s1 rfl ?_
              refine mm_s1 rfl ⟨(nn_c407 NN).1, ?_⟩
              refine nn_call (D := 9) (by decide) (h n L N) ?_
              intro v M131 q; clear L N h
              obtain ⟨r131, rfl, L, N, h⟩ := q
              show mm_Go (mm_run 11) mc_M_loads _ (134, [(0, .inr (.inr 407)), (1, .inl v1), (3, .inl v3), (4, .inl v4), (5, .inl v5), (6, .inl r28), (7, .inl r36), (8, .inl 0), (9, .inl r80), (10, .inl r94), (11, .inl 0)], [.inl r131], M131)
              refine mm_s1 rfl ?_
              show mm_Go (mm_run 11) mc_M_loads _ (176, [(0, .inr (.inr 407)), (1, .inl v1), (3, .inl v3), (4, .inl v4), (5, .inl v5), (6, .inl r28), (7, .inl r36), (8, .inl 0), (9, .inl r80), (10, .inl r94), (11, .inl 0)], [.inl r131], M131)
              refine mm_s1 rfl ?_
              show mm_Go (mm_run 11) mc_M_loads _ (178, [(0, .inr (.inr 407)), (1, .inl v1), (3, .inl v3), (4, .inl v4), (5, .inl v5), (6, .inl r28), (7, .inl r36), (8, .inl 0), (9, .inl r80), (10, .inl r94), (11, .inl 0), (12, .inl r131)], [], M131)
              refine mm_s1 rfl ?_
              show mm_Go (mm_run 11) mc_M_loads _ (181, [(0, .inr (.inr 407)), (1, .inl v1), (3, .inl v3), (4, .inl v4), (5, .inl (mm_w (v5 + 1))), (6, .inl r28), (7, .inl r36), (8, .inl 0), (9, .inl r80), (10, .inl r94), (11, .inl 0), (12, .inl r131)], [], M131)
              refine mm_s1 rfl ?_
              show mm_Go (mm_run 11) mc_M_loads _ (19, [(0, .inr (.inr 407)), (1, .inl v1), (3, .inl v3), (4, .inl v4), (5, .inl (mm_w (v5 + 1))), (6, .inl r28), (7, .inl r36), (8, .inl 0), (9, .inl r80), (10, .inl r94), (11, .inl 0), (12, .inl r131)], [], M131)
              exact nn_go_ext (nn_xc rfl (nn_xc rfl (nn_xc rfl (nn_xc rfl (nn_xc rfl nn_xn))))) (h n L N)
          · show mm_Go (mm_run 11) mc_M_loads _ (109, [(0, .inr (.inr 407)), (1, .inl v1), (3, .inl v3), (4, .inl v4), (5, .inl v5), (6, .inl r28), (7, .inl r36), (8, .inl 0), (9, .inl r80), (10, .inl r94)], [], M94)
            replace c106 := Int.not_le.mp c106
            replace h := h.2 c106
            refine mm_s1 rfl ?_
            refine mm_s1 rfl ?_
            refine mm_s1 rfl ⟨(nn_c407 NN).1, ?_⟩
            refine nn_call (D := 1) (by decide) (h n L N) ?_
            intro v M112 q; clear L N h
            obtain ⟨r112, rfl, L, N, h⟩ := q
            show mm_Go (mm_run 11) mc_M_loads _ (115, [(0, .inr (.inr 407)), (1, .inl v1), (3, .inl v3), (4, .inl v4), (5, .inl v5), (6, .inl r28), (7, .inl r36), (8, .inl 0), (9, .inl r80), (10, .inl r94)], [.inl r112], M112)
            refine mm_s1 rfl ?_
            show mm_Go (mm_run 11) mc_M_loads _ (119, [(0, .inr (.inr 407)), (1, .inl v1), (3, .inl v3), (4, .inl v4), (5, .inl v5), (6, .inl r28), (7, .inl r36), (8, .inl 0), (9, .inl r80), (10, .inl r94)], [.inl r112], M112)
            refine mm_s1 rfl ?_
            show mm_Go (mm_run 11) mc_M_loads _ (121, [(0, .inr (.inr 407)), (1, .inl v1), (3, .inl v3), (4, .inl v4), (5, .inl v5), (6, .inl r28), (7, .inl r36), (8, .inl 0), (9, .inl r80), (10, .inl r94), (11, .inl r112)], [], M112)
            refine mm_s1 rfl ?_
            refine mm_s1 rfl ⟨fun c123 => ?_, fun c123 => ?_⟩
            · show mm_Go (mm_run 11) mc_M_loads _ (137, [(0, .inr (.inr 407)), (1, .inl v1), (3, .inl v3), (4, .inl v4), (5, .inl v5), (6, .inl r28), (7, .inl r36), (8, .inl 0), (9, .inl r80), (10, .inl r94), (11, .inl r112)], [], M112)
              replace h := h.1 c123
              refine mm_s1 rfl ?_
              refine mm_s1 rfl ?_
              refine mm_s1 rfl ⟨fun c140 => ?_, fun c140 => ?_⟩
              · show mm_Go (mm_run 11) mc_M_loads _ (157, [(0, .inr (.inr 407)), (1, .inl v1), (3, .inl v3), (4, .inl v4), (5, .inl v5), (6, .inl r28), (7, .inl r36), (8, .inl 0), (9, .inl r80), (10, .inl r94), (11, .inl r112)], [], M112)
                replace h := h.1 c140
                refine mm_s1 rfl ?_
                refine mm_s1 rfl ?_
                refine mm_s1 rfl ?_
                refine mm_s1 rfl ?_
                refine mm_s1 rfl ?_
                show mm_Go (mm_run 11) mc_M_loads _ (164, [(0, .inr (.inr 407)), (1, .inl v1), (3, .inl v3), (4, .inl v4), (5, .inl v5), (6, .inl r28), (7, .inl r36), (8, .inl 0), (9, .inl r80), (10, .inl r94), (11, .inl r112)], [.inl 0, .inl r36, .inl 0, .inl v1, .inr (.inr 407)], M112)
                refine mm_s1 rfl ?_
                refine mm_s1 rfl ?_
                refine mm_s1 rfl ?_
                refine mm_s1 rfl ⟨trivial, ?_⟩
                refine np_M_packed (by decide) L N ?_
                show mm_Go (mm_run 11) mc_M_loads _ (173, [(0, .inr (.inr 407)), (1, .inl v1), (3, .inl v3), (4, .inl v4), (5, .inl v5), (6, .inl r28), (7, .inl r36), (8, .inl 0), (9, .inl r80), (10, .inl r94), (11, .inl r112)], [.inl (nf_M_packed 0 r80 r94 r112), .inl r36, .inl 0, .inl v1, .inr (.inr 407)], M112)
                refine mm_s1 rfl ⟨(nn_c407 NN).1, ?_⟩
                refine nn_call (D := 10) (by decide) (h n L N) ?_
                intro v M173 q; clear L N h
                obtain ⟨r173, rfl, L, N, h⟩ := q
                show mm_Go (mm_run 11) mc_M_loads _ (176, [(0, .inr (.inr 407)), (1, .inl v1), (3, .inl v3), (4, .inl v4), (5, .inl v5), (6, .inl r28), (7, .inl r36), (8, .inl 0), (9, .inl r80), (10, .inl r94), (11, .inl r112)], [.inl r173], M173)
                refine mm_s1 rfl ?_
                show mm_Go (mm_run 11) mc_M_loads _ (178, [(0, .inr (.inr 407)), (1, .inl v1), (3, .inl v3), (4, .inl v4), (5, .inl v5), (6, .inl r28), (7, .inl r36), (8, .inl 0), (9, .inl r80), (10, .inl r94), (11, .inl r112), (12, .inl r173)], [], M173)
                refine mm_s1 rfl ?_
                show mm_Go (mm_run 11) mc_M_loads _ (181, [(0, .inr (.inr 407)), (1, .inl v1), (3, .inl v3), (4, .inl v4), (5, .inl (mm_w (v5 + 1))), (6, .inl r28), (7, .inl r36), (8, .inl 0), (9, .inl r80), (10, .inl r94), (11, .inl r112), (12, .inl r173)], [], M173)
                refine mm_s1 rfl ?_
                show mm_Go (mm_run 11) mc_M_loads _ (19, [(0, .inr (.inr 407)), (1, .inl v1), (3, .inl v3), (4, .inl v4), (5, .inl (mm_w (v5 + 1))), (6, .inl r28), (7, .inl r36), (8, .inl 0), (9, .inl r80), (10, .inl r94), (11, .inl r112), (12, .inl r173)], [], M173)
                exact nn_go_ext (nn_xc rfl (nn_xc rfl (nn_xc rfl (nn_xc rfl (nn_xc rfl nn_xn))))) (h n L N)
              · show mm_Go (mm_run 11) mc_M_loads _ (143, [(0, .inr (.inr 407)), (1, .inl v1), (3, .inl v3), (4, .inl v4), (5, .inl v5), (6, .inl r28), (7, .inl r36), (8, .inl 0), (9, .inl r80), (10, .inl r94), (11, .inl r112)], [], M112)
                replace c140 := Decidable.not_not.mp c140
                replace h := h.2 c140
                refine mm_s1 rfl ?_
                refine mm_s1 rfl ?_
                refine mm_s1 rfl ?_
                refine mm_s1 rfl ?_
                refine mm_s1 rfl ?_
                show mm_Go (mm_run 11) mc_M_loads _ (151, [(0, .inr (.inr 407)), (1, .inl v1), (3, .inl v3), (4, .inl v4), (5, .inl v5), (6, .inl r28), (7, .inl r36), (8, .inl 0), (9, .inl r80), (10, .inl r94), (11, .inl r112)], [.inl r80, .inl 0, .inl r36, .inl v1, .inr (.inr 407)], M112)
                refine mm_s1 rfl ⟨(nn_c407 NN).1, ?_⟩
                refine nn_call (D := 11) (by decide) (h n L N) ?_
                intro v M151 q; clear L N h
                obtain ⟨r151, rfl, L, N, h⟩ := q
                show mm_Go (mm_run 11) mc_M_loads _ (154, [(0, .inr (.inr 407)), (1, .inl v1), (3, .inl v3), (4, .inl v4), (5, .inl v5), (6, .inl r28), (7, .inl r36), (8, .inl 0), (9, .inl r80), (10, .inl r94), (11, .inl r112)], [.inl r151], M151)
                refine mm_s1 rfl ?_
                show mm_Go (mm_run 11) mc_M_loads _ (176, [(0, .inr (.inr 407)), (1, .inl v1), (3, .inl v3), (4, .inl v4), (5, .inl v5), (6, .inl r28), (7, .inl r36), (8, .inl 0), (9, .inl r80), (10, .inl r94), (11, .inl r112)], [.inl r151], M151)
                refine mm_s1 rfl ?_
                show mm_Go (mm_run 11) mc_M_loads _ (178, [(0, .inr (.inr 407)), (1, .inl v1), (3, .inl v3), (4, .inl v4), (5, .inl v5), (6, .inl r28), (7, .inl r36), (8, .inl 0), (9, .inl r80), (10, .inl r94), (11, .inl r112), (12, .inl r151)], [], M151)
                refine mm_s1 rfl ?_
                show mm_Go (mm_run 11) mc_M_loads _ (181, [(0, .inr (.inr 407)), (1, .inl v1), (3, .inl v3), (4, .inl v4), (5, .inl (mm_w (v5 + 1))), (6, .inl r28), (7, .inl r36), (8, .inl 0), (9, .inl r80), (10, .inl r94), (11, .inl r112), (12, .inl r151)], [], M151)
                refine mm_s1 rfl ?_
                show mm_Go (mm_run 11) mc_M_loads _ (19, [(0, .inr (.inr 407)), (1, .inl v1), (3, .inl v3), (4, .inl v4), (5, .inl (mm_w (v5 + 1))), (6, .inl r28), (7, .inl r36), (8, .inl 0), (9, .inl r80), (10, .inl r94), (11, .inl r112), (12, .inl r151)], [], M151)
                exact nn_go_ext (nn_xc rfl (nn_xc rfl (nn_xc rfl (nn_xc rfl (nn_xc rfl nn_xn))))) (h n L N)
            · show mm_Go (mm_run 11) mc_M_loads _ (126, [(0, .inr (.inr 407)), (1, .inl v1), (3, .inl v3), (4, .inl v4), (5, .inl v5), (6, .inl r28), (7, .inl r36), (8, .inl 0), (9, .inl r80), (10, .inl r94), (11, .inl r112)], [], M112)
              replace c123 := Decidable.not_not.mp c123
              replace h := h.2 c123
              refine mm_s1 rfl ?_
              refine mm_s1 rfl ?_
              refine mm_s1 rfl ?_
              refine mm_s1 rfl ?_
              refine mm_s1 rfl ⟨(nn_c407 NN).1, ?_⟩
              refine nn_call (D := 9) (by decide) (h n L N) ?_
              intro v M131 q; clear L N h
              obtain ⟨r131, rfl, L, N, h⟩ := q
              show mm_Go (mm_run 11) mc_M_loads _ (134, [(0, .inr (.inr 407)), (1, .inl v1), (3, .inl v3), (4, .inl v4), (5, .inl v5), (6, .inl r28), (7, .inl r36), (8, .inl 0), (9, .inl r80), (10, .inl r94), (11, .inl r112)], [.inl r131], M131)
              refine mm_s1 rfl ?_
              show mm_Go (mm_run 11) mc_M_loads _ (176, [(0, .inr (.inr 407)), (1, .inl v1), (3, .inl v3), (4, .inl v4), (5, .inl v5), (6, .inl r28), (7, .inl r36), (8, .inl 0), (9, .inl r80), (10, .inl r94), (11, .inl r112)], [.inl r131], M131)
              refine mm_s1 rfl ?_
              show mm_Go (mm_run 11) mc_M_loads _ (178, [(0, .inr (.inr 407)), (1, .inl v1), (3, .inl v3), (4, .inl v4), (5, .inl v5), (6, .inl r28), (7, .inl r36), (8, .inl 0), (9, .inl r80), (10, .inl r94), (11, .inl r112), (12, .inl r131)], [], M131)
              refine mm_s1 rfl ?_
              show mm_Go (mm_run 11) mc_M_loads _ (181, [(0, .inr (.inr 407)), (1, .inl v1), (3, .inl v3), (4, .inl v4), (5, .inl (mm_w (v5 + 1))), (6, .inl r28), (7, .inl r36), (8, .inl 0), (9, .inl r80), (10, .inl r94), (11, .inl r112), (12, .inl r131)], [], M131)
              refine mm_s1 rfl ?_
              show mm_Go (mm_run 11) mc_M_loads _ (19, [(0, .inr (.inr 407)), (1, .inl v1), (3, .inl v3), (4, .inl v4), (5, .inl (mm_w (v5 + 1))), (6, .inl r28), (7, .inl r36), (8, .inl 0), (9, .inl r80), (10, .inl r94), (11, .inl r112), (12, .inl r131)], [], M131)
              exact nn_go_ext (nn_xc rfl (nn_xc rfl (nn_xc rfl (nn_xc rfl (nn_xc rfl nn_xn))))) (h n L N)
      · show mm_Go (mm_run 11) mc_M_loads _ (73, [(0, .inr (.inr 407)), (1, .inl v1), (3, .inl v3), (4, .inl v4), (5, .inl v5), (6, .inl r28), (7, .inl r36), (8, .inl 0)], [], M36)
        replace c70 := Decidable.not_not.mp c70
        replace h := h.2 c70
        refine mm_s1 rfl ?_
        refine mm_s1 rfl ?_
        show mm_Go (mm_run 11) mc_M_loads _ (83, [(0, .inr (.inr 407)), (1, .inl v1), (3, .inl v3), (4, .inl v4), (5, .inl v5), (6, .inl r28), (7, .inl r36), (8, .inl 0)], [.inl 0], M36)
        refine mm_s1 rfl ?_
        show mm_Go (mm_run 11) mc_M_loads _ (85, [(0, .inr (.inr 407)), (1, .inl v1), (3, .inl v3), (4, .inl v4), (5, .inl v5), (6, .inl r28), (7, .inl r36), (8, .inl 0), (9, .inl 0)], [], M36)
        refine mm_s1 rfl ?_
        refine mm_s1 rfl ?_
        refine mm_s1 rfl ⟨fun c88 => ?_, fun c88 => ?_⟩
        · show mm_Go (mm_run 11) mc_M_loads _ (100, [(0, .inr (.inr 407)), (1, .inl v1), (3, .inl v3), (4, .inl v4), (5, .inl v5), (6, .inl r28), (7, .inl r36), (8, .inl 0), (9, .inl 0)], [], M36)
          replace h := h.1 c88
          refine mm_s1 rfl ?_
          refine mm_s1 rfl ?_
          show mm_Go (mm_run 11) mc_M_loads _ (103, [(0, .inr (.inr 407)), (1, .inl v1), (3, .inl v3), (4, .inl v4), (5, .inl v5), (6, .inl r28), (7, .inl r36), (8, .inl 0), (9, .inl 0), (10, .inl 0)], [], M36)
          refine mm_s1 rfl ?_
          refine mm_s1 rfl ?_
          refine mm_s1 rfl ⟨fun c106 => ?_, fun c106 => ?_⟩
          · show mm_Go (mm_run 11) mc_M_loads _ (118, [(0, .inr (.inr 407)), (1, .inl v1), (3, .inl v3), (4, .inl v4), (5, .inl v5), (6, .inl r28), (7, .inl r36), (8, .inl 0), (9, .inl 0), (10, .inl 0)], [], M36)
            replace h := h.1 c106
            refine mm_s1 rfl ?_
            refine mm_s1 rfl ?_
            show mm_Go (mm_run 11) mc_M_loads _ (121, [(0, .inr (.inr 407)), (1, .inl v1), (3, .inl v3), (4, .inl v4), (5, .inl v5), (6, .inl r28), (7, .inl r36), (8, .inl 0), (9, .inl 0), (10, .inl 0), (11, .inl 0)], [], M36)
            refine mm_s1 rfl ?_
            refine mm_s1 rfl ⟨fun c123 => ?_, fun c123 => ?_⟩
            · show mm_Go (mm_run 11) mc_M_loads _ (137, [(0, .inr (.inr 407)), (1, .inl v1), (3, .inl v3), (4, .inl v4), (5, .inl v5), (6, .inl r28), (7, .inl r36), (8, .inl 0), (9, .inl 0), (10, .inl 0), (11, .inl 0)], [], M36)
              replace h := h.1 c123
              refine mm_s1 rfl ?_
              refine mm_s1 rfl ?_
              refine mm_s1 rfl ⟨fun c140 => ?_, fun c140 => ?_⟩
              · show mm_Go (mm_run 11) mc_M_loads _ (157, [(0, .inr (.inr 407)), (1, .inl v1), (3, .inl v3), (4, .inl v4), (5, .inl v5), (6, .inl r28), (7, .inl r36), (8, .inl 0), (9, .inl 0), (10, .inl 0), (11, .inl 0)], [], M36)
                replace h := h.1 c140
                refine mm_s1 rfl ?_
                refine mm_s1 rfl ?_
                refine mm_s1 rfl ?_
                refine mm_s1 rfl ?_
                refine mm_s1 rfl ?_
                show mm_Go (mm_run 11) mc_M_loads _ (164, [(0, .inr (.inr 407)), (1, .inl v1), (3, .inl v3), (4, .inl v4), (5, .inl v5), (6, .inl r28), (7, .inl r36), (8, .inl 0), (9, .inl 0), (10, .inl 0), (11, .inl 0)], [.inl 0, .inl r36, .inl 0, .inl v1, .inr (.inr 407)], M36)
                refine mm_s1 rfl ?_
                refine mm_s1 rfl ?_
                refine mm_s1 rfl ?_
                refine mm_s1 rfl ⟨trivial, ?_⟩
                refine np_M_packed (by decide) L N ?_
                show mm_Go (mm_run 11) mc_M_loads _ (173, [(0, .inr (.inr 407)), (1, .inl v1), (3, .inl v3), (4, .inl v4), (5, .inl v5), (6, .inl r28), (7, .inl r36), (8, .inl 0), (9, .inl 0), (10, .inl 0), (11, .inl 0)], [.inl (nf_M_packed 0 0 0 0), .inl r36, .inl 0, .inl v1, .inr (.inr 407)], M36)
                refine mm_s1 rfl ⟨(nn_c407 NN).1, ?_⟩
                refine nn_call (D := 10) (by decide) (h n L N) ?_
                intro v M173 q; clear L N h
                obtain ⟨r173, rfl, L, N, h⟩ := q
                show mm_Go (mm_run 11) mc_M_loads _ (176, [(0, .inr (.inr 407)), (1, .inl v1), (3, .inl v3), (4, .inl v4), (5, .inl v5), (6, .inl r28), (7, .inl r36), (8, .inl 0), (9, .inl 0), (10, .inl 0), (11, .inl 0)], [.inl r173], M173)
                refine mm_s1 rfl ?_
                show mm_Go (mm_run 11) mc_M_loads _ (178, [(0, .inr (.inr 407)), (1, .inl v1), (3, .inl v3), (4, .inl v4), (5, .inl v5), (6, .inl r28), (7, .inl r36), (8, .inl 0), (9, .inl 0), (10, .inl 0), (11, .inl 0), (12, .inl r173)], [], M173)
                refine mm_s1 rfl ?_
                show mm_Go (mm_run 11) mc_M_loads _ (181, [(0, .inr (.inr 407)), (1, .inl v1), (3, .inl v3), (4, .inl v4), (5, .inl (mm_w (v5 + 1))), (6, .inl r28), (7, .inl r36), (8, .inl 0), (9, .inl 0), (10, .inl 0), (11, .inl 0), (12, .inl r173)], [], M173)
                refine mm_s1 rfl ?_
                show mm_Go (mm_run 11) mc_M_loads _ (19, [(0, .inr (.inr 407)), (1, .inl v1), (3, .inl v3), (4, .inl v4), (5, .inl (mm_w (v5 + 1))), (6, .inl r28), (7, .inl r36), (8, .inl 0), (9, .inl 0), (10, .inl 0), (11, .inl 0), (12, .inl r173)], [], M173)
                exact nn_go_ext (nn_xc rfl (nn_xc rfl (nn_xc rfl (nn_xc rfl (nn_xc rfl nn_xn))))) (h n L N)
              · show mm_Go (mm_run 11) mc_M_loads _ (143, [(0, .inr (.inr 407)), (1, .inl v1), (3, .inl v3), (4, .inl v4), (5, .inl v5), (6, .inl r28), (7, .inl r36), (8, .inl 0), (9, .inl 0), (10, .inl 0), (11, .inl 0)], [], M36)
                replace c140 := Decidable.not_not.mp c140
                replace h := h.2 c140
                refine mm_s1 rfl ?_
                refine mm_s1 rfl ?_
                refine mm_s1 rfl ?_
                refine mm_s1 rfl ?_
                refine mm_s1 rfl ?_
                show mm_Go (mm_run 11) mc_M_loads _ (151, [(0, .inr (.inr 407)), (1, .inl v1), (3, .inl v3), (4, .inl v4), (5, .inl v5), (6, .inl r28), (7, .inl r36), (8, .inl 0), (9, .inl 0), (10, .inl 0), (11, .inl 0)], [.inl 0, .inl 0, .inl r36, .inl v1, .inr (.inr 407)], M36)
                refine mm_s1 rfl ⟨(nn_c407 NN).1, ?_⟩
                refine nn_call (D := 11) (by decide) (h n L N) ?_
                intro v M151 q; clear L N h
                obtain ⟨r151, rfl, L, N, h⟩ := q
                show mm_Go (mm_run 11) mc_M_loads _ (154, [(0, .inr (.inr 407)), (1, .inl v1), (3, .inl v3), (4, .inl v4), (5, .inl v5), (6, .inl r28), (7, .inl r36), (8, .inl 0), (9, .inl 0), (10, .inl 0), (11, .inl 0)], [.inl r151], M151)
                refine mm_s1 rfl ?_
                show mm_Go (mm_run 11) mc_M_loads _ (176, [(0, .inr (.inr 407)), (1, .inl v1), (3, .inl v3), (4, .inl v4), (5, .inl v5), (6, .inl r28), (7, .inl r36), (8, .inl 0), (9, .inl 0), (10, .inl 0), (11, .inl 0)], [.inl r151], M151)
                refine mm_s1 rfl ?_
                show mm_Go (mm_run 11) mc_M_loads _ (178, [(0, .inr (.inr 407)), (1, .inl v1), (3, .inl v3), (4, .inl v4), (5, .inl v5), (6, .inl r28), (7, .inl r36), (8, .inl 0), (9, .inl 0), (10, .inl 0), (11, .inl 0), (12, .inl r151)], [], M151)
                refine mm_s1 rfl ?_
                show mm_Go (mm_run 11) mc_M_loads _ (181, [(0, .inr (.inr 407)), (1, .inl v1), (3, .inl v3), (4, .inl v4), (5, .inl (mm_w (v5 + 1))), (6, .inl r28), (7, .inl r36), (8, .inl 0), (9, .inl 0), (10, .inl 0), (11, .inl 0), (12, .inl r151)], [], M151)
                refine mm_s1 rfl ?_
                show mm_Go (mm_run 11) mc_M_loads _ (19, [(0, .inr (.inr 407)), (1, .inl v1), (3, .inl v3), (4, .inl v4), (5, .inl (mm_w (v5 + 1))), (6, .inl r28), (7, .inl r36), (8, .inl 0), (9, .inl 0), (10, .inl 0), (11, .inl 0), (12, .inl r151)], [], M151)
                exact nn_go_ext (nn_xc rfl (nn_xc rfl (nn_xc rfl (nn_xc rfl (nn_xc rfl nn_xn))))) (h n L N)
            · show mm_Go (mm_run 11) mc_M_loads _ (126, [(0, .inr (.inr 407)), (1, .inl v1), (3, .inl v3), (4, .inl v4), (5, .inl v5), (6, .inl r28), (7, .inl r36), (8, .inl 0), (9, .inl 0), (10, .inl 0), (11, .inl 0)], [], M36)
              replace c123 := Decidable.not_not.mp c123
              replace h := h.2 c123
              refine mm_s1 rfl ?_
              refine mm_s1 rfl ?_
              refine mm_s1 rfl ?_
              refine mm_s1 rfl ?_
              refine mm_s1 rfl ⟨(nn_c407 NN).1, ?_⟩
              refine nn_call (D := 9) (by decide) (h n L N) ?_
              intro v M131 q; clear L N h
              obtain ⟨r131, rfl, L, N, h⟩ := q
              show mm_Go (mm_run 11) mc_M_loads _ (134, [(0, .inr (.inr 407)), (1, .inl v1), (3, .inl v3), (4, .inl v4), (5, .inl v5), (6, .inl r28), (7, .inl r36), (8, .inl 0), (9, .inl 0), (10, .inl 0), (11, .inl 0)], [.inl r131], M131)
              refine mm_s1 rfl ?_
              show mm_Go (mm_run 11) mc_M_loads _ (176, [(0, .inr (.inr 407)), (1, .inl v1), (3, .inl v3), (4, .inl v4), (5, .inl v5), (6, .inl r28), (7, .inl r36), (8, .inl 0), (9, .inl 0), (10, .inl 0), (11, .inl 0)], [.inl r131], M131)
              refine mm_s1 rfl ?_
              show mm_Go (mm_run 11) mc_M_loads _ (178, [(0, .inr (.inr 407)), (1, .inl v1), (3, .inl v3), (4, .inl v4), (5, .inl v5), (6, .inl r28), (7, .inl r36), (8, .inl 0), (9, .inl 0), (10, .inl 0), (11, .inl 0), (12, .inl r131)], [], M131)
              refine mm_s1 rfl ?_
              show mm_Go (mm_run 11) mc_M_loads _ (181, [(0, .inr (.inr 407)), (1, .inl v1), (3, .inl v3), (4, .inl v4), (5, .inl (mm_w (v5 + 1))), (6, .inl r28), (7, .inl r36), (8, .inl 0), (9, .inl 0), (10, .inl 0), (11, .inl 0), (12, .inl r131)], [], M131)
              refine mm_s1 rfl ?_
              show mm_Go (mm_run 11) mc_M_loads _ (19, [(0, .inr (.inr 407)), (1, .inl v1), (3, .inl v3), (4, .inl v4), (5, .inl (mm_w (v5 + 1))), (6, .inl r28), (7, .inl r36), (8, .inl 0), (9, .inl 0), (10, .inl 0), (11, .inl 0), (12, .inl r131)], [], M131)
              exact nn_go_ext (nn_xc rfl (nn_xc rfl (nn_xc rfl (nn_xc rfl (nn_xc rfl nn_xn))))) (h n L N)
          · show mm_Go (mm_run 11) mc_M_loads _ (109, [(0, .inr (.inr 407)), (1, .inl v1), (3, .inl v3), (4, .inl v4), (5, .inl v5), (6, .inl r28), (7, .inl r36), (8, .inl 0), (9, .inl 0), (10, .inl 0)], [], M36)
            replace c106 := Int.not_le.mp c106
            replace h := h.2 c106
            refine mm_s1 rfl ?_
            refine mm_s1 rfl ?_
            refine mm_s1 rfl ⟨(nn_c407 NN).1, ?_⟩
            refine nn_call (D := 1) (by decide) (h n L N) ?_
            intro v M112 q; clear L N h
            obtain ⟨r112, rfl, L, N, h⟩ := q
            show mm_Go (mm_run 11) mc_M_loads _ (115, [(0, .inr (.inr 407)), (1, .inl v1), (3, .inl v3), (4, .inl v4), (5, .inl v5), (6, .inl r28), (7, .inl r36), (8, .inl 0), (9, .inl 0), (10, .inl 0)], [.inl r112], M112)
            refine mm_s1 rfl ?_
            show mm_Go (mm_run 11) mc_M_loads _ (119, [(0, .inr (.inr 407)), (1, .inl v1), (3, .inl v3), (4, .inl v4), (5, .inl v5), (6, .inl r28), (7, .inl r36), (8, .inl 0), (9, .inl 0), (10, .inl 0)], [.inl r112], M112)
            refine mm_s1 rfl ?_
            show mm_Go (mm_run 11) mc_M_loads _ (121, [(0, .inr (.inr 407)), (1, .inl v1), (3, .inl v3), (4, .inl v4), (5, .inl v5), (6, .inl r28), (7, .inl r36), (8, .inl 0), (9, .inl 0), (10, .inl 0), (11, .inl r112)], [], M112)
            refine mm_s1 rfl ?_
            refine mm_s1 rfl ⟨fun c123 => ?_, fun c123 => ?_⟩
            · show mm_Go (mm_run 11) mc_M_loads _ (137, [(0, .inr (.inr 407)), (1, .inl v1), (3, .inl v3), (4, .inl v4), (5, .inl v5), (6, .inl r28), (7, .inl r36), (8, .inl 0), (9, .inl 0), (10, .inl 0), (11, .inl r112)], [], M112)
              replace h := h.1 c123
              refine mm_s1 rfl ?_
              refine mm_s1 rfl ?_
              refine mm_s1 rfl ⟨fun c140 => ?_, fun c140 => ?_⟩
              · show mm_Go (mm_run 11) mc_M_loads _ (157, [(0, .inr (.inr 407)), (1, .inl v1), (3, .inl v3), (4, .inl v4), (5, .inl v5), (6, .inl r28), (7, .inl r36), (8, .inl 0), (9, .inl 0), (10, .inl 0), (11, .inl r112)], [], M112)
                replace h := h.1 c140
                refine mm_s1 rfl ?_
                refine mm_s1 rfl ?_
                refine mm_s1 rfl ?_
                refine mm_s1 rfl ?_
                refine mm_s1 rfl ?_
                show mm_Go (mm_run 11) mc_M_loads _ (164, [(0, .inr (.inr 407)), (1, .inl v1), (3, .inl v3), (4, .inl v4), (5, .inl v5), (6, .inl r28), (7, .inl r36), (8, .inl 0), (9, .inl 0), (10, .inl 0), (11, .inl r112)], [.inl 0, .inl r36, .inl 0, .inl v1, .inr (.inr 407)], M112)
                refine mm_s1 rfl ?_
                refine mm_s1 rfl ?_
                refine mm_s1 rfl ?_
                refine mm_s1 rfl ⟨trivial, ?_⟩
                refine np_M_packed (by decide) L N ?_
                show mm_Go (mm_run 11) mc_M_loads _ (173, [(0, .inr (.inr 407)), (1, .inl v1), (3, .inl v3), (4, .inl v4), (5, .inl v5), (6, .inl r28), (7, .inl r36), (8, .inl 0), (9, .inl 0), (10, .inl 0), (11, .inl r112)], [.inl (nf_M_packed 0 0 0 r112), .inl r36, .inl 0, .inl v1, .inr (.inr 407)], M112)
                refine mm_s1 rfl ⟨(nn_c407 NN).1, ?_⟩
                refine nn_call (D := 10) (by decide) (h n L N) ?_
                intro v M173 q; clear L N h
                obtain ⟨r173, rfl, L, N, h⟩ := q
                show mm_Go (mm_run 11) mc_M_loads _ (176, [(0, .inr (.inr 407)), (1, .inl v1), (3, .inl v3), (4, .inl v4), (5, .inl v5), (6, .inl r28), (7, .inl r36), (8, .inl 0), (9, .inl 0), (10, .inl 0), (11, .inl r112)], [.inl r173], M173)
                refine mm_s1 rfl ?_
                show mm_Go (mm_run 11) mc_M_loads _ (178, [(0, .inr (.inr 407)), (1, .inl v1), (3, .inl v3), (4, .inl v4), (5, .inl v5), (6, .inl r28), (7, .inl r36), (8, .inl 0), (9, .inl 0), (10, .inl 0), (11, .inl r112), (12, .inl r173)], [], M173)
                refine mm_s1 rfl ?_
                show mm_Go (mm_run 11) mc_M_loads _ (181, [(0, .inr (.inr 407)), (1, .inl v1), (3, .inl v3), (4, .inl v4), (5, .inl (mm_w (v5 + 1))), (6, .inl r28), (7, .inl r36), (8, .inl 0), (9, .inl 0), (10, .inl 0), (11, .inl r112), (12, .inl r173)], [], M173)
                refine mm_s1 rfl ?_
                show mm_Go (mm_run 11) mc_M_loads _ (19, [(0, .inr (.inr 407)), (1, .inl v1), (3, .inl v3), (4, .inl v4), (5, .inl (mm_w (v5 + 1))), (6, .inl r28), (7, .inl r36), (8, .inl 0), (9, .inl 0), (10, .inl 0), (11, .inl r112), (12, .inl r173)], [], M173)
                exact nn_go_ext (nn_xc rfl (nn_xc rfl (nn_xc rfl (nn_xc rfl (nn_xc rfl nn_xn))))) (h n L N)
              · show mm_Go (mm_run 11) mc_M_loads _ (143, [(0, .inr (.inr 407)), (1, .inl v1), (3, .inl v3), (4, .inl v4), (5, .inl v5), (6, .inl r28), (7, .inl r36), (8, .inl 0), (9, .inl 0), (10, .inl 0), (11, .inl r112)], [], M112)
                replace c140 := Decidable.not_not.mp c140
                replace h := h.2 c140
                refine mm_s1 rfl ?_
                refine mm_s1 rfl ?_
                refine mm_s1 rfl ?_
                refine mm_s1 rfl ?_
                refine mm_s1 rfl ?_
                show mm_Go (mm_run 11) mc_M_loads _ (151, [(0, .inr (.inr 407)), (1, .inl v1), (3, .inl v3), (4, .inl v4), (5, .inl v5), (6, .inl r28), (7, .inl r36), (8, .inl 0), (9, .inl 0), (10, .inl 0), (11, .inl r112)], [.inl 0, .inl 0, .inl r36, .inl v1, .inr (.inr 407)], M112)
                refine mm_s1 rfl ⟨(nn_c407 NN).1, ?_⟩
                refine nn_call (D := 11) (by decide) (h n L N) ?_
                intro v M151 q; clear L N h
                obtain ⟨r151, rfl, L, N, h⟩ := q
                show mm_Go (mm_run 11) mc_M_loads _ (154, [(0, .inr (.inr 407)), (1, .inl v1), (3, .inl v3), (4, .inl v4), (5, .inl v5), (6, .inl r28), (7, .inl r36), (8, .inl 0), (9, .inl 0), (10, .inl 0), (11, .inl r112)], [.inl r151], M151)
                refine mm_s1 rfl ?_
                show mm_Go (mm_run 11) mc_M_loads _ (176, [(0, .inr (.inr 407)), (1, .inl v1), (3, .inl v3), (4, .inl v4), (5, .inl v5), (6, .inl r28), (7, .inl r36), (8, .inl 0), (9, .inl 0), (10, .inl 0), (11, .inl r112)], [.inl r151], M151)
                refine mm_s1 rfl ?_
                show mm_Go (mm_run 11) mc_M_loads _ (178, [(0, .inr (.inr 407)), (1, .inl v1), (3, .inl v3), (4, .inl v4), (5, .inl v5), (6, .inl r28), (7, .inl r36), (8, .inl 0), (9, .inl 0), (10, .inl 0), (11, .inl r112), (12, .inl r151)], [], M151)
                refine mm_s1 rfl ?_
                show mm_Go (mm_run 11) mc_M_loads _ (181, [(0, .inr (.inr 407)), (1, .inl v1), (3, .inl v3), (4, .inl v4), (5, .inl (mm_w (v5 + 1))), (6, .inl r28), (7, .inl r36), (8, .inl 0), (9, .inl 0), (10, .inl 0), (11, .inl r112), (12, .inl r151)], [], M151)
                refine mm_s1 rfl ?_
                show mm_Go (mm_run 11) mc_M_loads _ (19, [(0, .inr (.inr 407)), (1, .inl v1), (3, .inl v3), (4, .inl v4), (5, .inl (mm_w (v5 + 1))), (6, .inl r28), (7, .inl r36), (8, .inl 0), (9, .inl 0), (10, .inl 0), (11, .inl r112), (12, .inl r151)], [], M151)
                exact nn_go_ext (nn_xc rfl (nn_xc rfl (nn_xc rfl (nn_xc rfl (nn_xc rfl nn_xn))))) (h n L N)
            · show mm_Go (mm_run 11) mc_M_loads _ (126, [(0, .inr (.inr 407)), (1, .inl v1), (3, .inl v3), (4, .inl v4), (5, .inl v5), (6, .inl r28), (7, .inl r36), (8, .inl 0), (9, .inl 0), (10, .inl 0), (11, .inl r112)], [], M112)
              replace c123 := Decidable.not_not.mp c123
              replace h := h.2 c123
              refine mm_s1 rfl ?_
              refine mm_s1 rfl ?_
              refine mm_s1 rfl ?_
              refine mm_s1 rfl ?_
              refine mm_s1 rfl ⟨(nn_c407 NN).1, ?_⟩
              refine nn_call (D := 9) (by decide) (h n L N) ?_
              intro v M131 q; clear L N h
              obtain ⟨r131, rfl, L, N, h⟩ := q
              show mm_Go (mm_run 11) mc_M_loads _ (134, [(0, .inr (.inr 407)), (1, .inl v1), (3, .inl v3), (4, .inl v4), (5, .inl v5), (6, .inl r28), (7, .inl r36), (8, .inl 0), (9, .inl 0), (10, .inl 0), (11, .inl r112)], [.inl r131], M131)
              refine mm_s1 rfl ?_
              show mm_Go (mm_run 11) mc_M_loads _ (176, [(0, .inr (.inr 407)), (1, .inl v1), (3, .inl v3), (4, .inl v4), (5, .inl v5), (6, .inl r28), (7, .inl r36), (8, .inl 0), (9, .inl 0), (10, .inl 0), (11, .inl r112)], [.inl r131], M131)
              refine mm_s1 rfl ?_
              show mm_Go (mm_run 11) mc_M_loads _ (178, [(0, .inr (.inr 407)), (1, .inl v1), (3, .inl v3), (4, .inl v4), (5, .inl v5), (6, .inl r28), (7, .inl r36), (8, .inl 0), (9, .inl 0), (10, .inl 0), (11, .inl r112), (12, .inl r131)], [], M131)
              refine mm_s1 rfl ?_
              show mm_Go (mm_run 11) mc_M_loads _ (181, [(0, .inr (.inr 407)), (1, .inl v1), (3, .inl v3), (4, .inl v4), (5, .inl (mm_w (v5 + 1))), (6, .inl r28), (7, .inl r36), (8, .inl 0), (9, .inl 0), (10, .inl 0), (11, .inl r112), (12, .inl r131)], [], M131)
              refine mm_s1 rfl ?_
              show mm_Go (mm_run 11) mc_M_loads _ (19, [(0, .inr (.inr 407)), (1, .inl v1), (3, .inl v3), (4, .inl v4), (5, .inl (mm_w (v5 + 1))), (6, .inl r28), (7, .inl r36), (8, .inl 0), (9, .inl 0), (10, .inl 0), (11, .inl r112), (12, .inl r131)], [], M131)
              exact nn_go_ext (nn_xc rfl (nn_xc rfl (nn_xc rfl (nn_xc rfl (nn_xc rfl nn_xn))))) (h n L N)
        · show mm_Go (mm_run 11) mc_M_loads _ (91, [(0, .inr (.inr 407)), (1, .inl v1), (3, .inl v3), (4, .inl v4), (5, .inl v5), (6, .inl r28), (7, .inl r36), (8, .inl 0), (9, .inl 0)], [], M36)
          replace c88 := Int.not_le.mp c88
          replace h := h.2 c88
          refine mm_s1 rfl ?_
          refine mm_s1 rfl ?_
          refine mm_s1 rfl ⟨(nn_c407 NN).1, ?_⟩
          refine nn_call (D := 1) (by decide) (h n L N) ?_
          intro v M94 q; clear L N h
          obtain ⟨r94, rfl, L, N, h⟩ := q
          show mm_Go (mm_run 11) mc_M_loads _ (97, [(0, .inr (.inr 407)), (1, .inl v1), (3, .inl v3), (4, .inl v4), (5, .inl v5), (6, .inl r28), (7, .inl r36), (8, .inl 0), (9, .inl 0)], [.inl r94], M94)
          refine mm_s1 rfl ?_
          show mm_Go (mm_run 11) mc_M_loads _ (101, [(0, .inr (.inr 407)), (1, .inl v1), (3, .inl v3), (4, .inl v4), (5, .inl v5), (6, .inl r28), (7, .inl r36), (8, .inl 0), (9, .inl 0)], [.inl r94], M94)
          refine mm_s1 rfl ?_
          show mm_Go (mm_run 11) mc_M_loads _ (103, [(0, .inr (.inr 407)), (1, .inl v1), (3, .inl v3), (4, .inl v4), (5, .inl v5), (6, .inl r28), (7, .inl r36), (8, .inl 0), (9, .inl 0), (10, .inl r94)], [], M94)
          refine mm_s1 rfl ?_
          refine mm_s1 rfl ?_
          refine mm_s1 rfl ⟨fun c106 => ?_, fun c106 => ?_⟩
          · show mm_Go (mm_run 11) mc_M_loads _ (118, [(0, .inr (.inr 407)), (1, .inl v1), (3, .inl v3), (4, .inl v4), (5, .inl v5), (6, .inl r28), (7, .inl r36), (8, .inl 0), (9, .inl 0), (10, .inl r94)], [], M94)
            replace h := h.1 c106
            refine mm_s1 rfl ?_
            refine mm_s1 rfl ?_
            show mm_Go (mm_run 11) mc_M_loads _ (121, [(0, .inr (.inr 407)), (1, .inl v1), (3, .inl v3), (4, .inl v4), (5, .inl v5), (6, .inl r28), (7, .inl r36), (8, .inl 0), (9, .inl 0), (10, .inl r94), (11, .inl 0)], [], M94)
            refine mm_s1 rfl ?_
            refine mm_s1 rfl ⟨fun c123 => ?_, fun c123 => ?_⟩
            · show mm_Go (mm_run 11) mc_M_loads _ (137, [(0, .inr (.inr 407)), (1, .inl v1), (3, .inl v3), (4, .inl v4), (5, .inl v5), (6, .inl r28), (7, .inl r36), (8, .inl 0), (9, .inl 0), (10, .inl r94), (11, .inl 0)], [], M94)
              replace h := h.1 c123
              refine mm_s1 rfl ?_
              refine mm_s1 rfl ?_
              refine mm_s1 rfl ⟨fun c140 => ?_, fun c140 => ?_⟩
              · show mm_Go (mm_run 11) mc_M_loads _ (157, [(0, .inr (.inr 407)), (1, .inl v1), (3, .inl v3), (4, .inl v4), (5, .inl v5), (6, .inl r28), (7, .inl r36), (8, .inl 0), (9, .inl 0), (10, .inl r94), (11, .inl 0)], [], M94)
                replace h := h.1 c140
                refine mm_s1 rfl ?_
                refine mm_s1 rfl ?_
                refine mm_s1 rfl ?_
                refine mm_s1 rfl ?_
                refine mm_s1 rfl ?_
                show mm_Go (mm_run 11) mc_M_loads _ (164, [(0, .inr (.inr 407)), (1, .inl v1), (3, .inl v3), (4, .inl v4), (5, .inl v5), (6, .inl r28), (7, .inl r36), (8, .inl 0), (9, .inl 0), (10, .inl r94), (11, .inl 0)], [.inl 0, .inl r36, .inl 0, .inl v1, .inr (.inr 407)], M94)
                refine mm_s1 rfl ?_
                refine mm_s1 rfl ?_
                refine mm_s1 rfl ?_
                refine mm_s1 rfl ⟨trivial, ?_⟩
                refine np_M_packed (by decide) L N ?_
                show mm_Go (mm_run 11) mc_M_loads _ (173, [(0, .inr (.inr 407)), (1, .inl v1), (3, .inl v3), (4, .inl v4), (5, .inl v5), (6, .inl r28), (7, .inl r36), (8, .inl 0), (9, .inl 0), (10, .inl r94), (11, .inl 0)], [.inl (nf_M_packed 0 0 r94 0), .inl r36, .inl 0, .inl v1, .inr (.inr 407)], M94)
                refine mm_s1 rfl ⟨(nn_c407 NN).1, ?_⟩
                refine nn_call (D := 10) (by decide) (h n L N) ?_
                intro v M173 q; clear L N h
                obtain ⟨r173, rfl, L, N, h⟩ := q
                show mm_Go (mm_run 11) mc_M_loads _ (176, [(0, .inr (.inr 407)), (1, .inl v1), (3, .inl v3), (4, .inl v4), (5, .inl v5), (6, .inl r28), (7, .inl r36), (8, .inl 0), (9, .inl 0), (10, .inl r94), (11, .inl 0)], [.inl r173], M173)
                refine mm_s1 rfl ?_
                show mm_Go (mm_run 11) mc_M_loads _ (178, [(0, .inr (.inr 407)), (1, .inl v1), (3, .inl v3), (4, .inl v4), (5, .inl v5), (6, .inl r28), (7, .inl r36), (8, .inl 0), (9, .inl 0), (10, .inl r94), (11, .inl 0), (12, .inl r173)], [], M173)
                refine mm_s1 rfl ?_
                show mm_Go (mm_run 11) mc_M_loads _ (181, [(0, .inr (.inr 407)), (1, .inl v1), (3, .inl v3), (4, .inl v4), (5, .inl (mm_w (v5 + 1))), (6, .inl r28), (7, .inl r36), (8, .inl 0), (9, .inl 0), (10, .inl r94), (11, .inl 0), (12, .inl r173)], [], M173)
                refine mm_s1 rfl ?_
                show mm_Go (mm_run 11) mc_M_loads _ (19, [(0, .inr (.inr 407)), (1, .inl v1), (3, .inl v3), (4, .inl v4), (5, .inl (mm_w (v5 + 1))), (6, .inl r28), (7, .inl r36), (8, .inl 0), (9, .inl 0), (10, .inl r94), (11, .inl 0), (12, .inl r173)], [], M173)
                exact nn_go_ext (nn_xc rfl (nn_xc rfl (nn_xc rfl (nn_xc rfl (nn_xc rfl nn_xn))))) (h n L N)
              · show mm_Go (mm_run 11) mc_M_loads _ (143, [(0, .inr (.inr 407)), (1, .inl v1), (3, .inl v3), (4, .inl v4), (5, .inl v5), (6, .inl r28), (7, .inl r36), (8, .inl 0), (9, .inl 0), (10, .inl r94), (11, .inl 0)], [], M94)
                replace c140 := Decidable.not_not.mp c140
                replace h := h.2 c140
                refine mm_s1 rfl ?_
                refine mm_s1 rfl ?_
                refine mm_s1 rfl ?_
                refine mm_s1 rfl ?_
                refine mm_s1 rfl ?_
                show mm_Go (mm_run 11) mc_M_loads _ (151, [(0, .inr (.inr 407)), (1, .inl v1), (3, .inl v3), (4, .inl v4), (5, .inl v5), (6, .inl r28), (7, .inl r36), (8, .inl 0), (9, .inl 0), (10, .inl r94), (11, .inl 0)], [.inl 0, .inl 0, .inl r36, .inl v1, .inr (.inr 407)], M94)
                refine mm_s1 rfl ⟨(nn_c407 NN).1, ?_⟩
                refine nn_call (D := 11) (by decide) (h n L N) ?_
                intro v M151 q; clear L N h
                obtain ⟨r151, rfl, L, N, h⟩ := q
                show mm_Go (mm_run 11) mc_M_loads _ (154, [(0, .inr (.inr 407)), (1, .inl v1), (3, .inl v3), (4, .inl v4), (5, .inl v5), (6, .inl r28), (7, .inl r36), (8, .inl 0), (9, .inl 0), (10, .inl r94), (11, .inl 0)], [.inl r151], M151)
                refine mm_s1 rfl ?_
                show mm_Go (mm_run 11) mc_M_loads _ (176, [(0, .inr (.inr 407)), (1, .inl v1), (3, .inl v3), (4, .inl v4), (5, .inl v5), (6, .inl r28), (7, .inl r36), (8, .inl 0), (9, .inl 0), (10, .inl r94), (11, .inl 0)], [.inl r151], M151)
                refine mm_s1 rfl ?_
                show mm_Go (mm_run 11) mc_M_loads _ (178, [(0, .inr (.inr 407)), (1, .inl v1), (3, .inl v3), (4, .inl v4), (5, .inl v5), (6, .inl r28), (7, .inl r36), (8, .inl 0), (9, .inl 0), (10, .inl r94), (11, .inl 0), (12, .inl r151)], [], M151)
                refine mm_s1 rfl ?_
                show mm_Go (mm_run 11) mc_M_loads _ (181, [(0, .inr (.inr 407)), (1, .inl v1), (3, .inl v3), (4, .inl v4), (5, .inl (mm_w (v5 + 1))), (6, .inl r28), (7, .inl r36), (8, .inl 0), (9, .inl 0), (10, .inl r94), (11, .inl 0), (12, .inl r151)], [], M151)
                refine mm_s1 rfl ?_
                show mm_Go (mm_run 11) mc_M_loads _ (19, [(0, .inr (.inr 407)), (1, .inl v1), (3, .inl v3), (4, .inl v4), (5, .inl (mm_w (v5 + 1))), (6, .inl r28), (7, .inl r36), (8, .inl 0), (9, .inl 0), (10, .inl r94), (11, .inl 0), (12, .inl r151)], [], M151)
                exact nn_go_ext (nn_xc rfl (nn_xc rfl (nn_xc rfl (nn_xc rfl (nn_xc rfl nn_xn))))) (h n L N)
            · show mm_Go (mm_run 11) mc_M_loads _ (126, [(0, .inr (.inr 407)), (1, .inl v1), (3, .inl v3), (4, .inl v4), (5, .inl v5), (6, .inl r28), (7, .inl r36), (8, .inl 0), (9, .inl 0), (10, .inl r94), (11, .inl 0)], [], M94)
              replace c123 := Decidable.not_not.mp c123
              replace h := h.2 c123
              refine mm_s1 rfl ?_
              refine mm_s1 rfl ?_
              refine mm_s1 rfl ?_
              refine mm_s1 rfl ?_
              refine mm_s1 rfl ⟨(nn_c407 NN).1, ?_⟩
              refine nn_call (D := 9) (by decide) (h n L N) ?_
              intro v M131 q; clear L N h
              obtain ⟨r131, rfl, L, N, h⟩ := q
              show mm_Go (mm_run 11) mc_M_loads _ (134, [(0, .inr (.inr 407)), (1, .inl v1), (3, .inl v3), (4, .inl v4), (5, .inl v5), (6, .inl r28), (7, .inl r36), (8, .inl 0), (9, .inl 0), (10, .inl r94), (11, .inl 0)], [.inl r131], M131)
              refine mm_s1 rfl ?_
              show mm_Go (mm_run 11) mc_M_loads _ (176, [(0, .inr (.inr 407)), (1, .inl v1), (3, .inl v3), (4, .inl v4), (5, .inl v5), (6, .inl r28), (7, .inl r36), (8, .inl 0), (9, .inl 0), (10, .inl r94), (11, .inl 0)], [.inl r131], M131)
              refine mm_s1 rfl ?_
              show mm_Go (mm_run 11) mc_M_loads _ (178, [(0, .inr (.inr 407)), (1, .inl v1), (3, .inl v3), (4, .inl v4), (5, .inl v5), (6, .inl r28), (7, .inl r36), (8, .inl 0), (9, .inl 0), (10, .inl r94), (11, .inl 0), (12, .inl r131)], [], M131)
              refine mm_s1 rfl ?_
              show mm_Go (mm_run 11) mc_M_loads _ (181, [(0, .inr (.inr 407)), (1, .inl v1), (3, .inl v3), (4, .inl v4), (5, .inl (mm_w (v5 + 1))), (6, .inl r28), (7, .inl r36), (8, .inl 0), (9, .inl 0), (10, .inl r94), (11, .inl 0), (12, .inl r131)], [], M131)
              refine mm_s1 rfl ?_
              show mm_Go (mm_run 11) mc_M_loads _ (19, [(0, .inr (.inr 407)), (1, .inl v1), (3, .inl v3), (4, .inl v4), (5, .inl (mm_w (v5 + 1))), (6, .inl r28), (7, .inl r36), (8, .inl 0), (9, .inl 0), (10, .inl r94), (11, .inl 0), (12, .inl r131)], [], M131)
              exact nn_go_ext (nn_xc rfl (nn_xc rfl (nn_xc rfl (nn_xc rfl (nn_xc rfl nn_xn))))) (h n L N)
          · show mm_Go (mm_run 11) mc_M_loads _ (109, [(0, .inr (.inr 407)), (1, .inl v1), (3, .inl v3), (4, .inl v4), (5, .inl v5), (6, .inl r28), (7, .inl r36), (8, .inl 0), (9, .inl 0), (10, .inl r94)], [], M94)
            replace c106 := Int.not_le.mp c106
            replace h := h.2 c106
            refine mm_s1 rfl ?_
            refine mm_s1 rfl ?_
            refine mm_s1 rfl ⟨(nn_c407 NN).1, ?_⟩
            refine nn_call (D := 1) (by decide) (h n L N) ?_
            intro v M112 q; clear L N h
            obtain ⟨r112, rfl, L, N, h⟩ := q
            show mm_Go (mm_run 11) mc_M_loads _ (115, [(0, .inr (.inr 407)), (1, .inl v1), (3, .inl v3), (4, .inl v4), (5, .inl v5), (6, .inl r28), (7, .inl r36), (8, .inl 0), (9, .inl 0), (10, .inl r94)], [.inl r112], M112)
            refine mm_s1 rfl ?_
            show mm_Go (mm_run 11) mc_M_loads _ (119, [(0, .inr (.inr 407)), (1, .inl v1), (3, .inl v3), (4, .inl v4), (5, .inl v5), (6, .inl r28), (7, .inl r36), (8, .inl 0), (9, .inl 0), (10, .inl r94)], [.inl r112], M112)
            refine mm_s1 rfl ?_
            show mm_Go (mm_run 11) mc_M_loads _ (121, [(0, .inr (.inr 407)), (1, .inl v1), (3, .inl v3), (4, .inl v4), (5, .inl v5), (6, .inl r28), (7, .inl r36), (8, .inl 0), (9, .inl 0), (10, .inl r94), (11, .inl r112)], [], M112)
            refine mm_s1 rfl ?_
            refine mm_s1 rfl ⟨fun c123 => ?_, fun c123 => ?_⟩
            · show mm_Go (mm_run 11) mc_M_loads _ (137, [(0, .inr (.inr 407)), (1, .inl v1), (3, .inl v3), (4, .inl v4), (5, .inl v5), (6, .inl r28), (7, .inl r36), (8, .inl 0), (9, .inl 0), (10, .inl r94), (11, .inl r112)], [], M112)
              replace h := h.1 c123
              refine mm_s1 rfl ?_
              refine mm_s1 rfl ?_
              refine mm_s1 rfl ⟨fun c140 => ?_, fun c140 => ?_⟩
              · show mm_Go (mm_run 11) mc_M_loads _ (157, [(0, .inr (.inr 407)), (1, .inl v1), (3, .inl v3), (4, .inl v4), (5, .inl v5), (6, .inl r28), (7, .inl r36), (8, .inl 0), (9, .inl 0), (10, .inl r94), (11, .inl r112)], [], M112)
                replace h := h.1 c140
                refine mm_s1 rfl ?_
                refine mm_s1 rfl ?_
                refine mm_s1 rfl ?_
                refine mm_s1 rfl ?_
                refine mm_s1 rfl ?_
                show mm_Go (mm_run 11) mc_M_loads _ (164, [(0, .inr (.inr 407)), (1, .inl v1), (3, .inl v3), (4, .inl v4), (5, .inl v5), (6, .inl r28), (7, .inl r36), (8, .inl 0), (9, .inl 0), (10, .inl r94), (11, .inl r112)], [.inl 0, .inl r36, .inl 0, .inl v1, .inr (.inr 407)], M112)
                refine mm_s1 rfl ?_
                refine mm_s1 rfl ?_
                refine mm_s1 rfl ?_
                refine mm_s1 rfl ⟨trivial, ?_⟩
                refine np_M_packed (by decide) L N ?_
                show mm_Go (mm_run 11) mc_M_loads _ (173, [(0, .inr (.inr 407)), (1, .inl v1), (3, .inl v3), (4, .inl v4), (5, .inl v5), (6, .inl r28), (7, .inl r36), (8, .inl 0), (9, .inl 0), (10, .inl r94), (11, .inl r112)], [.inl (nf_M_packed 0 0 r94 r112), .inl r36, .inl 0, .inl v1, .inr (.inr 407)], M112)
                refine mm_s1 rfl ⟨(nn_c407 NN).1, ?_⟩
                refine nn_call (D := 10) (by decide) (h n L N) ?_
                intro v M173 q; clear L N h
                obtain ⟨r173, rfl, L, N, h⟩ := q
                show mm_Go (mm_run 11) mc_M_loads _ (176, [(0, .inr (.inr 407)), (1, .inl v1), (3, .inl v3), (4, .inl v4), (5, .inl v5), (6, .inl r28), (7, .inl r36), (8, .inl 0), (9, .inl 0), (10, .inl r94), (11, .inl r112)], [.inl r173], M173)
                refine mm_s1 rfl ?_
                show mm_Go (mm_run 11) mc_M_loads _ (178, [(0, .inr (.inr 407)), (1, .inl v1), (3, .inl v3), (4, .inl v4), (5, .inl v5), (6, .inl r28), (7, .inl r36), (8, .inl 0), (9, .inl 0), (10, .inl r94), (11, .inl r112), (12, .inl r173)], [], M173)
                refine mm_s1 rfl ?_
                show mm_Go (mm_run 11) mc_M_loads _ (181, [(0, .inr (.inr 407)), (1, .inl v1), (3, .inl v3), (4, .inl v4), (5, .inl (mm_w (v5 + 1))), (6, .inl r28), (7, .inl r36), (8, .inl 0), (9, .inl 0), (10, .inl r94), (11, .inl r112), (12, .inl r173)], [], M173)
                refine mm_s1 rfl ?_
                show mm_Go (mm_run 11) mc_M_loads _ (19, [(0, .inr (.inr 407)), (1, .inl v1), (3, .inl v3), (4, .inl v4), (5, .inl (mm_w (v5 + 1))), (6, .inl r28), (7, .inl r36), (8, .inl 0), (9, .inl 0), (10, .inl r94), (11, .inl r112), (12, .inl r173)], [], M173)
                exact nn_go_ext (nn_xc rfl (nn_xc rfl (nn_xc rfl (nn_xc rfl (nn_xc rfl nn_xn))))) (h n L N)
              · show mm_Go (mm_run 11) mc_M_loads _ (143, [(0, .inr (.inr 407)), (1, .inl v1), (3, .inl v3), (4, .inl v4), (5, .inl v5), (6, .inl r28), (7, .inl r36), (8, .inl 0), (9, .inl 0), (10, .inl r94), (11, .inl r112)], [], M112)
                replace c140 := Decidable.not_not.mp c140
                replace h := h.2 c140
                refine mm_s1 rfl ?_
                refine mm_s1 rfl ?_
                refine mm_s1 rfl ?_
                refine mm_s1 rfl ?_
                refine mm_s1 rfl ?_
                show mm_Go (mm_run 11) mc_M_loads _ (151, [(0, .inr (.inr 407)), (1, .inl v1), (3, .inl v3), (4, .inl v4), (5, .inl v5), (6, .inl r28), (7, .inl r36), (8, .inl 0), (9, .inl 0), (10, .inl r94), (11, .inl r112)], [.inl 0, .inl 0, .inl r36, .inl v1, .inr (.inr 407)], M112)
                refine mm_s1 rfl ⟨(nn_c407 NN).1, ?_⟩
                refine nn_call (D := 11) (by decide) (h n L N) ?_
                intro v M151 q; clear L N h
                obtain ⟨r151, rfl, L, N, h⟩ := q
                show mm_Go (mm_run 11) mc_M_loads _ (154, [(0, .inr (.inr 407)), (1, .inl v1), (3, .inl v3), (4, .inl v4), (5, .inl v5), (6, .inl r28), (7, .inl r36), (8, .inl 0), (9, .inl 0), (10, .inl r94), (11, .inl r112)], [.inl r151], M151)
                refine mm_s1 rfl ?_
                show mm_Go (mm_run 11) mc_M_loads _ (176, [(0, .inr (.inr 407)), (1, .inl v1), (3, .inl v3), (4, .inl v4), (5, .inl v5), (6, .inl r28), (7, .inl r36), (8, .inl 0), (9, .inl 0), (10, .inl r94), (11, .inl r112)], [.inl r151], M151)
                refine mm_s1 rfl ?_
                show mm_Go (mm_run 11) mc_M_loads _ (178, [(0, .inr (.inr 407)), (1, .inl v1), (3, .inl v3), (4, .inl v4), (5, .inl v5), (6, .inl r28), (7, .inl r36), (8, .inl 0), (9, .inl 0), (10, .inl r94), (11, .inl r112), (12, .inl r151)], [], M151)
                refine mm_s1 rfl ?_
                show mm_Go (mm_run 11) mc_M_loads _ (181, [(0, .inr (.inr 407)), (1, .inl v1), (3, .inl v3), (4, .inl v4), (5, .inl (mm_w (v5 + 1))), (6, .inl r28), (7, .inl r36), (8, .inl 0), (9, .inl 0), (10, .inl r94), (11, .inl r112), (12, .inl r151)], [], M151)
                refine mm_s1 rfl ?_
                show mm_Go (mm_run 11) mc_M_loads _ (19, [(0, .inr (.inr 407)), (1, .inl v1), (3, .inl v3), (4, .inl v4), (5, .inl (mm_w (v5 + 1))), (6, .inl r28), (7, .inl r36), (8, .inl 0), (9, .inl 0), (10, .inl r94), (11, .inl r112), (12, .inl r151)], [], M151)
                exact nn_go_ext (nn_xc rfl (nn_xc rfl (nn_xc rfl (nn_xc rfl (nn_xc rfl nn_xn))))) (h n L N)
            · show mm_Go (mm_run 11) mc_M_loads _ (126, [(0, .inr (.inr 407)), (1, .inl v1), (3, .inl v3), (4, .inl v4), (5, .inl v5), (6, .inl r28), (7, .inl r36), (8, .inl 0), (9, .inl 0), (10, .inl r94), (11, .inl r112)], [], M112)
              replace c123 := Decidable.not_not.mp c123
              replace h := h.2 c123
              refine mm_s1 rfl ?_
              refine mm_s1 rfl ?_
              refine mm_s1 rfl ?_
              refine mm_s1 rfl ?_
              refine mm_s1 rfl ⟨(nn_c407 NN).1, ?_⟩
              refine nn_call (D := 9) (by decide) (h n L N) ?_
              intro v M131 q; clear L N h
              obtain ⟨r131, rfl, L, N, h⟩ := q
              show mm_Go (mm_run 11) mc_M_loads _ (134, [(0, .inr (.inr 407)), (1, .inl v1), (3, .inl v3), (4, .inl v4), (5, .inl v5), (6, .inl r28), (7, .inl r36), (8, .inl 0), (9, .inl 0), (10, .inl r94), (11, .inl r112)], [.inl r131], M131)
              refine mm_s1 rfl ?_
              show mm_Go (mm_run 11) mc_M_loads _ (176, [(0, .inr (.inr 407)), (1, .inl v1), (3, .inl v3), (4, .inl v4), (5, .inl v5), (6, .inl r28), (7, .inl r36), (8, .inl 0), (9, .inl 0), (10, .inl r94), (11, .inl r112)], [.inl r131], M131)
              refine mm_s1 rfl ?_
              show mm_Go (mm_run 11) mc_M_loads _ (178, [(0, .inr (.inr 407)), (1, .inl v1), (3, .inl v3), (4, .inl v4), (5, .inl v5), (6, .inl r28), (7, .inl r36), (8, .inl 0), (9, .inl 0), (10, .inl r94), (11, .inl r112), (12, .inl r131)], [], M131)
              refine mm_s1 rfl ?_
              show mm_Go (mm_run 11) mc_M_loads _ (181, [(0, .inr (.inr 407)), (1, .inl v1), (3, .inl v3), (4, .inl v4), (5, .inl (mm_w (v5 + 1))), (6, .inl r28), (7, .inl r36), (8, .inl 0), (9, .inl 0), (10, .inl r94), (11, .inl r112), (12, .inl r131)], [], M131)
              refine mm_s1 rfl ?_
              show mm_Go (mm_run 11) mc_M_loads _ (19, [(0, .inr (.inr 407)), (1, .inl v1), (3, .inl v3), (4, .inl v4), (5, .inl (mm_w (v5 + 1))), (6, .inl r28), (7, .inl r36), (8, .inl 0), (9, .inl 0), (10, .inl r94), (11, .inl r112), (12, .inl r131)], [], M131)
              exact nn_go_ext (nn_xc rfl (nn_xc rfl (nn_xc rfl (nn_xc rfl (nn_xc rfl nn_xn))))) (h n L N)
