/-! methods walked by program (wip/whole/dec.py) -/
def nr_M_areRuns (v1 : Int) (v2 : Int) (v3 : Int) (M : mm_M) (R : Int → mm_M → Prop) : Prop := ∀ n, nn_L M → M.1 = n → mm_run 3 mi_M_areRuns [.inr (.inr 407), .inl v1, .inl v2, .inl v3] M (nw_Z n R)
set_option maxRecDepth 20000 in
theorem ng_M_areRuns (v1 : Int) (v2 : Int) (v3 : Int) (M : mm_M) (R : Int → mm_M → Prop) (h : ((v1 ≠ (-1) → ((nc_M_isIndex v1 M) ∧ (((nf_M_isIndex v1 M) = 0 → (((v2 < 0 ∨ (v3 < 2 ∨ (0 < v3 ∨ ((mm_w (0 - v3)) < v2)))) → R 0 M) ∧ ((0 ≤ v2 ∧ (2 ≤ v3 ∧ (v3 ≤ 0 ∧ (v2 ≤ (mm_w (0 - v3)))))) → R 1 M))) ∧ ((nf_M_isIndex v1 M) ≠ 0 → (((0 : Int) ≤ (mm_w ((nf_M_at 0 v1) + 5)) ∧ (mm_w ((nf_M_at 0 v1) + 5)) < (32844 : Int)) ∧ (∀ x4_38 : Int, x4_38 = nn_ri M 408 (mm_w ((nf_M_at 0 v1) + 5)) → (((v2 < 0 ∨ (v3 < 2 ∨ (x4_38 < v3 ∨ ((mm_w (x4_38 - v3)) < v2)))) → R 0 M) ∧ ((0 ≤ v2 ∧ (2 ≤ v3 ∧ (v3 ≤ x4_38 ∧ (v2 ≤ (mm_w (x4_38 - v3)))))) → R 1 M)))))))) ∧ (v1 = (-1) → (((v2 < 0 ∨ (v3 < 2 ∨ ((nn_ri M 408 5) < v3 ∨ ((mm_w ((nn_ri M 408 5) - v3)) < v2)))) → R 0 M) ∧ ((0 ≤ v2 ∧ (2 ≤ v3 ∧ (v3 ≤ (nn_ri M 408 5) ∧ (v2 ≤ (mm_w ((nn_ri M 408 5) - v3)))))) → R 1 M))))) : nr_M_areRuns v1 v2 v3 M R := by
  intro n L N 
  have NN := nn_L_n L N
  show mm_Go (mm_run 2) mc_M_areRuns _ (0, [(0, .inr (.inr 407)), (1, .inl v1), (2, .inl v2), (3, .inl v3)], [], M)
  refine mm_s1 rfl ?_
  refine mm_s1 rfl ?_
  refine mm_s1 rfl ⟨fun c2 => ?_, fun c2 => ?_⟩
  · show mm_Go (mm_run 2) mc_M_areRuns _ (14, [(0, .inr (.inr 407)), (1, .inl v1), (2, .inl v2), (3, .inl v3)], [], M)
    replace h := h.1 c2
    refine mm_s1 rfl ?_
    refine mm_s1 rfl ?_
    obtain ⟨b16, h⟩ := h
    refine mm_s1 rfl ⟨(nn_c407 NN).1, ?_⟩
    refine np_M_isIndex (by decide) L N b16 ?_
    show mm_Go (mm_run 2) mc_M_areRuns _ (19, [(0, .inr (.inr 407)), (1, .inl v1), (2, .inl v2), (3, .inl v3)], [.inl (nf_M_isIndex v1 M)], M)
    refine mm_s1 rfl ⟨fun c19 => ?_, fun c19 => ?_⟩
    · show mm_Go (mm_run 2) mc_M_areRuns _ (37, [(0, .inr (.inr 407)), (1, .inl v1), (2, .inl v2), (3, .inl v3)], [], M)
      replace h := h.1 c19
      refine mm_s1 rfl ?_
      refine mm_s1 rfl ?_
      show mm_Go (mm_run 2) mc_M_areRuns _ (40, [(0, .inr (.inr 407)), (1, .inl v1), (2, .inl v2), (3, .inl v3), (4, .inl 0)], [], M)
      refine mm_s1 rfl ?_
      refine mm_s1 rfl ⟨fun c41 => ?_, fun c41 => ?_⟩
      · show mm_Go (mm_run 2) mc_M_areRuns _ (67, [(0, .inr (.inr 407)), (1, .inl v1), (2, .inl v2), (3, .inl v3), (4, .inl 0)], [], M)
        refine mm_s1 rfl ?_
        replace h := h.1 (Or.inl c41)
        exact mm_s1 rfl ⟨(Or.inl rfl), _, rfl, (Or.inl rfl), L, N, h⟩
      · show mm_Go (mm_run 2) mc_M_areRuns _ (44, [(0, .inr (.inr 407)), (1, .inl v1), (2, .inl v2), (3, .inl v3), (4, .inl 0)], [], M)
        replace c41 := Int.not_lt.mp c41
        refine mm_s1 rfl ?_
        refine mm_s1 rfl ?_
        refine mm_s1 rfl ⟨fun c46 => ?_, fun c46 => ?_⟩
        · show mm_Go (mm_run 2) mc_M_areRuns _ (67, [(0, .inr (.inr 407)), (1, .inl v1), (2, .inl v2), (3, .inl v3), (4, .inl 0)], [], M)
          refine mm_s1 rfl ?_
          replace h := h.1 (Or.inr (Or.inl c46))
          exact mm_s1 rfl ⟨(Or.inl rfl), _, rfl, (Or.inl rfl), L, N, h⟩
        · show mm_Go (mm_run 2) mc_M_areRuns _ (49, [(0, .inr (.inr 407)), (1, .inl v1), (2, .inl v2), (3, .inl v3), (4, .inl 0)], [], M)
          replace c46 := Int.not_lt.mp c46
          refine mm_s1 rfl ?_
          refine mm_s1 rfl ?_
          refine mm_s1 rfl ⟨fun c52 => ?_, fun c52 => ?_⟩
          · show mm_Go (mm_run 2) mc_M_areRuns _ (67, [(0, .inr (.inr 407)), (1, .inl v1), (2, .inl v2), (3, .inl v3), (4, .inl 0)], [], M)
            refine mm_s1 rfl ?_
            replace h := h.1 (Or.inr (Or.inr (Or.inl c52)))
            exact mm_s1 rfl ⟨(Or.inl rfl), _, rfl, (Or.inl rfl), L, N, h⟩
          · show mm_Go (mm_run 2) mc_M_areRuns _ (55, [(0, .inr (.inr 407)), (1, .inl v1), (2, .inl v2), (3, .inl v3), (4, .inl 0)], [], M)
            replace c52 := Int.not_lt.mp c52
            refine mm_s1 rfl ?_
            refine mm_s1 rfl ?_
            refine mm_s1 rfl ?_
            refine mm_s1 rfl ?_
            refine mm_s1 rfl ⟨fun c60 => ?_, fun c60 => ?_⟩
            · show mm_Go (mm_run 2) mc_M_areRuns _ (67, [(0, .inr (.inr 407)), (1, .inl v1), (2, .inl v2), (3, .inl v3), (4, .inl 0)], [], M)
              refine mm_s1 rfl ?_
              replace h := h.1 (Or.inr (Or.inr (Or.inr c60)))
              exact mm_s1 rfl ⟨(Or.inl rfl), _, rfl, (Or.inl rfl), L, N, h⟩
            · show mm_Go (mm_run 2) mc_M_areRuns _ (63, [(0, .inr (.inr 407)), (1, .inl v1), (2, .inl v2), (3, .inl v3), (4, .inl 0)], [], M)
              replace c60 := Int.not_lt.mp c60
              refine mm_s1 rfl ?_
              refine mm_s1 rfl ?_
              show mm_Go (mm_run 2) mc_M_areRuns _ (68, [(0, .inr (.inr 407)), (1, .inl v1), (2, .inl v2), (3, .inl v3), (4, .inl 0)], [.inl 1], M)
              replace h := h.2 ⟨c41, ⟨c46, ⟨c52, c60⟩⟩⟩
              exact mm_s1 rfl ⟨(Or.inr rfl), _, rfl, (Or.inr rfl), L, N, h⟩
    · show mm_Go (mm_run 2) mc_M_areRuns _ (22, [(0, .inr (.inr 407)), (1, .inl v1), (2, .inl v2), (3, .inl v3)], [], M)
      replace h := h.2 c19
      refine mm_s1 rfl ?_
      refine nn_getr rfl (nn_c407 NN).1 (lf_13_0 L N (nn_c407 NN)) ?_
      refine mm_s1 rfl ?_
      refine mm_s1 rfl ?_
      refine mm_s1 rfl ⟨trivial, ?_⟩
      refine np_M_at (by decide) L N ?_
      show mm_Go (mm_run 2) mc_M_areRuns _ (31, [(0, .inr (.inr 407)), (1, .inl v1), (2, .inl v2), (3, .inl v3)], [.inl (nf_M_at 0 v1), .inr (.inr 408)], M)
      refine mm_s1 rfl ?_
      refine mm_s1 rfl ?_
      obtain ⟨b33, h⟩ := h
      refine mm_s1 rfl ⟨nn_bd (na_13_0 NN (nn_c407 NN)) b33, ?_⟩
      show mm_Go (mm_run 2) mc_M_areRuns _ (34, [(0, .inr (.inr 407)), (1, .inl v1), (2, .inl v2), (3, .inl v3)], [.inl (nn_ri M 408 (mm_w ((nf_M_at 0 v1) + 5)))], M)
      refine mm_s1 rfl ?_
      show mm_Go (mm_run 2) mc_M_areRuns _ (38, [(0, .inr (.inr 407)), (1, .inl v1), (2, .inl v2), (3, .inl v3)], [.inl (nn_ri M 408 (mm_w ((nf_M_at 0 v1) + 5)))], M)
      refine mm_s1 rfl ?_
      show mm_Go (mm_run 2) mc_M_areRuns _ (40, [(0, .inr (.inr 407)), (1, .inl v1), (2, .inl v2), (3, .inl v3), (4, .inl (nn_ri M 408 (mm_w ((nf_M_at 0 v1) + 5))))], [], M)
      generalize e_x4_38 : (nn_ri M 408 (mm_w ((nf_M_at 0 v1) + 5))) = x4_38
      replace h := h _ e_x4_38.symm
      show mm_Go (mm_run 2) mc_M_areRuns _ (40, [(0, .inr (.inr 407)), (1, .inl v1), (2, .inl v2), (3, .inl v3), (4, .inl x4_38)], [], M)
      refine mm_s1 rfl ?_
      refine mm_s1 rfl ⟨fun c41 => ?_, fun c41 => ?_⟩
      · show mm_Go (mm_run 2) mc_M_areRuns _ (67, [(0, .inr (.inr 407)), (1, .inl v1), (2, .inl v2), (3, .inl v3), (4, .inl x4_38)], [], M)
        refine mm_s1 rfl ?_
        replace h := h.1 (Or.inl c41)
        exact mm_s1 rfl ⟨(Or.inl rfl), _, rfl, (Or.inl rfl), L, N, h⟩
      · show mm_Go (mm_run 2) mc_M_areRuns _ (44, [(0, .inr (.inr 407)), (1, .inl v1), (2, .inl v2), (3, .inl v3), (4, .inl x4_38)], [], M)
        replace c41 := Int.not_lt.mp c41
        refine mm_s1 rfl ?_
        refine mm_s1 rfl ?_
        refine mm_s1 rfl ⟨fun c46 => ?_, fun c46 => ?_⟩
        · show mm_Go (mm_run 2) mc_M_areRuns _ (67, [(0, .inr (.inr 407)), (1, .inl v1), (2, .inl v2), (3, .inl v3), (4, .inl x4_38)], [], M)
          refine mm_s1 rfl ?_
          replace h := h.1 (Or.inr (Or.inl c46))
          exact mm_s1 rfl ⟨(Or.inl rfl), _, rfl, (Or.inl rfl), L, N, h⟩
        · show mm_Go (mm_run 2) mc_M_areRuns _ (49, [(0, .inr (.inr 407)), (1, .inl v1), (2, .inl v2), (3, .inl v3), (4, .inl x4_38)], [], M)
          replace c46 := Int.not_lt.mp c46
          refine mm_s1 rfl ?_
          refine mm_s1 rfl ?_
          refine mm_s1 rfl ⟨fun c52 => ?_, fun c52 => ?_⟩
          · show mm_Go (mm_run 2) mc_M_areRuns _ (67, [(0, .inr (.inr 407)), (1, .inl v1), (2, .inl v2), (3, .inl v3), (4, .inl x4_38)], [], M)
            refine mm_s1 rfl ?_
            replace h := h.1 (Or.inr (Or.inr (Or.inl c52)))
            exact mm_s1 rfl ⟨(Or.inl rfl), _, rfl, (Or.inl rfl), L, N, h⟩
          · show mm_Go (mm_run 2) mc_M_areRuns _ (55, [(0, .inr (.inr 407)), (1, .inl v1), (2, .inl v2), (3, .inl v3), (4, .inl x4_38)], [], M)
            replace c52 := Int.not_lt.mp c52
            refine mm_s1 rfl ?_
            refine mm_s1 rfl ?_
            refine mm_s1 rfl ?_
            refine mm_s1 rfl ?_
            refine mm_s1 rfl ⟨fun c60 => ?_, fun c60 => ?_⟩
            · show mm_Go (mm_run 2) mc_M_areRuns _ (67, [(0, .inr (.inr 407)), (1, .inl v1), (2, .inl v2), (3, .inl v3), (4, .inl x4_38)], [], M)
              refine mm_s1 rfl ?_
              replace h := h.1 (Or.inr (Or.inr (Or.inr c60)))
              exact mm_s1 rfl ⟨(Or.inl rfl), _, rfl, (Or.inl rfl), L, N, h⟩
            · show mm_Go (mm_run 2) mc_M_areRuns _ (63, [(0, .inr (.inr 407)), (1, .inl v1), (2, .inl v2), (3, .inl v3), (4, .inl x4_38)], [], M)
              replace c60 := Int.not_lt.mp c60
              refine mm_s1 rfl ?_
              refine mm_s1 rfl ?_
              show mm_Go (mm_run 2) mc_M_areRuns _ (68, [(0, .inr (.inr 407)), (1, .inl v1), (2, .inl v2), (3, .inl v3), (4, .inl x4_38)], [.inl 1], M)
              replace h := h.2 ⟨c41, ⟨c46, ⟨c52, c60⟩⟩⟩
              exact mm_s1 rfl ⟨(Or.inr rfl), _, rfl, (Or.inr rfl), L, N, h⟩
  · show mm_Go (mm_run 2) mc_M_areRuns _ (5, [(0, .inr (.inr 407)), (1, .inl v1), (2, .inl v2), (3, .inl v3)], [], M)
    replace c2 := Decidable.not_not.mp c2
    replace h := h.2 c2
    refine mm_s1 rfl ?_
    refine nn_getr rfl (nn_c407 NN).1 (lf_13_0 L N (nn_c407 NN)) ?_
    refine mm_s1 rfl ?_
    refine mm_s1 rfl ⟨nn_bd (na_13_0 NN (nn_c407 NN)) (by decide), ?_⟩
    show mm_Go (mm_run 2) mc_M_areRuns _ (11, [(0, .inr (.inr 407)), (1, .inl v1), (2, .inl v2), (3, .inl v3)], [.inl (nn_ri M 408 5)], M)
    refine mm_s1 rfl ?_
    show mm_Go (mm_run 2) mc_M_areRuns _ (38, [(0, .inr (.inr 407)), (1, .inl v1), (2, .inl v2), (3, .inl v3)], [.inl (nn_ri M 408 5)], M)
    refine mm_s1 rfl ?_
    show mm_Go (mm_run 2) mc_M_areRuns _ (40, [(0, .inr (.inr 407)), (1, .inl v1), (2, .inl v2), (3, .inl v3), (4, .inl (nn_ri M 408 5))], [], M)
    refine mm_s1 rfl ?_
    refine mm_s1 rfl ⟨fun c41 => ?_, fun c41 => ?_⟩
    · show mm_Go (mm_run 2) mc_M_areRuns _ (67, [(0, .inr (.inr 407)), (1, .inl v1), (2, .inl v2), (3, .inl v3), (4, .inl (nn_ri M 408 5))], [], M)
      refine mm_s1 rfl ?_
      replace h := h.1 (Or.inl c41)
      exact mm_s1 rfl ⟨(Or.inl rfl), _, rfl, (Or.inl rfl), L, N, h⟩
    · show mm_Go (mm_run 2) mc_M_areRuns _ (44, [(0, .inr (.inr 407)), (1, .inl v1), (2, .inl v2), (3, .inl v3), (4, .inl (nn_ri M 408 5))], [], M)
      replace c41 := Int.not_lt.mp c41
      refine mm_s1 rfl ?_
      refine mm_s1 rfl ?_
      refine mm_s1 rfl ⟨fun c46 => ?_, fun c46 => ?_⟩
      · show mm_Go (mm_run 2) mc_M_areRuns _ (67, [(0, .inr (.inr 407)), (1, .inl v1), (2, .inl v2), (3, .inl v3), (4, .inl (nn_ri M 408 5))], [], M)
        refine mm_s1 rfl ?_
        replace h := h.1 (Or.inr (Or.inl c46))
        exact mm_s1 rfl ⟨(Or.inl rfl), _, rfl, (Or.inl rfl), L, N, h⟩
      · show mm_Go (mm_run 2) mc_M_areRuns _ (49, [(0, .inr (.inr 407)), (1, .inl v1), (2, .inl v2), (3, .inl v3), (4, .inl (nn_ri M 408 5))], [], M)
        replace c46 := Int.not_lt.mp c46
        refine mm_s1 rfl ?_
        refine mm_s1 rfl ?_
        refine mm_s1 rfl ⟨fun c52 => ?_, fun c52 => ?_⟩
        · show mm_Go (mm_run 2) mc_M_areRuns _ (67, [(0, .inr (.inr 407)), (1, .inl v1), (2, .inl v2), (3, .inl v3), (4, .inl (nn_ri M 408 5))], [], M)
          refine mm_s1 rfl ?_
          replace h := h.1 (Or.inr (Or.inr (Or.inl c52)))
          exact mm_s1 rfl ⟨(Or.inl rfl), _, rfl, (Or.inl rfl), L, N, h⟩
        · show mm_Go (mm_run 2) mc_M_areRuns _ (55, [(0, .inr (.inr 407)), (1, .inl v1), (2, .inl v2), (3, .inl v3), (4, .inl (nn_ri M 408 5))], [], M)
          replace c52 := Int.not_lt.mp c52
          refine mm_s1 rfl ?_
          refine mm_s1 rfl ?_
          refine mm_s1 rfl ?_
          refine mm_s1 rfl ?_
          refine mm_s1 rfl ⟨fun c60 => ?_, fun c60 => ?_⟩
          · show mm_Go (mm_run 2) mc_M_areRuns _ (67, [(0, .inr (.inr 407)), (1, .inl v1), (2, .inl v2), (3, .inl v3), (4, .inl (nn_ri M 408 5))], [], M)
            refine mm_s1 rfl ?_
            replace h := h.1 (Or.inr (Or.inr (Or.inr c60)))
            exact mm_s1 rfl ⟨(Or.inl rfl), _, rfl, (Or.inl rfl), L, N, h⟩
          · show mm_Go (mm_run 2) mc_M_areRuns _ (63, [(0, .inr (.inr 407)), (1, .inl v1), (2, .inl v2), (3, .inl v3), (4, .inl (nn_ri M 408 5))], [], M)
            replace c60 := Int.not_lt.mp c60
            refine mm_s1 rfl ?_
            refine mm_s1 rfl ?_
            show mm_Go (mm_run 2) mc_M_areRuns _ (68, [(0, .inr (.inr 407)), (1, .inl v1), (2, .inl v2), (3, .inl v3), (4, .inl (nn_ri M 408 5))], [.inl 1], M)
            replace h := h.2 ⟨c41, ⟨c46, ⟨c52, c60⟩⟩⟩
            exact mm_s1 rfl ⟨(Or.inr rfl), _, rfl, (Or.inr rfl), L, N, h⟩
def nr_M_drop (v1 : Int) (M : mm_M) (R : Int → mm_M → Prop) : Prop := ∀ n, nn_L M → M.1 = n → mm_run 3 mi_M_drop [.inr (.inr 407), .inl v1] M (nw_Z n R)
set_option maxRecDepth 20000 in
theorem ng_M_drop (v1 : Int) (M : mm_M) (R : Int → mm_M → Prop) (h : ((nc_M_isIndex v1 M) ∧ (((nf_M_isIndex v1 M) ≠ 0 → (nr_M_goes v1 M (fun M12 => R 1 M12))) ∧ ((nf_M_isIndex v1 M) = 0 → R 0 M)))) : nr_M_drop v1 M R := by
  intro n L N 
  have NN := nn_L_n L N
  show mm_Go (mm_run 2) mc_M_drop _ (0, [(0, .inr (.inr 407)), (1, .inl v1)], [], M)
  refine mm_s1 rfl ?_
  refine mm_s1 rfl ?_
  obtain ⟨b2, h⟩ := h
  refine mm_s1 rfl ⟨(nn_c407 NN).1, ?_⟩
  refine np_M_isIndex (by decide) L N b2 ?_
  show mm_Go (mm_run 2) mc_M_drop _ (5, [(0, .inr (.inr 407)), (1, .inl v1)], [.inl (nf_M_isIndex v1 M)], M)
  refine mm_s1 rfl ⟨fun c5 => ?_, fun c5 => ?_⟩
  · show mm_Go (mm_run 2) mc_M_drop _ (10, [(0, .inr (.inr 407)), (1, .inl v1)], [], M)
    replace h := h.1 c5
    refine mm_s1 rfl ?_
    refine mm_s1 rfl ?_
    refine mm_s1 rfl ⟨(nn_c407 NN).1, ?_⟩
    refine nn_call (D := 2) (by decide) (h n L N) ?_
    intro v M12 q; clear L N h
    obtain ⟨rfl, L, N, h⟩ := q
    show mm_Go (mm_run 2) mc_M_drop _ (15, [(0, .inr (.inr 407)), (1, .inl v1)], [], M12)
    refine mm_s1 rfl ?_
    exact mm_s1 rfl ⟨(Or.inr rfl), _, rfl, (Or.inr rfl), L, N, h⟩
  · show mm_Go (mm_run 2) mc_M_drop _ (8, [(0, .inr (.inr 407)), (1, .inl v1)], [], M)
    replace c5 := Decidable.not_not.mp c5
    replace h := h.2 c5
    refine mm_s1 rfl ?_
    exact mm_s1 rfl ⟨(Or.inl rfl), _, rfl, (Or.inl rfl), L, N, h⟩
def nf_M_isBuilt (v1 : Int) (M : mm_M) : Int := (if (nf_M_isIndex v1 M) = 0 then 0 else (if (nn_ri M 408 (mm_w ((nf_M_at 0 v1) + 0))) ≠ 2 then 0 else 1))
def nc_M_isBuilt (v1 : Int) (M : mm_M) : Prop := ((nc_M_isIndex v1 M) ∧ ((nf_M_isIndex v1 M) ≠ 0 → ((0 : Int) ≤ (mm_w ((nf_M_at 0 v1) + 0)) ∧ (mm_w ((nf_M_at 0 v1) + 0)) < (32844 : Int))))
theorem nz_M_isBuilt (v1 : Int) (M : mm_M) : nf_M_isBuilt v1 M = 0 ∨ nf_M_isBuilt v1 M = 1 := by
  unfold nf_M_isBuilt
  repeat' split
  all_goals first | exact Or.inl rfl | exact Or.inr rfl
set_option maxRecDepth 20000 in
theorem np_M_isBuilt {v1 : Int} {M : mm_M} {n d : Nat} {P : mm_P} (hd : 3 ≤ d) (L : nn_L M) (N : M.1 = n)  (b : nc_M_isBuilt v1 M) (h : P (some (.inl (nf_M_isBuilt v1 M))) M) : mm_run d mi_M_isBuilt [.inr (.inr 407), .inl v1] M P := by
  have NN := nn_L_n L N
  unfold nc_M_isBuilt at b
  unfold nf_M_isBuilt at h
  refine nn_run_le hd ?_
  show mm_Go (mm_run 2) mc_M_isBuilt _ (0, [(0, .inr (.inr 407)), (1, .inl v1)], [], M)
  refine mm_s1 rfl ?_
  refine mm_s1 rfl ?_
  obtain ⟨b2, b⟩ := b
  refine mm_s1 rfl ⟨(nn_c407 NN).1, ?_⟩
  refine np_M_isIndex (by decide) L N b2 ?_
  show mm_Go (mm_run 2) mc_M_isBuilt _ (5, [(0, .inr (.inr 407)), (1, .inl v1)], [.inl (nf_M_isIndex v1 M)], M)
  refine mm_s1 rfl ⟨fun c5 => ?_, fun c5 => ?_⟩
  · show mm_Go (mm_run 2) mc_M_isBuilt _ (28, [(0, .inr (.inr 407)), (1, .inl v1)], [], M)
    rw [if_pos (show (nf_M_isIndex v1 M) = 0 from c5)] at h
    refine mm_s1 rfl ?_
    exact mm_s1 rfl ⟨(Or.inl rfl), h⟩
  · show mm_Go (mm_run 2) mc_M_isBuilt _ (8, [(0, .inr (.inr 407)), (1, .inl v1)], [], M)
    rw [if_neg (show ¬ ((nf_M_isIndex v1 M) = 0) from c5)] at h
    replace b := b c5
    refine mm_s1 rfl ?_
    refine nn_getr rfl (nn_c407 NN).1 (lf_13_0 L N (nn_c407 NN)) ?_
    refine mm_s1 rfl ?_
    refine mm_s1 rfl ?_
    refine mm_s1 rfl ⟨trivial, ?_⟩
    refine np_M_at (by decide) L N ?_
    show mm_Go (mm_run 2) mc_M_isBuilt _ (17, [(0, .inr (.inr 407)), (1, .inl v1)], [.inl (nf_M_at 0 v1), .inr (.inr 408)], M)
    refine mm_s1 rfl ?_
    refine mm_s1 rfl ?_
    have b19 := b
    refine mm_s1 rfl ⟨nn_bd (na_13_0 NN (nn_c407 NN)) b19, ?_⟩
    show mm_Go (mm_run 2) mc_M_isBuilt _ (20, [(0, .inr (.inr 407)), (1, .inl v1)], [.inl (nn_ri M 408 (mm_w ((nf_M_at 0 v1) + 0)))], M)
    refine mm_s1 rfl ?_
    refine mm_s1 rfl ⟨fun c21 => ?_, fun c21 => ?_⟩
    · show mm_Go (mm_run 2) mc_M_isBuilt _ (28, [(0, .inr (.inr 407)), (1, .inl v1)], [], M)
      rw [if_pos (show (nn_ri M 408 (mm_w ((nf_M_at 0 v1) + 0))) ≠ 2 from c21)] at h
      refine mm_s1 rfl ?_
      exact mm_s1 rfl ⟨(Or.inl rfl), h⟩
    · show mm_Go (mm_run 2) mc_M_isBuilt _ (24, [(0, .inr (.inr 407)), (1, .inl v1)], [], M)
      rw [if_neg (show ¬ ((nn_ri M 408 (mm_w ((nf_M_at 0 v1) + 0))) ≠ 2) from c21)] at h
      replace c21 := Decidable.not_not.mp c21
      refine mm_s1 rfl ?_
      refine mm_s1 rfl ?_
      show mm_Go (mm_run 2) mc_M_isBuilt _ (29, [(0, .inr (.inr 407)), (1, .inl v1)], [.inl 1], M)
      exact mm_s1 rfl ⟨(Or.inr rfl), h⟩
def nr_M_ends (v1 : Int) (M : mm_M) (R : Int → mm_M → Prop) : Prop := ∀ n, nn_L M → M.1 = n → mm_run 3 mi_M_ends [.inr (.inr 407), .inl v1] M (nw_I n R)
def nk_M_ends_4 (v1 : Int) (v2 : Int) (v3 : Int) (M : mm_M) (R : Int → mm_M → Prop) : Prop := ∀ n, nn_L M → M.1 = n → mm_Go (mm_run 2) mc_M_ends (nw_I n R) (4, [(0, .inr (.inr 407)), (1, .inl v1), (2, .inl v2), (3, .inl v3)], [], M)
def nk_M_ends_81 (v1 : Int) (v2 : Int) (v3 : Int) (M : mm_M) (R : Int → mm_M → Prop) : Prop := ∀ n, nn_L M → M.1 = n → mm_Go (mm_run 2) mc_M_ends (nw_I n R) (81, [(0, .inr (.inr 407)), (1, .inl v1), (2, .inl v2), (3, .inl v3)], [], M)
set_option maxRecDepth 20000 in
theorem ng_M_ends (v1 : Int) (M : mm_M) (R : Int → mm_M → Prop) (h : nk_M_ends_4 v1 (-1) 0 M R) : nr_M_ends v1 M R := by
  intro n L N 
  have NN := nn_L_n L N
  show mm_Go (mm_run 2) mc_M_ends _ (0, [(0, .inr (.inr 407)), (1, .inl v1)], [], M)
  refine mm_s1 rfl ?_
  refine mm_s1 rfl ?_
  show mm_Go (mm_run 2) mc_M_ends _ (2, [(0, .inr (.inr 407)), (1, .inl v1), (2, .inl (-1))], [], M)
  refine mm_s1 rfl ?_
  refine mm_s1 rfl ?_
  show mm_Go (mm_run 2) mc_M_ends _ (4, [(0, .inr (.inr 407)), (1, .inl v1), (2, .inl (-1)), (3, .inl 0)], [], M)
  exact nn_go_ext (nn_xc rfl (nn_xc rfl (nn_xc rfl (nn_xc rfl nn_xn)))) (h n L N)
set_option maxRecDepth 20000 in
theorem ng_M_ends_4 (v1 : Int) (v2 : Int) (v3 : Int) (M : mm_M) (R : Int → mm_M → Prop) (h : (((0 : Int) ≤ (mm_w (v1 + 5)) ∧ (mm_w (v1 + 5)) < (32844 : Int)) ∧ (((nn_ri M 408 (mm_w (v1 + 5))) ≤ v3 → (((0 : Int) ≤ (mm_w (v1 + 7)) ∧ (mm_w (v1 + 7)) < (32844 : Int)) ∧ (((nn_ri M 408 (mm_w (v1 + 7))) ≤ 0 → (((0 : Int) ≤ (mm_w (v1 + 7)) ∧ (mm_w (v1 + 7)) < (32844 : Int)) ∧ (∀ M197 : mm_M, M197 = nn_ui M 408 (mm_w (v1 + 7)) 0 → (((0 : Int) ≤ (mm_w (v1 + 0)) ∧ (mm_w (v1 + 0)) < (32844 : Int)) ∧ (∀ M206 : mm_M, M206 = nn_ui M197 408 (mm_w (v1 + 0)) 2 → R 0 M206))))) ∧ (0 < (nn_ri M 408 (mm_w (v1 + 7))) → (((0 : Int) ≤ (mm_w (v1 + 5)) ∧ (mm_w (v1 + 5)) < (32844 : Int)) ∧ (((0 : Int) ≤ (mm_w (v1 + 5)) ∧ (mm_w (v1 + 5)) < (32844 : Int)) ∧ (∀ M78 : mm_M, M78 = nn_ui M 408 (mm_w (v1 + 5)) (mm_w ((nn_ri M 408 (mm_w (v1 + 5))) + 1)) → nk_M_ends_81 v1 v2 0 M78 R))))))) ∧ (v3 < (nn_ri M 408 (mm_w (v1 + 5))) → (((0 : Int) ≤ (mm_w ((nf_M_head v1 v3) + 1)) ∧ (mm_w ((nf_M_head v1 v3) + 1)) < (32844 : Int)) ∧ (((nn_ri M 408 (mm_w ((nf_M_head v1 v3) + 1))) ≤ v2 → nk_M_ends_4 v1 v2 (mm_w (v3 + 1)) M R) ∧ (v2 < (nn_ri M 408 (mm_w ((nf_M_head v1 v3) + 1))) → (((0 : Int) ≤ (mm_w ((nf_M_head v1 v3) + 1)) ∧ (mm_w ((nf_M_head v1 v3) + 1)) < (32844 : Int)) ∧ (∀ x2_48 : Int, x2_48 = nn_ri M 408 (mm_w ((nf_M_head v1 v3) + 1)) → nk_M_ends_4 v1 x2_48 (mm_w (v3 + 1)) M R))))))))) : nk_M_ends_4 v1 v2 v3 M R := by
  intro n L N 
  have NN := nn_L_n L N
  show mm_Go (mm_run 2) mc_M_ends _ (4, [(0, .inr (.inr 407)), (1, .inl v1), (2, .inl v2), (3, .inl v3)], [], M)
  refine mm_s1 rfl ?_
  refine mm_s1 rfl ?_
  refine nn_getr rfl (nn_c407 NN).1 (lf_13_0 L N (nn_c407 NN)) ?_
  refine mm_s1 rfl ?_
  refine mm_s1 rfl ?_
  show mm_Go (mm_run 2) mc_M_ends _ (11, [(0, .inr (.inr 407)), (1, .inl v1), (2, .inl v2), (3, .inl v3)], [.inl 5, .inl v1, .inr (.inr 408), .inl v3], M)
  refine mm_s1 rfl ?_
  obtain ⟨b12, h⟩ := h
  refine mm_s1 rfl ⟨nn_bd (na_13_0 NN (nn_c407 NN)) b12, ?_⟩
  show mm_Go (mm_run 2) mc_M_ends _ (13, [(0, .inr (.inr 407)), (1, .inl v1), (2, .inl v2), (3, .inl v3)], [.inl (nn_ri M 408 (mm_w (v1 + 5))), .inl v3], M)
  refine mm_s1 rfl ⟨fun c13 => ?_, fun c13 => ?_⟩
  · show mm_Go (mm_run 2) mc_M_ends _ (55, [(0, .inr (.inr 407)), (1, .inl v1), (2, .inl v2), (3, .inl v3)], [], M)
    replace h := h.1 c13
    refine mm_s1 rfl ?_
    refine nn_getr rfl (nn_c407 NN).1 (lf_13_0 L N (nn_c407 NN)) ?_
    refine mm_s1 rfl ?_
    refine mm_s1 rfl ?_
    refine mm_s1 rfl ?_
    show mm_Go (mm_run 2) mc_M_ends _ (63, [(0, .inr (.inr 407)), (1, .inl v1), (2, .inl v2), (3, .inl v3)], [.inl (mm_w (v1 + 7)), .inr (.inr 408)], M)
    obtain ⟨b63, h⟩ := h
    refine mm_s1 rfl ⟨nn_bd (na_13_0 NN (nn_c407 NN)) b63, ?_⟩
    show mm_Go (mm_run 2) mc_M_ends _ (64, [(0, .inr (.inr 407)), (1, .inl v1), (2, .inl v2), (3, .inl v3)], [.inl (nn_ri M 408 (mm_w (v1 + 7)))], M)
    refine mm_s1 rfl ⟨fun c64 => ?_, fun c64 => ?_⟩
    · show mm_Go (mm_run 2) mc_M_ends _ (188, [(0, .inr (.inr 407)), (1, .inl v1), (2, .inl v2), (3, .inl v3)], [], M)
      replace h := h.1 c64
      refine mm_s1 rfl ?_
      refine nn_getr rfl (nn_c407 NN).1 (lf_13_0 L N (nn_c407 NN)) ?_
      refine mm_s1 rfl ?_
      refine mm_s1 rfl ?_
      refine mm_s1 rfl ?_
      show mm_Go (mm_run 2) mc_M_ends _ (196, [(0, .inr (.inr 407)), (1, .inl v1), (2, .inl v2), (3, .inl v3)], [.inl (mm_w (v1 + 7)), .inr (.inr 408)], M)
      refine mm_s1 rfl ?_
      obtain ⟨b197, h⟩ := h
      refine mm_s1 rfl ⟨nn_bd (na_13_0 NN (nn_c407 NN)) b197, ?_⟩
      show mm_Go (mm_run 2) mc_M_ends _ (198, [(0, .inr (.inr 407)), (1, .inl v1), (2, .inl v2), (3, .inl v3)], [], (nn_ui M 408 (mm_w (v1 + 7)) 0))
      have L : nn_L (nn_ui M 408 (mm_w (v1 + 7)) 0) := nn_L_ua L (congrArg Prod.fst (na_13_0 NN (nn_c407 NN))) (by decide)
      have N : (nn_ui M 408 (mm_w (v1 + 7)) 0).1 = n := N
      generalize e_M197 : (nn_ui M 408 (mm_w (v1 + 7)) 0) = M197 at L N ⊢
      replace h := h _ e_M197.symm
      show mm_Go (mm_run 2) mc_M_ends _ (198, [(0, .inr (.inr 407)), (1, .inl v1), (2, .inl v2), (3, .inl v3)], [], M197)
      refine mm_s1 rfl ?_
      refine nn_getr rfl (nn_c407 NN).1 (lf_13_0 L N (nn_c407 NN)) ?_
      refine mm_s1 rfl ?_
      refine mm_s1 rfl ?_
      refine mm_s1 rfl ?_
      show mm_Go (mm_run 2) mc_M_ends _ (205, [(0, .inr (.inr 407)), (1, .inl v1), (2, .inl v2), (3, .inl v3)], [.inl (mm_w (v1 + 0)), .inr (.inr 408)], M197)
      refine mm_s1 rfl ?_
      obtain ⟨b206, h⟩ := h
      refine mm_s1 rfl ⟨nn_bd (na_13_0 NN (nn_c407 NN)) b206, ?_⟩
      show mm_Go (mm_run 2) mc_M_ends _ (207, [(0, .inr (.inr 407)), (1, .inl v1), (2, .inl v2), (3, .inl v3)], [], (nn_ui M197 408 (mm_w (v1 + 0)) 2))
      have L : nn_L (nn_ui M197 408 (mm_w (v1 + 0)) 2) := nn_L_ua L (congrArg Prod.fst (na_13_0 NN (nn_c407 NN))) (by decide)
      have N : (nn_ui M197 408 (mm_w (v1 + 0)) 2).1 = n := N
      generalize e_M206 : (nn_ui M197 408 (mm_w (v1 + 0)) 2) = M206 at L N ⊢
      replace h := h _ e_M206.symm
      show mm_Go (mm_run 2) mc_M_ends _ (207, [(0, .inr (.inr 407)), (1, .inl v1), (2, .inl v2), (3, .inl v3)], [], M206)
      refine mm_s1 rfl ?_
      exact mm_s1 rfl ⟨_, rfl, L, N, h⟩
    · show mm_Go (mm_run 2) mc_M_ends _ (67, [(0, .inr (.inr 407)), (1, .inl v1), (2, .inl v2), (3, .inl v3)], [], M)
      replace c64 := Int.not_le.mp c64
      replace h := h.2 c64
      refine mm_s1 rfl ?_
      refine nn_getr rfl (nn_c407 NN).1 (lf_13_0 L N (nn_c407 NN)) ?_
      refine mm_s1 rfl ?_
      refine mm_s1 rfl ?_
      refine mm_s1 rfl ?_
      show mm_Go (mm_run 2) mc_M_ends _ (74, [(0, .inr (.inr 407)), (1, .inl v1), (2, .inl v2), (3, .inl v3)], [.inl (mm_w (v1 + 5)), .inr (.inr 408)], M)
      refine mm_s1 rfl ?_
      obtain ⟨b75, h⟩ := h
      refine mm_s1 rfl ⟨nn_bd (na_13_0 NN (nn_c407 NN)) b75, ?_⟩
      show mm_Go (mm_run 2) mc_M_ends _ (76, [(0, .inr (.inr 407)), (1, .inl v1), (2, .inl v2), (3, .inl v3)], [.inl (nn_ri M 408 (mm_w (v1 + 5))), .inl (mm_w (v1 + 5)), .inr (.inr 408)], M)
      refine mm_s1 rfl ?_
      refine mm_s1 rfl ?_
      obtain ⟨b78, h⟩ := h
      refine mm_s1 rfl ⟨nn_bd (na_13_0 NN (nn_c407 NN)) b78, ?_⟩
      show mm_Go (mm_run 2) mc_M_ends _ (79, [(0, .inr (.inr 407)), (1, .inl v1), (2, .inl v2), (3, .inl v3)], [], (nn_ui M 408 (mm_w (v1 + 5)) (mm_w ((nn_ri M 408 (mm_w (v1 + 5))) + 1))))
      have L : nn_L (nn_ui M 408 (mm_w (v1 + 5)) (mm_w ((nn_ri M 408 (mm_w (v1 + 5))) + 1))) := nn_L_ua L (congrArg Prod.fst (na_13_0 NN (nn_c407 NN))) (by decide)
      have N : (nn_ui M 408 (mm_w (v1 + 5)) (mm_w ((nn_ri M 408 (mm_w (v1 + 5))) + 1))).1 = n := N
      generalize e_M78 : (nn_ui M 408 (mm_w (v1 + 5)) (mm_w ((nn_ri M 408 (mm_w (v1 + 5))) + 1))) = M78 at L N ⊢
      replace h := h _ e_M78.symm
      show mm_Go (mm_run 2) mc_M_ends _ (79, [(0, .inr (.inr 407)), (1, .inl v1), (2, .inl v2), (3, .inl v3)], [], M78)
      refine mm_s1 rfl ?_
      refine mm_s1 rfl ?_
      show mm_Go (mm_run 2) mc_M_ends _ (81, [(0, .inr (.inr 407)), (1, .inl v1), (2, .inl v2), (3, .inl 0)], [], M78)
      exact nn_go_ext (nn_xc rfl (nn_xc rfl (nn_xc rfl (nn_xc rfl nn_xn)))) (h n L N)
  · show mm_Go (mm_run 2) mc_M_ends _ (16, [(0, .inr (.inr 407)), (1, .inl v1), (2, .inl v2), (3, .inl v3)], [], M)
    replace c13 := Int.not_le.mp c13
    replace h := h.2 c13
    refine mm_s1 rfl ?_
    refine nn_getr rfl (nn_c407 NN).1 (lf_13_0 L N (nn_c407 NN)) ?_
    refine mm_s1 rfl ?_
    refine mm_s1 rfl ?_
    refine mm_s1 rfl ⟨trivial, ?_⟩
    refine np_M_head (by decide) L N ?_
    show mm_Go (mm_run 2) mc_M_ends _ (25, [(0, .inr (.inr 407)), (1, .inl v1), (2, .inl v2), (3, .inl v3)], [.inl (nf_M_head v1 v3), .inr (.inr 408)], M)
    refine mm_s1 rfl ?_
    refine mm_s1 rfl ?_
    obtain ⟨b27, h⟩ := h
    refine mm_s1 rfl ⟨nn_bd (na_13_0 NN (nn_c407 NN)) b27, ?_⟩
    show mm_Go (mm_run 2) mc_M_ends _ (28, [(0, .inr (.inr 407)), (1, .inl v1), (2, .inl v2), (3, .inl v3)], [.inl (nn_ri M 408 (mm_w ((nf_M_head v1 v3) + 1)))], M)
    refine mm_s1 rfl ?_
    refine mm_s1 rfl ⟨fun c29 => ?_, fun c29 => ?_⟩
    · show mm_Go (mm_run 2) mc_M_ends _ (47, [(0, .inr (.inr 407)), (1, .inl v1), (2, .inl v2), (3, .inl v3)], [], M)
      replace h := h.1 c29
      refine mm_s1 rfl ?_
      refine mm_s1 rfl ?_
      show mm_Go (mm_run 2) mc_M_ends _ (49, [(0, .inr (.inr 407)), (1, .inl v1), (2, .inl v2), (3, .inl v3)], [], M)
      refine mm_s1 rfl ?_
      show mm_Go (mm_run 2) mc_M_ends _ (52, [(0, .inr (.inr 407)), (1, .inl v1), (2, .inl v2), (3, .inl (mm_w (v3 + 1)))], [], M)
      refine mm_s1 rfl ?_
      show mm_Go (mm_run 2) mc_M_ends _ (4, [(0, .inr (.inr 407)), (1, .inl v1), (2, .inl v2), (3, .inl (mm_w (v3 + 1)))], [], M)
      exact nn_go_ext (nn_xc rfl (nn_xc rfl (nn_xc rfl (nn_xc rfl nn_xn)))) (h n L N)
    · show mm_Go (mm_run 2) mc_M_ends _ (32, [(0, .inr (.inr 407)), (1, .inl v1), (2, .inl v2), (3, .inl v3)], [], M)
      replace c29 := Int.not_le.mp c29
      replace h := h.2 c29
      refine mm_s1 rfl ?_
      refine nn_getr rfl (nn_c407 NN).1 (lf_13_0 L N (nn_c407 NN)) ?_
      refine mm_s1 rfl ?_
      refine mm_s1 rfl ?_
      refine mm_s1 rfl ⟨trivial, ?_⟩
      refine np_M_head (by decide) L N ?_
      show mm_Go (mm_run 2) mc_M_ends _ (41, [(0, .inr (.inr 407)), (1, .inl v1), (2, .inl v2), (3, .inl v3)], [.inl (nf_M_head v1 v3), .inr (.inr 408)], M)
      refine mm_s1 rfl ?_
      refine mm_s1 rfl ?_
      obtain ⟨b43, h⟩ := h
      refine mm_s1 rfl ⟨nn_bd (na_13_0 NN (nn_c407 NN)) b43, ?_⟩
      show mm_Go (mm_run 2) mc_M_ends _ (44, [(0, .inr (.inr 407)), (1, .inl v1), (2, .inl v2), (3, .inl v3)], [.inl (nn_ri M 408 (mm_w ((nf_M_head v1 v3) + 1)))], M)
      refine mm_s1 rfl ?_
      show mm_Go (mm_run 2) mc_M_ends _ (48, [(0, .inr (.inr 407)), (1, .inl v1), (2, .inl v2), (3, .inl v3)], [.inl (nn_ri M 408 (mm_w ((nf_M_head v1 v3) + 1)))], M)
      refine mm_s1 rfl ?_
      show mm_Go (mm_run 2) mc_M_ends _ (49, [(0, .inr (.inr 407)), (1, .inl v1), (2, .inl (nn_ri M 408 (mm_w ((nf_M_head v1 v3) + 1)))), (3, .inl v3)], [], M)
      generalize e_x2_48 : (nn_ri M 408 (mm_w ((nf_M_head v1 v3) + 1))) = x2_48
      replace h := h _ e_x2_48.symm
      show mm_Go (mm_run 2) mc_M_ends _ (49, [(0, .inr (.inr 407)), (1, .inl v1), (2, .inl x2_48), (3, .inl v3)], [], M)
      refine mm_s1 rfl ?_
      show mm_Go (mm_run 2) mc_M_ends _ (52, [(0, .inr (.inr 407)), (1, .inl v1), (2, .inl x2_48), (3, .inl (mm_w (v3 + 1)))], [], M)
      refine mm_s1 rfl ?_
      show mm_Go (mm_run 2) mc_M_ends _ (4, [(0, .inr (.inr 407)), (1, .inl v1), (2, .inl x2_48), (3, .inl (mm_w (v3 + 1)))], [], M)
      exact nn_go_ext (nn_xc rfl (nn_xc rfl (nn_xc rfl (nn_xc rfl nn_xn)))) (h n L N)
set_option maxRecDepth 20000 in
theorem ng_M_ends_81 (v1 : Int) (v2 : Int) (v3 : Int) (M : mm_M) (R : Int → mm_M → Prop) (h : (((0 : Int) ≤ (mm_w (v1 + 7)) ∧ (mm_w (v1 + 7)) < (32844 : Int)) ∧ (((nn_ri M 408 (mm_w (v1 + 7))) ≤ v3 → (nr_M_sorts v1 M (fun M158 => (((0 : Int) ≤ (mm_w (v1 + 5)) ∧ (mm_w (v1 + 5)) < (32844 : Int)) ∧ (((0 : Int) ≤ (mm_w (v1 + 3)) ∧ (mm_w (v1 + 3)) < (32844 : Int)) ∧ (nr_M_lays 0 v1 (mm_w ((nn_ri M158 408 (mm_w (v1 + 5))) - 1)) (mm_w (v2 + 1)) (nn_ri M158 408 (mm_w (v1 + 3))) M158 (fun M185 => (((0 : Int) ≤ (mm_w (v1 + 7)) ∧ (mm_w (v1 + 7)) < (32844 : Int)) ∧ (∀ M197 : mm_M, M197 = nn_ui M185 408 (mm_w (v1 + 7)) 0 → (((0 : Int) ≤ (mm_w (v1 + 0)) ∧ (mm_w (v1 + 0)) < (32844 : Int)) ∧ (∀ M206 : mm_M, M206 = nn_ui M197 408 (mm_w (v1 + 0)) 2 → R 0 M206))))))))))) ∧ (v3 < (nn_ri M 408 (mm_w (v1 + 7))) → (((0 : Int) ≤ (mm_w (v1 + 5)) ∧ (mm_w (v1 + 5)) < (32844 : Int)) ∧ (((0 : Int) ≤ (mm_w ((mm_w (v1 + 47)) + (mm_w (3 * v3)))) ∧ (mm_w ((mm_w (v1 + 47)) + (mm_w (3 * v3)))) < (32844 : Int)) ∧ (((0 : Int) ≤ (mm_w ((mm_w ((mm_w (v1 + 47)) + (mm_w (3 * v3)))) + 1)) ∧ (mm_w ((mm_w ((mm_w (v1 + 47)) + (mm_w (3 * v3)))) + 1)) < (32844 : Int)) ∧ (((0 : Int) ≤ (mm_w ((mm_w ((mm_w (v1 + 47)) + (mm_w (3 * v3)))) + 2)) ∧ (mm_w ((mm_w ((mm_w (v1 + 47)) + (mm_w (3 * v3)))) + 2)) < (32844 : Int)) ∧ (nr_M_adds v1 (nn_ri M 408 (mm_w (v1 + 5))) (nn_ri M 408 (mm_w ((mm_w (v1 + 47)) + (mm_w (3 * v3))))) (nn_ri M 408 (mm_w ((mm_w ((mm_w (v1 + 47)) + (mm_w (3 * v3)))) + 1))) (nn_ri M 408 (mm_w ((mm_w ((mm_w (v1 + 47)) + (mm_w (3 * v3)))) + 2))) M (fun M147 => nk_M_ends_81 v1 v2 (mm_w (v3 + 1)) M147 R)))))))))) : nk_M_ends_81 v1 v2 v3 M R := by
  intro n L N 
  have NN := nn_L_n L N
  show mm_Go (mm_run 2) mc_M_ends _ (81, [(0, .inr (.inr 407)), (1, .inl v1), (2, .inl v2), (3, .inl v3)], [], M)
  refine mm_s1 rfl ?_
  refine mm_s1 rfl ?_
  refine nn_getr rfl (nn_c407 NN).1 (lf_13_0 L N (nn_c407 NN)) ?_
  refine mm_s1 rfl ?_
  refine mm_s1 rfl ?_
  show mm_Go (mm_run 2) mc_M_ends _ (89, [(0, .inr (.inr 407)), (1, .inl v1), (2, .inl v2), (3, .inl v3)], [.inl 7, .inl v1, .inr (.inr 408), .inl v3], M)
  refine mm_s1 rfl ?_
  obtain ⟨b90, h⟩ := h
  refine mm_s1 rfl ⟨nn_bd (na_13_0 NN (nn_c407 NN)) b90, ?_⟩
  show mm_Go (mm_run 2) mc_M_ends _ (91, [(0, .inr (.inr 407)), (1, .inl v1), (2, .inl v2), (3, .inl v3)], [.inl (nn_ri M 408 (mm_w (v1 + 7))), .inl v3], M)
  refine mm_s1 rfl ⟨fun c91 => ?_, fun c91 => ?_⟩
  · show mm_Go (mm_run 2) mc_M_ends _ (156, [(0, .inr (.inr 407)), (1, .inl v1), (2, .inl v2), (3, .inl v3)], [], M)
    replace h := h.1 c91
    refine mm_s1 rfl ?_
    refine mm_s1 rfl ?_
    refine mm_s1 rfl ⟨(nn_c407 NN).1, ?_⟩
    refine nn_call (D := 2) (by decide) (h n L N) ?_
    intro v M158 q; clear L N h
    obtain ⟨rfl, L, N, h⟩ := q
    show mm_Go (mm_run 2) mc_M_ends _ (161, [(0, .inr (.inr 407)), (1, .inl v1), (2, .inl v2), (3, .inl v3)], [], M158)
    refine mm_s1 rfl ?_
    refine mm_s1 rfl ?_
    refine mm_s1 rfl ?_
    refine mm_s1 rfl ?_
    refine nn_getr rfl (nn_c407 NN).1 (lf_13_0 L N (nn_c407 NN)) ?_
    show mm_Go (mm_run 2) mc_M_ends _ (168, [(0, .inr (.inr 407)), (1, .inl v1), (2, .inl v2), (3, .inl v3)], [.inr (.inr 408), .inl v1, .inl 0, .inr (.inr 407)], M158)
    refine mm_s1 rfl ?_
    refine mm_s1 rfl ?_
    refine mm_s1 rfl ?_
    obtain ⟨b171, h⟩ := h
    refine mm_s1 rfl ⟨nn_bd (na_13_0 NN (nn_c407 NN)) b171, ?_⟩
    show mm_Go (mm_run 2) mc_M_ends _ (172, [(0, .inr (.inr 407)), (1, .inl v1), (2, .inl v2), (3, .inl v3)], [.inl (nn_ri M158 408 (mm_w (v1 + 5))), .inl v1, .inl 0, .inr (.inr 407)], M158)
    refine mm_s1 rfl ?_
    refine mm_s1 rfl ?_
    refine mm_s1 rfl ?_
    refine mm_s1 rfl ?_
    refine mm_s1 rfl ?_
    show mm_Go (mm_run 2) mc_M_ends _ (177, [(0, .inr (.inr 407)), (1, .inl v1), (2, .inl v2), (3, .inl v3)], [.inl (mm_w (v2 + 1)), .inl (mm_w ((nn_ri M158 408 (mm_w (v1 + 5))) - 1)), .inl v1, .inl 0, .inr (.inr 407)], M158)
    refine mm_s1 rfl ?_
    refine nn_getr rfl (nn_c407 NN).1 (lf_13_0 L N (nn_c407 NN)) ?_
    refine mm_s1 rfl ?_
    refine mm_s1 rfl ?_
    refine mm_s1 rfl ?_
    show mm_Go (mm_run 2) mc_M_ends _ (184, [(0, .inr (.inr 407)), (1, .inl v1), (2, .inl v2), (3, .inl v3)], [.inl (mm_w (v1 + 3)), .inr (.inr 408), .inl (mm_w (v2 + 1)), .inl (mm_w ((nn_ri M158 408 (mm_w (v1 + 5))) - 1)), .inl v1, .inl 0, .inr (.inr 407)], M158)
    obtain ⟨b184, h⟩ := h
    refine mm_s1 rfl ⟨nn_bd (na_13_0 NN (nn_c407 NN)) b184, ?_⟩
    show mm_Go (mm_run 2) mc_M_ends _ (185, [(0, .inr (.inr 407)), (1, .inl v1), (2, .inl v2), (3, .inl v3)], [.inl (nn_ri M158 408 (mm_w (v1 + 3))), .inl (mm_w (v2 + 1)), .inl (mm_w ((nn_ri M158 408 (mm_w (v1 + 5))) - 1)), .inl v1, .inl 0, .inr (.inr 407)], M158)
    refine mm_s1 rfl ⟨(nn_c407 NN).1, ?_⟩
    refine nn_call (D := 2) (by decide) (h n L N) ?_
    intro v M185 q; clear L N h
    obtain ⟨rfl, L, N, h⟩ := q
    show mm_Go (mm_run 2) mc_M_ends _ (188, [(0, .inr (.inr 407)), (1, .inl v1), (2, .inl v2), (3, .inl v3)], [], M185)
    refine mm_s1 rfl ?_
    refine nn_getr rfl (nn_c407 NN).1 (lf_13_0 L N (nn_c407 NN)) ?_
    refine mm_s1 rfl ?_
    refine mm_s1 rfl ?_
    refine mm_s1 rfl ?_
    show mm_Go (mm_run 2) mc_M_ends _ (196, [(0, .inr (.inr 407)), (1, .inl v1), (2, .inl v2), (3, .inl v3)], [.inl (mm_w (v1 + 7)), .inr (.inr 408)], M185)
    refine mm_s1 rfl ?_
    obtain ⟨b197, h⟩ := h
    refine mm_s1 rfl ⟨nn_bd (na_13_0 NN (nn_c407 NN)) b197, ?_⟩
    show mm_Go (mm_run 2) mc_M_ends _ (198, [(0, .inr (.inr 407)), (1, .inl v1), (2, .inl v2), (3, .inl v3)], [], (nn_ui M185 408 (mm_w (v1 + 7)) 0))
    have L : nn_L (nn_ui M185 408 (mm_w (v1 + 7)) 0) := nn_L_ua L (congrArg Prod.fst (na_13_0 NN (nn_c407 NN))) (by decide)
    have N : (nn_ui M185 408 (mm_w (v1 + 7)) 0).1 = n := N
    generalize e_M197 : (nn_ui M185 408 (mm_w (v1 + 7)) 0) = M197 at L N ⊢
    replace h := h _ e_M197.symm
    show mm_Go (mm_run 2) mc_M_ends _ (198, [(0, .inr (.inr 407)), (1, .inl v1), (2, .inl v2), (3, .inl v3)], [], M197)
    refine mm_s1 rfl ?_
    refine nn_getr rfl (nn_c407 NN).1 (lf_13_0 L N (nn_c407 NN)) ?_
    refine mm_s1 rfl ?_
    refine mm_s1 rfl ?_
    refine mm_s1 rfl ?_
    show mm_Go (mm_run 2) mc_M_ends _ (205, [(0, .inr (.inr 407)), (1, .inl v1), (2, .inl v2), (3, .inl v3)], [.inl (mm_w (v1 + 0)), .inr (.inr 408)], M197)
    refine mm_s1 rfl ?_
    obtain ⟨b206, h⟩ := h
    refine mm_s1 rfl ⟨nn_bd (na_13_0 NN (nn_c407 NN)) b206, ?_⟩
    show mm_Go (mm_run 2) mc_M_ends _ (207, [(0, .inr (.inr 407)), (1, .inl v1), (2, .inl v2), (3, .inl v3)], [], (nn_ui M197 408 (mm_w (v1 + 0)) 2))
    have L : nn_L (nn_ui M197 408 (mm_w (v1 + 0)) 2) := nn_L_ua L (congrArg Prod.fst (na_13_0 NN (nn_c407 NN))) (by decide)
    have N : (nn_ui M197 408 (mm_w (v1 + 0)) 2).1 = n := N
    generalize e_M206 : (nn_ui M197 408 (mm_w (v1 + 0)) 2) = M206 at L N ⊢
    replace h := h _ e_M206.symm
    show mm_Go (mm_run 2) mc_M_ends _ (207, [(0, .inr (.inr 407)), (1, .inl v1), (2, .inl v2), (3, .inl v3)], [], M206)
    refine mm_s1 rfl ?_
    exact mm_s1 rfl ⟨_, rfl, L, N, h⟩
  · show mm_Go (mm_run 2) mc_M_ends _ (94, [(0, .inr (.inr 407)), (1, .inl v1), (2, .inl v2), (3, .inl v3)], [], M)
    replace c91 := Int.not_le.mp c91
    replace h := h.2 c91
    refine mm_s1 rfl ?_
    refine mm_s1 rfl ?_
    refine mm_s1 rfl ?_
    refine nn_getr rfl (nn_c407 NN).1 (lf_13_0 L N (nn_c407 NN)) ?_
    refine mm_s1 rfl ?_
    show mm_Go (mm_run 2) mc_M_ends _ (101, [(0, .inr (.inr 407)), (1, .inl v1), (2, .inl v2), (3, .inl v3)], [.inl v1, .inr (.inr 408), .inl v1, .inr (.inr 407)], M)
    refine mm_s1 rfl ?_
    refine mm_s1 rfl ?_
    obtain ⟨b103, h⟩ := h
    refine mm_s1 rfl ⟨nn_bd (na_13_0 NN (nn_c407 NN)) b103, ?_⟩
    show mm_Go (mm_run 2) mc_M_ends _ (104, [(0, .inr (.inr 407)), (1, .inl v1), (2, .inl v2), (3, .inl v3)], [.inl (nn_ri M 408 (mm_w (v1 + 5))), .inl v1, .inr (.inr 407)], M)
    refine mm_s1 rfl ?_
    refine nn_getr rfl (nn_c407 NN).1 (lf_13_0 L N (nn_c407 NN)) ?_
    refine mm_s1 rfl ?_
    refine mm_s1 rfl ?_
    refine mm_s1 rfl ?_
    show mm_Go (mm_run 2) mc_M_ends _ (112, [(0, .inr (.inr 407)), (1, .inl v1), (2, .inl v2), (3, .inl v3)], [.inl (mm_w (v1 + 47)), .inr (.inr 408), .inl (nn_ri M 408 (mm_w (v1 + 5))), .inl v1, .inr (.inr 407)], M)
    refine mm_s1 rfl ?_
    refine mm_s1 rfl ?_
    refine mm_s1 rfl ?_
    refine mm_s1 rfl ?_
    obtain ⟨b116, h⟩ := h
    refine mm_s1 rfl ⟨nn_bd (na_13_0 NN (nn_c407 NN)) b116, ?_⟩
    show mm_Go (mm_run 2) mc_M_ends _ (117, [(0, .inr (.inr 407)), (1, .inl v1), (2, .inl v2), (3, .inl v3)], [.inl (nn_ri M 408 (mm_w ((mm_w (v1 + 47)) + (mm_w (3 * v3))))), .inl (nn_ri M 408 (mm_w (v1 + 5))), .inl v1, .inr (.inr 407)], M)
    refine mm_s1 rfl ?_
    refine nn_getr rfl (nn_c407 NN).1 (lf_13_0 L N (nn_c407 NN)) ?_
    refine mm_s1 rfl ?_
    refine mm_s1 rfl ?_
    refine mm_s1 rfl ?_
    show mm_Go (mm_run 2) mc_M_ends _ (125, [(0, .inr (.inr 407)), (1, .inl v1), (2, .inl v2), (3, .inl v3)], [.inl (mm_w (v1 + 47)), .inr (.inr 408), .inl (nn_ri M 408 (mm_w ((mm_w (v1 + 47)) + (mm_w (3 * v3))))), .inl (nn_ri M 408 (mm_w (v1 + 5))), .inl v1, .inr (.inr 407)], M)
    refine mm_s1 rfl ?_
    refine mm_s1 rfl ?_
    refine mm_s1 rfl ?_
    refine mm_s1 rfl ?_
    refine mm_s1 rfl ?_
    show mm_Go (mm_run 2) mc_M_ends _ (130, [(0, .inr (.inr 407)), (1, .inl v1), (2, .inl v2), (3, .inl v3)], [.inl 1, .inl (mm_w ((mm_w (v1 + 47)) + (mm_w (3 * v3)))), .inr (.inr 408), .inl (nn_ri M 408 (mm_w ((mm_w (v1 + 47)) + (mm_w (3 * v3))))), .inl (nn_ri M 408 (mm_w (v1 + 5))), .inl v1, .inr (.inr 407)], M)
    refine mm_s1 rfl ?_
    obtain ⟨b131, h⟩ := h
    refine mm_s1 rfl ⟨nn_bd (na_13_0 NN (nn_c407 NN)) b131, ?_⟩
    show mm_Go (mm_run 2) mc_M_ends _ (132, [(0, .inr (.inr 407)), (1, .inl v1), (2, .inl v2), (3, .inl v3)], [.inl (nn_ri M 408 (mm_w ((mm_w ((mm_w (v1 + 47)) + (mm_w (3 * v3)))) + 1))), .inl (nn_ri M 408 (mm_w ((mm_w (v1 + 47)) + (mm_w (3 * v3))))), .inl (nn_ri M 408 (mm_w (v1 + 5))), .inl v1, .inr (.inr 407)], M)
    refine mm_s1 rfl ?_
    refine nn_getr rfl (nn_c407 NN).1 (lf_13_0 L N (nn_c407 NN)) ?_
    refine mm_s1 rfl ?_
    refine mm_s1 rfl ?_
    refine mm_s1 rfl ?_
    show mm_Go (mm_run 2) mc_M_ends _ (140, [(0, .inr (.inr 407)), (1, .inl v1), (2, .inl v2), (3, .inl v3)], [.inl (mm_w (v1 + 47)), .inr (.inr 408), .inl (nn_ri M 408 (mm_w ((mm_w ((mm_w (v1 + 47)) + (mm_w (3 * v3)))) + 1))), .inl (nn_ri M 408 (mm_w ((mm_w (v1 + 47)) + (mm_w (3 * v3))))), .inl (nn_ri M 408 (mm_w (v1 + 5))), .inl v1, .inr (.inr 407)], M)
    refine mm_s1 rfl ?_
    refine mm_s1 rfl ?_
    refine mm_s1 rfl ?_
    refine mm_s1 rfl ?_
    refine mm_s1 rfl ?_
    show mm_Go (mm_run 2) mc_M_ends _ (145, [(0, .inr (.inr 407)), (1, .inl v1), (2, .inl v2), (3, .inl v3)], [.inl 2, .inl (mm_w ((mm_w (v1 + 47)) + (mm_w (3 * v3)))), .inr (.inr 408), .inl (nn_ri M 408 (mm_w ((mm_w ((mm_w (v1 + 47)) + (mm_w (3 * v3)))) + 1))), .inl (nn_ri M 408 (mm_w ((mm_w (v1 + 47)) + (mm_w (3 * v3))))), .inl (nn_ri M 408 (mm_w (v1 + 5))), .inl v1, .inr (.inr 407)], M)
    refine mm_s1 rfl ?_
    obtain ⟨b146, h⟩ := h
    refine mm_s1 rfl ⟨nn_bd (na_13_0 NN (nn_c407 NN)) b146, ?_⟩
    show mm_Go (mm_run 2) mc_M_ends _ (147, [(0, .inr (.inr 407)), (1, .inl v1), (2, .inl v2), (3, .inl v3)], [.inl (nn_ri M 408 (mm_w ((mm_w ((mm_w (v1 + 47)) + (mm_w (3 * v3)))) + 2))), .inl (nn_ri M 408 (mm_w ((mm_w ((mm_w (v1 + 47)) + (mm_w (3 * v3)))) + 1))), .inl (nn_ri M 408 (mm_w ((mm_w (v1 + 47)) + (mm_w (3 * v3))))), .inl (nn_ri M 408 (mm_w (v1 + 5))), .inl v1, .inr (.inr 407)], M)
    refine mm_s1 rfl ⟨(nn_c407 NN).1, ?_⟩
    refine nn_call (D := 2) (by decide) (h n L N) ?_
    intro v M147 q; clear L N h
    obtain ⟨rfl, L, N, h⟩ := q
    show mm_Go (mm_run 2) mc_M_ends _ (150, [(0, .inr (.inr 407)), (1, .inl v1), (2, .inl v2), (3, .inl v3)], [], M147)
    refine mm_s1 rfl ?_
    show mm_Go (mm_run 2) mc_M_ends _ (153, [(0, .inr (.inr 407)), (1, .inl v1), (2, .inl v2), (3, .inl (mm_w (v3 + 1)))], [], M147)
    refine mm_s1 rfl ?_
    show mm_Go (mm_run 2) mc_M_ends _ (81, [(0, .inr (.inr 407)), (1, .inl v1), (2, .inl v2), (3, .inl (mm_w (v3 + 1)))], [], M147)
    exact nn_go_ext (nn_xc rfl (nn_xc rfl (nn_xc rfl (nn_xc rfl nn_xn)))) (h n L N)
def nr_M_looks (v1 : Int) (v2 : Int) (M : mm_M) (R : Int → mm_M → Prop) : Prop := ∀ n, nn_L M → M.1 = n → mm_run 3 mi_M_looks [.inr (.inr 407), .inl v1, .inl v2] M (nw_I n R)
def nk_M_looks_59 (v3 : Int) (v4 : Int) (v5 : Int) (v6 : Int) (M : mm_M) (R : Int → mm_M → Prop) : Prop := ∀ n, nn_L M → M.1 = n → mm_Go (mm_run 2) mc_M_looks (nw_I n R) (59, [(0, .inr (.inr 407)), (3, .inl v3), (4, .inl v4), (5, .inl v5), (6, .inl v6)], [], M)
set_option maxRecDepth 20000 in
theorem ng_M_looks (v1 : Int) (v2 : Int) (M : mm_M) (R : Int → mm_M → Prop) (h : (((0 : Int) ≤ (mm_w (v2 + 2)) ∧ (mm_w (v2 + 2)) < (32844 : Int)) ∧ (((0 : Int) ≤ v2 ∧ v2 < (32844 : Int)) ∧ ((((nn_ri M 408 v2) ≠ 0) → ((0 : Int) ≤ (mm_w (24 + (nn_ri M 408 (mm_w (v2 + 2))))) ∧ (mm_w (24 + (nn_ri M 408 (mm_w (v2 + 2))))) < (32844 : Int))) ∧ (((nn_ri M 408 v2) ≠ 0) ∧ ((nn_ri M 408 (mm_w (24 + (nn_ri M 408 (mm_w (v2 + 2)))))) ≤ 0) → ((0 : Int) ≤ v2 ∧ v2 < (32844 : Int))) ∧ (((nn_ri M 408 v2) ≠ 0) ∧ ((nn_ri M 408 (mm_w (24 + (nn_ri M 408 (mm_w (v2 + 2)))))) ≤ 0) → ((0 : Int) ≤ (mm_w ((nf_M_head v1 (mm_w ((nn_ri M 408 v2) - 1))) + 2)) ∧ (mm_w ((nf_M_head v1 (mm_w ((nn_ri M 408 v2) - 1))) + 2)) < (32844 : Int))) ∧ (((nn_ri M 408 v2) = 0 ∨ (0 < (nn_ri M 408 (mm_w (24 + (nn_ri M 408 (mm_w (v2 + 2)))))))) → R 1 M) ∧ (((nn_ri M 408 v2) ≠ 0 ∧ ((nn_ri M 408 (mm_w (24 + (nn_ri M 408 (mm_w (v2 + 2)))))) ≤ 0)) → (∀ x4_51 : Int, x4_51 = nn_ri M 408 (mm_w ((nf_M_head v1 (mm_w ((nn_ri M 408 v2) - 1))) + 2)) → nk_M_looks_59 (nn_ri M 408 (mm_w (v2 + 2))) x4_51 1 0 M R)))))) : nr_M_looks v1 v2 M R := by
  intro n L N 
  have NN := nn_L_n L N
  show mm_Go (mm_run 2) mc_M_looks _ (0, [(0, .inr (.inr 407)), (1, .inl v1), (2, .inl v2)], [], M)
  refine mm_s1 rfl ?_
  refine nn_getr rfl (nn_c407 NN).1 (lf_13_0 L N (nn_c407 NN)) ?_
  refine mm_s1 rfl ?_
  refine mm_s1 rfl ?_
  refine mm_s1 rfl ?_
  show mm_Go (mm_run 2) mc_M_looks _ (7, [(0, .inr (.inr 407)), (1, .inl v1), (2, .inl v2)], [.inl (mm_w (v2 + 2)), .inr (.inr 408)], M)
  obtain ⟨b7, h⟩ := h
  refine mm_s1 rfl ⟨nn_bd (na_13_0 NN (nn_c407 NN)) b7, ?_⟩
  show mm_Go (mm_run 2) mc_M_looks _ (8, [(0, .inr (.inr 407)), (1, .inl v1), (2, .inl v2)], [.inl (nn_ri M 408 (mm_w (v2 + 2)))], M)
  refine mm_s1 rfl ?_
  show mm_Go (mm_run 2) mc_M_looks _ (9, [(0, .inr (.inr 407)), (1, .inl v1), (2, .inl v2), (3, .inl (nn_ri M 408 (mm_w (v2 + 2))))], [], M)
  refine mm_s1 rfl ?_
  refine nn_getr rfl (nn_c407 NN).1 (lf_13_0 L N (nn_c407 NN)) ?_
  refine mm_s1 rfl ?_
  obtain ⟨b14, h⟩ := h
  refine mm_s1 rfl ⟨nn_bd (na_13_0 NN (nn_c407 NN)) b14, ?_⟩
  show mm_Go (mm_run 2) mc_M_looks _ (15, [(0, .inr (.inr 407)), (1, .inl v1), (2, .inl v2), (3, .inl (nn_ri M 408 (mm_w (v2 + 2))))], [.inl (nn_ri M 408 v2)], M)
  refine mm_s1 rfl ⟨fun c15 => ?_, fun c15 => ?_⟩
  · show mm_Go (mm_run 2) mc_M_looks _ (30, [(0, .inr (.inr 407)), (1, .inl v1), (2, .inl v2), (3, .inl (nn_ri M 408 (mm_w (v2 + 2))))], [], M)
    refine mm_s1 rfl ?_
    replace h := h.2.2.2.1 (Or.inl c15)
    exact mm_s1 rfl ⟨_, rfl, L, N, h⟩
  · show mm_Go (mm_run 2) mc_M_looks _ (18, [(0, .inr (.inr 407)), (1, .inl v1), (2, .inl v2), (3, .inl (nn_ri M 408 (mm_w (v2 + 2))))], [], M)
    refine mm_s1 rfl ?_
    refine nn_getr rfl (nn_c407 NN).1 (lf_13_0 L N (nn_c407 NN)) ?_
    refine mm_s1 rfl ?_
    refine mm_s1 rfl ?_
    refine mm_s1 rfl ?_
    show mm_Go (mm_run 2) mc_M_looks _ (26, [(0, .inr (.inr 407)), (1, .inl v1), (2, .inl v2), (3, .inl (nn_ri M 408 (mm_w (v2 + 2))))], [.inl (mm_w (24 + (nn_ri M 408 (mm_w (v2 + 2))))), .inr (.inr 408)], M)
    have b26 := h.1 c15
    refine mm_s1 rfl ⟨nn_bd (na_13_0 NN (nn_c407 NN)) b26, ?_⟩
    show mm_Go (mm_run 2) mc_M_looks _ (27, [(0, .inr (.inr 407)), (1, .inl v1), (2, .inl v2), (3, .inl (nn_ri M 408 (mm_w (v2 + 2))))], [.inl (nn_ri M 408 (mm_w (24 + (nn_ri M 408 (mm_w (v2 + 2))))))], M)
    refine mm_s1 rfl ⟨fun c27 => ?_, fun c27 => ?_⟩
    · show mm_Go (mm_run 2) mc_M_looks _ (32, [(0, .inr (.inr 407)), (1, .inl v1), (2, .inl v2), (3, .inl (nn_ri M 408 (mm_w (v2 + 2))))], [], M)
      refine mm_s1 rfl ?_
      refine nn_getr rfl (nn_c407 NN).1 (lf_13_0 L N (nn_c407 NN)) ?_
      refine mm_s1 rfl ?_
      refine mm_s1 rfl ?_
      refine nn_getr rfl (nn_c407 NN).1 (lf_13_0 L N (nn_c407 NN)) ?_
      show mm_Go (mm_run 2) mc_M_looks _ (41, [(0, .inr (.inr 407)), (1, .inl v1), (2, .inl v2), (3, .inl (nn_ri M 408 (mm_w (v2 + 2))))], [.inr (.inr 408), .inl v1, .inr (.inr 408)], M)
      refine mm_s1 rfl ?_
      have b42 := h.2.1 ⟨c15, c27⟩
      refine mm_s1 rfl ⟨nn_bd (na_13_0 NN (nn_c407 NN)) b42, ?_⟩
      show mm_Go (mm_run 2) mc_M_looks _ (43, [(0, .inr (.inr 407)), (1, .inl v1), (2, .inl v2), (3, .inl (nn_ri M 408 (mm_w (v2 + 2))))], [.inl (nn_ri M 408 v2), .inl v1, .inr (.inr 408)], M)
      refine mm_s1 rfl ?_
      refine mm_s1 rfl ?_
      refine mm_s1 rfl ⟨trivial, ?_⟩
      refine np_M_head (by decide) L N ?_
      show mm_Go (mm_run 2) mc_M_looks _ (48, [(0, .inr (.inr 407)), (1, .inl v1), (2, .inl v2), (3, .inl (nn_ri M 408 (mm_w (v2 + 2))))], [.inl (nf_M_head v1 (mm_w ((nn_ri M 408 v2) - 1))), .inr (.inr 408)], M)
      refine mm_s1 rfl ?_
      refine mm_s1 rfl ?_
      have b50 := h.2.2.1 ⟨c15, c27⟩
      refine mm_s1 rfl ⟨nn_bd (na_13_0 NN (nn_c407 NN)) b50, ?_⟩
      show mm_Go (mm_run 2) mc_M_looks _ (51, [(0, .inr (.inr 407)), (1, .inl v1), (2, .inl v2), (3, .inl (nn_ri M 408 (mm_w (v2 + 2))))], [.inl (nn_ri M 408 (mm_w ((nf_M_head v1 (mm_w ((nn_ri M 408 v2) - 1))) + 2)))], M)
      replace h := h.2.2.2.2 ⟨c15, c27⟩
      refine mm_s1 rfl ?_
      show mm_Go (mm_run 2) mc_M_looks _ (53, [(0, .inr (.inr 407)), (1, .inl v1), (2, .inl v2), (3, .inl (nn_ri M 408 (mm_w (v2 + 2)))), (4, .inl (nn_ri M 408 (mm_w ((nf_M_head v1 (mm_w ((nn_ri M 408 v2) - 1))) + 2))))], [], M)
      generalize e_x4_51 : (nn_ri M 408 (mm_w ((nf_M_head v1 (mm_w ((nn_ri M 408 v2) - 1))) + 2))) = x4_51
      replace h := h _ e_x4_51.symm
      show mm_Go (mm_run 2) mc_M_looks _ (53, [(0, .inr (.inr 407)), (1, .inl v1), (2, .inl v2), (3, .inl (nn_ri M 408 (mm_w (v2 + 2)))), (4, .inl x4_51)], [], M)
      refine mm_s1 rfl ?_
      refine mm_s1 rfl ?_
      show mm_Go (mm_run 2) mc_M_looks _ (56, [(0, .inr (.inr 407)), (1, .inl v1), (2, .inl v2), (3, .inl (nn_ri M 408 (mm_w (v2 + 2)))), (4, .inl x4_51), (5, .inl 1)], [], M)
      refine mm_s1 rfl ?_
      refine mm_s1 rfl ?_
      show mm_Go (mm_run 2) mc_M_looks _ (59, [(0, .inr (.inr 407)), (1, .inl v1), (2, .inl v2), (3, .inl (nn_ri M 408 (mm_w (v2 + 2)))), (4, .inl x4_51), (5, .inl 1), (6, .inl 0)], [], M)
      exact nn_go_ext (nn_xc rfl (nn_xc rfl (nn_xc rfl (nn_xc rfl (nn_xc rfl nn_xn))))) (h n L N)
    · show mm_Go (mm_run 2) mc_M_looks _ (30, [(0, .inr (.inr 407)), (1, .inl v1), (2, .inl v2), (3, .inl (nn_ri M 408 (mm_w (v2 + 2))))], [], M)
      replace c27 := Int.not_le.mp c27
      refine mm_s1 rfl ?_
      replace h := h.2.2.2.1 (Or.inr c27)
      exact mm_s1 rfl ⟨_, rfl, L, N, h⟩
set_option maxRecDepth 20000 in
theorem ng_M_looks_59 (v3 : Int) (v4 : Int) (v5 : Int) (v6 : Int) (M : mm_M) (R : Int → mm_M → Prop) (h : (((nn_ri M 408 5) ≤ v6 → R v5 M) ∧ (v6 < (nn_ri M 408 5) → (((0 : Int) ≤ (mm_w ((nf_M_runAt 0 v6) + 3)) ∧ (mm_w ((nf_M_runAt 0 v6) + 3)) < (32844 : Int)) ∧ (((nn_ri M 408 (mm_w ((nf_M_runAt 0 v6) + 3))) ≤ v4 → nk_M_looks_59 v3 v4 v5 (mm_w (v6 + 1)) M R) ∧ (v4 < (nn_ri M 408 (mm_w ((nf_M_runAt 0 v6) + 3))) → (nr_M_filter v6 M (fun r91 M91 => (((0 : Int) ≤ v3 ∧ (0 : Int) < 8) ∧ (((mm_and (mm_shr r91 (v3 % 8)) 1) ≠ 0 → (((0 : Int) ≤ (mm_w ((mm_w ((nf_M_runAt 0 v6) + 4)) + v3)) ∧ (mm_w ((mm_w ((nf_M_runAt 0 v6) + 4)) + v3)) < (32844 : Int)) ∧ (((nn_ri M91 408 (mm_w ((mm_w ((nf_M_runAt 0 v6) + 4)) + v3))) ≤ 0 → nk_M_looks_59 v3 v4 (mm_w (v5 + 1)) (mm_w (v6 + 1)) M91 R) ∧ (0 < (nn_ri M91 408 (mm_w ((mm_w ((nf_M_runAt 0 v6) + 4)) + v3))) → R (mm_w (v5 + 1)) M91)))) ∧ ((mm_and (mm_shr r91 (v3 % 8)) 1) = 0 → nk_M_looks_59 v3 v4 v5 (mm_w (v6 + 1)) M91 R))))))))))) : nk_M_looks_59 v3 v4 v5 v6 M R := by
  intro n L N 
  have NN := nn_L_n L N
  show mm_Go (mm_run 2) mc_M_looks _ (59, [(0, .inr (.inr 407)), (3, .inl v3), (4, .inl v4), (5, .inl v5), (6, .inl v6)], [], M)
  refine mm_s1 rfl ?_
  refine mm_s1 rfl ?_
  refine nn_getr rfl (nn_c407 NN).1 (lf_13_0 L N (nn_c407 NN)) ?_
  refine mm_s1 rfl ?_
  refine mm_s1 rfl ⟨nn_bd (na_13_0 NN (nn_c407 NN)) (by decide), ?_⟩
  show mm_Go (mm_run 2) mc_M_looks _ (67, [(0, .inr (.inr 407)), (3, .inl v3), (4, .inl v4), (5, .inl v5), (6, .inl v6)], [.inl (nn_ri M 408 5), .inl v6], M)
  refine mm_s1 rfl ⟨fun c67 => ?_, fun c67 => ?_⟩
  · show mm_Go (mm_run 2) mc_M_looks _ (137, [(0, .inr (.inr 407)), (3, .inl v3), (4, .inl v4), (5, .inl v5), (6, .inl v6)], [], M)
    replace h := h.1 c67
    refine mm_s1 rfl ?_
    exact mm_s1 rfl ⟨_, rfl, L, N, h⟩
  · show mm_Go (mm_run 2) mc_M_looks _ (70, [(0, .inr (.inr 407)), (3, .inl v3), (4, .inl v4), (5, .inl v5), (6, .inl v6)], [], M)
    replace c67 := Int.not_le.mp c67
    replace h := h.2 c67
    refine mm_s1 rfl ?_
    refine nn_getr rfl (nn_c407 NN).1 (lf_13_0 L N (nn_c407 NN)) ?_
    refine mm_s1 rfl ?_
    refine mm_s1 rfl ?_
    refine mm_s1 rfl ⟨trivial, ?_⟩
    refine np_M_runAt (by decide) L N ?_
    show mm_Go (mm_run 2) mc_M_looks _ (80, [(0, .inr (.inr 407)), (3, .inl v3), (4, .inl v4), (5, .inl v5), (6, .inl v6)], [.inl (nf_M_runAt 0 v6), .inr (.inr 408)], M)
    refine mm_s1 rfl ?_
    refine mm_s1 rfl ?_
    obtain ⟨b82, h⟩ := h
    refine mm_s1 rfl ⟨nn_bd (na_13_0 NN (nn_c407 NN)) b82, ?_⟩
    show mm_Go (mm_run 2) mc_M_looks _ (83, [(0, .inr (.inr 407)), (3, .inl v3), (4, .inl v4), (5, .inl v5), (6, .inl v6)], [.inl (nn_ri M 408 (mm_w ((nf_M_runAt 0 v6) + 3)))], M)
    refine mm_s1 rfl ?_
    refine mm_s1 rfl ⟨fun c85 => ?_, fun c85 => ?_⟩
    · show mm_Go (mm_run 2) mc_M_looks _ (131, [(0, .inr (.inr 407)), (3, .inl v3), (4, .inl v4), (5, .inl v5), (6, .inl v6)], [], M)
      replace h := h.1 c85
      refine mm_s1 rfl ?_
      show mm_Go (mm_run 2) mc_M_looks _ (134, [(0, .inr (.inr 407)), (3, .inl v3), (4, .inl v4), (5, .inl v5), (6, .inl (mm_w (v6 + 1)))], [], M)
      refine mm_s1 rfl ?_
      show mm_Go (mm_run 2) mc_M_looks _ (59, [(0, .inr (.inr 407)), (3, .inl v3), (4, .inl v4), (5, .inl v5), (6, .inl (mm_w (v6 + 1)))], [], M)
      exact nn_go_ext (nn_xc rfl (nn_xc rfl (nn_xc rfl (nn_xc rfl (nn_xc rfl nn_xn))))) (h n L N)
    · show mm_Go (mm_run 2) mc_M_looks _ (88, [(0, .inr (.inr 407)), (3, .inl v3), (4, .inl v4), (5, .inl v5), (6, .inl v6)], [], M)
      replace c85 := Int.not_le.mp c85
      replace h := h.2 c85
      refine mm_s1 rfl ?_
      refine mm_s1 rfl ?_
      refine mm_s1 rfl ⟨(nn_c407 NN).1, ?_⟩
      refine nn_call (D := 2) (by decide) (h n L N) ?_
      intro v M91 q; clear L N h
      obtain ⟨r91, rfl, L, N, h⟩ := q
      show mm_Go (mm_run 2) mc_M_looks _ (94, [(0, .inr (.inr 407)), (3, .inl v3), (4, .inl v4), (5, .inl v5), (6, .inl v6)], [.inl r91], M91)
      refine mm_s1 rfl ?_
      refine mm_s1 rfl ?_
      obtain ⟨b97, h⟩ := h
      refine mm_s1 rfl ⟨b97, ?_⟩
      refine mm_s1 rfl ?_
      refine mm_s1 rfl ?_
      show mm_Go (mm_run 2) mc_M_looks _ (100, [(0, .inr (.inr 407)), (3, .inl v3), (4, .inl v4), (5, .inl v5), (6, .inl v6)], [.inl 1, .inl (mm_shr r91 (v3 % 8))], M91)
      refine mm_s1 rfl ?_
      refine mm_s1 rfl ⟨fun c101 => ?_, fun c101 => ?_⟩
      · show mm_Go (mm_run 2) mc_M_looks _ (107, [(0, .inr (.inr 407)), (3, .inl v3), (4, .inl v4), (5, .inl v5), (6, .inl v6)], [], M91)
        replace h := h.1 c101
        refine mm_s1 rfl ?_
        show mm_Go (mm_run 2) mc_M_looks _ (110, [(0, .inr (.inr 407)), (3, .inl v3), (4, .inl v4), (5, .inl (mm_w (v5 + 1))), (6, .inl v6)], [], M91)
        refine mm_s1 rfl ?_
        refine nn_getr rfl (nn_c407 NN).1 (lf_13_0 L N (nn_c407 NN)) ?_
        refine mm_s1 rfl ?_
        refine mm_s1 rfl ?_
        refine mm_s1 rfl ⟨trivial, ?_⟩
        refine np_M_runAt (by decide) L N ?_
        show mm_Go (mm_run 2) mc_M_looks _ (120, [(0, .inr (.inr 407)), (3, .inl v3), (4, .inl v4), (5, .inl (mm_w (v5 + 1))), (6, .inl v6)], [.inl (nf_M_runAt 0 v6), .inr (.inr 408)], M91)
        refine mm_s1 rfl ?_
        refine mm_s1 rfl ?_
        refine mm_s1 rfl ?_
        refine mm_s1 rfl ?_
        obtain ⟨b124, h⟩ := h
        refine mm_s1 rfl ⟨nn_bd (na_13_0 NN (nn_c407 NN)) b124, ?_⟩
        show mm_Go (mm_run 2) mc_M_looks _ (125, [(0, .inr (.inr 407)), (3, .inl v3), (4, .inl v4), (5, .inl (mm_w (v5 + 1))), (6, .inl v6)], [.inl (nn_ri M91 408 (mm_w ((mm_w ((nf_M_runAt 0 v6) + 4)) + v3)))], M91)
        refine mm_s1 rfl ⟨fun c125 => ?_, fun c125 => ?_⟩
        · show mm_Go (mm_run 2) mc_M_looks _ (131, [(0, .inr (.inr 407)), (3, .inl v3), (4, .inl v4), (5, .inl (mm_w (v5 + 1))), (6, .inl v6)], [], M91)
          replace h := h.1 c125
          refine mm_s1 rfl ?_
          show mm_Go (mm_run 2) mc_M_looks _ (134, [(0, .inr (.inr 407)), (3, .inl v3), (4, .inl v4), (5, .inl (mm_w (v5 + 1))), (6, .inl (mm_w (v6 + 1)))], [], M91)
          refine mm_s1 rfl ?_
          show mm_Go (mm_run 2) mc_M_looks _ (59, [(0, .inr (.inr 407)), (3, .inl v3), (4, .inl v4), (5, .inl (mm_w (v5 + 1))), (6, .inl (mm_w (v6 + 1)))], [], M91)
          exact nn_go_ext (nn_xc rfl (nn_xc rfl (nn_xc rfl (nn_xc rfl (nn_xc rfl nn_xn))))) (h n L N)
        · show mm_Go (mm_run 2) mc_M_looks _ (128, [(0, .inr (.inr 407)), (3, .inl v3), (4, .inl v4), (5, .inl (mm_w (v5 + 1))), (6, .inl v6)], [], M91)
          replace c125 := Int.not_le.mp c125
          replace h := h.2 c125
          refine mm_s1 rfl ?_
          exact mm_s1 rfl ⟨_, rfl, L, N, h⟩
      · show mm_Go (mm_run 2) mc_M_looks _ (104, [(0, .inr (.inr 407)), (3, .inl v3), (4, .inl v4), (5, .inl v5), (6, .inl v6)], [], M91)
        replace c101 := Decidable.not_not.mp c101
        replace h := h.2 c101
        refine mm_s1 rfl ?_
        show mm_Go (mm_run 2) mc_M_looks _ (131, [(0, .inr (.inr 407)), (3, .inl v3), (4, .inl v4), (5, .inl v5), (6, .inl v6)], [], M91)
        refine mm_s1 rfl ?_
        show mm_Go (mm_run 2) mc_M_looks _ (134, [(0, .inr (.inr 407)), (3, .inl v3), (4, .inl v4), (5, .inl v5), (6, .inl (mm_w (v6 + 1)))], [], M91)
        refine mm_s1 rfl ?_
        show mm_Go (mm_run 2) mc_M_looks _ (59, [(0, .inr (.inr 407)), (3, .inl v3), (4, .inl v4), (5, .inl v5), (6, .inl (mm_w (v6 + 1)))], [], M91)
        exact nn_go_ext (nn_xc rfl (nn_xc rfl (nn_xc rfl (nn_xc rfl (nn_xc rfl nn_xn))))) (h n L N)
def nr_M_next (v1 : Int) (M : mm_M) (R : Int → mm_M → Prop) : Prop := ∀ n, nn_L M → M.1 = n → mm_run 3 mi_M_next [.inr (.inr 407), .inl v1] M (nw_I n R)
set_option maxRecDepth 20000 in
theorem ng_M_next (v1 : Int) (M : mm_M) (R : Int → mm_M → Prop) (h : ((nc_M_isOpen v1 M) ∧ ((((nf_M_isOpen v1 M) ≠ 0) ∧ (0 ≤ (nf_M_cursorAt 0 v1)) → ((0 : Int) ≤ (mm_w ((nf_M_cursorAt 0 v1) + 2)) ∧ (mm_w ((nf_M_cursorAt 0 v1) + 2)) < (32844 : Int))) ∧ (((nf_M_isOpen v1 M) ≠ 0) ∧ (0 ≤ (nf_M_cursorAt 0 v1)) → ((0 : Int) ≤ (mm_w ((nf_M_cursorAt 0 v1) + 1)) ∧ (mm_w ((nf_M_cursorAt 0 v1) + 1)) < (32844 : Int))) ∧ (((nf_M_isOpen v1 M) ≠ 0) ∧ (0 ≤ (nf_M_cursorAt 0 v1)) ∧ ((nn_ri M 408 (mm_w ((nf_M_cursorAt 0 v1) + 2))) ≠ (nn_ri M 408 (mm_w ((nf_M_cursorAt 0 v1) + 1)))) → ((0 : Int) ≤ (mm_w ((nf_M_cursorAt 0 v1) + 2)) ∧ (mm_w ((nf_M_cursorAt 0 v1) + 2)) < (32844 : Int))) ∧ (((nf_M_isOpen v1 M) ≠ 0) ∧ (0 ≤ (nf_M_cursorAt 0 v1)) ∧ ((nn_ri M 408 (mm_w ((nf_M_cursorAt 0 v1) + 2))) ≠ (nn_ri M 408 (mm_w ((nf_M_cursorAt 0 v1) + 1)))) → ((0 : Int) ≤ (mm_w ((nf_M_cursorAt 0 v1) + 2)) ∧ (mm_w ((nf_M_cursorAt 0 v1) + 2)) < (32844 : Int))) ∧ (((nf_M_isOpen v1 M) = 0 ∨ ((nf_M_cursorAt 0 v1) < 0 ∨ ((nn_ri M 408 (mm_w ((nf_M_cursorAt 0 v1) + 2))) = (nn_ri M 408 (mm_w ((nf_M_cursorAt 0 v1) + 1)))))) → R (-1) M) ∧ (((nf_M_isOpen v1 M) ≠ 0 ∧ (0 ≤ (nf_M_cursorAt 0 v1) ∧ ((nn_ri M 408 (mm_w ((nf_M_cursorAt 0 v1) + 2))) ≠ (nn_ri M 408 (mm_w ((nf_M_cursorAt 0 v1) + 1)))))) → (∀ M54 : mm_M, M54 = nn_ui M 408 (mm_w ((nf_M_cursorAt 0 v1) + 2)) (mm_w ((nn_ri M 408 (mm_w ((nf_M_cursorAt 0 v1) + 2))) + 1)) → (((0 : Int) ≤ (mm_w ((nf_M_cursorAt 0 v1) + 2)) ∧ (mm_w ((nf_M_cursorAt 0 v1) + 2)) < (32844 : Int)) ∧ (((0 : Int) ≤ (mm_w ((mm_w ((nf_M_cursorAt 0 v1) + 2)) + (nn_ri M54 408 (mm_w ((nf_M_cursorAt 0 v1) + 2))))) ∧ (mm_w ((mm_w ((nf_M_cursorAt 0 v1) + 2)) + (nn_ri M54 408 (mm_w ((nf_M_cursorAt 0 v1) + 2))))) < (32844 : Int)) ∧ R (nn_ri M54 408 (mm_w ((mm_w ((nf_M_cursorAt 0 v1) + 2)) + (nn_ri M54 408 (mm_w ((nf_M_cursorAt 0 v1) + 2)))))) M54))))))) : nr_M_next v1 M R := by
  intro n L N 
  have NN := nn_L_n L N
  show mm_Go (mm_run 2) mc_M_next _ (0, [(0, .inr (.inr 407)), (1, .inl v1)], [], M)
  refine mm_s1 rfl ?_
  refine mm_s1 rfl ?_
  obtain ⟨b2, h⟩ := h
  refine mm_s1 rfl ⟨(nn_c407 NN).1, ?_⟩
  refine np_M_isOpen (by decide) L N b2 ?_
  show mm_Go (mm_run 2) mc_M_next _ (5, [(0, .inr (.inr 407)), (1, .inl v1)], [.inl (nf_M_isOpen v1 M)], M)
  refine mm_s1 rfl ⟨fun c5 => ?_, fun c5 => ?_⟩
  · show mm_Go (mm_run 2) mc_M_next _ (16, [(0, .inr (.inr 407)), (1, .inl v1)], [], M)
    refine mm_s1 rfl ?_
    refine mm_s1 rfl ?_
    show mm_Go (mm_run 2) mc_M_next _ (18, [(0, .inr (.inr 407)), (1, .inl v1), (2, .inl (-1))], [], M)
    refine mm_s1 rfl ?_
    refine mm_s1 rfl ⟨fun _ => ?_, fun c => absurd (show (-1 : Int) < 0 by decide) c⟩
    show mm_Go (mm_run 2) mc_M_next _ (41, [(0, .inr (.inr 407)), (1, .inl v1), (2, .inl (-1))], [], M)
    refine mm_s1 rfl ?_
    replace h := h.2.2.2.2.1 (Or.inl c5)
    exact mm_s1 rfl ⟨_, rfl, L, N, h⟩
  · show mm_Go (mm_run 2) mc_M_next _ (8, [(0, .inr (.inr 407)), (1, .inl v1)], [], M)
    refine mm_s1 rfl ?_
    refine mm_s1 rfl ?_
    refine mm_s1 rfl ⟨trivial, ?_⟩
    refine np_M_cursorAt (by decide) L N ?_
    show mm_Go (mm_run 2) mc_M_next _ (13, [(0, .inr (.inr 407)), (1, .inl v1)], [.inl (nf_M_cursorAt 0 v1)], M)
    refine mm_s1 rfl ?_
    show mm_Go (mm_run 2) mc_M_next _ (17, [(0, .inr (.inr 407)), (1, .inl v1)], [.inl (nf_M_cursorAt 0 v1)], M)
    refine mm_s1 rfl ?_
    show mm_Go (mm_run 2) mc_M_next _ (18, [(0, .inr (.inr 407)), (1, .inl v1), (2, .inl (nf_M_cursorAt 0 v1))], [], M)
    refine mm_s1 rfl ?_
    refine mm_s1 rfl ⟨fun c19 => ?_, fun c19 => ?_⟩
    · show mm_Go (mm_run 2) mc_M_next _ (41, [(0, .inr (.inr 407)), (1, .inl v1), (2, .inl (nf_M_cursorAt 0 v1))], [], M)
      refine mm_s1 rfl ?_
      replace h := h.2.2.2.2.1 (Or.inr (Or.inl c19))
      exact mm_s1 rfl ⟨_, rfl, L, N, h⟩
    · show mm_Go (mm_run 2) mc_M_next _ (22, [(0, .inr (.inr 407)), (1, .inl v1), (2, .inl (nf_M_cursorAt 0 v1))], [], M)
      replace c19 := Int.not_lt.mp c19
      refine mm_s1 rfl ?_
      refine nn_getr rfl (nn_c407 NN).1 (lf_13_0 L N (nn_c407 NN)) ?_
      refine mm_s1 rfl ?_
      refine mm_s1 rfl ?_
      refine mm_s1 rfl ?_
      show mm_Go (mm_run 2) mc_M_next _ (29, [(0, .inr (.inr 407)), (1, .inl v1), (2, .inl (nf_M_cursorAt 0 v1))], [.inl (mm_w ((nf_M_cursorAt 0 v1) + 2)), .inr (.inr 408)], M)
      have b29 := h.1 ⟨c5, c19⟩
      refine mm_s1 rfl ⟨nn_bd (na_13_0 NN (nn_c407 NN)) b29, ?_⟩
      show mm_Go (mm_run 2) mc_M_next _ (30, [(0, .inr (.inr 407)), (1, .inl v1), (2, .inl (nf_M_cursorAt 0 v1))], [.inl (nn_ri M 408 (mm_w ((nf_M_cursorAt 0 v1) + 2)))], M)
      refine mm_s1 rfl ?_
      refine nn_getr rfl (nn_c407 NN).1 (lf_13_0 L N (nn_c407 NN)) ?_
      refine mm_s1 rfl ?_
      refine mm_s1 rfl ?_
      refine mm_s1 rfl ?_
      show mm_Go (mm_run 2) mc_M_next _ (37, [(0, .inr (.inr 407)), (1, .inl v1), (2, .inl (nf_M_cursorAt 0 v1))], [.inl (mm_w ((nf_M_cursorAt 0 v1) + 1)), .inr (.inr 408), .inl (nn_ri M 408 (mm_w ((nf_M_cursorAt 0 v1) + 2)))], M)
      have b37 := h.2.1 ⟨c5, c19⟩
      refine mm_s1 rfl ⟨nn_bd (na_13_0 NN (nn_c407 NN)) b37, ?_⟩
      show mm_Go (mm_run 2) mc_M_next _ (38, [(0, .inr (.inr 407)), (1, .inl v1), (2, .inl (nf_M_cursorAt 0 v1))], [.inl (nn_ri M 408 (mm_w ((nf_M_cursorAt 0 v1) + 1))), .inl (nn_ri M 408 (mm_w ((nf_M_cursorAt 0 v1) + 2)))], M)
      refine mm_s1 rfl ⟨fun c38 => ?_, fun c38 => ?_⟩
      · show mm_Go (mm_run 2) mc_M_next _ (43, [(0, .inr (.inr 407)), (1, .inl v1), (2, .inl (nf_M_cursorAt 0 v1))], [], M)
        refine mm_s1 rfl ?_
        refine nn_getr rfl (nn_c407 NN).1 (lf_13_0 L N (nn_c407 NN)) ?_
        refine mm_s1 rfl ?_
        refine mm_s1 rfl ?_
        refine mm_s1 rfl ?_
        show mm_Go (mm_run 2) mc_M_next _ (50, [(0, .inr (.inr 407)), (1, .inl v1), (2, .inl (nf_M_cursorAt 0 v1))], [.inl (mm_w ((nf_M_cursorAt 0 v1) + 2)), .inr (.inr 408)], M)
        refine mm_s1 rfl ?_
        have b51 := h.2.2.1 ⟨c5, c19, c38⟩
        refine mm_s1 rfl ⟨nn_bd (na_13_0 NN (nn_c407 NN)) b51, ?_⟩
        show mm_Go (mm_run 2) mc_M_next _ (52, [(0, .inr (.inr 407)), (1, .inl v1), (2, .inl (nf_M_cursorAt 0 v1))], [.inl (nn_ri M 408 (mm_w ((nf_M_cursorAt 0 v1) + 2))), .inl (mm_w ((nf_M_cursorAt 0 v1) + 2)), .inr (.inr 408)], M)
        refine mm_s1 rfl ?_
        refine mm_s1 rfl ?_
        have b54 := h.2.2.2.1 ⟨c5, c19, c38⟩
        replace h := h.2.2.2.2.2 ⟨c5, ⟨c19, c38⟩⟩
        refine mm_s1 rfl ⟨nn_bd (na_13_0 NN (nn_c407 NN)) b54, ?_⟩
        show mm_Go (mm_run 2) mc_M_next _ (55, [(0, .inr (.inr 407)), (1, .inl v1), (2, .inl (nf_M_cursorAt 0 v1))], [], (nn_ui M 408 (mm_w ((nf_M_cursorAt 0 v1) + 2)) (mm_w ((nn_ri M 408 (mm_w ((nf_M_cursorAt 0 v1) + 2))) + 1))))
        have L : nn_L (nn_ui M 408 (mm_w ((nf_M_cursorAt 0 v1) + 2)) (mm_w ((nn_ri M 408 (mm_w ((nf_M_cursorAt 0 v1) + 2))) + 1))) := nn_L_ua L (congrArg Prod.fst (na_13_0 NN (nn_c407 NN))) (by decide)
        have N : (nn_ui M 408 (mm_w ((nf_M_cursorAt 0 v1) + 2)) (mm_w ((nn_ri M 408 (mm_w ((nf_M_cursorAt 0 v1) + 2))) + 1))).1 = n := N
        generalize e_M54 : (nn_ui M 408 (mm_w ((nf_M_cursorAt 0 v1) + 2)) (mm_w ((nn_ri M 408 (mm_w ((nf_M_cursorAt 0 v1) + 2))) + 1))) = M54 at L N ⊢
        replace h := h _ e_M54.symm
        show mm_Go (mm_run 2) mc_M_next _ (55, [(0, .inr (.inr 407)), (1, .inl v1), (2, .inl (nf_M_cursorAt 0 v1))], [], M54)
        refine mm_s1 rfl ?_
        refine nn_getr rfl (nn_c407 NN).1 (lf_13_0 L N (nn_c407 NN)) ?_
        refine mm_s1 rfl ?_
        refine mm_s1 rfl ?_
        refine mm_s1 rfl ?_
        show mm_Go (mm_run 2) mc_M_next _ (62, [(0, .inr (.inr 407)), (1, .inl v1), (2, .inl (nf_M_cursorAt 0 v1))], [.inl (mm_w ((nf_M_cursorAt 0 v1) + 2)), .inr (.inr 408)], M54)
        refine mm_s1 rfl ?_
        refine nn_getr rfl (nn_c407 NN).1 (lf_13_0 L N (nn_c407 NN)) ?_
        refine mm_s1 rfl ?_
        refine mm_s1 rfl ?_
        refine mm_s1 rfl ?_
        show mm_Go (mm_run 2) mc_M_next _ (69, [(0, .inr (.inr 407)), (1, .inl v1), (2, .inl (nf_M_cursorAt 0 v1))], [.inl (mm_w ((nf_M_cursorAt 0 v1) + 2)), .inr (.inr 408), .inl (mm_w ((nf_M_cursorAt 0 v1) + 2)), .inr (.inr 408)], M54)
        obtain ⟨b69, h⟩ := h
        refine mm_s1 rfl ⟨nn_bd (na_13_0 NN (nn_c407 NN)) b69, ?_⟩
        show mm_Go (mm_run 2) mc_M_next _ (70, [(0, .inr (.inr 407)), (1, .inl v1), (2, .inl (nf_M_cursorAt 0 v1))], [.inl (nn_ri M54 408 (mm_w ((nf_M_cursorAt 0 v1) + 2))), .inl (mm_w ((nf_M_cursorAt 0 v1) + 2)), .inr (.inr 408)], M54)
        refine mm_s1 rfl ?_
        obtain ⟨b71, h⟩ := h
        refine mm_s1 rfl ⟨nn_bd (na_13_0 NN (nn_c407 NN)) b71, ?_⟩
        show mm_Go (mm_run 2) mc_M_next _ (72, [(0, .inr (.inr 407)), (1, .inl v1), (2, .inl (nf_M_cursorAt 0 v1))], [.inl (nn_ri M54 408 (mm_w ((mm_w ((nf_M_cursorAt 0 v1) + 2)) + (nn_ri M54 408 (mm_w ((nf_M_cursorAt 0 v1) + 2))))))], M54)
        exact mm_s1 rfl ⟨_, rfl, L, N, h⟩
      · show mm_Go (mm_run 2) mc_M_next _ (41, [(0, .inr (.inr 407)), (1, .inl v1), (2, .inl (nf_M_cursorAt 0 v1))], [], M)
        replace c38 := Decidable.not_not.mp c38
        refine mm_s1 rfl ?_
        replace h := h.2.2.2.2.1 (Or.inr (Or.inr c38))
        exact mm_s1 rfl ⟨_, rfl, L, N, h⟩
def nr_M_close (v1 : Int) (M : mm_M) (R : Int → mm_M → Prop) : Prop := ∀ n, nn_L M → M.1 = n → mm_run 3 mi_M_close [.inr (.inr 407), .inl v1] M (nw_I n R)
set_option maxRecDepth 20000 in
theorem ng_M_close (v1 : Int) (M : mm_M) (R : Int → mm_M → Prop) (h : ((nc_M_isOpen v1 M) ∧ (((nf_M_isOpen v1 M) ≠ 0 → (((0 : Int) ≤ (nf_M_cursorAt 0 v1) ∧ (nf_M_cursorAt 0 v1) < (32844 : Int)) ∧ (∀ M22 : mm_M, M22 = nn_ui M 408 (nf_M_cursorAt 0 v1) 0 → (((0 : Int) ≤ (mm_w ((nf_M_cursorAt 0 v1) + 1)) ∧ (mm_w ((nf_M_cursorAt 0 v1) + 1)) < (32844 : Int)) ∧ (((0 : Int) ≤ (mm_w ((nf_M_cursorAt 0 v1) + 2)) ∧ (mm_w ((nf_M_cursorAt 0 v1) + 2)) < (32844 : Int)) ∧ R (mm_w ((nn_ri M22 408 (mm_w ((nf_M_cursorAt 0 v1) + 1))) - (nn_ri M22 408 (mm_w ((nf_M_cursorAt 0 v1) + 2))))) M22))))) ∧ ((nf_M_isOpen v1 M) = 0 → R (-1) M)))) : nr_M_close v1 M R := by
  intro n L N 
  have NN := nn_L_n L N
  show mm_Go (mm_run 2) mc_M_close _ (0, [(0, .inr (.inr 407)), (1, .inl v1)], [], M)
  refine mm_s1 rfl ?_
  refine mm_s1 rfl ?_
  obtain ⟨b2, h⟩ := h
  refine mm_s1 rfl ⟨(nn_c407 NN).1, ?_⟩
  refine np_M_isOpen (by decide) L N b2 ?_
  show mm_Go (mm_run 2) mc_M_close _ (5, [(0, .inr (.inr 407)), (1, .inl v1)], [.inl (nf_M_isOpen v1 M)], M)
  refine mm_s1 rfl ⟨fun c5 => ?_, fun c5 => ?_⟩
  · show mm_Go (mm_run 2) mc_M_close _ (10, [(0, .inr (.inr 407)), (1, .inl v1)], [], M)
    replace h := h.1 c5
    refine mm_s1 rfl ?_
    refine mm_s1 rfl ?_
    refine mm_s1 rfl ⟨trivial, ?_⟩
    refine np_M_cursorAt (by decide) L N ?_
    show mm_Go (mm_run 2) mc_M_close _ (15, [(0, .inr (.inr 407)), (1, .inl v1)], [.inl (nf_M_cursorAt 0 v1)], M)
    refine mm_s1 rfl ?_
    show mm_Go (mm_run 2) mc_M_close _ (16, [(0, .inr (.inr 407)), (1, .inl v1), (2, .inl (nf_M_cursorAt 0 v1))], [], M)
    refine mm_s1 rfl ?_
    refine nn_getr rfl (nn_c407 NN).1 (lf_13_0 L N (nn_c407 NN)) ?_
    refine mm_s1 rfl ?_
    refine mm_s1 rfl ?_
    obtain ⟨b22, h⟩ := h
    refine mm_s1 rfl ⟨nn_bd (na_13_0 NN (nn_c407 NN)) b22, ?_⟩
    show mm_Go (mm_run 2) mc_M_close _ (23, [(0, .inr (.inr 407)), (1, .inl v1), (2, .inl (nf_M_cursorAt 0 v1))], [], (nn_ui M 408 (nf_M_cursorAt 0 v1) 0))
    have L : nn_L (nn_ui M 408 (nf_M_cursorAt 0 v1) 0) := nn_L_ua L (congrArg Prod.fst (na_13_0 NN (nn_c407 NN))) (by decide)
    have N : (nn_ui M 408 (nf_M_cursorAt 0 v1) 0).1 = n := N
    generalize e_M22 : (nn_ui M 408 (nf_M_cursorAt 0 v1) 0) = M22 at L N ⊢
    replace h := h _ e_M22.symm
    show mm_Go (mm_run 2) mc_M_close _ (23, [(0, .inr (.inr 407)), (1, .inl v1), (2, .inl (nf_M_cursorAt 0 v1))], [], M22)
    refine mm_s1 rfl ?_
    refine nn_getr rfl (nn_c407 NN).1 (lf_13_0 L N (nn_c407 NN)) ?_
    refine mm_s1 rfl ?_
    refine mm_s1 rfl ?_
    refine mm_s1 rfl ?_
    show mm_Go (mm_run 2) mc_M_close _ (30, [(0, .inr (.inr 407)), (1, .inl v1), (2, .inl (nf_M_cursorAt 0 v1))], [.inl (mm_w ((nf_M_cursorAt 0 v1) + 1)), .inr (.inr 408)], M22)
    obtain ⟨b30, h⟩ := h
    refine mm_s1 rfl ⟨nn_bd (na_13_0 NN (nn_c407 NN)) b30, ?_⟩
    show mm_Go (mm_run 2) mc_M_close _ (31, [(0, .inr (.inr 407)), (1, .inl v1), (2, .inl (nf_M_cursorAt 0 v1))], [.inl (nn_ri M22 408 (mm_w ((nf_M_cursorAt 0 v1) + 1)))], M22)
    refine mm_s1 rfl ?_
    refine nn_getr rfl (nn_c407 NN).1 (lf_13_0 L N (nn_c407 NN)) ?_
    refine mm_s1 rfl ?_
    refine mm_s1 rfl ?_
    refine mm_s1 rfl ?_
    show mm_Go (mm_run 2) mc_M_close _ (38, [(0, .inr (.inr 407)), (1, .inl v1), (2, .inl (nf_M_cursorAt 0 v1))], [.inl (mm_w ((nf_M_cursorAt 0 v1) + 2)), .inr (.inr 408), .inl (nn_ri M22 408 (mm_w ((nf_M_cursorAt 0 v1) + 1)))], M22)
    obtain ⟨b38, h⟩ := h
    refine mm_s1 rfl ⟨nn_bd (na_13_0 NN (nn_c407 NN)) b38, ?_⟩
    show mm_Go (mm_run 2) mc_M_close _ (39, [(0, .inr (.inr 407)), (1, .inl v1), (2, .inl (nf_M_cursorAt 0 v1))], [.inl (nn_ri M22 408 (mm_w ((nf_M_cursorAt 0 v1) + 2))), .inl (nn_ri M22 408 (mm_w ((nf_M_cursorAt 0 v1) + 1)))], M22)
    refine mm_s1 rfl ?_
    exact mm_s1 rfl ⟨_, rfl, L, N, h⟩
  · show mm_Go (mm_run 2) mc_M_close _ (8, [(0, .inr (.inr 407)), (1, .inl v1)], [], M)
    replace c5 := Decidable.not_not.mp c5
    replace h := h.2 c5
    refine mm_s1 rfl ?_
    exact mm_s1 rfl ⟨_, rfl, L, N, h⟩
def nr_M_leftOver (v1 : Int) (M : mm_M) (R : Int → mm_M → Prop) : Prop := ∀ n, nn_L M → M.1 = n → mm_run 3 mi_M_leftOver [.inr (.inr 407), .inl v1] M (nw_I n R)
def nk_M_leftOver_4 (v1 : Int) (v2 : Int) (v3 : Int) (M : mm_M) (R : Int → mm_M → Prop) : Prop := ∀ n, nn_L M → M.1 = n → mm_Go (mm_run 2) mc_M_leftOver (nw_I n R) (4, [(0, .inr (.inr 407)), (1, .inl v1), (2, .inl v2), (3, .inl v3)], [], M)
def nk_M_leftOver_19 (v1 : Int) (v2 : Int) (v3 : Int) (v4 : Int) (v5 : Int) (M : mm_M) (R : Int → mm_M → Prop) : Prop := ∀ n, nn_L M → M.1 = n → mm_Go (mm_run 2) mc_M_leftOver (nw_I n R) (19, [(0, .inr (.inr 407)), (1, .inl v1), (2, .inl v2), (3, .inl v3), (4, .inl v4), (5, .inl v5)], [], M)
set_option maxRecDepth 20000 in
theorem ng_M_leftOver (v1 : Int) (M : mm_M) (R : Int → mm_M → Prop) (h : nk_M_leftOver_4 v1 0 0 M R) : nr_M_leftOver v1 M R := by
  intro n L N 
  have NN := nn_L_n L N
  show mm_Go (mm_run 2) mc_M_leftOver _ (0, [(0, .inr (.inr 407)), (1, .inl v1)], [], M)
  refine mm_s1 rfl ?_
  refine mm_s1 rfl ?_
  show mm_Go (mm_run 2) mc_M_leftOver _ (2, [(0, .inr (.inr 407)), (1, .inl v1), (2, .inl 0)], [], M)
  refine mm_s1 rfl ?_
  refine mm_s1 rfl ?_
  show mm_Go (mm_run 2) mc_M_leftOver _ (4, [(0, .inr (.inr 407)), (1, .inl v1), (2, .inl 0), (3, .inl 0)], [], M)
  exact nn_go_ext (nn_xc rfl (nn_xc rfl (nn_xc rfl (nn_xc rfl nn_xn)))) (h n L N)
set_option maxRecDepth 20000 in
theorem ng_M_leftOver_4 (v1 : Int) (v2 : Int) (v3 : Int) (M : mm_M) (R : Int → mm_M → Prop) (h : ((3 ≤ v3 → R v2 M) ∧ (v3 < 3 → nk_M_leftOver_19 v1 v2 v3 (nf_M_cursorAt v1 v3) 0 M R))) : nk_M_leftOver_4 v1 v2 v3 M R := by
  intro n L N 
  have NN := nn_L_n L N
  show mm_Go (mm_run 2) mc_M_leftOver _ (4, [(0, .inr (.inr 407)), (1, .inl v1), (2, .inl v2), (3, .inl v3)], [], M)
  refine mm_s1 rfl ?_
  refine mm_s1 rfl ?_
  refine mm_s1 rfl ⟨fun c6 => ?_, fun c6 => ?_⟩
  · show mm_Go (mm_run 2) mc_M_leftOver _ (103, [(0, .inr (.inr 407)), (1, .inl v1), (2, .inl v2), (3, .inl v3)], [], M)
    replace h := h.1 c6
    refine mm_s1 rfl ?_
    exact mm_s1 rfl ⟨_, rfl, L, N, h⟩
  · show mm_Go (mm_run 2) mc_M_leftOver _ (9, [(0, .inr (.inr 407)), (1, .inl v1), (2, .inl v2), (3, .inl v3)], [], M)
    replace c6 := Int.not_le.mp c6
    replace h := h.2 c6
    refine mm_s1 rfl ?_
    refine mm_s1 rfl ?_
    refine mm_s1 rfl ⟨trivial, ?_⟩
    refine np_M_cursorAt (by decide) L N ?_
    show mm_Go (mm_run 2) mc_M_leftOver _ (14, [(0, .inr (.inr 407)), (1, .inl v1), (2, .inl v2), (3, .inl v3)], [.inl (nf_M_cursorAt v1 v3)], M)
    refine mm_s1 rfl ?_
    show mm_Go (mm_run 2) mc_M_leftOver _ (16, [(0, .inr (.inr 407)), (1, .inl v1), (2, .inl v2), (3, .inl v3), (4, .inl (nf_M_cursorAt v1 v3))], [], M)
    refine mm_s1 rfl ?_
    refine mm_s1 rfl ?_
    show mm_Go (mm_run 2) mc_M_leftOver _ (19, [(0, .inr (.inr 407)), (1, .inl v1), (2, .inl v2), (3, .inl v3), (4, .inl (nf_M_cursorAt v1 v3)), (5, .inl 0)], [], M)
    exact nn_go_ext (nn_xc rfl (nn_xc rfl (nn_xc rfl (nn_xc rfl (nn_xc rfl (nn_xc rfl nn_xn)))))) (h n L N)
set_option maxRecDepth 20000 in
theorem ng_M_leftOver_19 (v1 : Int) (v2 : Int) (v3 : Int) (v4 : Int) (v5 : Int) (M : mm_M) (R : Int → mm_M → Prop) (h : (((0 : Int) ≤ (mm_w (v4 + 35)) ∧ (mm_w (v4 + 35)) < (32844 : Int)) ∧ (((v5 < (nn_ri M 408 (mm_w (v4 + 35)))) → ((0 : Int) ≤ v4 ∧ v4 < (32844 : Int))) ∧ ((v5 < (nn_ri M 408 (mm_w (v4 + 35)))) ∧ ((nn_ri M 408 v4) = 1) → ((0 : Int) ≤ (mm_w ((mm_w ((mm_w (v4 + 35)) + 1)) + v5)) ∧ (mm_w ((mm_w ((mm_w (v4 + 35)) + 1)) + v5)) < (32844 : Int))) ∧ (((nn_ri M 408 (mm_w (v4 + 35))) ≤ v5 ∨ ((nn_ri M 408 v4) ≠ 1)) → nk_M_leftOver_4 v1 v2 (mm_w (v3 + 1)) M R) ∧ ((v5 < (nn_ri M 408 (mm_w (v4 + 35))) ∧ ((nn_ri M 408 v4) = 1)) → (∀ x6_60 : Int, x6_60 = nn_ri M 408 (mm_w ((mm_w ((mm_w (v4 + 35)) + 1)) + v5)) → (nr_M_isRun v1 x6_60 M (fun r67 M67 => ((r67 ≠ 0 → nk_M_leftOver_19 v1 (mm_w (v2 + 0)) v3 v4 (mm_w (v5 + 1)) M67 R) ∧ (r67 = 0 → (nr_M_isHeld v1 v3 x6_60 M67 (fun r78 M78 => ((r78 = 0 → nk_M_leftOver_19 v1 (mm_w (v2 + 1)) v3 v4 (mm_w (v5 + 1)) M78 R) ∧ (r78 ≠ 0 → nk_M_leftOver_19 v1 (mm_w (v2 + 0)) v3 v4 (mm_w (v5 + 1)) M78 R))))))))))))) : nk_M_leftOver_19 v1 v2 v3 v4 v5 M R := by
  intro n L N 
  have NN := nn_L_n L N
  show mm_Go (mm_run 2) mc_M_leftOver _ (19, [(0, .inr (.inr 407)), (1, .inl v1), (2, .inl v2), (3, .inl v3), (4, .inl v4), (5, .inl v5)], [], M)
  refine mm_s1 rfl ?_
  refine mm_s1 rfl ?_
  refine nn_getr rfl (nn_c407 NN).1 (lf_13_0 L N (nn_c407 NN)) ?_
  refine mm_s1 rfl ?_
  refine mm_s1 rfl ?_
  show mm_Go (mm_run 2) mc_M_leftOver _ (29, [(0, .inr (.inr 407)), (1, .inl v1), (2, .inl v2), (3, .inl v3), (4, .inl v4), (5, .inl v5)], [.inl 35, .inl v4, .inr (.inr 408), .inl v5], M)
  refine mm_s1 rfl ?_
  obtain ⟨b30, h⟩ := h
  refine mm_s1 rfl ⟨nn_bd (na_13_0 NN (nn_c407 NN)) b30, ?_⟩
  show mm_Go (mm_run 2) mc_M_leftOver _ (31, [(0, .inr (.inr 407)), (1, .inl v1), (2, .inl v2), (3, .inl v3), (4, .inl v4), (5, .inl v5)], [.inl (nn_ri M 408 (mm_w (v4 + 35))), .inl v5], M)
  refine mm_s1 rfl ⟨fun c31 => ?_, fun c31 => ?_⟩
  · show mm_Go (mm_run 2) mc_M_leftOver _ (97, [(0, .inr (.inr 407)), (1, .inl v1), (2, .inl v2), (3, .inl v3), (4, .inl v4), (5, .inl v5)], [], M)
    refine mm_s1 rfl ?_
    show mm_Go (mm_run 2) mc_M_leftOver _ (100, [(0, .inr (.inr 407)), (1, .inl v1), (2, .inl v2), (3, .inl (mm_w (v3 + 1))), (4, .inl v4), (5, .inl v5)], [], M)
    refine mm_s1 rfl ?_
    show mm_Go (mm_run 2) mc_M_leftOver _ (4, [(0, .inr (.inr 407)), (1, .inl v1), (2, .inl v2), (3, .inl (mm_w (v3 + 1))), (4, .inl v4), (5, .inl v5)], [], M)
    replace h := h.2.2.1 (Or.inl c31)
    exact nn_go_ext (nn_xc rfl (nn_xc rfl (nn_xc rfl (nn_xc rfl nn_xn)))) (h n L N)
  · show mm_Go (mm_run 2) mc_M_leftOver _ (34, [(0, .inr (.inr 407)), (1, .inl v1), (2, .inl v2), (3, .inl v3), (4, .inl v4), (5, .inl v5)], [], M)
    replace c31 := Int.not_le.mp c31
    refine mm_s1 rfl ?_
    refine nn_getr rfl (nn_c407 NN).1 (lf_13_0 L N (nn_c407 NN)) ?_
    refine mm_s1 rfl ?_
    have b40 := h.1 c31
    refine mm_s1 rfl ⟨nn_bd (na_13_0 NN (nn_c407 NN)) b40, ?_⟩
    show mm_Go (mm_run 2) mc_M_leftOver _ (41, [(0, .inr (.inr 407)), (1, .inl v1), (2, .inl v2), (3, .inl v3), (4, .inl v4), (5, .inl v5)], [.inl (nn_ri M 408 v4)], M)
    refine mm_s1 rfl ?_
    refine mm_s1 rfl ⟨fun c42 => ?_, fun c42 => ?_⟩
    · show mm_Go (mm_run 2) mc_M_leftOver _ (97, [(0, .inr (.inr 407)), (1, .inl v1), (2, .inl v2), (3, .inl v3), (4, .inl v4), (5, .inl v5)], [], M)
      refine mm_s1 rfl ?_
      show mm_Go (mm_run 2) mc_M_leftOver _ (100, [(0, .inr (.inr 407)), (1, .inl v1), (2, .inl v2), (3, .inl (mm_w (v3 + 1))), (4, .inl v4), (5, .inl v5)], [], M)
      refine mm_s1 rfl ?_
      show mm_Go (mm_run 2) mc_M_leftOver _ (4, [(0, .inr (.inr 407)), (1, .inl v1), (2, .inl v2), (3, .inl (mm_w (v3 + 1))), (4, .inl v4), (5, .inl v5)], [], M)
      replace h := h.2.2.1 (Or.inr c42)
      exact nn_go_ext (nn_xc rfl (nn_xc rfl (nn_xc rfl (nn_xc rfl nn_xn)))) (h n L N)
    · show mm_Go (mm_run 2) mc_M_leftOver _ (45, [(0, .inr (.inr 407)), (1, .inl v1), (2, .inl v2), (3, .inl v3), (4, .inl v4), (5, .inl v5)], [], M)
      replace c42 := Decidable.not_not.mp c42
      refine mm_s1 rfl ?_
      refine nn_getr rfl (nn_c407 NN).1 (lf_13_0 L N (nn_c407 NN)) ?_
      refine mm_s1 rfl ?_
      refine mm_s1 rfl ?_
      refine mm_s1 rfl ?_
      show mm_Go (mm_run 2) mc_M_leftOver _ (54, [(0, .inr (.inr 407)), (1, .inl v1), (2, .inl v2), (3, .inl v3), (4, .inl v4), (5, .inl v5)], [.inl (mm_w (v4 + 35)), .inr (.inr 408)], M)
      refine mm_s1 rfl ?_
      refine mm_s1 rfl ?_
      refine mm_s1 rfl ?_
      refine mm_s1 rfl ?_
      have b59 := h.2.1 ⟨c31, c42⟩
      refine mm_s1 rfl ⟨nn_bd (na_13_0 NN (nn_c407 NN)) b59, ?_⟩
      show mm_Go (mm_run 2) mc_M_leftOver _ (60, [(0, .inr (.inr 407)), (1, .inl v1), (2, .inl v2), (3, .inl v3), (4, .inl v4), (5, .inl v5)], [.inl (nn_ri M 408 (mm_w ((mm_w ((mm_w (v4 + 35)) + 1)) + v5)))], M)
      replace h := h.2.2.2 ⟨c31, c42⟩
      refine mm_s1 rfl ?_
      show mm_Go (mm_run 2) mc_M_leftOver _ (62, [(0, .inr (.inr 407)), (1, .inl v1), (2, .inl v2), (3, .inl v3), (4, .inl v4), (5, .inl v5), (6, .inl (nn_ri M 408 (mm_w ((mm_w ((mm_w (v4 + 35)) + 1)) + v5))))], [], M)
      generalize e_x6_60 : (nn_ri M 408 (mm_w ((mm_w ((mm_w (v4 + 35)) + 1)) + v5))) = x6_60
      replace h := h _ e_x6_60.symm
      show mm_Go (mm_run 2) mc_M_leftOver _ (62, [(0, .inr (.inr 407)), (1, .inl v1), (2, .inl v2), (3, .inl v3), (4, .inl v4), (5, .inl v5), (6, .inl x6_60)], [], M)
      refine mm_s1 rfl ?_
      refine mm_s1 rfl ?_
      refine mm_s1 rfl ?_
      refine mm_s1 rfl ?_
      refine mm_s1 rfl ⟨(nn_c407 NN).1, ?_⟩
      refine nn_call (D := 2) (by decide) (h n L N) ?_
      intro v M67 q; clear L N h
      obtain ⟨r67, rfl, q67, L, N, h⟩ := q
      show mm_Go (mm_run 2) mc_M_leftOver _ (70, [(0, .inr (.inr 407)), (1, .inl v1), (2, .inl v2), (3, .inl v3), (4, .inl v4), (5, .inl v5), (6, .inl x6_60)], [.inl r67, .inl v2], M67)
      refine mm_s1 rfl ⟨fun c70 => ?_, fun c70 => ?_⟩
      · show mm_Go (mm_run 2) mc_M_leftOver _ (84, [(0, .inr (.inr 407)), (1, .inl v1), (2, .inl v2), (3, .inl v3), (4, .inl v4), (5, .inl v5), (6, .inl x6_60)], [.inl v2], M67)
        replace h := h.1 c70
        refine mm_s1 rfl ?_
        refine mm_s1 rfl ?_
        show mm_Go (mm_run 2) mc_M_leftOver _ (89, [(0, .inr (.inr 407)), (1, .inl v1), (2, .inl v2), (3, .inl v3), (4, .inl v4), (5, .inl v5), (6, .inl x6_60)], [.inl 0, .inl v2], M67)
        refine mm_s1 rfl ?_
        refine mm_s1 rfl ?_
        show mm_Go (mm_run 2) mc_M_leftOver _ (91, [(0, .inr (.inr 407)), (1, .inl v1), (2, .inl (mm_w (v2 + 0))), (3, .inl v3), (4, .inl v4), (5, .inl v5), (6, .inl x6_60)], [], M67)
        refine mm_s1 rfl ?_
        show mm_Go (mm_run 2) mc_M_leftOver _ (94, [(0, .inr (.inr 407)), (1, .inl v1), (2, .inl (mm_w (v2 + 0))), (3, .inl v3), (4, .inl v4), (5, .inl (mm_w (v5 + 1))), (6, .inl x6_60)], [], M67)
        refine mm_s1 rfl ?_
        show mm_Go (mm_run 2) mc_M_leftOver _ (19, [(0, .inr (.inr 407)), (1, .inl v1), (2, .inl (mm_w (v2 + 0))), (3, .inl v3), (4, .inl v4), (5, .inl (mm_w (v5 + 1))), (6, .inl x6_60)], [], M67)
        exact nn_go_ext (nn_xc rfl (nn_xc rfl (nn_xc rfl (nn_xc rfl (nn_xc rfl (nn_xc rfl nn_xn)))))) (h n L N)
      · show mm_Go (mm_run 2) mc_M_leftOver _ (73, [(0, .inr (.inr 407)), (1, .inl v1), (2, .inl v2), (3, .inl v3), (4, .inl v4), (5, .inl v5), (6, .inl x6_60)], [.inl v2], M67)
        replace c70 := Decidable.not_not.mp c70
        replace h := h.2 c70
        refine mm_s1 rfl ?_
        refine mm_s1 rfl ?_
        refine mm_s1 rfl ?_
        refine mm_s1 rfl ?_
        refine mm_s1 rfl ⟨(nn_c407 NN).1, ?_⟩
        refine nn_call (D := 2) (by decide) (h n L N) ?_
        intro v M78 q; clear L N h
        obtain ⟨r78, rfl, q78, L, N, h⟩ := q
        show mm_Go (mm_run 2) mc_M_leftOver _ (81, [(0, .inr (.inr 407)), (1, .inl v1), (2, .inl v2), (3, .inl v3), (4, .inl v4), (5, .inl v5), (6, .inl x6_60)], [.inl r78, .inl v2], M78)
        refine mm_s1 rfl ⟨fun c81 => ?_, fun c81 => ?_⟩
        · show mm_Go (mm_run 2) mc_M_leftOver _ (88, [(0, .inr (.inr 407)), (1, .inl v1), (2, .inl v2), (3, .inl v3), (4, .inl v4), (5, .inl v5), (6, .inl x6_60)], [.inl v2], M78)
          replace h := h.1 c81
          refine mm_s1 rfl ?_
          refine mm_s1 rfl ?_
          refine mm_s1 rfl ?_
          show mm_Go (mm_run 2) mc_M_leftOver _ (91, [(0, .inr (.inr 407)), (1, .inl v1), (2, .inl (mm_w (v2 + 1))), (3, .inl v3), (4, .inl v4), (5, .inl v5), (6, .inl x6_60)], [], M78)
          refine mm_s1 rfl ?_
          show mm_Go (mm_run 2) mc_M_leftOver _ (94, [(0, .inr (.inr 407)), (1, .inl v1), (2, .inl (mm_w (v2 + 1))), (3, .inl v3), (4, .inl v4), (5, .inl (mm_w (v5 + 1))), (6, .inl x6_60)], [], M78)
          refine mm_s1 rfl ?_
          show mm_Go (mm_run 2) mc_M_leftOver _ (19, [(0, .inr (.inr 407)), (1, .inl v1), (2, .inl (mm_w (v2 + 1))), (3, .inl v3), (4, .inl v4), (5, .inl (mm_w (v5 + 1))), (6, .inl x6_60)], [], M78)
          exact nn_go_ext (nn_xc rfl (nn_xc rfl (nn_xc rfl (nn_xc rfl (nn_xc rfl (nn_xc rfl nn_xn)))))) (h n L N)
        · show mm_Go (mm_run 2) mc_M_leftOver _ (84, [(0, .inr (.inr 407)), (1, .inl v1), (2, .inl v2), (3, .inl v3), (4, .inl v4), (5, .inl v5), (6, .inl x6_60)], [.inl v2], M78)
          replace h := h.2 c81
          refine mm_s1 rfl ?_
          refine mm_s1 rfl ?_
          show mm_Go (mm_run 2) mc_M_leftOver _ (89, [(0, .inr (.inr 407)), (1, .inl v1), (2, .inl v2), (3, .inl v3), (4, .inl v4), (5, .inl v5), (6, .inl x6_60)], [.inl 0, .inl v2], M78)
          refine mm_s1 rfl ?_
          refine mm_s1 rfl ?_
          show mm_Go (mm_run 2) mc_M_leftOver _ (91, [(0, .inr (.inr 407)), (1, .inl v1), (2, .inl (mm_w (v2 + 0))), (3, .inl v3), (4, .inl v4), (5, .inl v5), (6, .inl x6_60)], [], M78)
          refine mm_s1 rfl ?_
          show mm_Go (mm_run 2) mc_M_leftOver _ (94, [(0, .inr (.inr 407)), (1, .inl v1), (2, .inl (mm_w (v2 + 0))), (3, .inl v3), (4, .inl v4), (5, .inl (mm_w (v5 + 1))), (6, .inl x6_60)], [], M78)
          refine mm_s1 rfl ?_
          show mm_Go (mm_run 2) mc_M_leftOver _ (19, [(0, .inr (.inr 407)), (1, .inl v1), (2, .inl (mm_w (v2 + 0))), (3, .inl v3), (4, .inl v4), (5, .inl (mm_w (v5 + 1))), (6, .inl x6_60)], [], M78)
          exact nn_go_ext (nn_xc rfl (nn_xc rfl (nn_xc rfl (nn_xc rfl (nn_xc rfl (nn_xc rfl nn_xn)))))) (h n L N)
def nr_M_run (v1 : Int) (v2 : Int) (M : mm_M) (R : Int → mm_M → Prop) : Prop := ∀ n, nn_L M → M.1 = n → mm_run 3 mi_M_run [.inr (.inr 407), .inl v1, .inl v2] M (nw_I n R)
def nk_M_run_34 (v1 : Int) (v2 : Int) (v3 : Int) (v4 : Int) (v5 : Int) (M : mm_M) (R : Int → mm_M → Prop) : Prop := ∀ n, nn_L M → M.1 = n → mm_Go (mm_run 2) mc_M_run (nw_I n R) (34, [(0, .inr (.inr 407)), (1, .inl v1), (2, .inl v2), (3, .inl v3), (4, .inl v4), (5, .inl v5)], [], M)
set_option maxRecDepth 20000 in
theorem ng_M_run (v1 : Int) (v2 : Int) (M : mm_M) (R : Int → mm_M → Prop) (h : ((((nf_M_isIn v1 0 (mm_w ((nn_ri M 408 5) - 1))) = 0 ∨ (v2 < 0)) → R (-1) M) ∧ (((nf_M_isIn v1 0 (mm_w ((nn_ri M 408 5) - 1))) ≠ 0 ∧ (0 ≤ v2)) → nk_M_run_34 v1 v2 (nf_M_runAt 0 v1) 0 0 M R))) : nr_M_run v1 v2 M R := by
  intro n L N 
  have NN := nn_L_n L N
  show mm_Go (mm_run 2) mc_M_run _ (0, [(0, .inr (.inr 407)), (1, .inl v1), (2, .inl v2)], [], M)
  refine mm_s1 rfl ?_
  refine mm_s1 rfl ?_
  refine mm_s1 rfl ?_
  refine nn_getr rfl (nn_c407 NN).1 (lf_13_0 L N (nn_c407 NN)) ?_
  refine mm_s1 rfl ?_
  show mm_Go (mm_run 2) mc_M_run _ (7, [(0, .inr (.inr 407)), (1, .inl v1), (2, .inl v2)], [.inl 5, .inr (.inr 408), .inl 0, .inl v1], M)
  refine mm_s1 rfl ⟨nn_bd (na_13_0 NN (nn_c407 NN)) (by decide), ?_⟩
  show mm_Go (mm_run 2) mc_M_run _ (8, [(0, .inr (.inr 407)), (1, .inl v1), (2, .inl v2)], [.inl (nn_ri M 408 5), .inl 0, .inl v1], M)
  refine mm_s1 rfl ?_
  refine mm_s1 rfl ?_
  refine mm_s1 rfl ⟨trivial, ?_⟩
  refine np_M_isIn (by decide) L N ?_
  show mm_Go (mm_run 2) mc_M_run _ (13, [(0, .inr (.inr 407)), (1, .inl v1), (2, .inl v2)], [.inl (nf_M_isIn v1 0 (mm_w ((nn_ri M 408 5) - 1)))], M)
  refine mm_s1 rfl ⟨fun c13 => ?_, fun c13 => ?_⟩
  · show mm_Go (mm_run 2) mc_M_run _ (20, [(0, .inr (.inr 407)), (1, .inl v1), (2, .inl v2)], [], M)
    refine mm_s1 rfl ?_
    replace h := h.1 (Or.inl c13)
    exact mm_s1 rfl ⟨_, rfl, L, N, h⟩
  · show mm_Go (mm_run 2) mc_M_run _ (16, [(0, .inr (.inr 407)), (1, .inl v1), (2, .inl v2)], [], M)
    refine mm_s1 rfl ?_
    refine mm_s1 rfl ⟨fun c17 => ?_, fun c17 => ?_⟩
    · show mm_Go (mm_run 2) mc_M_run _ (22, [(0, .inr (.inr 407)), (1, .inl v1), (2, .inl v2)], [], M)
      refine mm_s1 rfl ?_
      refine mm_s1 rfl ?_
      refine mm_s1 rfl ⟨trivial, ?_⟩
      refine np_M_runAt (by decide) L N ?_
      show mm_Go (mm_run 2) mc_M_run _ (27, [(0, .inr (.inr 407)), (1, .inl v1), (2, .inl v2)], [.inl (nf_M_runAt 0 v1)], M)
      refine mm_s1 rfl ?_
      show mm_Go (mm_run 2) mc_M_run _ (28, [(0, .inr (.inr 407)), (1, .inl v1), (2, .inl v2), (3, .inl (nf_M_runAt 0 v1))], [], M)
      refine mm_s1 rfl ?_
      refine mm_s1 rfl ?_
      show mm_Go (mm_run 2) mc_M_run _ (31, [(0, .inr (.inr 407)), (1, .inl v1), (2, .inl v2), (3, .inl (nf_M_runAt 0 v1)), (4, .inl 0)], [], M)
      refine mm_s1 rfl ?_
      refine mm_s1 rfl ?_
      show mm_Go (mm_run 2) mc_M_run _ (34, [(0, .inr (.inr 407)), (1, .inl v1), (2, .inl v2), (3, .inl (nf_M_runAt 0 v1)), (4, .inl 0), (5, .inl 0)], [], M)
      replace h := h.2 ⟨c13, c17⟩
      exact nn_go_ext (nn_xc rfl (nn_xc rfl (nn_xc rfl (nn_xc rfl (nn_xc rfl (nn_xc rfl nn_xn)))))) (h n L N)
    · show mm_Go (mm_run 2) mc_M_run _ (20, [(0, .inr (.inr 407)), (1, .inl v1), (2, .inl v2)], [], M)
      replace c17 := Int.not_le.mp c17
      refine mm_s1 rfl ?_
      replace h := h.1 (Or.inr c17)
      exact mm_s1 rfl ⟨_, rfl, L, N, h⟩
set_option maxRecDepth 20000 in
theorem ng_M_run_34 (v1 : Int) (v2 : Int) (v3 : Int) (v4 : Int) (v5 : Int) (M : mm_M) (R : Int → mm_M → Prop) (h : ((32 ≤ v5 → ((v2 ≠ 0 → ((v2 ≠ 4 → ((4 ≤ v2 → R (-1) M) ∧ (v2 < 4 → (((0 : Int) ≤ (mm_w (v3 + v2)) ∧ (mm_w (v3 + v2)) < (32844 : Int)) ∧ R (nn_ri M 408 (mm_w (v3 + v2))) M)))) ∧ (v2 = 4 → (nr_M_filter v1 M (fun r93 M93 => R r93 M93))))) ∧ (v2 = 0 → R v4 M))) ∧ (v5 < 32 → (((0 : Int) ≤ (mm_w ((mm_w (v3 + 4)) + v5)) ∧ (mm_w ((mm_w (v3 + 4)) + v5)) < (32844 : Int)) ∧ (((nn_ri M 408 (mm_w ((mm_w (v3 + 4)) + v5))) ≠ 0 → (((mm_w (v2 - 10)) ≠ v4 → nk_M_run_34 v1 v2 v3 (mm_w (v4 + 1)) (mm_w (v5 + 1)) M R) ∧ ((mm_w (v2 - 10)) = v4 → R v5 M))) ∧ ((nn_ri M 408 (mm_w ((mm_w (v3 + 4)) + v5))) = 0 → nk_M_run_34 v1 v2 v3 v4 (mm_w (v5 + 1)) M R)))))) : nk_M_run_34 v1 v2 v3 v4 v5 M R := by
  intro n L N 
  have NN := nn_L_n L N
  show mm_Go (mm_run 2) mc_M_run _ (34, [(0, .inr (.inr 407)), (1, .inl v1), (2, .inl v2), (3, .inl v3), (4, .inl v4), (5, .inl v5)], [], M)
  refine mm_s1 rfl ?_
  refine mm_s1 rfl ?_
  refine mm_s1 rfl ⟨fun c38 => ?_, fun c38 => ?_⟩
  · show mm_Go (mm_run 2) mc_M_run _ (79, [(0, .inr (.inr 407)), (1, .inl v1), (2, .inl v2), (3, .inl v3), (4, .inl v4), (5, .inl v5)], [], M)
    replace h := h.1 c38
    refine mm_s1 rfl ?_
    refine mm_s1 rfl ⟨fun c80 => ?_, fun c80 => ?_⟩
    · show mm_Go (mm_run 2) mc_M_run _ (86, [(0, .inr (.inr 407)), (1, .inl v1), (2, .inl v2), (3, .inl v3), (4, .inl v4), (5, .inl v5)], [], M)
      replace h := h.1 c80
      refine mm_s1 rfl ?_
      refine mm_s1 rfl ?_
      refine mm_s1 rfl ⟨fun c88 => ?_, fun c88 => ?_⟩
      · show mm_Go (mm_run 2) mc_M_run _ (99, [(0, .inr (.inr 407)), (1, .inl v1), (2, .inl v2), (3, .inl v3), (4, .inl v4), (5, .inl v5)], [], M)
        replace h := h.1 c88
        refine mm_s1 rfl ?_
        refine mm_s1 rfl ?_
        refine mm_s1 rfl ⟨fun c101 => ?_, fun c101 => ?_⟩
        · show mm_Go (mm_run 2) mc_M_run _ (115, [(0, .inr (.inr 407)), (1, .inl v1), (2, .inl v2), (3, .inl v3), (4, .inl v4), (5, .inl v5)], [], M)
          replace h := h.1 c101
          refine mm_s1 rfl ?_
          exact mm_s1 rfl ⟨_, rfl, L, N, h⟩
        · show mm_Go (mm_run 2) mc_M_run _ (104, [(0, .inr (.inr 407)), (1, .inl v1), (2, .inl v2), (3, .inl v3), (4, .inl v4), (5, .inl v5)], [], M)
          replace c101 := Int.not_le.mp c101
          replace h := h.2 c101
          refine mm_s1 rfl ?_
          refine nn_getr rfl (nn_c407 NN).1 (lf_13_0 L N (nn_c407 NN)) ?_
          refine mm_s1 rfl ?_
          refine mm_s1 rfl ?_
          refine mm_s1 rfl ?_
          show mm_Go (mm_run 2) mc_M_run _ (111, [(0, .inr (.inr 407)), (1, .inl v1), (2, .inl v2), (3, .inl v3), (4, .inl v4), (5, .inl v5)], [.inl (mm_w (v3 + v2)), .inr (.inr 408)], M)
          obtain ⟨b111, h⟩ := h
          refine mm_s1 rfl ⟨nn_bd (na_13_0 NN (nn_c407 NN)) b111, ?_⟩
          show mm_Go (mm_run 2) mc_M_run _ (112, [(0, .inr (.inr 407)), (1, .inl v1), (2, .inl v2), (3, .inl v3), (4, .inl v4), (5, .inl v5)], [.inl (nn_ri M 408 (mm_w (v3 + v2)))], M)
          refine mm_s1 rfl ?_
          show mm_Go (mm_run 2) mc_M_run _ (116, [(0, .inr (.inr 407)), (1, .inl v1), (2, .inl v2), (3, .inl v3), (4, .inl v4), (5, .inl v5)], [.inl (nn_ri M 408 (mm_w (v3 + v2)))], M)
          exact mm_s1 rfl ⟨_, rfl, L, N, h⟩
      · show mm_Go (mm_run 2) mc_M_run _ (91, [(0, .inr (.inr 407)), (1, .inl v1), (2, .inl v2), (3, .inl v3), (4, .inl v4), (5, .inl v5)], [], M)
        replace c88 := Decidable.not_not.mp c88
        replace h := h.2 c88
        refine mm_s1 rfl ?_
        refine mm_s1 rfl ?_
        refine mm_s1 rfl ⟨(nn_c407 NN).1, ?_⟩
        refine nn_call (D := 2) (by decide) (h n L N) ?_
        intro v M93 q; clear L N h
        obtain ⟨r93, rfl, L, N, h⟩ := q
        show mm_Go (mm_run 2) mc_M_run _ (96, [(0, .inr (.inr 407)), (1, .inl v1), (2, .inl v2), (3, .inl v3), (4, .inl v4), (5, .inl v5)], [.inl r93], M93)
        refine mm_s1 rfl ?_
        show mm_Go (mm_run 2) mc_M_run _ (116, [(0, .inr (.inr 407)), (1, .inl v1), (2, .inl v2), (3, .inl v3), (4, .inl v4), (5, .inl v5)], [.inl r93], M93)
        exact mm_s1 rfl ⟨_, rfl, L, N, h⟩
    · show mm_Go (mm_run 2) mc_M_run _ (83, [(0, .inr (.inr 407)), (1, .inl v1), (2, .inl v2), (3, .inl v3), (4, .inl v4), (5, .inl v5)], [], M)
      replace c80 := Decidable.not_not.mp c80
      replace h := h.2 c80
      refine mm_s1 rfl ?_
      exact mm_s1 rfl ⟨_, rfl, L, N, h⟩
  · show mm_Go (mm_run 2) mc_M_run _ (41, [(0, .inr (.inr 407)), (1, .inl v1), (2, .inl v2), (3, .inl v3), (4, .inl v4), (5, .inl v5)], [], M)
    replace c38 := Int.not_le.mp c38
    replace h := h.2 c38
    refine mm_s1 rfl ?_
    refine nn_getr rfl (nn_c407 NN).1 (lf_13_0 L N (nn_c407 NN)) ?_
    refine mm_s1 rfl ?_
    refine mm_s1 rfl ?_
    refine mm_s1 rfl ?_
    show mm_Go (mm_run 2) mc_M_run _ (48, [(0, .inr (.inr 407)), (1, .inl v1), (2, .inl v2), (3, .inl v3), (4, .inl v4), (5, .inl v5)], [.inl (mm_w (v3 + 4)), .inr (.inr 408)], M)
    refine mm_s1 rfl ?_
    refine mm_s1 rfl ?_
    obtain ⟨b51, h⟩ := h
    refine mm_s1 rfl ⟨nn_bd (na_13_0 NN (nn_c407 NN)) b51, ?_⟩
    show mm_Go (mm_run 2) mc_M_run _ (52, [(0, .inr (.inr 407)), (1, .inl v1), (2, .inl v2), (3, .inl v3), (4, .inl v4), (5, .inl v5)], [.inl (nn_ri M 408 (mm_w ((mm_w (v3 + 4)) + v5)))], M)
    refine mm_s1 rfl ⟨fun c52 => ?_, fun c52 => ?_⟩
    · show mm_Go (mm_run 2) mc_M_run _ (58, [(0, .inr (.inr 407)), (1, .inl v1), (2, .inl v2), (3, .inl v3), (4, .inl v4), (5, .inl v5)], [], M)
      replace h := h.1 c52
      refine mm_s1 rfl ?_
      refine mm_s1 rfl ?_
      refine mm_s1 rfl ?_
      refine mm_s1 rfl ?_
      refine mm_s1 rfl ⟨fun c64 => ?_, fun c64 => ?_⟩
      · show mm_Go (mm_run 2) mc_M_run _ (70, [(0, .inr (.inr 407)), (1, .inl v1), (2, .inl v2), (3, .inl v3), (4, .inl v4), (5, .inl v5)], [], M)
        replace h := h.1 c64
        refine mm_s1 rfl ?_
        show mm_Go (mm_run 2) mc_M_run _ (73, [(0, .inr (.inr 407)), (1, .inl v1), (2, .inl v2), (3, .inl v3), (4, .inl (mm_w (v4 + 1))), (5, .inl v5)], [], M)
        refine mm_s1 rfl ?_
        show mm_Go (mm_run 2) mc_M_run _ (76, [(0, .inr (.inr 407)), (1, .inl v1), (2, .inl v2), (3, .inl v3), (4, .inl (mm_w (v4 + 1))), (5, .inl (mm_w (v5 + 1)))], [], M)
        refine mm_s1 rfl ?_
        show mm_Go (mm_run 2) mc_M_run _ (34, [(0, .inr (.inr 407)), (1, .inl v1), (2, .inl v2), (3, .inl v3), (4, .inl (mm_w (v4 + 1))), (5, .inl (mm_w (v5 + 1)))], [], M)
        exact nn_go_ext (nn_xc rfl (nn_xc rfl (nn_xc rfl (nn_xc rfl (nn_xc rfl (nn_xc rfl nn_xn)))))) (h n L N)
      · show mm_Go (mm_run 2) mc_M_run _ (67, [(0, .inr (.inr 407)), (1, .inl v1), (2, .inl v2), (3, .inl v3), (4, .inl v4), (5, .inl v5)], [], M)
        replace c64 := Decidable.not_not.mp c64
        replace h := h.2 c64
        refine mm_s1 rfl ?_
        exact mm_s1 rfl ⟨_, rfl, L, N, h⟩
    · show mm_Go (mm_run 2) mc_M_run _ (55, [(0, .inr (.inr 407)), (1, .inl v1), (2, .inl v2), (3, .inl v3), (4, .inl v4), (5, .inl v5)], [], M)
      replace c52 := Decidable.not_not.mp c52
      replace h := h.2 c52
      refine mm_s1 rfl ?_
      show mm_Go (mm_run 2) mc_M_run _ (73, [(0, .inr (.inr 407)), (1, .inl v1), (2, .inl v2), (3, .inl v3), (4, .inl v4), (5, .inl v5)], [], M)
      refine mm_s1 rfl ?_
      show mm_Go (mm_run 2) mc_M_run _ (76, [(0, .inr (.inr 407)), (1, .inl v1), (2, .inl v2), (3, .inl v3), (4, .inl v4), (5, .inl (mm_w (v5 + 1)))], [], M)
      refine mm_s1 rfl ?_
      show mm_Go (mm_run 2) mc_M_run _ (34, [(0, .inr (.inr 407)), (1, .inl v1), (2, .inl v2), (3, .inl v3), (4, .inl v4), (5, .inl (mm_w (v5 + 1)))], [], M)
      exact nn_go_ext (nn_xc rfl (nn_xc rfl (nn_xc rfl (nn_xc rfl (nn_xc rfl (nn_xc rfl nn_xn)))))) (h n L N)
def nr_M_ofRuns (v1 : Int) (v2 : Int) (M : mm_M) (R : Int → mm_M → Prop) : Prop := ∀ n, nn_L M → M.1 = n → mm_run 3 mi_M_ofRuns [.inr (.inr 407), .inl v1, .inl v2] M (nw_I n R)
set_option maxRecDepth 20000 in
theorem ng_M_ofRuns (v1 : Int) (v2 : Int) (M : mm_M) (R : Int → mm_M → Prop) (h : ((60 ≤ v2 → ((100 ≤ v2 → (((0 : Int) ≤ (mm_w ((nf_M_at 0 v1) + 5)) ∧ (mm_w ((nf_M_at 0 v1) + 5)) < (32844 : Int)) ∧ (((mm_w (v2 - 100)) < (nn_ri M 408 (mm_w ((nf_M_at 0 v1) + 5))) → ((60 ≤ v2 → ((100 ≤ v2 → (((0 : Int) ≤ (mm_w ((nf_M_head (nf_M_at 0 v1) (mm_w (v2 - 100))) + 2)) ∧ (mm_w ((nf_M_head (nf_M_at 0 v1) (mm_w (v2 - 100))) + 2)) < (32844 : Int)) ∧ R (nn_ri M 408 (mm_w ((nf_M_head (nf_M_at 0 v1) (mm_w (v2 - 100))) + 2))) M)) ∧ (v2 < 100 → (((0 : Int) ≤ (mm_w ((nf_M_head (nf_M_at 0 v1) (mm_w (v2 - 100))) + 1)) ∧ (mm_w ((nf_M_head (nf_M_at 0 v1) (mm_w (v2 - 100))) + 1)) < (32844 : Int)) ∧ R (nn_ri M 408 (mm_w ((nf_M_head (nf_M_at 0 v1) (mm_w (v2 - 100))) + 1))) M)))) ∧ (v2 < 60 → (nr_M_entriesOf (nf_M_at 0 v1) (mm_w ((mm_w (v2 - 100)) + 1)) M (fun r66 M66 => R r66 M66))))) ∧ ((nn_ri M 408 (mm_w ((nf_M_at 0 v1) + 5))) ≤ (mm_w (v2 - 100)) → R (-2) M)))) ∧ (v2 < 100 → (((0 : Int) ≤ (mm_w ((nf_M_at 0 v1) + 5)) ∧ (mm_w ((nf_M_at 0 v1) + 5)) < (32844 : Int)) ∧ (((mm_w (v2 - 60)) < (nn_ri M 408 (mm_w ((nf_M_at 0 v1) + 5))) → ((60 ≤ v2 → ((100 ≤ v2 → (((0 : Int) ≤ (mm_w ((nf_M_head (nf_M_at 0 v1) (mm_w (v2 - 60))) + 2)) ∧ (mm_w ((nf_M_head (nf_M_at 0 v1) (mm_w (v2 - 60))) + 2)) < (32844 : Int)) ∧ R (nn_ri M 408 (mm_w ((nf_M_head (nf_M_at 0 v1) (mm_w (v2 - 60))) + 2))) M)) ∧ (v2 < 100 → (((0 : Int) ≤ (mm_w ((nf_M_head (nf_M_at 0 v1) (mm_w (v2 - 60))) + 1)) ∧ (mm_w ((nf_M_head (nf_M_at 0 v1) (mm_w (v2 - 60))) + 1)) < (32844 : Int)) ∧ R (nn_ri M 408 (mm_w ((nf_M_head (nf_M_at 0 v1) (mm_w (v2 - 60))) + 1))) M)))) ∧ (v2 < 60 → (nr_M_entriesOf (nf_M_at 0 v1) (mm_w ((mm_w (v2 - 60)) + 1)) M (fun r66 M66 => R r66 M66))))) ∧ ((nn_ri M 408 (mm_w ((nf_M_at 0 v1) + 5))) ≤ (mm_w (v2 - 60)) → R (-2) M)))))) ∧ (v2 < 60 → (((0 : Int) ≤ (mm_w ((nf_M_at 0 v1) + 5)) ∧ (mm_w ((nf_M_at 0 v1) + 5)) < (32844 : Int)) ∧ (((mm_w (v2 - 20)) < (nn_ri M 408 (mm_w ((nf_M_at 0 v1) + 5))) → ((60 ≤ v2 → ((100 ≤ v2 → (((0 : Int) ≤ (mm_w ((nf_M_head (nf_M_at 0 v1) (mm_w (v2 - 20))) + 2)) ∧ (mm_w ((nf_M_head (nf_M_at 0 v1) (mm_w (v2 - 20))) + 2)) < (32844 : Int)) ∧ R (nn_ri M 408 (mm_w ((nf_M_head (nf_M_at 0 v1) (mm_w (v2 - 20))) + 2))) M)) ∧ (v2 < 100 → (((0 : Int) ≤ (mm_w ((nf_M_head (nf_M_at 0 v1) (mm_w (v2 - 20))) + 1)) ∧ (mm_w ((nf_M_head (nf_M_at 0 v1) (mm_w (v2 - 20))) + 1)) < (32844 : Int)) ∧ R (nn_ri M 408 (mm_w ((nf_M_head (nf_M_at 0 v1) (mm_w (v2 - 20))) + 1))) M)))) ∧ (v2 < 60 → (nr_M_entriesOf (nf_M_at 0 v1) (mm_w ((mm_w (v2 - 20)) + 1)) M (fun r66 M66 => R r66 M66))))) ∧ ((nn_ri M 408 (mm_w ((nf_M_at 0 v1) + 5))) ≤ (mm_w (v2 - 20)) → R (-2) M)))))) : nr_M_ofRuns v1 v2 M R := by
  intro n L N 
  have NN := nn_L_n L N
  show mm_Go (mm_run 2) mc_M_ofRuns _ (0, [(0, .inr (.inr 407)), (1, .inl v1), (2, .inl v2)], [], M)
  refine mm_s1 rfl ?_
  refine mm_s1 rfl ?_
  refine mm_s1 rfl ⟨trivial, ?_⟩
  refine np_M_at (by decide) L N ?_
  show mm_Go (mm_run 2) mc_M_ofRuns _ (5, [(0, .inr (.inr 407)), (1, .inl v1), (2, .inl v2)], [.inl (nf_M_at 0 v1)], M)
  refine mm_s1 rfl ?_
  show mm_Go (mm_run 2) mc_M_ofRuns _ (6, [(0, .inr (.inr 407)), (1, .inl v1), (2, .inl v2), (3, .inl (nf_M_at 0 v1))], [], M)
  refine mm_s1 rfl ?_
  refine mm_s1 rfl ?_
  refine mm_s1 rfl ⟨fun c9 => ?_, fun c9 => ?_⟩
  · show mm_Go (mm_run 2) mc_M_ofRuns _ (19, [(0, .inr (.inr 407)), (1, .inl v1), (2, .inl v2), (3, .inl (nf_M_at 0 v1))], [], M)
    replace h := h.1 c9
    refine mm_s1 rfl ?_
    refine mm_s1 rfl ?_
    refine mm_s1 rfl ⟨fun c22 => ?_, fun c22 => ?_⟩
    · show mm_Go (mm_run 2) mc_M_ofRuns _ (32, [(0, .inr (.inr 407)), (1, .inl v1), (2, .inl v2), (3, .inl (nf_M_at 0 v1))], [], M)
      replace h := h.1 c22
      refine mm_s1 rfl ?_
      refine mm_s1 rfl ?_
      refine mm_s1 rfl ?_
      refine mm_s1 rfl ?_
      show mm_Go (mm_run 2) mc_M_ofRuns _ (38, [(0, .inr (.inr 407)), (1, .inl v1), (2, .inl v2), (3, .inl (nf_M_at 0 v1)), (4, .inl (mm_w (v2 - 100)))], [], M)
      refine mm_s1 rfl ?_
      refine mm_s1 rfl ?_
      refine nn_getr rfl (nn_c407 NN).1 (lf_13_0 L N (nn_c407 NN)) ?_
      refine mm_s1 rfl ?_
      refine mm_s1 rfl ?_
      show mm_Go (mm_run 2) mc_M_ofRuns _ (46, [(0, .inr (.inr 407)), (1, .inl v1), (2, .inl v2), (3, .inl (nf_M_at 0 v1)), (4, .inl (mm_w (v2 - 100)))], [.inl 5, .inl (nf_M_at 0 v1), .inr (.inr 408), .inl (mm_w (v2 - 100))], M)
      refine mm_s1 rfl ?_
      obtain ⟨b47, h⟩ := h
      refine mm_s1 rfl ⟨nn_bd (na_13_0 NN (nn_c407 NN)) b47, ?_⟩
      show mm_Go (mm_run 2) mc_M_ofRuns _ (48, [(0, .inr (.inr 407)), (1, .inl v1), (2, .inl v2), (3, .inl (nf_M_at 0 v1)), (4, .inl (mm_w (v2 - 100)))], [.inl (nn_ri M 408 (mm_w ((nf_M_at 0 v1) + 5))), .inl (mm_w (v2 - 100))], M)
      refine mm_s1 rfl ⟨fun c48 => ?_, fun c48 => ?_⟩
      · show mm_Go (mm_run 2) mc_M_ofRuns _ (54, [(0, .inr (.inr 407)), (1, .inl v1), (2, .inl v2), (3, .inl (nf_M_at 0 v1)), (4, .inl (mm_w (v2 - 100)))], [], M)
        replace h := h.1 c48
        refine mm_s1 rfl ?_
        refine mm_s1 rfl ?_
        refine mm_s1 rfl ⟨fun c57 => ?_, fun c57 => ?_⟩
        · show mm_Go (mm_run 2) mc_M_ofRuns _ (72, [(0, .inr (.inr 407)), (1, .inl v1), (2, .inl v2), (3, .inl (nf_M_at 0 v1)), (4, .inl (mm_w (v2 - 100)))], [], M)
          replace h := h.1 c57
          refine mm_s1 rfl ?_
          refine nn_getr rfl (nn_c407 NN).1 (lf_13_0 L N (nn_c407 NN)) ?_
          refine mm_s1 rfl ?_
          refine mm_s1 rfl ?_
          refine mm_s1 rfl ⟨trivial, ?_⟩
          refine np_M_head (by decide) L N ?_
          show mm_Go (mm_run 2) mc_M_ofRuns _ (82, [(0, .inr (.inr 407)), (1, .inl v1), (2, .inl v2), (3, .inl (nf_M_at 0 v1)), (4, .inl (mm_w (v2 - 100)))], [.inl (nf_M_head (nf_M_at 0 v1) (mm_w (v2 - 100))), .inr (.inr 408)], M)
          refine mm_s1 rfl ?_
          refine mm_s1 rfl ?_
          refine mm_s1 rfl ⟨fun c85 => ?_, fun c85 => ?_⟩
          · show mm_Go (mm_run 2) mc_M_ofRuns _ (92, [(0, .inr (.inr 407)), (1, .inl v1), (2, .inl v2), (3, .inl (nf_M_at 0 v1)), (4, .inl (mm_w (v2 - 100)))], [.inl (nf_M_head (nf_M_at 0 v1) (mm_w (v2 - 100))), .inr (.inr 408)], M)
            replace h := h.1 c85
            refine mm_s1 rfl ?_
            refine mm_s1 rfl ?_
            obtain ⟨b94, h⟩ := h
            refine mm_s1 rfl ⟨nn_bd (na_13_0 NN (nn_c407 NN)) b94, ?_⟩
            show mm_Go (mm_run 2) mc_M_ofRuns _ (95, [(0, .inr (.inr 407)), (1, .inl v1), (2, .inl v2), (3, .inl (nf_M_at 0 v1)), (4, .inl (mm_w (v2 - 100)))], [.inl (nn_ri M 408 (mm_w ((nf_M_head (nf_M_at 0 v1) (mm_w (v2 - 100))) + 2)))], M)
            exact mm_s1 rfl ⟨_, rfl, L, N, h⟩
          · show mm_Go (mm_run 2) mc_M_ofRuns _ (88, [(0, .inr (.inr 407)), (1, .inl v1), (2, .inl v2), (3, .inl (nf_M_at 0 v1)), (4, .inl (mm_w (v2 - 100)))], [.inl (nf_M_head (nf_M_at 0 v1) (mm_w (v2 - 100))), .inr (.inr 408)], M)
            replace c85 := Int.not_le.mp c85
            replace h := h.2 c85
            refine mm_s1 rfl ?_
            refine mm_s1 rfl ?_
            show mm_Go (mm_run 2) mc_M_ofRuns _ (93, [(0, .inr (.inr 407)), (1, .inl v1), (2, .inl v2), (3, .inl (nf_M_at 0 v1)), (4, .inl (mm_w (v2 - 100)))], [.inl 1, .inl (nf_M_head (nf_M_at 0 v1) (mm_w (v2 - 100))), .inr (.inr 408)], M)
            refine mm_s1 rfl ?_
            obtain ⟨b94, h⟩ := h
            refine mm_s1 rfl ⟨nn_bd (na_13_0 NN (nn_c407 NN)) b94, ?_⟩
            show mm_Go (mm_run 2) mc_M_ofRuns _ (95, [(0, .inr (.inr 407)), (1, .inl v1), (2, .inl v2), (3, .inl (nf_M_at 0 v1)), (4, .inl (mm_w (v2 - 100)))], [.inl (nn_ri M 408 (mm_w ((nf_M_head (nf_M_at 0 v1) (mm_w (v2 - 100))) + 1)))], M)
            exact mm_s1 rfl ⟨_, rfl, L, N, h⟩
        · show mm_Go (mm_run 2) mc_M_ofRuns _ (60, [(0, .inr (.inr 407)), (1, .inl v1), (2, .inl v2), (3, .inl (nf_M_at 0 v1)), (4, .inl (mm_w (v2 - 100)))], [], M)
          replace c57 := Int.not_le.mp c57
          replace h := h.2 c57
          refine mm_s1 rfl ?_
          refine mm_s1 rfl ?_
          refine mm_s1 rfl ?_
          refine mm_s1 rfl ?_
          refine mm_s1 rfl ?_
          show mm_Go (mm_run 2) mc_M_ofRuns _ (66, [(0, .inr (.inr 407)), (1, .inl v1), (2, .inl v2), (3, .inl (nf_M_at 0 v1)), (4, .inl (mm_w (v2 - 100)))], [.inl (mm_w ((mm_w (v2 - 100)) + 1)), .inl (nf_M_at 0 v1), .inr (.inr 407)], M)
          refine mm_s1 rfl ⟨(nn_c407 NN).1, ?_⟩
          refine nn_call (D := 2) (by decide) (h n L N) ?_
          intro v M66 q; clear L N h
          obtain ⟨r66, rfl, L, N, h⟩ := q
          show mm_Go (mm_run 2) mc_M_ofRuns _ (69, [(0, .inr (.inr 407)), (1, .inl v1), (2, .inl v2), (3, .inl (nf_M_at 0 v1)), (4, .inl (mm_w (v2 - 100)))], [.inl r66], M66)
          refine mm_s1 rfl ?_
          show mm_Go (mm_run 2) mc_M_ofRuns _ (95, [(0, .inr (.inr 407)), (1, .inl v1), (2, .inl v2), (3, .inl (nf_M_at 0 v1)), (4, .inl (mm_w (v2 - 100)))], [.inl r66], M66)
          exact mm_s1 rfl ⟨_, rfl, L, N, h⟩
      · show mm_Go (mm_run 2) mc_M_ofRuns _ (51, [(0, .inr (.inr 407)), (1, .inl v1), (2, .inl v2), (3, .inl (nf_M_at 0 v1)), (4, .inl (mm_w (v2 - 100)))], [], M)
        replace c48 := Int.not_lt.mp c48
        replace h := h.2 c48
        refine mm_s1 rfl ?_
        exact mm_s1 rfl ⟨_, rfl, L, N, h⟩
    · show mm_Go (mm_run 2) mc_M_ofRuns _ (25, [(0, .inr (.inr 407)), (1, .inl v1), (2, .inl v2), (3, .inl (nf_M_at 0 v1))], [], M)
      replace c22 := Int.not_le.mp c22
      replace h := h.2 c22
      refine mm_s1 rfl ?_
      refine mm_s1 rfl ?_
      refine mm_s1 rfl ?_
      refine mm_s1 rfl ?_
      show mm_Go (mm_run 2) mc_M_ofRuns _ (36, [(0, .inr (.inr 407)), (1, .inl v1), (2, .inl v2), (3, .inl (nf_M_at 0 v1))], [.inl (mm_w (v2 - 60))], M)
      refine mm_s1 rfl ?_
      show mm_Go (mm_run 2) mc_M_ofRuns _ (38, [(0, .inr (.inr 407)), (1, .inl v1), (2, .inl v2), (3, .inl (nf_M_at 0 v1)), (4, .inl (mm_w (v2 - 60)))], [], M)
      refine mm_s1 rfl ?_
      refine mm_s1 rfl ?_
      refine nn_getr rfl (nn_c407 NN).1 (lf_13_0 L N (nn_c407 NN)) ?_
      refine mm_s1 rfl ?_
      refine mm_s1 rfl ?_
      show mm_Go (mm_run 2) mc_M_ofRuns _ (46, [(0, .inr (.inr 407)), (1, .inl v1), (2, .inl v2), (3, .inl (nf_M_at 0 v1)), (4, .inl (mm_w (v2 - 60)))], [.inl 5, .inl (nf_M_at 0 v1), .inr (.inr 408), .inl (mm_w (v2 - 60))], M)
      refine mm_s1 rfl ?_
      obtain ⟨b47, h⟩ := h
      refine mm_s1 rfl ⟨nn_bd (na_13_0 NN (nn_c407 NN)) b47, ?_⟩
      show mm_Go (mm_run 2) mc_M_ofRuns _ (48, [(0, .inr (.inr 407)), (1, .inl v1), (2, .inl v2), (3, .inl (nf_M_at 0 v1)), (4, .inl (mm_w (v2 - 60)))], [.inl (nn_ri M 408 (mm_w ((nf_M_at 0 v1) + 5))), .inl (mm_w (v2 - 60))], M)
      refine mm_s1 rfl ⟨fun c48 => ?_, fun c48 => ?_⟩
      · show mm_Go (mm_run 2) mc_M_ofRuns _ (54, [(0, .inr (.inr 407)), (1, .inl v1), (2, .inl v2), (3, .inl (nf_M_at 0 v1)), (4, .inl (mm_w (v2 - 60)))], [], M)
        replace h := h.1 c48
        refine mm_s1 rfl ?_
        refine mm_s1 rfl ?_
        refine mm_s1 rfl ⟨fun c57 => ?_, fun c57 => ?_⟩
        · show mm_Go (mm_run 2) mc_M_ofRuns _ (72, [(0, .inr (.inr 407)), (1, .inl v1), (2, .inl v2), (3, .inl (nf_M_at 0 v1)), (4, .inl (mm_w (v2 - 60)))], [], M)
          replace h := h.1 c57
          refine mm_s1 rfl ?_
          refine nn_getr rfl (nn_c407 NN).1 (lf_13_0 L N (nn_c407 NN)) ?_
          refine mm_s1 rfl ?_
          refine mm_s1 rfl ?_
          refine mm_s1 rfl ⟨trivial, ?_⟩
          refine np_M_head (by decide) L N ?_
          show mm_Go (mm_run 2) mc_M_ofRuns _ (82, [(0, .inr (.inr 407)), (1, .inl v1), (2, .inl v2), (3, .inl (nf_M_at 0 v1)), (4, .inl (mm_w (v2 - 60)))], [.inl (nf_M_head (nf_M_at 0 v1) (mm_w (v2 - 60))), .inr (.inr 408)], M)
          refine mm_s1 rfl ?_
          refine mm_s1 rfl ?_
          refine mm_s1 rfl ⟨fun c85 => ?_, fun c85 => ?_⟩
          · show mm_Go (mm_run 2) mc_M_ofRuns _ (92, [(0, .inr (.inr 407)), (1, .inl v1), (2, .inl v2), (3, .inl (nf_M_at 0 v1)), (4, .inl (mm_w (v2 - 60)))], [.inl (nf_M_head (nf_M_at 0 v1) (mm_w (v2 - 60))), .inr (.inr 408)], M)
            replace h := h.1 c85
            refine mm_s1 rfl ?_
            refine mm_s1 rfl ?_
            obtain ⟨b94, h⟩ := h
            refine mm_s1 rfl ⟨nn_bd (na_13_0 NN (nn_c407 NN)) b94, ?_⟩
            show mm_Go (mm_run 2) mc_M_ofRuns _ (95, [(0, .inr (.inr 407)), (1, .inl v1), (2, .inl v2), (3, .inl (nf_M_at 0 v1)), (4, .inl (mm_w (v2 - 60)))], [.inl (nn_ri M 408 (mm_w ((nf_M_head (nf_M_at 0 v1) (mm_w (v2 - 60))) + 2)))], M)
            exact mm_s1 rfl ⟨_, rfl, L, N, h⟩
          · show mm_Go (mm_run 2) mc_M_ofRuns _ (88, [(0, .inr (.inr 407)), (1, .inl v1), (2, .inl v2), (3, .inl (nf_M_at 0 v1)), (4, .inl (mm_w (v2 - 60)))], [.inl (nf_M_head (nf_M_at 0 v1) (mm_w (v2 - 60))), .inr (.inr 408)], M)
            replace c85 := Int.not_le.mp c85
            replace h := h.2 c85
            refine mm_s1 rfl ?_
            refine mm_s1 rfl ?_
            show mm_Go (mm_run 2) mc_M_ofRuns _ (93, [(0, .inr (.inr 407)), (1, .inl v1), (2, .inl v2), (3, .inl (nf_M_at 0 v1)), (4, .inl (mm_w (v2 - 60)))], [.inl 1, .inl (nf_M_head (nf_M_at 0 v1) (mm_w (v2 - 60))), .inr (.inr 408)], M)
            refine mm_s1 rfl ?_
            obtain ⟨b94, h⟩ := h
            refine mm_s1 rfl ⟨nn_bd (na_13_0 NN (nn_c407 NN)) b94, ?_⟩
            show mm_Go (mm_run 2) mc_M_ofRuns _ (95, [(0, .inr (.inr 407)), (1, .inl v1), (2, .inl v2), (3, .inl (nf_M_at 0 v1)), (4, .inl (mm_w (v2 - 60)))], [.inl (nn_ri M 408 (mm_w ((nf_M_head (nf_M_at 0 v1) (mm_w (v2 - 60))) + 1)))], M)
            exact mm_s1 rfl ⟨_, rfl, L, N, h⟩
        · show mm_Go (mm_run 2) mc_M_ofRuns _ (60, [(0, .inr (.inr 407)), (1, .inl v1), (2, .inl v2), (3, .inl (nf_M_at 0 v1)), (4, .inl (mm_w (v2 - 60)))], [], M)
          replace c57 := Int.not_le.mp c57
          replace h := h.2 c57
          refine mm_s1 rfl ?_
          refine mm_s1 rfl ?_
          refine mm_s1 rfl ?_
          refine mm_s1 rfl ?_
          refine mm_s1 rfl ?_
          show mm_Go (mm_run 2) mc_M_ofRuns _ (66, [(0, .inr (.inr 407)), (1, .inl v1), (2, .inl v2), (3, .inl (nf_M_at 0 v1)), (4, .inl (mm_w (v2 - 60)))], [.inl (mm_w ((mm_w (v2 - 60)) + 1)), .inl (nf_M_at 0 v1), .inr (.inr 407)], M)
          refine mm_s1 rfl ⟨(nn_c407 NN).1, ?_⟩
          refine nn_call (D := 2) (by decide) (h n L N) ?_
          intro v M66 q; clear L N h
          obtain ⟨r66, rfl, L, N, h⟩ := q
          show mm_Go (mm_run 2) mc_M_ofRuns _ (69, [(0, .inr (.inr 407)), (1, .inl v1), (2, .inl v2), (3, .inl (nf_M_at 0 v1)), (4, .inl (mm_w (v2 - 60)))], [.inl r66], M66)
          refine mm_s1 rfl ?_
          show mm_Go (mm_run 2) mc_M_ofRuns _ (95, [(0, .inr (.inr 407)), (1, .inl v1), (2, .inl v2), (3, .inl (nf_M_at 0 v1)), (4, .inl (mm_w (v2 - 60)))], [.inl r66], M66)
          exact mm_s1 rfl ⟨_, rfl, L, N, h⟩
      · show mm_Go (mm_run 2) mc_M_ofRuns _ (51, [(0, .inr (.inr 407)), (1, .inl v1), (2, .inl v2), (3, .inl (nf_M_at 0 v1)), (4, .inl (mm_w (v2 - 60)))], [], M)
        replace c48 := Int.not_lt.mp c48
        replace h := h.2 c48
        refine mm_s1 rfl ?_
        exact mm_s1 rfl ⟨_, rfl, L, N, h⟩
  · show mm_Go (mm_run 2) mc_M_ofRuns _ (12, [(0, .inr (.inr 407)), (1, .inl v1), (2, .inl v2), (3, .inl (nf_M_at 0 v1))], [], M)
    replace c9 := Int.not_le.mp c9
    replace h := h.2 c9
    refine mm_s1 rfl ?_
    refine mm_s1 rfl ?_
    refine mm_s1 rfl ?_
    refine mm_s1 rfl ?_
    show mm_Go (mm_run 2) mc_M_ofRuns _ (36, [(0, .inr (.inr 407)), (1, .inl v1), (2, .inl v2), (3, .inl (nf_M_at 0 v1))], [.inl (mm_w (v2 - 20))], M)
    refine mm_s1 rfl ?_
    show mm_Go (mm_run 2) mc_M_ofRuns _ (38, [(0, .inr (.inr 407)), (1, .inl v1), (2, .inl v2), (3, .inl (nf_M_at 0 v1)), (4, .inl (mm_w (v2 - 20)))], [], M)
    refine mm_s1 rfl ?_
    refine mm_s1 rfl ?_
    refine nn_getr rfl (nn_c407 NN).1 (lf_13_0 L N (nn_c407 NN)) ?_
    refine mm_s1 rfl ?_
    refine mm_s1 rfl ?_
    show mm_Go (mm_run 2) mc_M_ofRuns _ (46, [(0, .inr (.inr 407)), (1, .inl v1), (2, .inl v2), (3, .inl (nf_M_at 0 v1)), (4, .inl (mm_w (v2 - 20)))], [.inl 5, .inl (nf_M_at 0 v1), .inr (.inr 408), .inl (mm_w (v2 - 20))], M)
    refine mm_s1 rfl ?_
    obtain ⟨b47, h⟩ := h
    refine mm_s1 rfl ⟨nn_bd (na_13_0 NN (nn_c407 NN)) b47, ?_⟩
    show mm_Go (mm_run 2) mc_M_ofRuns _ (48, [(0, .inr (.inr 407)), (1, .inl v1), (2, .inl v2), (3, .inl (nf_M_at 0 v1)), (4, .inl (mm_w (v2 - 20)))], [.inl (nn_ri M 408 (mm_w ((nf_M_at 0 v1) + 5))), .inl (mm_w (v2 - 20))], M)
    refine mm_s1 rfl ⟨fun c48 => ?_, fun c48 => ?_⟩
    · show mm_Go (mm_run 2) mc_M_ofRuns _ (54, [(0, .inr (.inr 407)), (1, .inl v1), (2, .inl v2), (3, .inl (nf_M_at 0 v1)), (4, .inl (mm_w (v2 - 20)))], [], M)
      replace h := h.1 c48
      refine mm_s1 rfl ?_
      refine mm_s1 rfl ?_
      refine mm_s1 rfl ⟨fun c57 => ?_, fun c57 => ?_⟩
      · show mm_Go (mm_run 2) mc_M_ofRuns _ (72, [(0, .inr (.inr 407)), (1, .inl v1), (2, .inl v2), (3, .inl (nf_M_at 0 v1)), (4, .inl (mm_w (v2 - 20)))], [], M)
        replace h := h.1 c57
        refine mm_s1 rfl ?_
        refine nn_getr rfl (nn_c407 NN).1 (lf_13_0 L N (nn_c407 NN)) ?_
        refine mm_s1 rfl ?_
        refine mm_s1 rfl ?_
        refine mm_s1 rfl ⟨trivial, ?_⟩
        refine np_M_head (by decide) L N ?_
        show mm_Go (mm_run 2) mc_M_ofRuns _ (82, [(0, .inr (.inr 407)), (1, .inl v1), (2, .inl v2), (3, .inl (nf_M_at 0 v1)), (4, .inl (mm_w (v2 - 20)))], [.inl (nf_M_head (nf_M_at 0 v1) (mm_w (v2 - 20))), .inr (.inr 408)], M)
        refine mm_s1 rfl ?_
        refine mm_s1 rfl ?_
        refine mm_s1 rfl ⟨fun c85 => ?_, fun c85 => ?_⟩
        · show mm_Go (mm_run 2) mc_M_ofRuns _ (92, [(0, .inr (.inr 407)), (1, .inl v1), (2, .inl v2), (3, .inl (nf_M_at 0 v1)), (4, .inl (mm_w (v2 - 20)))], [.inl (nf_M_head (nf_M_at 0 v1) (mm_w (v2 - 20))), .inr (.inr 408)], M)
          replace h := h.1 c85
          refine mm_s1 rfl ?_
          refine mm_s1 rfl ?_
          obtain ⟨b94, h⟩ := h
          refine mm_s1 rfl ⟨nn_bd (na_13_0 NN (nn_c407 NN)) b94, ?_⟩
          show mm_Go (mm_run 2) mc_M_ofRuns _ (95, [(0, .inr (.inr 407)), (1, .inl v1), (2, .inl v2), (3, .inl (nf_M_at 0 v1)), (4, .inl (mm_w (v2 - 20)))], [.inl (nn_ri M 408 (mm_w ((nf_M_head (nf_M_at 0 v1) (mm_w (v2 - 20))) + 2)))], M)
          exact mm_s1 rfl ⟨_, rfl, L, N, h⟩
        · show mm_Go (mm_run 2) mc_M_ofRuns _ (88, [(0, .inr (.inr 407)), (1, .inl v1), (2, .inl v2), (3, .inl (nf_M_at 0 v1)), (4, .inl (mm_w (v2 - 20)))], [.inl (nf_M_head (nf_M_at 0 v1) (mm_w (v2 - 20))), .inr (.inr 408)], M)
          replace c85 := Int.not_le.mp c85
          replace h := h.2 c85
          refine mm_s1 rfl ?_
          refine mm_s1 rfl ?_
          show mm_Go (mm_run 2) mc_M_ofRuns _ (93, [(0, .inr (.inr 407)), (1, .inl v1), (2, .inl v2), (3, .inl (nf_M_at 0 v1)), (4, .inl (mm_w (v2 - 20)))], [.inl 1, .inl (nf_M_head (nf_M_at 0 v1) (mm_w (v2 - 20))), .inr (.inr 408)], M)
          refine mm_s1 rfl ?_
          obtain ⟨b94, h⟩ := h
          refine mm_s1 rfl ⟨nn_bd (na_13_0 NN (nn_c407 NN)) b94, ?_⟩
          show mm_Go (mm_run 2) mc_M_ofRuns _ (95, [(0, .inr (.inr 407)), (1, .inl v1), (2, .inl v2), (3, .inl (nf_M_at 0 v1)), (4, .inl (mm_w (v2 - 20)))], [.inl (nn_ri M 408 (mm_w ((nf_M_head (nf_M_at 0 v1) (mm_w (v2 - 20))) + 1)))], M)
          exact mm_s1 rfl ⟨_, rfl, L, N, h⟩
      · show mm_Go (mm_run 2) mc_M_ofRuns _ (60, [(0, .inr (.inr 407)), (1, .inl v1), (2, .inl v2), (3, .inl (nf_M_at 0 v1)), (4, .inl (mm_w (v2 - 20)))], [], M)
        replace c57 := Int.not_le.mp c57
        replace h := h.2 c57
        refine mm_s1 rfl ?_
        refine mm_s1 rfl ?_
        refine mm_s1 rfl ?_
        refine mm_s1 rfl ?_
        refine mm_s1 rfl ?_
        show mm_Go (mm_run 2) mc_M_ofRuns _ (66, [(0, .inr (.inr 407)), (1, .inl v1), (2, .inl v2), (3, .inl (nf_M_at 0 v1)), (4, .inl (mm_w (v2 - 20)))], [.inl (mm_w ((mm_w (v2 - 20)) + 1)), .inl (nf_M_at 0 v1), .inr (.inr 407)], M)
        refine mm_s1 rfl ⟨(nn_c407 NN).1, ?_⟩
        refine nn_call (D := 2) (by decide) (h n L N) ?_
        intro v M66 q; clear L N h
        obtain ⟨r66, rfl, L, N, h⟩ := q
        show mm_Go (mm_run 2) mc_M_ofRuns _ (69, [(0, .inr (.inr 407)), (1, .inl v1), (2, .inl v2), (3, .inl (nf_M_at 0 v1)), (4, .inl (mm_w (v2 - 20)))], [.inl r66], M66)
        refine mm_s1 rfl ?_
        show mm_Go (mm_run 2) mc_M_ofRuns _ (95, [(0, .inr (.inr 407)), (1, .inl v1), (2, .inl v2), (3, .inl (nf_M_at 0 v1)), (4, .inl (mm_w (v2 - 20)))], [.inl r66], M66)
        exact mm_s1 rfl ⟨_, rfl, L, N, h⟩
    · show mm_Go (mm_run 2) mc_M_ofRuns _ (51, [(0, .inr (.inr 407)), (1, .inl v1), (2, .inl v2), (3, .inl (nf_M_at 0 v1)), (4, .inl (mm_w (v2 - 20)))], [], M)
      replace c48 := Int.not_lt.mp c48
      replace h := h.2 c48
      refine mm_s1 rfl ?_
      exact mm_s1 rfl ⟨_, rfl, L, N, h⟩
