/-! methods walked by program (wip/whole/dec.py) -/
def nr_M_isStale (v1 : Int) (v2 : Int) (M : mm_M) (R : Int → mm_M → Prop) : Prop := ∀ n, nn_L M → M.1 = n → mm_run 4 mi_M_isStale [.inr (.inr 407), .inl v1, .inl v2] M (nw_Z n R)
set_option maxRecDepth 20000 in
theorem ng_M_isStale (v1 : Int) (v2 : Int) (M : mm_M) (R : Int → mm_M → Prop) (h : (((0 : Int) ≤ (mm_w (v2 + 2)) ∧ (mm_w (v2 + 2)) < (32844 : Int)) ∧ (nr_M_stampOf v1 (nn_ri M 408 (mm_w (v2 + 2))) M (fun r10 M10 => (((0 : Int) ≤ (mm_w (v2 + 3)) ∧ (mm_w (v2 + 3)) < (32844 : Int)) ∧ ((r10 = (nn_ri M10 408 (mm_w (v2 + 3))) → R 0 M10) ∧ (r10 ≠ (nn_ri M10 408 (mm_w (v2 + 3))) → R 1 M10))))))) : nr_M_isStale v1 v2 M R := by
  intro n L N 
  have NN := nn_L_n L N
  show mm_Go (mm_run 3) mc_M_isStale _ (0, [(0, .inr (.inr 407)), (1, .inl v1), (2, .inl v2)], [], M)
  refine mm_s1 rfl ?_
  refine mm_s1 rfl ?_
  refine mm_s1 rfl ?_
  refine nn_getr rfl (nn_c407 NN).1 (lf_13_0 L N (nn_c407 NN)) ?_
  refine mm_s1 rfl ?_
  show mm_Go (mm_run 3) mc_M_isStale _ (7, [(0, .inr (.inr 407)), (1, .inl v1), (2, .inl v2)], [.inl v2, .inr (.inr 408), .inl v1, .inr (.inr 407)], M)
  refine mm_s1 rfl ?_
  refine mm_s1 rfl ?_
  obtain ⟨b9, h⟩ := h
  refine mm_s1 rfl ⟨nn_bd (na_13_0 NN (nn_c407 NN)) b9, ?_⟩
  show mm_Go (mm_run 3) mc_M_isStale _ (10, [(0, .inr (.inr 407)), (1, .inl v1), (2, .inl v2)], [.inl (nn_ri M 408 (mm_w (v2 + 2))), .inl v1, .inr (.inr 407)], M)
  refine mm_s1 rfl ⟨(nn_c407 NN).1, ?_⟩
  refine nn_call (D := 3) (by decide) (h n L N) ?_
  intro v M10 q; clear L N h
  obtain ⟨r10, rfl, L, N, h⟩ := q
  show mm_Go (mm_run 3) mc_M_isStale _ (13, [(0, .inr (.inr 407)), (1, .inl v1), (2, .inl v2)], [.inl r10], M10)
  refine mm_s1 rfl ?_
  refine nn_getr rfl (nn_c407 NN).1 (lf_13_0 L N (nn_c407 NN)) ?_
  refine mm_s1 rfl ?_
  refine mm_s1 rfl ?_
  refine mm_s1 rfl ?_
  show mm_Go (mm_run 3) mc_M_isStale _ (20, [(0, .inr (.inr 407)), (1, .inl v1), (2, .inl v2)], [.inl (mm_w (v2 + 3)), .inr (.inr 408), .inl r10], M10)
  obtain ⟨b20, h⟩ := h
  refine mm_s1 rfl ⟨nn_bd (na_13_0 NN (nn_c407 NN)) b20, ?_⟩
  show mm_Go (mm_run 3) mc_M_isStale _ (21, [(0, .inr (.inr 407)), (1, .inl v1), (2, .inl v2)], [.inl (nn_ri M10 408 (mm_w (v2 + 3))), .inl r10], M10)
  refine mm_s1 rfl ⟨fun c21 => ?_, fun c21 => ?_⟩
  · show mm_Go (mm_run 3) mc_M_isStale _ (28, [(0, .inr (.inr 407)), (1, .inl v1), (2, .inl v2)], [], M10)
    replace h := h.1 c21
    refine mm_s1 rfl ?_
    exact mm_s1 rfl ⟨(Or.inl rfl), _, rfl, (Or.inl rfl), L, N, h⟩
  · show mm_Go (mm_run 3) mc_M_isStale _ (24, [(0, .inr (.inr 407)), (1, .inl v1), (2, .inl v2)], [], M10)
    replace h := h.2 c21
    refine mm_s1 rfl ?_
    refine mm_s1 rfl ?_
    show mm_Go (mm_run 3) mc_M_isStale _ (29, [(0, .inr (.inr 407)), (1, .inl v1), (2, .inl v2)], [.inl 1], M10)
    exact mm_s1 rfl ⟨(Or.inr rfl), _, rfl, (Or.inr rfl), L, N, h⟩
def nr_M_row (v1 : Int) (v2 : Int) (M : mm_M) (R : Int → mm_M → Prop) : Prop := ∀ n, nn_L M → M.1 = n → mm_run 4 mi_M_row [.inr (.inr 407), .inl v1, .inl v2] M (nw_I n R)
set_option maxRecDepth 20000 in
theorem ng_M_row (v1 : Int) (v2 : Int) (M : mm_M) (R : Int → mm_M → Prop) (h : ((((nf_M_isKey v1) = 0 ∨ ((nf_M_isIn v2 0 4) = 0)) → R (-1) M) ∧ (((nf_M_isKey v1) ≠ 0 ∧ ((nf_M_isIn v2 0 4) ≠ 0)) → (nr_M_latest 0 v1 M (fun r19 M19 => ((0 ≤ r19 → ((v2 ≠ 4 → (nr_M_rowOf 0 v1 M19 (fun r42 M42 => ((0 ≤ r42 → (nr_M_rowOf 0 v1 M42 (fun r55 M55 => R (nf_M_column r55 v2) M55))) ∧ (r42 < 0 → R (-1) M42))))) ∧ (v2 = 4 → (nr_M_stampOf 0 v1 M19 (fun r35 M35 => R r35 M35))))) ∧ (r19 < 0 → R (-1) M19))))))) : nr_M_row v1 v2 M R := by
  intro n L N 
  have NN := nn_L_n L N
  show mm_Go (mm_run 3) mc_M_row _ (0, [(0, .inr (.inr 407)), (1, .inl v1), (2, .inl v2)], [], M)
  refine mm_s1 rfl ?_
  refine mm_s1 rfl ⟨trivial, ?_⟩
  refine np_M_isKey (by decide) L N ?_
  show mm_Go (mm_run 3) mc_M_row _ (4, [(0, .inr (.inr 407)), (1, .inl v1), (2, .inl v2)], [.inl (nf_M_isKey v1)], M)
  refine mm_s1 rfl ⟨fun c4 => ?_, fun c4 => ?_⟩
  · show mm_Go (mm_run 3) mc_M_row _ (25, [(0, .inr (.inr 407)), (1, .inl v1), (2, .inl v2)], [], M)
    refine mm_s1 rfl ?_
    replace h := h.1 (Or.inl c4)
    exact mm_s1 rfl ⟨_, rfl, L, N, h⟩
  · show mm_Go (mm_run 3) mc_M_row _ (7, [(0, .inr (.inr 407)), (1, .inl v1), (2, .inl v2)], [], M)
    refine mm_s1 rfl ?_
    refine mm_s1 rfl ?_
    refine mm_s1 rfl ?_
    refine mm_s1 rfl ⟨trivial, ?_⟩
    refine np_M_isIn (by decide) L N ?_
    show mm_Go (mm_run 3) mc_M_row _ (13, [(0, .inr (.inr 407)), (1, .inl v1), (2, .inl v2)], [.inl (nf_M_isIn v2 0 4)], M)
    refine mm_s1 rfl ⟨fun c13 => ?_, fun c13 => ?_⟩
    · show mm_Go (mm_run 3) mc_M_row _ (25, [(0, .inr (.inr 407)), (1, .inl v1), (2, .inl v2)], [], M)
      refine mm_s1 rfl ?_
      replace h := h.1 (Or.inr c13)
      exact mm_s1 rfl ⟨_, rfl, L, N, h⟩
    · show mm_Go (mm_run 3) mc_M_row _ (16, [(0, .inr (.inr 407)), (1, .inl v1), (2, .inl v2)], [], M)
      refine mm_s1 rfl ?_
      refine mm_s1 rfl ?_
      refine mm_s1 rfl ?_
      replace h := h.2 ⟨c4, c13⟩
      refine mm_s1 rfl ⟨(nn_c407 NN).1, ?_⟩
      refine nn_call (D := 2) (by decide) (h n L N) ?_
      intro v M19 q; clear L N h
      obtain ⟨r19, rfl, L, N, h⟩ := q
      show mm_Go (mm_run 3) mc_M_row _ (22, [(0, .inr (.inr 407)), (1, .inl v1), (2, .inl v2)], [.inl r19], M19)
      refine mm_s1 rfl ⟨fun c22 => ?_, fun c22 => ?_⟩
      · show mm_Go (mm_run 3) mc_M_row _ (27, [(0, .inr (.inr 407)), (1, .inl v1), (2, .inl v2)], [], M19)
        replace h := h.1 c22
        refine mm_s1 rfl ?_
        refine mm_s1 rfl ?_
        refine mm_s1 rfl ⟨fun c29 => ?_, fun c29 => ?_⟩
        · show mm_Go (mm_run 3) mc_M_row _ (39, [(0, .inr (.inr 407)), (1, .inl v1), (2, .inl v2)], [], M19)
          replace h := h.1 c29
          refine mm_s1 rfl ?_
          refine mm_s1 rfl ?_
          refine mm_s1 rfl ?_
          refine mm_s1 rfl ⟨(nn_c407 NN).1, ?_⟩
          refine nn_call (D := 3) (by decide) (h n L N) ?_
          intro v M42 q; clear L N h
          obtain ⟨r42, rfl, L, N, h⟩ := q
          show mm_Go (mm_run 3) mc_M_row _ (45, [(0, .inr (.inr 407)), (1, .inl v1), (2, .inl v2)], [.inl r42], M42)
          refine mm_s1 rfl ⟨fun c45 => ?_, fun c45 => ?_⟩
          · show mm_Go (mm_run 3) mc_M_row _ (52, [(0, .inr (.inr 407)), (1, .inl v1), (2, .inl v2)], [], M42)
            replace h := h.1 c45
            refine mm_s1 rfl ?_
            refine mm_s1 rfl ?_
            refine mm_s1 rfl ?_
            refine mm_s1 rfl ⟨(nn_c407 NN).1, ?_⟩
            refine nn_call (D := 3) (by decide) (h n L N) ?_
            intro v M55 q; clear L N h
            obtain ⟨r55, rfl, L, N, h⟩ := q
            show mm_Go (mm_run 3) mc_M_row _ (58, [(0, .inr (.inr 407)), (1, .inl v1), (2, .inl v2)], [.inl r55], M55)
            refine mm_s1 rfl ?_
            refine mm_s1 rfl ⟨trivial, ?_⟩
            refine np_M_column (by decide) L N ?_
            show mm_Go (mm_run 3) mc_M_row _ (62, [(0, .inr (.inr 407)), (1, .inl v1), (2, .inl v2)], [.inl (nf_M_column r55 v2)], M55)
            exact mm_s1 rfl ⟨_, rfl, L, N, h⟩
          · show mm_Go (mm_run 3) mc_M_row _ (48, [(0, .inr (.inr 407)), (1, .inl v1), (2, .inl v2)], [], M42)
            replace c45 := Int.not_le.mp c45
            replace h := h.2 c45
            refine mm_s1 rfl ?_
            refine mm_s1 rfl ?_
            show mm_Go (mm_run 3) mc_M_row _ (62, [(0, .inr (.inr 407)), (1, .inl v1), (2, .inl v2)], [.inl (-1)], M42)
            exact mm_s1 rfl ⟨_, rfl, L, N, h⟩
        · show mm_Go (mm_run 3) mc_M_row _ (32, [(0, .inr (.inr 407)), (1, .inl v1), (2, .inl v2)], [], M19)
          replace c29 := Decidable.not_not.mp c29
          replace h := h.2 c29
          refine mm_s1 rfl ?_
          refine mm_s1 rfl ?_
          refine mm_s1 rfl ?_
          refine mm_s1 rfl ⟨(nn_c407 NN).1, ?_⟩
          refine nn_call (D := 3) (by decide) (h n L N) ?_
          intro v M35 q; clear L N h
          obtain ⟨r35, rfl, L, N, h⟩ := q
          show mm_Go (mm_run 3) mc_M_row _ (38, [(0, .inr (.inr 407)), (1, .inl v1), (2, .inl v2)], [.inl r35], M35)
          exact mm_s1 rfl ⟨_, rfl, L, N, h⟩
      · show mm_Go (mm_run 3) mc_M_row _ (25, [(0, .inr (.inr 407)), (1, .inl v1), (2, .inl v2)], [], M19)
        replace c22 := Int.not_le.mp c22
        replace h := h.2 c22
        refine mm_s1 rfl ?_
        exact mm_s1 rfl ⟨_, rfl, L, N, h⟩
def nr_M_there (v1 : Int) (M : mm_M) (R : Int → mm_M → Prop) : Prop := ∀ n, nn_L M → M.1 = n → mm_run 4 mi_M_there [.inr (.inr 407), .inl v1] M (nw_I n R)
def nk_M_there_4 (v1 : Int) (v2 : Int) (v3 : Int) (M : mm_M) (R : Int → mm_M → Prop) : Prop := ∀ n, nn_L M → M.1 = n → mm_Go (mm_run 3) mc_M_there (nw_I n R) (4, [(0, .inr (.inr 407)), (1, .inl v1), (2, .inl v2), (3, .inl v3)], [], M)
set_option maxRecDepth 20000 in
theorem ng_M_there (v1 : Int) (M : mm_M) (R : Int → mm_M → Prop) (h : nk_M_there_4 v1 0 0 M R) : nr_M_there v1 M R := by
  intro n L N 
  have NN := nn_L_n L N
  show mm_Go (mm_run 3) mc_M_there _ (0, [(0, .inr (.inr 407)), (1, .inl v1)], [], M)
  refine mm_s1 rfl ?_
  refine mm_s1 rfl ?_
  show mm_Go (mm_run 3) mc_M_there _ (2, [(0, .inr (.inr 407)), (1, .inl v1), (2, .inl 0)], [], M)
  refine mm_s1 rfl ?_
  refine mm_s1 rfl ?_
  show mm_Go (mm_run 3) mc_M_there _ (4, [(0, .inr (.inr 407)), (1, .inl v1), (2, .inl 0), (3, .inl 0)], [], M)
  exact nn_go_ext (nn_xc rfl (nn_xc rfl (nn_xc rfl (nn_xc rfl nn_xn)))) (h n L N)
set_option maxRecDepth 20000 in
theorem ng_M_there_4 (v1 : Int) (v2 : Int) (v3 : Int) (M : mm_M) (R : Int → mm_M → Prop) (h : ((32 ≤ v3 → R v2 M) ∧ (v3 < 32 → (nr_M_isThere v1 v3 M (fun r14 M14 => ((r14 = 0 → nk_M_there_4 v1 (mm_w (v2 + 0)) (mm_w (v3 + 1)) M14 R) ∧ (r14 ≠ 0 → nk_M_there_4 v1 (mm_w (v2 + 1)) (mm_w (v3 + 1)) M14 R))))))) : nk_M_there_4 v1 v2 v3 M R := by
  intro n L N 
  have NN := nn_L_n L N
  show mm_Go (mm_run 3) mc_M_there _ (4, [(0, .inr (.inr 407)), (1, .inl v1), (2, .inl v2), (3, .inl v3)], [], M)
  refine mm_s1 rfl ?_
  refine mm_s1 rfl ?_
  refine mm_s1 rfl ⟨fun c7 => ?_, fun c7 => ?_⟩
  · show mm_Go (mm_run 3) mc_M_there _ (33, [(0, .inr (.inr 407)), (1, .inl v1), (2, .inl v2), (3, .inl v3)], [], M)
    replace h := h.1 c7
    refine mm_s1 rfl ?_
    exact mm_s1 rfl ⟨_, rfl, L, N, h⟩
  · show mm_Go (mm_run 3) mc_M_there _ (10, [(0, .inr (.inr 407)), (1, .inl v1), (2, .inl v2), (3, .inl v3)], [], M)
    replace c7 := Int.not_le.mp c7
    replace h := h.2 c7
    refine mm_s1 rfl ?_
    refine mm_s1 rfl ?_
    refine mm_s1 rfl ?_
    refine mm_s1 rfl ?_
    refine mm_s1 rfl ⟨(nn_c407 NN).1, ?_⟩
    refine nn_call (D := 3) (by decide) (h n L N) ?_
    intro v M14 q; clear L N h
    obtain ⟨r14, rfl, q14, L, N, h⟩ := q
    show mm_Go (mm_run 3) mc_M_there _ (17, [(0, .inr (.inr 407)), (1, .inl v1), (2, .inl v2), (3, .inl v3)], [.inl r14, .inl v2], M14)
    refine mm_s1 rfl ⟨fun c17 => ?_, fun c17 => ?_⟩
    · show mm_Go (mm_run 3) mc_M_there _ (24, [(0, .inr (.inr 407)), (1, .inl v1), (2, .inl v2), (3, .inl v3)], [.inl v2], M14)
      replace h := h.1 c17
      refine mm_s1 rfl ?_
      refine mm_s1 rfl ?_
      refine mm_s1 rfl ?_
      show mm_Go (mm_run 3) mc_M_there _ (27, [(0, .inr (.inr 407)), (1, .inl v1), (2, .inl (mm_w (v2 + 0))), (3, .inl v3)], [], M14)
      refine mm_s1 rfl ?_
      show mm_Go (mm_run 3) mc_M_there _ (30, [(0, .inr (.inr 407)), (1, .inl v1), (2, .inl (mm_w (v2 + 0))), (3, .inl (mm_w (v3 + 1)))], [], M14)
      refine mm_s1 rfl ?_
      show mm_Go (mm_run 3) mc_M_there _ (4, [(0, .inr (.inr 407)), (1, .inl v1), (2, .inl (mm_w (v2 + 0))), (3, .inl (mm_w (v3 + 1)))], [], M14)
      exact nn_go_ext (nn_xc rfl (nn_xc rfl (nn_xc rfl (nn_xc rfl nn_xn)))) (h n L N)
    · show mm_Go (mm_run 3) mc_M_there _ (20, [(0, .inr (.inr 407)), (1, .inl v1), (2, .inl v2), (3, .inl v3)], [.inl v2], M14)
      replace h := h.2 c17
      refine mm_s1 rfl ?_
      refine mm_s1 rfl ?_
      show mm_Go (mm_run 3) mc_M_there _ (25, [(0, .inr (.inr 407)), (1, .inl v1), (2, .inl v2), (3, .inl v3)], [.inl 1, .inl v2], M14)
      refine mm_s1 rfl ?_
      refine mm_s1 rfl ?_
      show mm_Go (mm_run 3) mc_M_there _ (27, [(0, .inr (.inr 407)), (1, .inl v1), (2, .inl (mm_w (v2 + 1))), (3, .inl v3)], [], M14)
      refine mm_s1 rfl ?_
      show mm_Go (mm_run 3) mc_M_there _ (30, [(0, .inr (.inr 407)), (1, .inl v1), (2, .inl (mm_w (v2 + 1))), (3, .inl (mm_w (v3 + 1)))], [], M14)
      refine mm_s1 rfl ?_
      show mm_Go (mm_run 3) mc_M_there _ (4, [(0, .inr (.inr 407)), (1, .inl v1), (2, .inl (mm_w (v2 + 1))), (3, .inl (mm_w (v3 + 1)))], [], M14)
      exact nn_go_ext (nn_xc rfl (nn_xc rfl (nn_xc rfl (nn_xc rfl nn_xn)))) (h n L N)
def nr_M_value (v1 : Int) (v2 : Int) (v3 : Int) (v4 : Int) (v5 : Int) (M : mm_M) (R : Int → mm_M → Prop) : Prop := ∀ n, nn_L M → M.1 = n → mm_run 4 mi_M_value [.inr (.inr 407), .inl v1, .inl v2, .inl v3, .inl v4, .inl v5] M (nw_I n R)
set_option maxRecDepth 20000 in
theorem ng_M_value (v1 : Int) (v2 : Int) (v3 : Int) (v4 : Int) (v5 : Int) (M : mm_M) (R : Int → mm_M → Prop) (h : ((nc_M_isIndex v1 M) ∧ ((((nf_M_isIndex v1 M) = 0 ∨ ((nf_M_areRow v2 v3 v4 v5) = 0)) → R (-1) M) ∧ (((nf_M_isIndex v1 M) ≠ 0 ∧ ((nf_M_areRow v2 v3 v4 v5) ≠ 0)) → (nr_M_wants (nf_M_at 0 v1) (nf_M_packed v2 v3 v4 v5) M (fun r41 M41 => ((r41 = 0 → R (-1) M41) ∧ (r41 ≠ 0 → (nr_M_valueOf (nf_M_at 0 v1) (nf_M_packed v2 v3 v4 v5) M41 (fun r55 M55 => R r55 M55)))))))))) : nr_M_value v1 v2 v3 v4 v5 M R := by
  intro n L N 
  have NN := nn_L_n L N
  show mm_Go (mm_run 3) mc_M_value _ (0, [(0, .inr (.inr 407)), (1, .inl v1), (2, .inl v2), (3, .inl v3), (4, .inl v4), (5, .inl v5)], [], M)
  refine mm_s1 rfl ?_
  refine mm_s1 rfl ?_
  obtain ⟨b2, h⟩ := h
  refine mm_s1 rfl ⟨(nn_c407 NN).1, ?_⟩
  refine np_M_isIndex (by decide) L N b2 ?_
  show mm_Go (mm_run 3) mc_M_value _ (5, [(0, .inr (.inr 407)), (1, .inl v1), (2, .inl v2), (3, .inl v3), (4, .inl v4), (5, .inl v5)], [.inl (nf_M_isIndex v1 M)], M)
  refine mm_s1 rfl ⟨fun c5 => ?_, fun c5 => ?_⟩
  · show mm_Go (mm_run 3) mc_M_value _ (20, [(0, .inr (.inr 407)), (1, .inl v1), (2, .inl v2), (3, .inl v3), (4, .inl v4), (5, .inl v5)], [], M)
    refine mm_s1 rfl ?_
    replace h := h.1 (Or.inl c5)
    exact mm_s1 rfl ⟨_, rfl, L, N, h⟩
  · show mm_Go (mm_run 3) mc_M_value _ (8, [(0, .inr (.inr 407)), (1, .inl v1), (2, .inl v2), (3, .inl v3), (4, .inl v4), (5, .inl v5)], [], M)
    refine mm_s1 rfl ?_
    refine mm_s1 rfl ?_
    refine mm_s1 rfl ?_
    refine mm_s1 rfl ?_
    refine mm_s1 rfl ⟨trivial, ?_⟩
    refine np_M_areRow (by decide) L N ?_
    show mm_Go (mm_run 3) mc_M_value _ (17, [(0, .inr (.inr 407)), (1, .inl v1), (2, .inl v2), (3, .inl v3), (4, .inl v4), (5, .inl v5)], [.inl (nf_M_areRow v2 v3 v4 v5)], M)
    refine mm_s1 rfl ⟨fun c17 => ?_, fun c17 => ?_⟩
    · show mm_Go (mm_run 3) mc_M_value _ (22, [(0, .inr (.inr 407)), (1, .inl v1), (2, .inl v2), (3, .inl v3), (4, .inl v4), (5, .inl v5)], [], M)
      refine mm_s1 rfl ?_
      refine mm_s1 rfl ?_
      refine mm_s1 rfl ?_
      refine mm_s1 rfl ?_
      refine mm_s1 rfl ⟨trivial, ?_⟩
      refine np_M_packed (by decide) L N ?_
      show mm_Go (mm_run 3) mc_M_value _ (31, [(0, .inr (.inr 407)), (1, .inl v1), (2, .inl v2), (3, .inl v3), (4, .inl v4), (5, .inl v5)], [.inl (nf_M_packed v2 v3 v4 v5)], M)
      refine mm_s1 rfl ?_
      show mm_Go (mm_run 3) mc_M_value _ (33, [(0, .inr (.inr 407)), (1, .inl v1), (2, .inl v2), (3, .inl v3), (4, .inl v4), (5, .inl v5), (6, .inl (nf_M_packed v2 v3 v4 v5))], [], M)
      refine mm_s1 rfl ?_
      refine mm_s1 rfl ?_
      refine mm_s1 rfl ?_
      refine mm_s1 rfl ⟨trivial, ?_⟩
      refine np_M_at (by decide) L N ?_
      show mm_Go (mm_run 3) mc_M_value _ (39, [(0, .inr (.inr 407)), (1, .inl v1), (2, .inl v2), (3, .inl v3), (4, .inl v4), (5, .inl v5), (6, .inl (nf_M_packed v2 v3 v4 v5))], [.inl (nf_M_at 0 v1), .inr (.inr 407)], M)
      refine mm_s1 rfl ?_
      replace h := h.2 ⟨c5, c17⟩
      refine mm_s1 rfl ⟨(nn_c407 NN).1, ?_⟩
      refine nn_call (D := 3) (by decide) (h n L N) ?_
      intro v M41 q; clear L N h
      obtain ⟨r41, rfl, q41, L, N, h⟩ := q
      show mm_Go (mm_run 3) mc_M_value _ (44, [(0, .inr (.inr 407)), (1, .inl v1), (2, .inl v2), (3, .inl v3), (4, .inl v4), (5, .inl v5), (6, .inl (nf_M_packed v2 v3 v4 v5))], [.inl r41], M41)
      refine mm_s1 rfl ⟨fun c44 => ?_, fun c44 => ?_⟩
      · show mm_Go (mm_run 3) mc_M_value _ (61, [(0, .inr (.inr 407)), (1, .inl v1), (2, .inl v2), (3, .inl v3), (4, .inl v4), (5, .inl v5), (6, .inl (nf_M_packed v2 v3 v4 v5))], [], M41)
        replace h := h.1 c44
        refine mm_s1 rfl ?_
        exact mm_s1 rfl ⟨_, rfl, L, N, h⟩
      · show mm_Go (mm_run 3) mc_M_value _ (47, [(0, .inr (.inr 407)), (1, .inl v1), (2, .inl v2), (3, .inl v3), (4, .inl v4), (5, .inl v5), (6, .inl (nf_M_packed v2 v3 v4 v5))], [], M41)
        replace h := h.2 c44
        refine mm_s1 rfl ?_
        refine mm_s1 rfl ?_
        refine mm_s1 rfl ?_
        refine mm_s1 rfl ⟨trivial, ?_⟩
        refine np_M_at (by decide) L N ?_
        show mm_Go (mm_run 3) mc_M_value _ (53, [(0, .inr (.inr 407)), (1, .inl v1), (2, .inl v2), (3, .inl v3), (4, .inl v4), (5, .inl v5), (6, .inl (nf_M_packed v2 v3 v4 v5))], [.inl (nf_M_at 0 v1), .inr (.inr 407)], M41)
        refine mm_s1 rfl ?_
        refine mm_s1 rfl ⟨(nn_c407 NN).1, ?_⟩
        refine nn_call (D := 3) (by decide) (h n L N) ?_
        intro v M55 q; clear L N h
        obtain ⟨r55, rfl, L, N, h⟩ := q
        show mm_Go (mm_run 3) mc_M_value _ (58, [(0, .inr (.inr 407)), (1, .inl v1), (2, .inl v2), (3, .inl v3), (4, .inl v4), (5, .inl v5), (6, .inl (nf_M_packed v2 v3 v4 v5))], [.inl r55], M55)
        refine mm_s1 rfl ?_
        show mm_Go (mm_run 3) mc_M_value _ (62, [(0, .inr (.inr 407)), (1, .inl v1), (2, .inl v2), (3, .inl v3), (4, .inl v4), (5, .inl v5), (6, .inl (nf_M_packed v2 v3 v4 v5))], [.inl r55], M55)
        exact mm_s1 rfl ⟨_, rfl, L, N, h⟩
    · show mm_Go (mm_run 3) mc_M_value _ (20, [(0, .inr (.inr 407)), (1, .inl v1), (2, .inl v2), (3, .inl v3), (4, .inl v4), (5, .inl v5)], [], M)
      replace c17 := Decidable.not_not.mp c17
      refine mm_s1 rfl ?_
      replace h := h.1 (Or.inr c17)
      exact mm_s1 rfl ⟨_, rfl, L, N, h⟩
def nr_M_held (v1 : Int) (M : mm_M) (R : Int → mm_M → Prop) : Prop := ∀ n, nn_L M → M.1 = n → mm_run 4 mi_M_held [.inr (.inr 407), .inl v1] M (nw_I n R)
def nk_M_held_29 (v1 : Int) (v2 : Int) (M : mm_M) (R : Int → mm_M → Prop) : Prop := ∀ n, nn_L M → M.1 = n → mm_Go (mm_run 3) mc_M_held (nw_I n R) (29, [(0, .inr (.inr 407)), (1, .inl v1), (2, .inl v2)], [], M)
set_option maxRecDepth 20000 in
theorem ng_M_held (v1 : Int) (M : mm_M) (R : Int → mm_M → Prop) (h : (((nf_M_isKey v1) = 0 → R (-1) M) ∧ ((nf_M_isKey v1) ≠ 0 → (nr_M_latest 0 v1 M (fun r10 M10 => ((r10 < 0 → R (-1) M10) ∧ (0 ≤ r10 → (nr_M_rowOf 0 v1 M10 (fun r19 M19 => ((r19 < 0 → nk_M_held_29 v1 0 M19 R) ∧ (0 ≤ r19 → R (-1) M19))))))))))) : nr_M_held v1 M R := by
  intro n L N 
  have NN := nn_L_n L N
  show mm_Go (mm_run 3) mc_M_held _ (0, [(0, .inr (.inr 407)), (1, .inl v1)], [], M)
  refine mm_s1 rfl ?_
  refine mm_s1 rfl ⟨trivial, ?_⟩
  refine np_M_isKey (by decide) L N ?_
  show mm_Go (mm_run 3) mc_M_held _ (4, [(0, .inr (.inr 407)), (1, .inl v1)], [.inl (nf_M_isKey v1)], M)
  refine mm_s1 rfl ⟨fun c4 => ?_, fun c4 => ?_⟩
  · show mm_Go (mm_run 3) mc_M_held _ (25, [(0, .inr (.inr 407)), (1, .inl v1)], [], M)
    replace h := h.1 c4
    refine mm_s1 rfl ?_
    exact mm_s1 rfl ⟨_, rfl, L, N, h⟩
  · show mm_Go (mm_run 3) mc_M_held _ (7, [(0, .inr (.inr 407)), (1, .inl v1)], [], M)
    replace h := h.2 c4
    refine mm_s1 rfl ?_
    refine mm_s1 rfl ?_
    refine mm_s1 rfl ?_
    refine mm_s1 rfl ⟨(nn_c407 NN).1, ?_⟩
    refine nn_call (D := 2) (by decide) (h n L N) ?_
    intro v M10 q; clear L N h
    obtain ⟨r10, rfl, L, N, h⟩ := q
    show mm_Go (mm_run 3) mc_M_held _ (13, [(0, .inr (.inr 407)), (1, .inl v1)], [.inl r10], M10)
    refine mm_s1 rfl ⟨fun c13 => ?_, fun c13 => ?_⟩
    · show mm_Go (mm_run 3) mc_M_held _ (25, [(0, .inr (.inr 407)), (1, .inl v1)], [], M10)
      replace h := h.1 c13
      refine mm_s1 rfl ?_
      exact mm_s1 rfl ⟨_, rfl, L, N, h⟩
    · show mm_Go (mm_run 3) mc_M_held _ (16, [(0, .inr (.inr 407)), (1, .inl v1)], [], M10)
      replace c13 := Int.not_lt.mp c13
      replace h := h.2 c13
      refine mm_s1 rfl ?_
      refine mm_s1 rfl ?_
      refine mm_s1 rfl ?_
      refine mm_s1 rfl ⟨(nn_c407 NN).1, ?_⟩
      refine nn_call (D := 3) (by decide) (h n L N) ?_
      intro v M19 q; clear L N h
      obtain ⟨r19, rfl, L, N, h⟩ := q
      show mm_Go (mm_run 3) mc_M_held _ (22, [(0, .inr (.inr 407)), (1, .inl v1)], [.inl r19], M19)
      refine mm_s1 rfl ⟨fun c22 => ?_, fun c22 => ?_⟩
      · show mm_Go (mm_run 3) mc_M_held _ (27, [(0, .inr (.inr 407)), (1, .inl v1)], [], M19)
        replace h := h.1 c22
        refine mm_s1 rfl ?_
        refine mm_s1 rfl ?_
        show mm_Go (mm_run 3) mc_M_held _ (29, [(0, .inr (.inr 407)), (1, .inl v1), (2, .inl 0)], [], M19)
        exact nn_go_ext (nn_xc rfl (nn_xc rfl (nn_xc rfl nn_xn))) (h n L N)
      · show mm_Go (mm_run 3) mc_M_held _ (25, [(0, .inr (.inr 407)), (1, .inl v1)], [], M19)
        replace c22 := Int.not_lt.mp c22
        replace h := h.2 c22
        refine mm_s1 rfl ?_
        exact mm_s1 rfl ⟨_, rfl, L, N, h⟩
set_option maxRecDepth 20000 in
theorem ng_M_held_29 (v1 : Int) (v2 : Int) (M : mm_M) (R : Int → mm_M → Prop) (h : ((4 ≤ v2 → R (-1) M) ∧ (v2 < 4 → (((0 : Int) ≤ (mm_w ((nf_M_at 0 v2) + 0)) ∧ (mm_w ((nf_M_at 0 v2) + 0)) < (32844 : Int)) ∧ (((nn_ri M 408 (mm_w ((nf_M_at 0 v2) + 0))) ≠ 0 → (nr_M_oldest 0 v2 M (fun r56 M56 => ((r56 = (-1) → nk_M_held_29 v1 (mm_w (v2 + 1)) M56 R) ∧ (r56 ≠ (-1) → (nr_M_stampOf 0 v1 M56 (fun r69 M69 => ((r69 ≤ r56 → nk_M_held_29 v1 (mm_w (v2 + 1)) M69 R) ∧ (r56 < r69 → R v2 M69))))))))) ∧ ((nn_ri M 408 (mm_w ((nf_M_at 0 v2) + 0))) = 0 → nk_M_held_29 v1 (mm_w (v2 + 1)) M R)))))) : nk_M_held_29 v1 v2 M R := by
  intro n L N 
  have NN := nn_L_n L N
  show mm_Go (mm_run 3) mc_M_held _ (29, [(0, .inr (.inr 407)), (1, .inl v1), (2, .inl v2)], [], M)
  refine mm_s1 rfl ?_
  refine mm_s1 rfl ?_
  refine mm_s1 rfl ⟨fun c31 => ?_, fun c31 => ?_⟩
  · show mm_Go (mm_run 3) mc_M_held _ (83, [(0, .inr (.inr 407)), (1, .inl v1), (2, .inl v2)], [], M)
    replace h := h.1 c31
    refine mm_s1 rfl ?_
    exact mm_s1 rfl ⟨_, rfl, L, N, h⟩
  · show mm_Go (mm_run 3) mc_M_held _ (34, [(0, .inr (.inr 407)), (1, .inl v1), (2, .inl v2)], [], M)
    replace c31 := Int.not_le.mp c31
    replace h := h.2 c31
    refine mm_s1 rfl ?_
    refine nn_getr rfl (nn_c407 NN).1 (lf_13_0 L N (nn_c407 NN)) ?_
    refine mm_s1 rfl ?_
    refine mm_s1 rfl ?_
    refine mm_s1 rfl ⟨trivial, ?_⟩
    refine np_M_at (by decide) L N ?_
    show mm_Go (mm_run 3) mc_M_held _ (43, [(0, .inr (.inr 407)), (1, .inl v1), (2, .inl v2)], [.inl (nf_M_at 0 v2), .inr (.inr 408)], M)
    refine mm_s1 rfl ?_
    refine mm_s1 rfl ?_
    obtain ⟨b45, h⟩ := h
    refine mm_s1 rfl ⟨nn_bd (na_13_0 NN (nn_c407 NN)) b45, ?_⟩
    show mm_Go (mm_run 3) mc_M_held _ (46, [(0, .inr (.inr 407)), (1, .inl v1), (2, .inl v2)], [.inl (nn_ri M 408 (mm_w ((nf_M_at 0 v2) + 0)))], M)
    refine mm_s1 rfl ⟨fun c46 => ?_, fun c46 => ?_⟩
    · show mm_Go (mm_run 3) mc_M_held _ (53, [(0, .inr (.inr 407)), (1, .inl v1), (2, .inl v2)], [], M)
      replace h := h.1 c46
      refine mm_s1 rfl ?_
      refine mm_s1 rfl ?_
      refine mm_s1 rfl ?_
      refine mm_s1 rfl ⟨(nn_c407 NN).1, ?_⟩
      refine nn_call (D := 2) (by decide) (h n L N) ?_
      intro v M56 q; clear L N h
      obtain ⟨r56, rfl, L, N, h⟩ := q
      show mm_Go (mm_run 3) mc_M_held _ (59, [(0, .inr (.inr 407)), (1, .inl v1), (2, .inl v2)], [.inl r56], M56)
      refine mm_s1 rfl ?_
      show mm_Go (mm_run 3) mc_M_held _ (60, [(0, .inr (.inr 407)), (1, .inl v1), (2, .inl v2), (3, .inl r56)], [], M56)
      refine mm_s1 rfl ?_
      refine mm_s1 rfl ?_
      refine mm_s1 rfl ⟨fun c62 => ?_, fun c62 => ?_⟩
      · show mm_Go (mm_run 3) mc_M_held _ (77, [(0, .inr (.inr 407)), (1, .inl v1), (2, .inl v2), (3, .inl r56)], [], M56)
        replace h := h.1 c62
        refine mm_s1 rfl ?_
        show mm_Go (mm_run 3) mc_M_held _ (80, [(0, .inr (.inr 407)), (1, .inl v1), (2, .inl (mm_w (v2 + 1))), (3, .inl r56)], [], M56)
        refine mm_s1 rfl ?_
        show mm_Go (mm_run 3) mc_M_held _ (29, [(0, .inr (.inr 407)), (1, .inl v1), (2, .inl (mm_w (v2 + 1))), (3, .inl r56)], [], M56)
        exact nn_go_ext (nn_xc rfl (nn_xc rfl (nn_xc rfl nn_xn))) (h n L N)
      · show mm_Go (mm_run 3) mc_M_held _ (65, [(0, .inr (.inr 407)), (1, .inl v1), (2, .inl v2), (3, .inl r56)], [], M56)
        replace h := h.2 c62
        refine mm_s1 rfl ?_
        refine mm_s1 rfl ?_
        refine mm_s1 rfl ?_
        refine mm_s1 rfl ?_
        refine mm_s1 rfl ⟨(nn_c407 NN).1, ?_⟩
        refine nn_call (D := 3) (by decide) (h n L N) ?_
        intro v M69 q; clear L N h
        obtain ⟨r69, rfl, L, N, h⟩ := q
        show mm_Go (mm_run 3) mc_M_held _ (72, [(0, .inr (.inr 407)), (1, .inl v1), (2, .inl v2), (3, .inl r56)], [.inl r69, .inl r56], M69)
        refine mm_s1 rfl ⟨fun c72 => ?_, fun c72 => ?_⟩
        · show mm_Go (mm_run 3) mc_M_held _ (77, [(0, .inr (.inr 407)), (1, .inl v1), (2, .inl v2), (3, .inl r56)], [], M69)
          replace h := h.1 c72
          refine mm_s1 rfl ?_
          show mm_Go (mm_run 3) mc_M_held _ (80, [(0, .inr (.inr 407)), (1, .inl v1), (2, .inl (mm_w (v2 + 1))), (3, .inl r56)], [], M69)
          refine mm_s1 rfl ?_
          show mm_Go (mm_run 3) mc_M_held _ (29, [(0, .inr (.inr 407)), (1, .inl v1), (2, .inl (mm_w (v2 + 1))), (3, .inl r56)], [], M69)
          exact nn_go_ext (nn_xc rfl (nn_xc rfl (nn_xc rfl nn_xn))) (h n L N)
        · show mm_Go (mm_run 3) mc_M_held _ (75, [(0, .inr (.inr 407)), (1, .inl v1), (2, .inl v2), (3, .inl r56)], [], M69)
          replace c72 := Int.not_le.mp c72
          replace h := h.2 c72
          refine mm_s1 rfl ?_
          exact mm_s1 rfl ⟨_, rfl, L, N, h⟩
    · show mm_Go (mm_run 3) mc_M_held _ (49, [(0, .inr (.inr 407)), (1, .inl v1), (2, .inl v2)], [], M)
      replace c46 := Decidable.not_not.mp c46
      replace h := h.2 c46
      refine mm_s1 rfl ?_
      refine mm_s1 rfl ?_
      show mm_Go (mm_run 3) mc_M_held _ (59, [(0, .inr (.inr 407)), (1, .inl v1), (2, .inl v2)], [.inl (-1)], M)
      refine mm_s1 rfl ?_
      show mm_Go (mm_run 3) mc_M_held _ (60, [(0, .inr (.inr 407)), (1, .inl v1), (2, .inl v2), (3, .inl (-1))], [], M)
      refine mm_s1 rfl ?_
      refine mm_s1 rfl ?_
      refine mm_s1 rfl ⟨fun _ => ?_, fun c => absurd (show (-1 : Int) = -1 by decide) c⟩
      show mm_Go (mm_run 3) mc_M_held _ (77, [(0, .inr (.inr 407)), (1, .inl v1), (2, .inl v2), (3, .inl (-1))], [], M)
      refine mm_s1 rfl ?_
      show mm_Go (mm_run 3) mc_M_held _ (80, [(0, .inr (.inr 407)), (1, .inl v1), (2, .inl (mm_w (v2 + 1))), (3, .inl (-1))], [], M)
      refine mm_s1 rfl ?_
      show mm_Go (mm_run 3) mc_M_held _ (29, [(0, .inr (.inr 407)), (1, .inl v1), (2, .inl (mm_w (v2 + 1))), (3, .inl (-1))], [], M)
      exact nn_go_ext (nn_xc rfl (nn_xc rfl (nn_xc rfl nn_xn))) (h n L N)
def nr_LI_build (v1 : Int) (v2 : Int) (M : mm_M) (R : Int → mm_M → Prop) : Prop := ∀ n, nn_L M → M.1 = n → mm_run 5 mi_LI_build [.inr (.inr 1), .inl v1, .inl v2] M (nw_I n R)
set_option maxRecDepth 20000 in
theorem ng_LI_build (v1 : Int) (v2 : Int) (M : mm_M) (R : Int → mm_M → Prop) (h : (nr_Store_find 2 v1 M (fun r5 M5 => (((r5 = 0 ∨ ((nn_rf M5 r5 5) ≠ 1 ∨ (v2 < 1 ∨ (32 < v2)))) → R (-1) M5) ∧ ((r5 ≠ 0 ∧ ((nn_rf M5 r5 5) = 1 ∧ (1 ≤ v2 ∧ (v2 ≤ 32)))) → (nr_Store_goAlong 2 r5 v1 v2 M5 (fun r41 M41 => R r41 M41))))))) : nr_LI_build v1 v2 M R := by
  intro n L N 
  have NN := nn_L_n L N
  show mm_Go (mm_run 4) mc_LI_build _ (0, [(0, .inr (.inr 1)), (1, .inl v1), (2, .inl v2)], [], M)
  refine mm_s1 rfl ?_
  refine nn_getr rfl (nn_c1 NN).1 (lf_1_0 L N (nn_c1 NN)) ?_
  refine mm_s1 rfl ?_
  refine mm_s1 rfl ⟨(nc_1_0 NN (nn_c1 NN)).1, ?_⟩
  refine nn_call (D := 1) (by decide) (h n L N (nc_1_0 NN (nn_c1 NN))) ?_
  intro v M5 q; clear L N h
  obtain ⟨r5, rfl, q5, L, N, h⟩ := q
  show mm_Go (mm_run 4) mc_LI_build _ (8, [(0, .inr (.inr 1)), (1, .inl v1), (2, .inl v2)], [.inr (.inr r5)], M5)
  refine mm_s1 rfl ?_
  show mm_Go (mm_run 4) mc_LI_build _ (9, [(0, .inr (.inr 1)), (1, .inl v1), (2, .inl v2), (3, .inr (.inr r5))], [], M5)
  refine mm_s1 rfl ?_
  refine mm_s1 rfl ⟨fun c10 => ?_, fun c10 => ?_⟩
  · show mm_Go (mm_run 4) mc_LI_build _ (32, [(0, .inr (.inr 1)), (1, .inl v1), (2, .inl v2), (3, .inr (.inr r5))], [], M5)
    refine mm_s1 rfl ?_
    replace h := h.1 (Or.inl c10)
    exact mm_s1 rfl ⟨_, rfl, L, N, h⟩
  · show mm_Go (mm_run 4) mc_LI_build _ (13, [(0, .inr (.inr 1)), (1, .inl v1), (2, .inl v2), (3, .inr (.inr r5))], [], M5)
    refine mm_s1 rfl ?_
    refine mm_s1 rfl ⟨(Or.resolve_left q5 c10).1, ?_⟩
    show mm_Go (mm_run 4) mc_LI_build _ (17, [(0, .inr (.inr 1)), (1, .inl v1), (2, .inl v2), (3, .inr (.inr r5))], [.inl (nn_rf M5 r5 5)], M5)
    refine mm_s1 rfl ?_
    refine mm_s1 rfl ⟨fun c18 => ?_, fun c18 => ?_⟩
    · show mm_Go (mm_run 4) mc_LI_build _ (32, [(0, .inr (.inr 1)), (1, .inl v1), (2, .inl v2), (3, .inr (.inr r5))], [], M5)
      refine mm_s1 rfl ?_
      replace h := h.1 (Or.inr (Or.inl c18))
      exact mm_s1 rfl ⟨_, rfl, L, N, h⟩
    · show mm_Go (mm_run 4) mc_LI_build _ (21, [(0, .inr (.inr 1)), (1, .inl v1), (2, .inl v2), (3, .inr (.inr r5))], [], M5)
      replace c18 := Decidable.not_not.mp c18
      refine mm_s1 rfl ?_
      refine mm_s1 rfl ?_
      refine mm_s1 rfl ⟨fun c23 => ?_, fun c23 => ?_⟩
      · show mm_Go (mm_run 4) mc_LI_build _ (32, [(0, .inr (.inr 1)), (1, .inl v1), (2, .inl v2), (3, .inr (.inr r5))], [], M5)
        refine mm_s1 rfl ?_
        replace h := h.1 (Or.inr (Or.inr (Or.inl c23)))
        exact mm_s1 rfl ⟨_, rfl, L, N, h⟩
      · show mm_Go (mm_run 4) mc_LI_build _ (26, [(0, .inr (.inr 1)), (1, .inl v1), (2, .inl v2), (3, .inr (.inr r5))], [], M5)
        replace c23 := Int.not_lt.mp c23
        refine mm_s1 rfl ?_
        refine mm_s1 rfl ?_
        refine mm_s1 rfl ⟨fun c29 => ?_, fun c29 => ?_⟩
        · show mm_Go (mm_run 4) mc_LI_build _ (34, [(0, .inr (.inr 1)), (1, .inl v1), (2, .inl v2), (3, .inr (.inr r5))], [], M5)
          refine mm_s1 rfl ?_
          refine nn_getr rfl (nn_c1 NN).1 (lf_1_0 L N (nn_c1 NN)) ?_
          refine mm_s1 rfl ?_
          refine mm_s1 rfl ?_
          refine mm_s1 rfl ?_
          show mm_Go (mm_run 4) mc_LI_build _ (41, [(0, .inr (.inr 1)), (1, .inl v1), (2, .inl v2), (3, .inr (.inr r5))], [.inl v2, .inl v1, .inr (.inr r5), .inr (.inr 2)], M5)
          replace h := h.2 ⟨c10, ⟨c18, ⟨c23, c29⟩⟩⟩
          refine mm_s1 rfl ⟨(nc_1_0 NN (nn_c1 NN)).1, ?_⟩
          refine nn_call (D := 4) (by decide) (h n L N (nc_1_0 NN (nn_c1 NN)) (Or.resolve_left q5 c10)) ?_
          intro v M41 q; clear L N h
          obtain ⟨r41, rfl, L, N, h⟩ := q
          show mm_Go (mm_run 4) mc_LI_build _ (44, [(0, .inr (.inr 1)), (1, .inl v1), (2, .inl v2), (3, .inr (.inr r5))], [.inl r41], M41)
          exact mm_s1 rfl ⟨_, rfl, L, N, h⟩
        · show mm_Go (mm_run 4) mc_LI_build _ (32, [(0, .inr (.inr 1)), (1, .inl v1), (2, .inl v2), (3, .inr (.inr r5))], [], M5)
          replace c29 := Int.not_le.mp c29
          refine mm_s1 rfl ?_
          replace h := h.1 (Or.inr (Or.inr (Or.inr c29)))
          exact mm_s1 rfl ⟨_, rfl, L, N, h⟩
def nr_LI_ask (v1 : Int) (v2 : Int) (v3 : Int) (v4 : Int) (M : mm_M) (R : Int → mm_M → Prop) : Prop := ∀ n, nn_L M → M.1 = n → mm_run 5 mi_LI_ask [.inr (.inr 1), .inl v1, .inl v2, .inl v3, .inl v4] M (nw_I n R)
set_option maxRecDepth 20000 in
theorem ng_LI_ask (v1 : Int) (v2 : Int) (v3 : Int) (v4 : Int) (M : mm_M) (R : Int → mm_M → Prop) (h : (nr_Store_findBuilt 2 v1 M (fun r5 M5 => ((r5 ≠ 0 → (nr_Cost_goAlong 89 r5 v2 v3 5 M5 (fun M36 => (nr_Store_gather 2 r5 v2 v3 M36 (fun r47 M47 => ((nc_LI_answered 91 r47 v4 M47) ∧ R (nf_LI_answered 91 r47 v4 M47) M47)))))) ∧ (r5 = 0 → R (-2) M5))))) : nr_LI_ask v1 v2 v3 v4 M R := by
  intro n L N 
  have NN := nn_L_n L N
  show mm_Go (mm_run 4) mc_LI_ask _ (0, [(0, .inr (.inr 1)), (1, .inl v1), (2, .inl v2), (3, .inl v3), (4, .inl v4)], [], M)
  refine mm_s1 rfl ?_
  refine nn_getr rfl (nn_c1 NN).1 (lf_1_0 L N (nn_c1 NN)) ?_
  refine mm_s1 rfl ?_
  refine mm_s1 rfl ⟨(nc_1_0 NN (nn_c1 NN)).1, ?_⟩
  refine nn_call (D := 1) (by decide) (h n L N (nc_1_0 NN (nn_c1 NN))) ?_
  intro v M5 q; clear L N h
  obtain ⟨r5, rfl, q5, L, N, h⟩ := q
  show mm_Go (mm_run 4) mc_LI_ask _ (8, [(0, .inr (.inr 1)), (1, .inl v1), (2, .inl v2), (3, .inl v3), (4, .inl v4)], [.inr (.inr r5)], M5)
  refine mm_s1 rfl ?_
  show mm_Go (mm_run 4) mc_LI_ask _ (10, [(0, .inr (.inr 1)), (1, .inl v1), (2, .inl v2), (3, .inl v3), (4, .inl v4), (5, .inr (.inr r5))], [], M5)
  refine mm_s1 rfl ?_
  refine mm_s1 rfl ⟨fun c12 => ?_, fun c12 => ?_⟩
  · show mm_Go (mm_run 4) mc_LI_ask _ (18, [(0, .inr (.inr 1)), (1, .inl v1), (2, .inl v2), (3, .inl v3), (4, .inl v4), (5, .inr (.inr r5))], [], M5)
    replace h := h.1 c12
    refine mm_s1 rfl ?_
    refine nn_getr rfl (nn_c1 NN).1 (lf_1_0 L N (nn_c1 NN)) ?_
    refine nn_getr rfl (nc_1_0 NN (nn_c1 NN)).1 (lf_9_4 L N (nc_1_0 NN (nn_c1 NN))) ?_
    refine mm_s1 rfl ?_
    refine mm_s1 rfl ?_
    show mm_Go (mm_run 4) mc_LI_ask _ (28, [(0, .inr (.inr 1)), (1, .inl v1), (2, .inl v2), (3, .inl v3), (4, .inl v4), (5, .inr (.inr r5))], [.inl v2, .inr (.inr r5), .inr (.inr 89)], M5)
    refine mm_s1 rfl ?_
    refine mm_s1 rfl ?_
    refine nn_getr rfl (nn_c1 NN).1 (lf_1_0 L N (nn_c1 NN)) ?_
    refine nn_getr rfl (nc_1_0 NN (nn_c1 NN)).1 (lf_9_1 L N (nc_1_0 NN (nn_c1 NN))) ?_
    refine mm_s1 rfl ⟨(nc_9_4 NN (nc_1_0 NN (nn_c1 NN))).1, ?_⟩
    refine nn_call (D := 4) (by decide) (h n L N (nc_9_4 NN (nc_1_0 NN (nn_c1 NN))) (Or.resolve_left q5 c12) (nc_9_1 NN (nc_1_0 NN (nn_c1 NN)))) ?_
    intro v M36 q; clear L N h
    obtain ⟨rfl, L, N, h⟩ := q
    show mm_Go (mm_run 4) mc_LI_ask _ (39, [(0, .inr (.inr 1)), (1, .inl v1), (2, .inl v2), (3, .inl v3), (4, .inl v4), (5, .inr (.inr r5))], [], M36)
    refine mm_s1 rfl ?_
    refine nn_getr rfl (nn_c1 NN).1 (lf_1_0 L N (nn_c1 NN)) ?_
    refine mm_s1 rfl ?_
    refine mm_s1 rfl ?_
    refine mm_s1 rfl ?_
    show mm_Go (mm_run 4) mc_LI_ask _ (47, [(0, .inr (.inr 1)), (1, .inl v1), (2, .inl v2), (3, .inl v3), (4, .inl v4), (5, .inr (.inr r5))], [.inl v3, .inl v2, .inr (.inr r5), .inr (.inr 2)], M36)
    refine mm_s1 rfl ⟨(nc_1_0 NN (nn_c1 NN)).1, ?_⟩
    refine nn_call (D := 2) (by decide) (h n L N (nc_1_0 NN (nn_c1 NN)) (Or.resolve_left q5 c12)) ?_
    intro v M47 q; clear L N h
    obtain ⟨r47, rfl, L, N, h⟩ := q
    show mm_Go (mm_run 4) mc_LI_ask _ (50, [(0, .inr (.inr 1)), (1, .inl v1), (2, .inl v2), (3, .inl v3), (4, .inl v4), (5, .inr (.inr r5))], [.inl r47], M47)
    refine mm_s1 rfl ?_
    show mm_Go (mm_run 4) mc_LI_ask _ (52, [(0, .inr (.inr 1)), (1, .inl v1), (2, .inl v2), (3, .inl v3), (4, .inl v4), (5, .inr (.inr r5)), (6, .inl r47)], [], M47)
    refine mm_s1 rfl ?_
    refine nn_getr rfl (nn_c1 NN).1 (lf_1_0 L N (nn_c1 NN)) ?_
    refine nn_getr rfl (nc_1_0 NN (nn_c1 NN)).1 (lf_9_6 L N (nc_1_0 NN (nn_c1 NN))) ?_
    refine mm_s1 rfl ?_
    refine mm_s1 rfl ?_
    show mm_Go (mm_run 4) mc_LI_ask _ (63, [(0, .inr (.inr 1)), (1, .inl v1), (2, .inl v2), (3, .inl v3), (4, .inl v4), (5, .inr (.inr r5)), (6, .inl r47)], [.inl v4, .inl r47, .inr (.inr 91)], M47)
    obtain ⟨b63, h⟩ := h
    refine mm_s1 rfl ⟨trivial, ?_⟩
    refine np_LI_answered (by decide) L N (nc_9_6 NN (nc_1_0 NN (nn_c1 NN))) b63 ?_
    show mm_Go (mm_run 4) mc_LI_ask _ (66, [(0, .inr (.inr 1)), (1, .inl v1), (2, .inl v2), (3, .inl v3), (4, .inl v4), (5, .inr (.inr r5)), (6, .inl r47)], [.inl (nf_LI_answered 91 r47 v4 M47)], M47)
    exact mm_s1 rfl ⟨_, rfl, L, N, h⟩
  · show mm_Go (mm_run 4) mc_LI_ask _ (15, [(0, .inr (.inr 1)), (1, .inl v1), (2, .inl v2), (3, .inl v3), (4, .inl v4), (5, .inr (.inr r5))], [], M5)
    replace c12 := Decidable.not_not.mp c12
    replace h := h.2 c12
    refine mm_s1 rfl ?_
    exact mm_s1 rfl ⟨_, rfl, L, N, h⟩
def nr_LI_held (v1 : Int) (M : mm_M) (R : Int → mm_M → Prop) : Prop := ∀ n, nn_L M → M.1 = n → mm_run 5 mi_LI_held [.inr (.inr 1), .inl v1] M (nw_I n R)
set_option maxRecDepth 20000 in
theorem ng_LI_held (v1 : Int) (M : mm_M) (R : Int → mm_M → Prop) (h : (((nf_LI_isKey v1) = 0 → R (-1) M) ∧ ((nf_LI_isKey v1) ≠ 0 → (nr_Store_heldBy 2 v1 M (fun r12 M12 => R r12 M12))))) : nr_LI_held v1 M R := by
  intro n L N 
  have NN := nn_L_n L N
  show mm_Go (mm_run 4) mc_LI_held _ (0, [(0, .inr (.inr 1)), (1, .inl v1)], [], M)
  refine mm_s1 rfl ?_
  refine mm_s1 rfl ⟨trivial, ?_⟩
  refine np_LI_isKey (by decide) L N ?_
  show mm_Go (mm_run 4) mc_LI_held _ (4, [(0, .inr (.inr 1)), (1, .inl v1)], [.inl (nf_LI_isKey v1)], M)
  refine mm_s1 rfl ⟨fun c4 => ?_, fun c4 => ?_⟩
  · show mm_Go (mm_run 4) mc_LI_held _ (18, [(0, .inr (.inr 1)), (1, .inl v1)], [], M)
    replace h := h.1 c4
    refine mm_s1 rfl ?_
    exact mm_s1 rfl ⟨_, rfl, L, N, h⟩
  · show mm_Go (mm_run 4) mc_LI_held _ (7, [(0, .inr (.inr 1)), (1, .inl v1)], [], M)
    replace h := h.2 c4
    refine mm_s1 rfl ?_
    refine nn_getr rfl (nn_c1 NN).1 (lf_1_0 L N (nn_c1 NN)) ?_
    refine mm_s1 rfl ?_
    refine mm_s1 rfl ⟨(nc_1_0 NN (nn_c1 NN)).1, ?_⟩
    refine nn_call (D := 4) (by decide) (h n L N (nc_1_0 NN (nn_c1 NN))) ?_
    intro v M12 q; clear L N h
    obtain ⟨r12, rfl, L, N, h⟩ := q
    show mm_Go (mm_run 4) mc_LI_held _ (15, [(0, .inr (.inr 1)), (1, .inl v1)], [.inl r12], M12)
    refine mm_s1 rfl ?_
    show mm_Go (mm_run 4) mc_LI_held _ (19, [(0, .inr (.inr 1)), (1, .inl v1)], [.inl r12], M12)
    exact mm_s1 rfl ⟨_, rfl, L, N, h⟩
def nr_LI_again (v1 : Int) (M : mm_M) (R : Int → mm_M → Prop) : Prop := ∀ n, nn_L M → M.1 = n → mm_run 5 mi_LI_again [.inr (.inr 1), .inl v1] M (nw_Z n R)
set_option maxRecDepth 20000 in
theorem ng_LI_again (v1 : Int) (M : mm_M) (R : Int → mm_M → Prop) (h : (((0 ≤ v1) ∧ (v1 < 3) → ((0 : Int) ≤ v1 ∧ v1 < (3 : Int))) ∧ ((0 ≤ v1) ∧ (v1 < 3) ∧ ((nn_rr M 406 v1) ≠ 0) → ((0 : Int) ≤ v1 ∧ v1 < (3 : Int))) ∧ ((v1 < 0 ∨ (3 ≤ v1 ∨ ((nn_rr M 406 v1) = 0))) → R 0 M) ∧ ((0 ≤ v1 ∧ (v1 < 3 ∧ ((nn_rr M 406 v1) ≠ 0))) → (nr_Store_copy 2 (nn_rr M 406 v1) M (fun M30 => R 1 M30))))) : nr_LI_again v1 M R := by
  intro n L N 
  have NN := nn_L_n L N
  show mm_Go (mm_run 4) mc_LI_again _ (0, [(0, .inr (.inr 1)), (1, .inl v1)], [], M)
  refine mm_s1 rfl ?_
  refine mm_s1 rfl ⟨fun c1 => ?_, fun c1 => ?_⟩
  · show mm_Go (mm_run 4) mc_LI_again _ (18, [(0, .inr (.inr 1)), (1, .inl v1)], [], M)
    refine mm_s1 rfl ?_
    replace h := h.2.2.1 (Or.inl c1)
    exact mm_s1 rfl ⟨(Or.inl rfl), _, rfl, (Or.inl rfl), L, N, h⟩
  · show mm_Go (mm_run 4) mc_LI_again _ (4, [(0, .inr (.inr 1)), (1, .inl v1)], [], M)
    replace c1 := Int.not_lt.mp c1
    refine mm_s1 rfl ?_
    refine mm_s1 rfl ?_
    refine mm_s1 rfl ⟨fun c6 => ?_, fun c6 => ?_⟩
    · show mm_Go (mm_run 4) mc_LI_again _ (18, [(0, .inr (.inr 1)), (1, .inl v1)], [], M)
      refine mm_s1 rfl ?_
      replace h := h.2.2.1 (Or.inr (Or.inl c6))
      exact mm_s1 rfl ⟨(Or.inl rfl), _, rfl, (Or.inl rfl), L, N, h⟩
    · show mm_Go (mm_run 4) mc_LI_again _ (9, [(0, .inr (.inr 1)), (1, .inl v1)], [], M)
      replace c6 := Int.not_le.mp c6
      refine mm_s1 rfl ?_
      refine nn_getr rfl (nn_c1 NN).1 (lf_1_4 L N (nn_c1 NN)) ?_
      refine mm_s1 rfl ?_
      have b14 := h.1 ⟨c1, c6⟩
      have C14 := (nn_l39 L N b14).2
      refine nn_aald rfl (nn_bd30 (na_1_4 NN (nn_c1 NN)) (by decide) b14) (nn_l39 L N b14).1 ?_
      show mm_Go (mm_run 4) mc_LI_again _ (15, [(0, .inr (.inr 1)), (1, .inl v1)], [.inr (.inr (nn_rr M 406 v1))], M)
      refine mm_s1 rfl ⟨fun c15 => ?_, fun c15 => ?_⟩
      · show mm_Go (mm_run 4) mc_LI_again _ (20, [(0, .inr (.inr 1)), (1, .inl v1)], [], M)
        refine mm_s1 rfl ?_
        refine nn_getr rfl (nn_c1 NN).1 (lf_1_0 L N (nn_c1 NN)) ?_
        refine mm_s1 rfl ?_
        refine nn_getr rfl (nn_c1 NN).1 (lf_1_4 L N (nn_c1 NN)) ?_
        refine mm_s1 rfl ?_
        show mm_Go (mm_run 4) mc_LI_again _ (29, [(0, .inr (.inr 1)), (1, .inl v1)], [.inl v1, .inr (.inr 406), .inr (.inr 2)], M)
        have b29 := h.2.1 ⟨c1, c6, c15⟩
        have C29 := (nn_l39 L N b29).2
        refine nn_aald rfl (nn_bd30 (na_1_4 NN (nn_c1 NN)) (by decide) b29) (nn_l39 L N b29).1 ?_
        show mm_Go (mm_run 4) mc_LI_again _ (30, [(0, .inr (.inr 1)), (1, .inl v1)], [.inr (.inr (nn_rr M 406 v1)), .inr (.inr 2)], M)
        replace h := h.2.2.2 ⟨c1, ⟨c6, c15⟩⟩
        refine mm_s1 rfl ⟨(nc_1_0 NN (nn_c1 NN)).1, ?_⟩
        refine nn_call (D := 4) (by decide) (h n L N (nc_1_0 NN (nn_c1 NN)) (Or.resolve_left C29 c15)) ?_
        intro v M30 q; clear L N h
        obtain ⟨rfl, L, N, h⟩ := q
        show mm_Go (mm_run 4) mc_LI_again _ (33, [(0, .inr (.inr 1)), (1, .inl v1)], [], M30)
        refine mm_s1 rfl ?_
        exact mm_s1 rfl ⟨(Or.inr rfl), _, rfl, (Or.inr rfl), L, N, h⟩
      · show mm_Go (mm_run 4) mc_LI_again _ (18, [(0, .inr (.inr 1)), (1, .inl v1)], [], M)
        replace c15 := Decidable.not_not.mp c15
        refine mm_s1 rfl ?_
        replace h := h.2.2.1 (Or.inr (Or.inr c15))
        exact mm_s1 rfl ⟨(Or.inl rfl), _, rfl, (Or.inl rfl), L, N, h⟩
def nr_Index_told (v0 : Nat) (v1 : Int) (v2 : Nat) (M : mm_M) (R : Int → mm_M → Prop) : Prop := ∀ n, nn_L M → M.1 = n → nn_C 5 v0 n → nn_C 12 v2 n → mm_run 5 mi_Index_told [.inr (.inr v0), .inl v1, .inr (.inr v2)] M (nw_I n R)
set_option maxRecDepth 20000 in
theorem ng_Index_told (v0 : Nat) (v1 : Int) (v2 : Nat) (M : mm_M) (R : Int → mm_M → Prop) (h : ((v1 = 0 → R (nn_rf M v0 5) M) ∧ (v1 = 1 → (((nn_rf M v0 6) = 0 → R 0 M) ∧ ((nn_rf M v0 6) ≠ 0 → R 1 M))) ∧ (v1 = 2 → (((nn_rf M v0 7) = 0 → R 0 M) ∧ ((nn_rf M v0 7) ≠ 0 → R 1 M))) ∧ (v1 = 3 → R (nn_rf M (v0 + 8) 5) M) ∧ (v1 = 4 → ((nc_Index_size v0 M) ∧ R (nf_Index_size v0 M) M)) ∧ (v1 = 5 → (nr_Index_stale v0 v2 M (fun r118 M118 => R r118 M118))) ∧ (v1 = 6 → (nr_Index_waste v0 v2 M (fun r124 M124 => R r124 M124))) ∧ (v1 = 7 → R (mm_w (32 - (nn_rf M v0 9))) M) ∧ (v1 = 8 → (nr_Index_sure v0 M (fun r137 M137 => R r137 M137))) ∧ (v1 = 9 → R (nn_rf M (v0 + 6) 1) M) ∧ (v1 = 10 → R (-2) M) ∧ (v1 = 11 → R (-2) M) ∧ (v1 = 12 → R (-2) M) ∧ (v1 = 13 → (nr_Pile_worst (v0 + 8) v2 M (fun r154 M154 => R r154 M154))) ∧ ((v1 < 0 ∨ 13 < v1) → R (-2) M))) : nr_Index_told v0 v1 v2 M R := by
  intro n L N C0 C2
  have NN := nn_L_n L N
  show mm_Go (mm_run 4) mc_Index_told _ (0, [(0, .inr (.inr v0)), (1, .inl v1), (2, .inr (.inr v2))], [], M)
  refine mm_s1 rfl ?_
  refine nn_sw rfl (by decide) (fun k hk hx => ?_) (fun c1 => ?_)
  · match k, hk, hx with
    | 0, _, hx =>
      have c1 : v1 = 0 := hx.trans (by decide)
      replace h := h.1 c1
      show mm_Go (mm_run 4) mc_Index_told _ (72, [(0, .inr (.inr v0)), (1, .inl v1), (2, .inr (.inr v2))], [], M)
      refine mm_s1 rfl ?_
      refine mm_s1 rfl ⟨C0.1, ?_⟩
      show mm_Go (mm_run 4) mc_Index_told _ (76, [(0, .inr (.inr v0)), (1, .inl v1), (2, .inr (.inr v2))], [.inl (nn_rf M v0 5)], M)
      exact mm_s1 rfl ⟨_, rfl, L, N, h⟩
    | 1, _, hx =>
      have c1 : v1 = 1 := hx.trans (by decide)
      replace h := h.2.1 c1
      show mm_Go (mm_run 4) mc_Index_told _ (77, [(0, .inr (.inr v0)), (1, .inl v1), (2, .inr (.inr v2))], [], M)
      refine mm_s1 rfl ?_
      refine mm_s1 rfl ⟨C0.1, ?_⟩
      show mm_Go (mm_run 4) mc_Index_told _ (81, [(0, .inr (.inr v0)), (1, .inl v1), (2, .inr (.inr v2))], [.inl (nn_rf M v0 6)], M)
      refine mm_s1 rfl ⟨fun c81 => ?_, fun c81 => ?_⟩
      · show mm_Go (mm_run 4) mc_Index_told _ (88, [(0, .inr (.inr v0)), (1, .inl v1), (2, .inr (.inr v2))], [], M)
        replace h := h.1 c81
        refine mm_s1 rfl ?_
        exact mm_s1 rfl ⟨_, rfl, L, N, h⟩
      · show mm_Go (mm_run 4) mc_Index_told _ (84, [(0, .inr (.inr v0)), (1, .inl v1), (2, .inr (.inr v2))], [], M)
        replace h := h.2 c81
        refine mm_s1 rfl ?_
        refine mm_s1 rfl ?_
        show mm_Go (mm_run 4) mc_Index_told _ (89, [(0, .inr (.inr v0)), (1, .inl v1), (2, .inr (.inr v2))], [.inl 1], M)
        exact mm_s1 rfl ⟨_, rfl, L, N, h⟩
    | 2, _, hx =>
      have c1 : v1 = 2 := hx.trans (by decide)
      replace h := h.2.2.1 c1
      show mm_Go (mm_run 4) mc_Index_told _ (90, [(0, .inr (.inr v0)), (1, .inl v1), (2, .inr (.inr v2))], [], M)
      refine mm_s1 rfl ?_
      refine mm_s1 rfl ⟨C0.1, ?_⟩
      show mm_Go (mm_run 4) mc_Index_told _ (94, [(0, .inr (.inr v0)), (1, .inl v1), (2, .inr (.inr v2))], [.inl (nn_rf M v0 7)], M)
      refine mm_s1 rfl ⟨fun c94 => ?_, fun c94 => ?_⟩
      · show mm_Go (mm_run 4) mc_Index_told _ (101, [(0, .inr (.inr v0)), (1, .inl v1), (2, .inr (.inr v2))], [], M)
        replace h := h.1 c94
        refine mm_s1 rfl ?_
        exact mm_s1 rfl ⟨_, rfl, L, N, h⟩
      · show mm_Go (mm_run 4) mc_Index_told _ (97, [(0, .inr (.inr v0)), (1, .inl v1), (2, .inr (.inr v2))], [], M)
        replace h := h.2 c94
        refine mm_s1 rfl ?_
        refine mm_s1 rfl ?_
        show mm_Go (mm_run 4) mc_Index_told _ (102, [(0, .inr (.inr v0)), (1, .inl v1), (2, .inr (.inr v2))], [.inl 1], M)
        exact mm_s1 rfl ⟨_, rfl, L, N, h⟩
    | 3, _, hx =>
      have c1 : v1 = 3 := hx.trans (by decide)
      replace h := h.2.2.2.1 c1
      show mm_Go (mm_run 4) mc_Index_told _ (103, [(0, .inr (.inr v0)), (1, .inl v1), (2, .inr (.inr v2))], [], M)
      refine mm_s1 rfl ?_
      refine nn_getr rfl C0.1 (lf_5_3 L N C0) ?_
      refine mm_s1 rfl ⟨(nc_5_3 NN C0).1, ?_⟩
      show mm_Go (mm_run 4) mc_Index_told _ (110, [(0, .inr (.inr v0)), (1, .inl v1), (2, .inr (.inr v2))], [.inl (nn_rf M (v0 + 8) 5)], M)
      exact mm_s1 rfl ⟨_, rfl, L, N, h⟩
    | 4, _, hx =>
      have c1 : v1 = 4 := hx.trans (by decide)
      replace h := h.2.2.2.2.1 c1
      show mm_Go (mm_run 4) mc_Index_told _ (111, [(0, .inr (.inr v0)), (1, .inl v1), (2, .inr (.inr v2))], [], M)
      refine mm_s1 rfl ?_
      obtain ⟨b112, h⟩ := h
      refine mm_s1 rfl ⟨C0.1, ?_⟩
      refine np_Index_size (by decide) L N C0 b112 ?_
      show mm_Go (mm_run 4) mc_Index_told _ (115, [(0, .inr (.inr v0)), (1, .inl v1), (2, .inr (.inr v2))], [.inl (nf_Index_size v0 M)], M)
      exact mm_s1 rfl ⟨_, rfl, L, N, h⟩
    | 5, _, hx =>
      have c1 : v1 = 5 := hx.trans (by decide)
      replace h := h.2.2.2.2.2.1 c1
      show mm_Go (mm_run 4) mc_Index_told _ (116, [(0, .inr (.inr v0)), (1, .inl v1), (2, .inr (.inr v2))], [], M)
      refine mm_s1 rfl ?_
      refine mm_s1 rfl ?_
      refine mm_s1 rfl ⟨C0.1, ?_⟩
      refine nn_call (D := 3) (by decide) (h n L N C0 C2) ?_
      intro v M118 q; clear L N h
      obtain ⟨r118, rfl, L, N, h⟩ := q
      show mm_Go (mm_run 4) mc_Index_told _ (121, [(0, .inr (.inr v0)), (1, .inl v1), (2, .inr (.inr v2))], [.inl r118], M118)
      exact mm_s1 rfl ⟨_, rfl, L, N, h⟩
    | 6, _, hx =>
      have c1 : v1 = 6 := hx.trans (by decide)
      replace h := h.2.2.2.2.2.2.1 c1
      show mm_Go (mm_run 4) mc_Index_told _ (122, [(0, .inr (.inr v0)), (1, .inl v1), (2, .inr (.inr v2))], [], M)
      refine mm_s1 rfl ?_
      refine mm_s1 rfl ?_
      refine mm_s1 rfl ⟨C0.1, ?_⟩
      refine nn_call (D := 4) (by decide) (h n L N C0 C2) ?_
      intro v M124 q; clear L N h
      obtain ⟨r124, rfl, L, N, h⟩ := q
      show mm_Go (mm_run 4) mc_Index_told _ (127, [(0, .inr (.inr v0)), (1, .inl v1), (2, .inr (.inr v2))], [.inl r124], M124)
      exact mm_s1 rfl ⟨_, rfl, L, N, h⟩
    | 7, _, hx =>
      have c1 : v1 = 7 := hx.trans (by decide)
      replace h := h.2.2.2.2.2.2.2.1 c1
      show mm_Go (mm_run 4) mc_Index_told _ (128, [(0, .inr (.inr v0)), (1, .inl v1), (2, .inr (.inr v2))], [], M)
      refine mm_s1 rfl ?_
      refine mm_s1 rfl ?_
      refine mm_s1 rfl ⟨C0.1, ?_⟩
      show mm_Go (mm_run 4) mc_Index_told _ (134, [(0, .inr (.inr v0)), (1, .inl v1), (2, .inr (.inr v2))], [.inl (nn_rf M v0 9), .inl 32], M)
      refine mm_s1 rfl ?_
      exact mm_s1 rfl ⟨_, rfl, L, N, h⟩
    | 8, _, hx =>
      have c1 : v1 = 8 := hx.trans (by decide)
      replace h := h.2.2.2.2.2.2.2.2.1 c1
      show mm_Go (mm_run 4) mc_Index_told _ (136, [(0, .inr (.inr v0)), (1, .inl v1), (2, .inr (.inr v2))], [], M)
      refine mm_s1 rfl ?_
      refine mm_s1 rfl ⟨C0.1, ?_⟩
      refine nn_call (D := 3) (by decide) (h n L N C0) ?_
      intro v M137 q; clear L N h
      obtain ⟨r137, rfl, L, N, h⟩ := q
      show mm_Go (mm_run 4) mc_Index_told _ (140, [(0, .inr (.inr v0)), (1, .inl v1), (2, .inr (.inr v2))], [.inl r137], M137)
      exact mm_s1 rfl ⟨_, rfl, L, N, h⟩
    | 9, _, hx =>
      have c1 : v1 = 9 := hx.trans (by decide)
      replace h := h.2.2.2.2.2.2.2.2.2.1 c1
      show mm_Go (mm_run 4) mc_Index_told _ (141, [(0, .inr (.inr v0)), (1, .inl v1), (2, .inr (.inr v2))], [], M)
      refine mm_s1 rfl ?_
      refine nn_getr rfl C0.1 (lf_5_2 L N C0) ?_
      refine mm_s1 rfl ⟨(nc_5_2 NN C0).1, ?_⟩
      show mm_Go (mm_run 4) mc_Index_told _ (148, [(0, .inr (.inr v0)), (1, .inl v1), (2, .inr (.inr v2))], [.inl (nn_rf M (v0 + 6) 1)], M)
      exact mm_s1 rfl ⟨_, rfl, L, N, h⟩
    | 10, _, hx =>
      have c1 : v1 = 10 := hx.trans (by decide)
      replace h := h.2.2.2.2.2.2.2.2.2.2.1 c1
      show mm_Go (mm_run 4) mc_Index_told _ (158, [(0, .inr (.inr v0)), (1, .inl v1), (2, .inr (.inr v2))], [], M)
      refine mm_s1 rfl ?_
      exact mm_s1 rfl ⟨_, rfl, L, N, h⟩
    | 11, _, hx =>
      have c1 : v1 = 11 := hx.trans (by decide)
      replace h := h.2.2.2.2.2.2.2.2.2.2.2.1 c1
      show mm_Go (mm_run 4) mc_Index_told _ (158, [(0, .inr (.inr v0)), (1, .inl v1), (2, .inr (.inr v2))], [], M)
      refine mm_s1 rfl ?_
      exact mm_s1 rfl ⟨_, rfl, L, N, h⟩
    | 12, _, hx =>
      have c1 : v1 = 12 := hx.trans (by decide)
      replace h := h.2.2.2.2.2.2.2.2.2.2.2.2.1 c1
      show mm_Go (mm_run 4) mc_Index_told _ (158, [(0, .inr (.inr v0)), (1, .inl v1), (2, .inr (.inr v2))], [], M)
      refine mm_s1 rfl ?_
      exact mm_s1 rfl ⟨_, rfl, L, N, h⟩
    | 13, _, hx =>
      have c1 : v1 = 13 := hx.trans (by decide)
      replace h := h.2.2.2.2.2.2.2.2.2.2.2.2.2.1 c1
      show mm_Go (mm_run 4) mc_Index_told _ (149, [(0, .inr (.inr v0)), (1, .inl v1), (2, .inr (.inr v2))], [], M)
      refine mm_s1 rfl ?_
      refine nn_getr rfl C0.1 (lf_5_3 L N C0) ?_
      refine mm_s1 rfl ?_
      refine mm_s1 rfl ⟨(nc_5_3 NN C0).1, ?_⟩
      refine nn_call (D := 3) (by decide) (h n L N (nc_5_3 NN C0) C2) ?_
      intro v M154 q; clear L N h
      obtain ⟨r154, rfl, L, N, h⟩ := q
      show mm_Go (mm_run 4) mc_Index_told _ (157, [(0, .inr (.inr v0)), (1, .inl v1), (2, .inr (.inr v2))], [.inl r154], M154)
      exact mm_s1 rfl ⟨_, rfl, L, N, h⟩
    | k + 14, hk, _ => exact absurd hk (by show ¬ (k + 14 < 14); omega)
  · replace h := h.2.2.2.2.2.2.2.2.2.2.2.2.2.2 c1
    show mm_Go (mm_run 4) mc_Index_told _ (158, [(0, .inr (.inr v0)), (1, .inl v1), (2, .inr (.inr v2))], [], M)
    refine mm_s1 rfl ?_
    exact mm_s1 rfl ⟨_, rfl, L, N, h⟩
def nr_Store_flushed (v0 : Nat) (M : mm_M) (R : mm_M → Prop) : Prop := ∀ n, nn_L M → M.1 = n → nn_C 9 v0 n → mm_run 5 mi_Store_flushed [.inr (.inr v0)] M (nw_V n R)
def nk_Store_flushed_2 (v0 : Nat) (v1 : Int) (M : mm_M) (R : mm_M → Prop) : Prop := ∀ n, nn_L M → M.1 = n → nn_C 9 v0 n → mm_Go (mm_run 4) mc_Store_flushed (nw_V n R) (2, [(0, .inr (.inr v0)), (1, .inl v1)], [], M)
def nk_Store_flushed_63 (v0 : Nat) (v1 : Int) (M : mm_M) (R : mm_M → Prop) : Prop := ∀ n, nn_L M → M.1 = n → nn_C 9 v0 n → mm_Go (mm_run 4) mc_Store_flushed (nw_V n R) (63, [(0, .inr (.inr v0)), (1, .inl v1)], [], M)
set_option maxRecDepth 20000 in
theorem ng_Store_flushed (v0 : Nat) (M : mm_M) (R : mm_M → Prop) (h : nk_Store_flushed_2 v0 0 M R) : nr_Store_flushed v0 M R := by
  intro n L N C0
  have NN := nn_L_n L N
  show mm_Go (mm_run 4) mc_Store_flushed _ (0, [(0, .inr (.inr v0))], [], M)
  refine mm_s1 rfl ?_
  refine mm_s1 rfl ?_
  show mm_Go (mm_run 4) mc_Store_flushed _ (2, [(0, .inr (.inr v0)), (1, .inl 0)], [], M)
  exact nn_go_ext (nn_xc rfl (nn_xc rfl nn_xn)) (h n L N C0)
set_option maxRecDepth 20000 in
theorem ng_Store_flushed_2 (v0 : Nat) (v1 : Int) (M : mm_M) (R : mm_M → Prop) (h : ((4 ≤ v1 → (nr_Table_layDown (v0 + 3) M (fun M42 => (nr_Store_sure v0 M42 (fun r54 M54 => (nr_Table_mergeLevels (v0 + 3) (nn_rf M42 v0 8) r54 M54 (fun r57 M57 => nk_Store_flushed_63 v0 0 M57 R))))))) ∧ (v1 < 4 → (((0 : Int) ≤ v1 ∧ v1 < (4 : Int)) ∧ (((nn_rf M (v0 + 90 + 15 * (v1).toNat) 5) = 0 → nk_Store_flushed_2 v0 (mm_w (v1 + 1)) M R) ∧ ((nn_rf M (v0 + 90 + 15 * (v1).toNat) 5) ≠ 0 → (((0 : Int) ≤ v1 ∧ v1 < (4 : Int)) ∧ (nr_Index_layDown (v0 + 90 + 15 * (v1).toNat) (v0 + 3) M (fun M29 => nk_Store_flushed_2 v0 (mm_w (v1 + 1)) M29 R))))))))) : nk_Store_flushed_2 v0 v1 M R := by
  intro n L N C0
  have NN := nn_L_n L N
  show mm_Go (mm_run 4) mc_Store_flushed _ (2, [(0, .inr (.inr v0)), (1, .inl v1)], [], M)
  refine mm_s1 rfl ?_
  refine mm_s1 rfl ?_
  refine mm_s1 rfl ⟨fun c4 => ?_, fun c4 => ?_⟩
  · show mm_Go (mm_run 4) mc_Store_flushed _ (38, [(0, .inr (.inr v0)), (1, .inl v1)], [], M)
    replace h := h.1 c4
    refine mm_s1 rfl ?_
    refine nn_getr rfl C0.1 (lf_9_1 L N C0) ?_
    refine mm_s1 rfl ⟨(nc_9_1 NN C0).1, ?_⟩
    refine nn_call (D := 2) (by decide) (h n L N (nc_9_1 NN C0)) ?_
    intro v M42 q; clear L N h
    obtain ⟨rfl, L, N, h⟩ := q
    show mm_Go (mm_run 4) mc_Store_flushed _ (45, [(0, .inr (.inr v0)), (1, .inl v1)], [], M42)
    refine mm_s1 rfl ?_
    refine nn_getr rfl C0.1 (lf_9_1 L N C0) ?_
    refine mm_s1 rfl ?_
    refine mm_s1 rfl ⟨C0.1, ?_⟩
    show mm_Go (mm_run 4) mc_Store_flushed _ (53, [(0, .inr (.inr v0)), (1, .inl v1)], [.inl (nn_rf M42 v0 8), .inr (.inr (v0 + 3))], M42)
    refine mm_s1 rfl ?_
    refine mm_s1 rfl ⟨C0.1, ?_⟩
    refine nn_call (D := 4) (by decide) (h n L N C0) ?_
    intro v M54 q; clear L N h
    obtain ⟨r54, rfl, L, N, h⟩ := q
    show mm_Go (mm_run 4) mc_Store_flushed _ (57, [(0, .inr (.inr v0)), (1, .inl v1)], [.inl r54, .inl (nn_rf M42 v0 8), .inr (.inr (v0 + 3))], M54)
    refine mm_s1 rfl ⟨(nc_9_1 NN C0).1, ?_⟩
    refine nn_call (D := 4) (by decide) (h n L N (nc_9_1 NN C0)) ?_
    intro v M57 q; clear L N h
    obtain ⟨r57, rfl, L, N, h⟩ := q
    show mm_Go (mm_run 4) mc_Store_flushed _ (60, [(0, .inr (.inr v0)), (1, .inl v1)], [.inl r57], M57)
    refine mm_s1 rfl ?_
    refine mm_s1 rfl ?_
    refine mm_s1 rfl ?_
    show mm_Go (mm_run 4) mc_Store_flushed _ (63, [(0, .inr (.inr v0)), (1, .inl 0)], [], M57)
    exact nn_go_ext (nn_xc rfl (nn_xc rfl nn_xn)) (h n L N C0)
  · show mm_Go (mm_run 4) mc_Store_flushed _ (7, [(0, .inr (.inr v0)), (1, .inl v1)], [], M)
    replace c4 := Int.not_le.mp c4
    replace h := h.2 c4
    refine mm_s1 rfl ?_
    refine nn_getr rfl C0.1 (lf_9_2 L N C0) ?_
    refine mm_s1 rfl ?_
    obtain ⟨b12, h⟩ := h
    have C12 : nn_C 5 (v0 + 90 + 15 * (v1).toNat) n := (nn_arr NN (nc_9_2 NN C0).2).1 (nc_9_2 NN C0).1 _ (nn_tn b12 (by decide))
    refine nn_aald rfl (nn_bd30 (na_9_2 NN C0) (by decide) b12) (nn_l35 L N (nc_9_2 NN C0) b12) ?_
    show mm_Go (mm_run 4) mc_Store_flushed _ (13, [(0, .inr (.inr v0)), (1, .inl v1)], [.inr (.inr (v0 + 90 + 15 * (v1).toNat))], M)
    refine mm_s1 rfl ⟨C12.1, ?_⟩
    show mm_Go (mm_run 4) mc_Store_flushed _ (16, [(0, .inr (.inr v0)), (1, .inl v1)], [.inl (nn_rf M (v0 + 90 + 15 * (v1).toNat) 5)], M)
    refine mm_s1 rfl ⟨fun c16 => ?_, fun c16 => ?_⟩
    · show mm_Go (mm_run 4) mc_Store_flushed _ (32, [(0, .inr (.inr v0)), (1, .inl v1)], [], M)
      replace h := h.1 c16
      refine mm_s1 rfl ?_
      show mm_Go (mm_run 4) mc_Store_flushed _ (35, [(0, .inr (.inr v0)), (1, .inl (mm_w (v1 + 1)))], [], M)
      refine mm_s1 rfl ?_
      show mm_Go (mm_run 4) mc_Store_flushed _ (2, [(0, .inr (.inr v0)), (1, .inl (mm_w (v1 + 1)))], [], M)
      exact nn_go_ext (nn_xc rfl (nn_xc rfl nn_xn)) (h n L N C0)
    · show mm_Go (mm_run 4) mc_Store_flushed _ (19, [(0, .inr (.inr v0)), (1, .inl v1)], [], M)
      replace h := h.2 c16
      refine mm_s1 rfl ?_
      refine nn_getr rfl C0.1 (lf_9_2 L N C0) ?_
      refine mm_s1 rfl ?_
      obtain ⟨b24, h⟩ := h
      have C24 : nn_C 5 (v0 + 90 + 15 * (v1).toNat) n := (nn_arr NN (nc_9_2 NN C0).2).1 (nc_9_2 NN C0).1 _ (nn_tn b24 (by decide))
      refine nn_aald rfl (nn_bd30 (na_9_2 NN C0) (by decide) b24) (nn_l35 L N (nc_9_2 NN C0) b24) ?_
      show mm_Go (mm_run 4) mc_Store_flushed _ (25, [(0, .inr (.inr v0)), (1, .inl v1)], [.inr (.inr (v0 + 90 + 15 * (v1).toNat))], M)
      refine mm_s1 rfl ?_
      refine nn_getr rfl C0.1 (lf_9_1 L N C0) ?_
      refine mm_s1 rfl ⟨C24.1, ?_⟩
      refine nn_call (D := 3) (by decide) (h n L N C24 (nc_9_1 NN C0)) ?_
      intro v M29 q; clear L N h
      obtain ⟨rfl, L, N, h⟩ := q
      show mm_Go (mm_run 4) mc_Store_flushed _ (32, [(0, .inr (.inr v0)), (1, .inl v1)], [], M29)
      refine mm_s1 rfl ?_
      show mm_Go (mm_run 4) mc_Store_flushed _ (35, [(0, .inr (.inr v0)), (1, .inl (mm_w (v1 + 1)))], [], M29)
      refine mm_s1 rfl ?_
      show mm_Go (mm_run 4) mc_Store_flushed _ (2, [(0, .inr (.inr v0)), (1, .inl (mm_w (v1 + 1)))], [], M29)
      exact nn_go_ext (nn_xc rfl (nn_xc rfl nn_xn)) (h n L N C0)
set_option maxRecDepth 20000 in
theorem ng_Store_flushed_63 (v0 : Nat) (v1 : Int) (M : mm_M) (R : mm_M → Prop) (h : ((4 ≤ v1 → R M) ∧ (v1 < 4 → (((0 : Int) ≤ v1 ∧ v1 < (4 : Int)) ∧ (((nn_rf M (v0 + 90 + 15 * (v1).toNat) 5) = 0 → nk_Store_flushed_63 v0 (mm_w (v1 + 1)) M R) ∧ ((nn_rf M (v0 + 90 + 15 * (v1).toNat) 5) ≠ 0 → (((0 : Int) ≤ v1 ∧ v1 < (4 : Int)) ∧ (((0 : Int) ≤ v1 ∧ v1 < (4 : Int)) ∧ (nr_Pile_mergeLevels ((v0 + 90 + 15 * (v1).toNat) + 8) (nn_rf M v0 8) (nn_rf M (v0 + 90 + 15 * (v1).toNat) 7) (v0 + 3) M (fun M106 => nk_Store_flushed_63 v0 (mm_w (v1 + 1)) M106 R)))))))))) : nk_Store_flushed_63 v0 v1 M R := by
  intro n L N C0
  have NN := nn_L_n L N
  show mm_Go (mm_run 4) mc_Store_flushed _ (63, [(0, .inr (.inr v0)), (1, .inl v1)], [], M)
  refine mm_s1 rfl ?_
  refine mm_s1 rfl ?_
  refine mm_s1 rfl ⟨fun c65 => ?_, fun c65 => ?_⟩
  · show mm_Go (mm_run 4) mc_Store_flushed _ (115, [(0, .inr (.inr v0)), (1, .inl v1)], [], M)
    replace h := h.1 c65
    exact mm_s1 rfl ⟨rfl, L, N, h⟩
  · show mm_Go (mm_run 4) mc_Store_flushed _ (68, [(0, .inr (.inr v0)), (1, .inl v1)], [], M)
    replace c65 := Int.not_le.mp c65
    replace h := h.2 c65
    refine mm_s1 rfl ?_
    refine nn_getr rfl C0.1 (lf_9_2 L N C0) ?_
    refine mm_s1 rfl ?_
    obtain ⟨b73, h⟩ := h
    have C73 : nn_C 5 (v0 + 90 + 15 * (v1).toNat) n := (nn_arr NN (nc_9_2 NN C0).2).1 (nc_9_2 NN C0).1 _ (nn_tn b73 (by decide))
    refine nn_aald rfl (nn_bd30 (na_9_2 NN C0) (by decide) b73) (nn_l35 L N (nc_9_2 NN C0) b73) ?_
    show mm_Go (mm_run 4) mc_Store_flushed _ (74, [(0, .inr (.inr v0)), (1, .inl v1)], [.inr (.inr (v0 + 90 + 15 * (v1).toNat))], M)
    refine mm_s1 rfl ⟨C73.1, ?_⟩
    show mm_Go (mm_run 4) mc_Store_flushed _ (77, [(0, .inr (.inr v0)), (1, .inl v1)], [.inl (nn_rf M (v0 + 90 + 15 * (v1).toNat) 5)], M)
    refine mm_s1 rfl ⟨fun c77 => ?_, fun c77 => ?_⟩
    · show mm_Go (mm_run 4) mc_Store_flushed _ (109, [(0, .inr (.inr v0)), (1, .inl v1)], [], M)
      replace h := h.1 c77
      refine mm_s1 rfl ?_
      show mm_Go (mm_run 4) mc_Store_flushed _ (112, [(0, .inr (.inr v0)), (1, .inl (mm_w (v1 + 1)))], [], M)
      refine mm_s1 rfl ?_
      show mm_Go (mm_run 4) mc_Store_flushed _ (63, [(0, .inr (.inr v0)), (1, .inl (mm_w (v1 + 1)))], [], M)
      exact nn_go_ext (nn_xc rfl (nn_xc rfl nn_xn)) (h n L N C0)
    · show mm_Go (mm_run 4) mc_Store_flushed _ (80, [(0, .inr (.inr v0)), (1, .inl v1)], [], M)
      replace h := h.2 c77
      refine mm_s1 rfl ?_
      refine nn_getr rfl C0.1 (lf_9_2 L N C0) ?_
      refine mm_s1 rfl ?_
      obtain ⟨b85, h⟩ := h
      have C85 : nn_C 5 (v0 + 90 + 15 * (v1).toNat) n := (nn_arr NN (nc_9_2 NN C0).2).1 (nc_9_2 NN C0).1 _ (nn_tn b85 (by decide))
      refine nn_aald rfl (nn_bd30 (na_9_2 NN C0) (by decide) b85) (nn_l35 L N (nc_9_2 NN C0) b85) ?_
      show mm_Go (mm_run 4) mc_Store_flushed _ (86, [(0, .inr (.inr v0)), (1, .inl v1)], [.inr (.inr (v0 + 90 + 15 * (v1).toNat))], M)
      refine nn_getr rfl C85.1 (lf_5_3 L N C85) ?_
      refine mm_s1 rfl ?_
      refine mm_s1 rfl ⟨C0.1, ?_⟩
      show mm_Go (mm_run 4) mc_Store_flushed _ (93, [(0, .inr (.inr v0)), (1, .inl v1)], [.inl (nn_rf M v0 8), .inr (.inr ((v0 + 90 + 15 * (v1).toNat) + 8))], M)
      refine mm_s1 rfl ?_
      refine nn_getr rfl C0.1 (lf_9_2 L N C0) ?_
      refine mm_s1 rfl ?_
      obtain ⟨b98, h⟩ := h
      have C98 : nn_C 5 (v0 + 90 + 15 * (v1).toNat) n := (nn_arr NN (nc_9_2 NN C0).2).1 (nc_9_2 NN C0).1 _ (nn_tn b98 (by decide))
      refine nn_aald rfl (nn_bd30 (na_9_2 NN C0) (by decide) b98) (nn_l35 L N (nc_9_2 NN C0) b98) ?_
      show mm_Go (mm_run 4) mc_Store_flushed _ (99, [(0, .inr (.inr v0)), (1, .inl v1)], [.inr (.inr (v0 + 90 + 15 * (v1).toNat)), .inl (nn_rf M v0 8), .inr (.inr ((v0 + 90 + 15 * (v1).toNat) + 8))], M)
      refine mm_s1 rfl ⟨C98.1, ?_⟩
      show mm_Go (mm_run 4) mc_Store_flushed _ (102, [(0, .inr (.inr v0)), (1, .inl v1)], [.inl (nn_rf M (v0 + 90 + 15 * (v1).toNat) 7), .inl (nn_rf M v0 8), .inr (.inr ((v0 + 90 + 15 * (v1).toNat) + 8))], M)
      refine mm_s1 rfl ?_
      refine nn_getr rfl C0.1 (lf_9_1 L N C0) ?_
      refine mm_s1 rfl ⟨(nc_5_3 NN C85).1, ?_⟩
      refine nn_call (D := 4) (by decide) (h n L N (nc_5_3 NN C85) (nc_9_1 NN C0)) ?_
      intro v M106 q; clear L N h
      obtain ⟨rfl, L, N, h⟩ := q
      show mm_Go (mm_run 4) mc_Store_flushed _ (109, [(0, .inr (.inr v0)), (1, .inl v1)], [], M106)
      refine mm_s1 rfl ?_
      show mm_Go (mm_run 4) mc_Store_flushed _ (112, [(0, .inr (.inr v0)), (1, .inl (mm_w (v1 + 1)))], [], M106)
      refine mm_s1 rfl ?_
      show mm_Go (mm_run 4) mc_Store_flushed _ (63, [(0, .inr (.inr v0)), (1, .inl (mm_w (v1 + 1)))], [], M106)
      exact nn_go_ext (nn_xc rfl (nn_xc rfl nn_xn)) (h n L N C0)
def nr_Store_mergedTable (v0 : Nat) (v1 : Int) (v2 : Int) (M : mm_M) (R : Int → mm_M → Prop) : Prop := ∀ n, nn_L M → M.1 = n → nn_C 9 v0 n → mm_run 5 mi_Store_mergedTable [.inr (.inr v0), .inl v1, .inl v2] M (nw_I n R)
set_option maxRecDepth 20000 in
theorem ng_Store_mergedTable (v0 : Nat) (v1 : Int) (v2 : Int) (M : mm_M) (R : Int → mm_M → Prop) (h : (((nf_LI_areRuns v1 v2 (nn_rf M (v0 + 3) 5)) ≠ 0 → (nr_LI_highest (v0 + 11) v1 v2 M (fun r32 M32 => (nr_Store_sure v0 M32 (fun r38 M38 => (nr_Table_mergeRuns (v0 + 3) v1 v2 (mm_w (r32 + 1)) r38 M38 (fun M41 => R (nn_rf M41 (v0 + 3) 5) M41))))))) ∧ ((nf_LI_areRuns v1 v2 (nn_rf M (v0 + 3) 5)) = 0 → R (-1) M))) : nr_Store_mergedTable v0 v1 v2 M R := by
  intro n L N C0
  have NN := nn_L_n L N
  show mm_Go (mm_run 4) mc_Store_mergedTable _ (0, [(0, .inr (.inr v0)), (1, .inl v1), (2, .inl v2)], [], M)
  refine mm_s1 rfl ?_
  refine mm_s1 rfl ?_
  refine mm_s1 rfl ?_
  refine nn_getr rfl C0.1 (lf_9_1 L N C0) ?_
  refine mm_s1 rfl ⟨(nc_9_1 NN C0).1, ?_⟩
  show mm_Go (mm_run 4) mc_Store_mergedTable _ (9, [(0, .inr (.inr v0)), (1, .inl v1), (2, .inl v2)], [.inl (nn_rf M (v0 + 3) 5), .inl v2, .inl v1], M)
  refine mm_s1 rfl ⟨trivial, ?_⟩
  refine np_LI_areRuns (by decide) L N ?_
  show mm_Go (mm_run 4) mc_Store_mergedTable _ (12, [(0, .inr (.inr v0)), (1, .inl v1), (2, .inl v2)], [.inl (nf_LI_areRuns v1 v2 (nn_rf M (v0 + 3) 5))], M)
  refine mm_s1 rfl ⟨fun c12 => ?_, fun c12 => ?_⟩
  · show mm_Go (mm_run 4) mc_Store_mergedTable _ (17, [(0, .inr (.inr v0)), (1, .inl v1), (2, .inl v2)], [], M)
    replace h := h.1 c12
    refine mm_s1 rfl ?_
    refine nn_getr rfl C0.1 (lf_9_1 L N C0) ?_
    refine mm_s1 rfl ?_
    refine mm_s1 rfl ?_
    refine mm_s1 rfl ?_
    show mm_Go (mm_run 4) mc_Store_mergedTable _ (24, [(0, .inr (.inr v0)), (1, .inl v1), (2, .inl v2)], [.inr (.inr v0), .inl v2, .inl v1, .inr (.inr (v0 + 3))], M)
    refine nn_getr rfl C0.1 (lf_9_1 L N C0) ?_
    refine nn_getr rfl (nc_9_1 NN C0).1 (lf_10_3 L N (nc_9_1 NN C0)) ?_
    refine mm_s1 rfl ?_
    refine mm_s1 rfl ?_
    refine mm_s1 rfl ⟨trivial, ?_⟩
    refine nn_call (D := 1) (by decide) (h n L N (nc_10_3 NN (nc_9_1 NN C0))) ?_
    intro v M32 q; clear L N h
    obtain ⟨r32, rfl, L, N, h⟩ := q
    show mm_Go (mm_run 4) mc_Store_mergedTable _ (35, [(0, .inr (.inr v0)), (1, .inl v1), (2, .inl v2)], [.inl r32, .inl v2, .inl v1, .inr (.inr (v0 + 3))], M32)
    refine mm_s1 rfl ?_
    refine mm_s1 rfl ?_
    refine mm_s1 rfl ?_
    refine mm_s1 rfl ⟨C0.1, ?_⟩
    refine nn_call (D := 4) (by decide) (h n L N C0) ?_
    intro v M38 q; clear L N h
    obtain ⟨r38, rfl, L, N, h⟩ := q
    show mm_Go (mm_run 4) mc_Store_mergedTable _ (41, [(0, .inr (.inr v0)), (1, .inl v1), (2, .inl v2)], [.inl r38, .inl (mm_w (r32 + 1)), .inl v2, .inl v1, .inr (.inr (v0 + 3))], M38)
    refine mm_s1 rfl ⟨(nc_9_1 NN C0).1, ?_⟩
    refine nn_call (D := 3) (by decide) (h n L N (nc_9_1 NN C0)) ?_
    intro v M41 q; clear L N h
    obtain ⟨rfl, L, N, h⟩ := q
    show mm_Go (mm_run 4) mc_Store_mergedTable _ (44, [(0, .inr (.inr v0)), (1, .inl v1), (2, .inl v2)], [], M41)
    refine mm_s1 rfl ?_
    refine nn_getr rfl C0.1 (lf_9_1 L N C0) ?_
    refine mm_s1 rfl ⟨(nc_9_1 NN C0).1, ?_⟩
    show mm_Go (mm_run 4) mc_Store_mergedTable _ (51, [(0, .inr (.inr v0)), (1, .inl v1), (2, .inl v2)], [.inl (nn_rf M41 (v0 + 3) 5)], M41)
    exact mm_s1 rfl ⟨_, rfl, L, N, h⟩
  · show mm_Go (mm_run 4) mc_Store_mergedTable _ (15, [(0, .inr (.inr v0)), (1, .inl v1), (2, .inl v2)], [], M)
    replace c12 := Decidable.not_not.mp c12
    replace h := h.2 c12
    refine mm_s1 rfl ?_
    exact mm_s1 rfl ⟨_, rfl, L, N, h⟩
def nr_Store_nextMerges (v0 : Nat) (v1 : Nat) (M : mm_M) (R : Int → mm_M → Prop) : Prop := ∀ n, nn_L M → M.1 = n → nn_C 9 v0 n → nn_C 10 v1 n → mm_run 5 mi_Store_nextMerges [.inr (.inr v0), .inr (.inr v1)] M (nw_I n R)
set_option maxRecDepth 20000 in
theorem ng_Store_nextMerges (v0 : Nat) (v1 : Nat) (M : mm_M) (R : Int → mm_M → Prop) (h : (((nn_rf M (v0 + 3) 7) ≠ 0 → (nr_Table_copy v1 (v0 + 3) M (fun M17 => (nr_Table_layDown v1 M17 (fun M21 => (nr_Store_sure v0 M21 (fun r30 M30 => (nr_Table_mergeLevels v1 (nn_rf M21 v0 8) r30 M30 (fun r33 M33 => R r33 M33))))))))) ∧ ((nn_rf M (v0 + 3) 7) = 0 → R 0 M))) : nr_Store_nextMerges v0 v1 M R := by
  intro n L N C0 C1
  have NN := nn_L_n L N
  show mm_Go (mm_run 4) mc_Store_nextMerges _ (0, [(0, .inr (.inr v0)), (1, .inr (.inr v1))], [], M)
  refine mm_s1 rfl ?_
  refine nn_getr rfl C0.1 (lf_9_1 L N C0) ?_
  refine mm_s1 rfl ⟨(nc_9_1 NN C0).1, ?_⟩
  show mm_Go (mm_run 4) mc_Store_nextMerges _ (7, [(0, .inr (.inr v0)), (1, .inr (.inr v1))], [.inl (nn_rf M (v0 + 3) 7)], M)
  refine mm_s1 rfl ⟨fun c7 => ?_, fun c7 => ?_⟩
  · show mm_Go (mm_run 4) mc_Store_nextMerges _ (12, [(0, .inr (.inr v0)), (1, .inr (.inr v1))], [], M)
    replace h := h.1 c7
    refine mm_s1 rfl ?_
    refine mm_s1 rfl ?_
    refine nn_getr rfl C0.1 (lf_9_1 L N C0) ?_
    refine mm_s1 rfl ⟨C1.1, ?_⟩
    refine nn_call (D := 2) (by decide) (h n L N C1 (nc_9_1 NN C0)) ?_
    intro v M17 q; clear L N h
    obtain ⟨rfl, L, N, h⟩ := q
    show mm_Go (mm_run 4) mc_Store_nextMerges _ (20, [(0, .inr (.inr v0)), (1, .inr (.inr v1))], [], M17)
    refine mm_s1 rfl ?_
    refine mm_s1 rfl ⟨C1.1, ?_⟩
    refine nn_call (D := 2) (by decide) (h n L N C1) ?_
    intro v M21 q; clear L N h
    obtain ⟨rfl, L, N, h⟩ := q
    show mm_Go (mm_run 4) mc_Store_nextMerges _ (24, [(0, .inr (.inr v0)), (1, .inr (.inr v1))], [], M21)
    refine mm_s1 rfl ?_
    refine mm_s1 rfl ?_
    refine mm_s1 rfl ⟨C0.1, ?_⟩
    show mm_Go (mm_run 4) mc_Store_nextMerges _ (29, [(0, .inr (.inr v0)), (1, .inr (.inr v1))], [.inl (nn_rf M21 v0 8), .inr (.inr v1)], M21)
    refine mm_s1 rfl ?_
    refine mm_s1 rfl ⟨C0.1, ?_⟩
    refine nn_call (D := 4) (by decide) (h n L N C0) ?_
    intro v M30 q; clear L N h
    obtain ⟨r30, rfl, L, N, h⟩ := q
    show mm_Go (mm_run 4) mc_Store_nextMerges _ (33, [(0, .inr (.inr v0)), (1, .inr (.inr v1))], [.inl r30, .inl (nn_rf M21 v0 8), .inr (.inr v1)], M30)
    refine mm_s1 rfl ⟨C1.1, ?_⟩
    refine nn_call (D := 4) (by decide) (h n L N C1) ?_
    intro v M33 q; clear L N h
    obtain ⟨r33, rfl, L, N, h⟩ := q
    show mm_Go (mm_run 4) mc_Store_nextMerges _ (36, [(0, .inr (.inr v0)), (1, .inr (.inr v1))], [.inl r33], M33)
    exact mm_s1 rfl ⟨_, rfl, L, N, h⟩
  · show mm_Go (mm_run 4) mc_Store_nextMerges _ (10, [(0, .inr (.inr v0)), (1, .inr (.inr v1))], [], M)
    replace c7 := Decidable.not_not.mp c7
    replace h := h.2 c7
    refine mm_s1 rfl ?_
    exact mm_s1 rfl ⟨_, rfl, L, N, h⟩
def nr_M_readsIndex (v1 : Int) (M : mm_M) (R : mm_M → Prop) : Prop := ∀ n, nn_L M → M.1 = n → mm_run 5 mi_M_readsIndex [.inr (.inr 407), .inl v1] M (nw_V n R)
def nk_M_readsIndex_15 (v1 : Int) (M : mm_M) (R : mm_M → Prop) : Prop := ∀ n, nn_L M → M.1 = n → mm_Go (mm_run 4) mc_M_readsIndex (nw_V n R) (15, [(0, .inr (.inr 407)), (1, .inl v1)], [], M)
def nk_M_readsIndex_30 (v1 : Int) (M : mm_M) (R : mm_M → Prop) : Prop := ∀ n, nn_L M → M.1 = n → mm_Go (mm_run 4) mc_M_readsIndex (nw_V n R) (30, [(0, .inr (.inr 407)), (1, .inl v1)], [], M)
def nk_M_readsIndex_63 (v1 : Int) (M : mm_M) (R : mm_M → Prop) : Prop := ∀ n, nn_L M → M.1 = n → mm_Go (mm_run 4) mc_M_readsIndex (nw_V n R) (63, [(0, .inr (.inr 407)), (1, .inl v1)], [], M)
def nk_M_readsIndex_45 (v1 : Int) (M : mm_M) (R : mm_M → Prop) : Prop := ∀ n, nn_L M → M.1 = n → mm_Go (mm_run 4) mc_M_readsIndex (nw_V n R) (45, [(0, .inr (.inr 407)), (1, .inl v1)], [], M)
set_option maxRecDepth 20000 in
theorem ng_M_readsIndex (v1 : Int) (M : mm_M) (R : mm_M → Prop) (h : (nr_M_hasWord 79 M (fun r4 M4 => ((r4 ≠ 0 → nk_M_readsIndex_15 v1 M4 R) ∧ (r4 = 0 → (nr_M_fails 1 M4 (fun M12 => nk_M_readsIndex_15 v1 M12 R))))))) : nr_M_readsIndex v1 M R := by
  intro n L N 
  have NN := nn_L_n L N
  show mm_Go (mm_run 4) mc_M_readsIndex _ (0, [(0, .inr (.inr 407)), (1, .inl v1)], [], M)
  refine mm_s1 rfl ?_
  refine mm_s1 rfl ?_
  refine mm_s1 rfl ⟨(nn_c407 NN).1, ?_⟩
  refine nn_call (D := 3) (by decide) (h n L N) ?_
  intro v M4 q; clear L N h
  obtain ⟨r4, rfl, q4, L, N, h⟩ := q
  show mm_Go (mm_run 4) mc_M_readsIndex _ (7, [(0, .inr (.inr 407)), (1, .inl v1)], [.inl r4], M4)
  refine mm_s1 rfl ⟨fun c7 => ?_, fun c7 => ?_⟩
  · show mm_Go (mm_run 4) mc_M_readsIndex _ (15, [(0, .inr (.inr 407)), (1, .inl v1)], [], M4)
    replace h := h.1 c7
    exact nn_go_ext (nn_xc rfl (nn_xc rfl nn_xn)) (h n L N)
  · show mm_Go (mm_run 4) mc_M_readsIndex _ (10, [(0, .inr (.inr 407)), (1, .inl v1)], [], M4)
    replace c7 := Decidable.not_not.mp c7
    replace h := h.2 c7
    refine mm_s1 rfl ?_
    refine mm_s1 rfl ?_
    refine mm_s1 rfl ⟨(nn_c407 NN).1, ?_⟩
    refine nn_call (D := 1) (by decide) (h n L N) ?_
    intro v M12 q; clear L N h
    obtain ⟨rfl, L, N, h⟩ := q
    show mm_Go (mm_run 4) mc_M_readsIndex _ (15, [(0, .inr (.inr 407)), (1, .inl v1)], [], M12)
    exact nn_go_ext (nn_xc rfl (nn_xc rfl nn_xn)) (h n L N)
set_option maxRecDepth 20000 in
theorem ng_M_readsIndex_15 (v1 : Int) (M : mm_M) (R : mm_M → Prop) (h : (((nn_rf M 407 7) ≠ 0 → nk_M_readsIndex_30 v1 M R) ∧ ((nn_rf M 407 7) = 0 → (nr_M_reads (mm_w (v1 + 9)) M (fun M27 => nk_M_readsIndex_30 v1 M27 R))))) : nk_M_readsIndex_15 v1 M R := by
  intro n L N 
  have NN := nn_L_n L N
  show mm_Go (mm_run 4) mc_M_readsIndex _ (15, [(0, .inr (.inr 407)), (1, .inl v1)], [], M)
  refine mm_s1 rfl ?_
  refine mm_s1 rfl ⟨(nn_c407 NN).1, ?_⟩
  show mm_Go (mm_run 4) mc_M_readsIndex _ (19, [(0, .inr (.inr 407)), (1, .inl v1)], [.inl (nn_rf M 407 7)], M)
  refine mm_s1 rfl ⟨fun c19 => ?_, fun c19 => ?_⟩
  · show mm_Go (mm_run 4) mc_M_readsIndex _ (30, [(0, .inr (.inr 407)), (1, .inl v1)], [], M)
    replace h := h.1 c19
    exact nn_go_ext (nn_xc rfl (nn_xc rfl nn_xn)) (h n L N)
  · show mm_Go (mm_run 4) mc_M_readsIndex _ (22, [(0, .inr (.inr 407)), (1, .inl v1)], [], M)
    replace c19 := Decidable.not_not.mp c19
    replace h := h.2 c19
    refine mm_s1 rfl ?_
    refine mm_s1 rfl ?_
    refine mm_s1 rfl ?_
    refine mm_s1 rfl ?_
    refine mm_s1 rfl ⟨(nn_c407 NN).1, ?_⟩
    refine nn_call (D := 3) (by decide) (h n L N) ?_
    intro v M27 q; clear L N h
    obtain ⟨rfl, L, N, h⟩ := q
    show mm_Go (mm_run 4) mc_M_readsIndex _ (30, [(0, .inr (.inr 407)), (1, .inl v1)], [], M27)
    exact nn_go_ext (nn_xc rfl (nn_xc rfl nn_xn)) (h n L N)
set_option maxRecDepth 20000 in
theorem ng_M_readsIndex_30 (v1 : Int) (M : mm_M) (R : mm_M → Prop) (h : (nr_M_hasWord 12384743 M (fun r34 M34 => ((r34 = 0 → nk_M_readsIndex_63 v1 M34 R) ∧ (r34 ≠ 0 → (nr_M_readsAtom v1 M34 (fun M42 => nk_M_readsIndex_45 v1 M42 R))))))) : nk_M_readsIndex_30 v1 M R := by
  intro n L N 
  have NN := nn_L_n L N
  show mm_Go (mm_run 4) mc_M_readsIndex _ (30, [(0, .inr (.inr 407)), (1, .inl v1)], [], M)
  refine mm_s1 rfl ?_
  refine mm_s1 rfl ?_
  refine mm_s1 rfl ⟨(nn_c407 NN).1, ?_⟩
  refine nn_call (D := 3) (by decide) (h n L N) ?_
  intro v M34 q; clear L N h
  obtain ⟨r34, rfl, q34, L, N, h⟩ := q
  show mm_Go (mm_run 4) mc_M_readsIndex _ (37, [(0, .inr (.inr 407)), (1, .inl v1)], [.inl r34], M34)
  refine mm_s1 rfl ⟨fun c37 => ?_, fun c37 => ?_⟩
  · show mm_Go (mm_run 4) mc_M_readsIndex _ (63, [(0, .inr (.inr 407)), (1, .inl v1)], [], M34)
    replace h := h.1 c37
    exact nn_go_ext (nn_xc rfl (nn_xc rfl nn_xn)) (h n L N)
  · show mm_Go (mm_run 4) mc_M_readsIndex _ (40, [(0, .inr (.inr 407)), (1, .inl v1)], [], M34)
    replace h := h.2 c37
    refine mm_s1 rfl ?_
    refine mm_s1 rfl ?_
    refine mm_s1 rfl ⟨(nn_c407 NN).1, ?_⟩
    refine nn_call (D := 4) (by decide) (h n L N) ?_
    intro v M42 q; clear L N h
    obtain ⟨rfl, L, N, h⟩ := q
    show mm_Go (mm_run 4) mc_M_readsIndex _ (45, [(0, .inr (.inr 407)), (1, .inl v1)], [], M42)
    exact nn_go_ext (nn_xc rfl (nn_xc rfl nn_xn)) (h n L N)
set_option maxRecDepth 20000 in
theorem ng_M_readsIndex_63 (v1 : Int) (M : mm_M) (R : mm_M → Prop) (h : (nr_M_hasWord 308957333 M (fun r74 M74 => ((r74 = 0 → (((0 : Int) ≤ (mm_w (v1 + 1)) ∧ (mm_w (v1 + 1)) < (32844 : Int)) ∧ (∀ M85 : mm_M, M85 = nn_ui M74 408 (mm_w (v1 + 1)) 0 → (nr_M_hasWord 7017481 M85 (fun r97 M97 => ((r97 = 0 → (((0 : Int) ≤ (mm_w (v1 + 2)) ∧ (mm_w (v1 + 2)) < (32844 : Int)) ∧ (∀ M108 : mm_M, M108 = nn_ui M97 408 (mm_w (v1 + 2)) 0 → ((((nn_rf M108 407 7) ≠ 0 ∨ ((nn_rf M108 407 5) = 0)) → R M108) ∧ (((nn_rf M108 407 7) = 0 ∧ ((nn_rf M108 407 5) ≠ 0)) → (nr_M_fails 1 M108 (fun M125 => R M125))))))) ∧ (r97 ≠ 0 → (((0 : Int) ≤ (mm_w (v1 + 2)) ∧ (mm_w (v1 + 2)) < (32844 : Int)) ∧ (∀ M108 : mm_M, M108 = nn_ui M97 408 (mm_w (v1 + 2)) 1 → ((((nn_rf M108 407 7) ≠ 0 ∨ ((nn_rf M108 407 5) = 0)) → R M108) ∧ (((nn_rf M108 407 7) = 0 ∧ ((nn_rf M108 407 5) ≠ 0)) → (nr_M_fails 1 M108 (fun M125 => R M125))))))))))))) ∧ (r74 ≠ 0 → (((0 : Int) ≤ (mm_w (v1 + 1)) ∧ (mm_w (v1 + 1)) < (32844 : Int)) ∧ (∀ M85 : mm_M, M85 = nn_ui M74 408 (mm_w (v1 + 1)) 1 → (nr_M_hasWord 7017481 M85 (fun r97 M97 => ((r97 = 0 → (((0 : Int) ≤ (mm_w (v1 + 2)) ∧ (mm_w (v1 + 2)) < (32844 : Int)) ∧ (∀ M108 : mm_M, M108 = nn_ui M97 408 (mm_w (v1 + 2)) 0 → ((((nn_rf M108 407 7) ≠ 0 ∨ ((nn_rf M108 407 5) = 0)) → R M108) ∧ (((nn_rf M108 407 7) = 0 ∧ ((nn_rf M108 407 5) ≠ 0)) → (nr_M_fails 1 M108 (fun M125 => R M125))))))) ∧ (r97 ≠ 0 → (((0 : Int) ≤ (mm_w (v1 + 2)) ∧ (mm_w (v1 + 2)) < (32844 : Int)) ∧ (∀ M108 : mm_M, M108 = nn_ui M97 408 (mm_w (v1 + 2)) 1 → ((((nn_rf M108 407 7) ≠ 0 ∨ ((nn_rf M108 407 5) = 0)) → R M108) ∧ (((nn_rf M108 407 7) = 0 ∧ ((nn_rf M108 407 5) ≠ 0)) → (nr_M_fails 1 M108 (fun M125 => R M125))))))))))))))))) : nk_M_readsIndex_63 v1 M R := by
  intro n L N 
  have NN := nn_L_n L N
  show mm_Go (mm_run 4) mc_M_readsIndex _ (63, [(0, .inr (.inr 407)), (1, .inl v1)], [], M)
  refine mm_s1 rfl ?_
  refine nn_getr rfl (nn_c407 NN).1 (lf_13_0 L N (nn_c407 NN)) ?_
  refine mm_s1 rfl ?_
  refine mm_s1 rfl ?_
  refine mm_s1 rfl ?_
  show mm_Go (mm_run 4) mc_M_readsIndex _ (70, [(0, .inr (.inr 407)), (1, .inl v1)], [.inl (mm_w (v1 + 1)), .inr (.inr 408)], M)
  refine mm_s1 rfl ?_
  refine mm_s1 rfl ?_
  refine mm_s1 rfl ⟨(nn_c407 NN).1, ?_⟩
  refine nn_call (D := 3) (by decide) (h n L N) ?_
  intro v M74 q; clear L N h
  obtain ⟨r74, rfl, q74, L, N, h⟩ := q
  show mm_Go (mm_run 4) mc_M_readsIndex _ (77, [(0, .inr (.inr 407)), (1, .inl v1)], [.inl r74, .inl (mm_w (v1 + 1)), .inr (.inr 408)], M74)
  refine mm_s1 rfl ⟨fun c77 => ?_, fun c77 => ?_⟩
  · show mm_Go (mm_run 4) mc_M_readsIndex _ (84, [(0, .inr (.inr 407)), (1, .inl v1)], [.inl (mm_w (v1 + 1)), .inr (.inr 408)], M74)
    replace h := h.1 c77
    refine mm_s1 rfl ?_
    obtain ⟨b85, h⟩ := h
    refine mm_s1 rfl ⟨nn_bd (na_13_0 NN (nn_c407 NN)) b85, ?_⟩
    show mm_Go (mm_run 4) mc_M_readsIndex _ (86, [(0, .inr (.inr 407)), (1, .inl v1)], [], (nn_ui M74 408 (mm_w (v1 + 1)) 0))
    have L : nn_L (nn_ui M74 408 (mm_w (v1 + 1)) 0) := nn_L_ua L (congrArg Prod.fst (na_13_0 NN (nn_c407 NN))) (by decide)
    have N : (nn_ui M74 408 (mm_w (v1 + 1)) 0).1 = n := N
    generalize e_M85 : (nn_ui M74 408 (mm_w (v1 + 1)) 0) = M85 at L N ⊢
    replace h := h _ e_M85.symm
    show mm_Go (mm_run 4) mc_M_readsIndex _ (86, [(0, .inr (.inr 407)), (1, .inl v1)], [], M85)
    refine mm_s1 rfl ?_
    refine nn_getr rfl (nn_c407 NN).1 (lf_13_0 L N (nn_c407 NN)) ?_
    refine mm_s1 rfl ?_
    refine mm_s1 rfl ?_
    refine mm_s1 rfl ?_
    show mm_Go (mm_run 4) mc_M_readsIndex _ (93, [(0, .inr (.inr 407)), (1, .inl v1)], [.inl (mm_w (v1 + 2)), .inr (.inr 408)], M85)
    refine mm_s1 rfl ?_
    refine mm_s1 rfl ?_
    refine mm_s1 rfl ⟨(nn_c407 NN).1, ?_⟩
    refine nn_call (D := 3) (by decide) (h n L N) ?_
    intro v M97 q; clear L N h
    obtain ⟨r97, rfl, q97, L, N, h⟩ := q
    show mm_Go (mm_run 4) mc_M_readsIndex _ (100, [(0, .inr (.inr 407)), (1, .inl v1)], [.inl r97, .inl (mm_w (v1 + 2)), .inr (.inr 408)], M97)
    refine mm_s1 rfl ⟨fun c100 => ?_, fun c100 => ?_⟩
    · show mm_Go (mm_run 4) mc_M_readsIndex _ (107, [(0, .inr (.inr 407)), (1, .inl v1)], [.inl (mm_w (v1 + 2)), .inr (.inr 408)], M97)
      replace h := h.1 c100
      refine mm_s1 rfl ?_
      obtain ⟨b108, h⟩ := h
      refine mm_s1 rfl ⟨nn_bd (na_13_0 NN (nn_c407 NN)) b108, ?_⟩
      show mm_Go (mm_run 4) mc_M_readsIndex _ (109, [(0, .inr (.inr 407)), (1, .inl v1)], [], (nn_ui M97 408 (mm_w (v1 + 2)) 0))
      have L : nn_L (nn_ui M97 408 (mm_w (v1 + 2)) 0) := nn_L_ua L (congrArg Prod.fst (na_13_0 NN (nn_c407 NN))) (by decide)
      have N : (nn_ui M97 408 (mm_w (v1 + 2)) 0).1 = n := N
      generalize e_M108 : (nn_ui M97 408 (mm_w (v1 + 2)) 0) = M108 at L N ⊢
      replace h := h _ e_M108.symm
      show mm_Go (mm_run 4) mc_M_readsIndex _ (109, [(0, .inr (.inr 407)), (1, .inl v1)], [], M108)
      refine mm_s1 rfl ?_
      refine mm_s1 rfl ⟨(nn_c407 NN).1, ?_⟩
      show mm_Go (mm_run 4) mc_M_readsIndex _ (113, [(0, .inr (.inr 407)), (1, .inl v1)], [.inl (nn_rf M108 407 7)], M108)
      refine mm_s1 rfl ⟨fun c113 => ?_, fun c113 => ?_⟩
      · show mm_Go (mm_run 4) mc_M_readsIndex _ (128, [(0, .inr (.inr 407)), (1, .inl v1)], [], M108)
        replace h := h.1 (Or.inl c113)
        exact mm_s1 rfl ⟨rfl, L, N, h⟩
      · show mm_Go (mm_run 4) mc_M_readsIndex _ (116, [(0, .inr (.inr 407)), (1, .inl v1)], [], M108)
        replace c113 := Decidable.not_not.mp c113
        refine mm_s1 rfl ?_
        refine mm_s1 rfl ⟨(nn_c407 NN).1, ?_⟩
        show mm_Go (mm_run 4) mc_M_readsIndex _ (120, [(0, .inr (.inr 407)), (1, .inl v1)], [.inl (nn_rf M108 407 5)], M108)
        refine mm_s1 rfl ⟨fun c120 => ?_, fun c120 => ?_⟩
        · show mm_Go (mm_run 4) mc_M_readsIndex _ (128, [(0, .inr (.inr 407)), (1, .inl v1)], [], M108)
          replace h := h.1 (Or.inr c120)
          exact mm_s1 rfl ⟨rfl, L, N, h⟩
        · show mm_Go (mm_run 4) mc_M_readsIndex _ (123, [(0, .inr (.inr 407)), (1, .inl v1)], [], M108)
          refine mm_s1 rfl ?_
          refine mm_s1 rfl ?_
          replace h := h.2 ⟨c113, c120⟩
          refine mm_s1 rfl ⟨(nn_c407 NN).1, ?_⟩
          refine nn_call (D := 1) (by decide) (h n L N) ?_
          intro v M125 q; clear L N h
          obtain ⟨rfl, L, N, h⟩ := q
          show mm_Go (mm_run 4) mc_M_readsIndex _ (128, [(0, .inr (.inr 407)), (1, .inl v1)], [], M125)
          exact mm_s1 rfl ⟨rfl, L, N, h⟩
    · show mm_Go (mm_run 4) mc_M_readsIndex _ (103, [(0, .inr (.inr 407)), (1, .inl v1)], [.inl (mm_w (v1 + 2)), .inr (.inr 408)], M97)
      replace h := h.2 c100
      refine mm_s1 rfl ?_
      refine mm_s1 rfl ?_
      show mm_Go (mm_run 4) mc_M_readsIndex _ (108, [(0, .inr (.inr 407)), (1, .inl v1)], [.inl 1, .inl (mm_w (v1 + 2)), .inr (.inr 408)], M97)
      obtain ⟨b108, h⟩ := h
      refine mm_s1 rfl ⟨nn_bd (na_13_0 NN (nn_c407 NN)) b108, ?_⟩
      show mm_Go (mm_run 4) mc_M_readsIndex _ (109, [(0, .inr (.inr 407)), (1, .inl v1)], [], (nn_ui M97 408 (mm_w (v1 + 2)) 1))
      have L : nn_L (nn_ui M97 408 (mm_w (v1 + 2)) 1) := nn_L_ua L (congrArg Prod.fst (na_13_0 NN (nn_c407 NN))) (by decide)
      have N : (nn_ui M97 408 (mm_w (v1 + 2)) 1).1 = n := N
      generalize e_M108 : (nn_ui M97 408 (mm_w (v1 + 2)) 1) = M108 at L N ⊢
      replace h := h _ e_M108.symm
      show mm_Go (mm_run 4) mc_M_readsIndex _ (109, [(0, .inr (.inr 407)), (1, .inl v1)], [], M108)
      refine mm_s1 rfl ?_
      refine mm_s1 rfl ⟨(nn_c407 NN).1, ?_⟩
      show mm_Go (mm_run 4) mc_M_readsIndex _ (113, [(0, .inr (.inr 407)), (1, .inl v1)], [.inl (nn_rf M108 407 7)], M108)
      refine mm_s1 rfl ⟨fun c113 => ?_, fun c113 => ?_⟩
      · show mm_Go (mm_run 4) mc_M_readsIndex _ (128, [(0, .inr (.inr 407)), (1, .inl v1)], [], M108)
        replace h := h.1 (Or.inl c113)
        exact mm_s1 rfl ⟨rfl, L, N, h⟩
      · show mm_Go (mm_run 4) mc_M_readsIndex _ (116, [(0, .inr (.inr 407)), (1, .inl v1)], [], M108)
        replace c113 := Decidable.not_not.mp c113
        refine mm_s1 rfl ?_
        refine mm_s1 rfl ⟨(nn_c407 NN).1, ?_⟩
        show mm_Go (mm_run 4) mc_M_readsIndex _ (120, [(0, .inr (.inr 407)), (1, .inl v1)], [.inl (nn_rf M108 407 5)], M108)
        refine mm_s1 rfl ⟨fun c120 => ?_, fun c120 => ?_⟩
        · show mm_Go (mm_run 4) mc_M_readsIndex _ (128, [(0, .inr (.inr 407)), (1, .inl v1)], [], M108)
          replace h := h.1 (Or.inr c120)
          exact mm_s1 rfl ⟨rfl, L, N, h⟩
        · show mm_Go (mm_run 4) mc_M_readsIndex _ (123, [(0, .inr (.inr 407)), (1, .inl v1)], [], M108)
          refine mm_s1 rfl ?_
          refine mm_s1 rfl ?_
          replace h := h.2 ⟨c113, c120⟩
          refine mm_s1 rfl ⟨(nn_c407 NN).1, ?_⟩
          refine nn_call (D := 1) (by decide) (h n L N) ?_
          intro v M125 q; clear L N h
          obtain ⟨rfl, L, N, h⟩ := q
          show mm_Go (mm_run 4) mc_M_readsIndex _ (128, [(0, .inr (.inr 407)), (1, .inl v1)], [], M125)
          exact mm_s1 rfl ⟨rfl, L, N, h⟩
  · show mm_Go (mm_run 4) mc_M_readsIndex _ (80, [(0, .inr (.inr 407)), (1, .inl v1)], [.inl (mm_w (v1 + 1)), .inr (.inr 408)], M74)
    replace h := h.2 c77
    refine mm_s1 rfl ?_
    refine mm_s1 rfl ?_
    show mm_Go (mm_run 4) mc_M_readsIndex _ (85, [(0, .inr (.inr 407)), (1, .inl v1)], [.inl 1, .inl (mm_w (v1 + 1)), .inr (.inr 408)], M74)
    obtain ⟨b85, h⟩ := h
    refine mm_s1 rfl ⟨nn_bd (na_13_0 NN (nn_c407 NN)) b85, ?_⟩
    show mm_Go (mm_run 4) mc_M_readsIndex _ (86, [(0, .inr (.inr 407)), (1, .inl v1)], [], (nn_ui M74 408 (mm_w (v1 + 1)) 1))
    have L : nn_L (nn_ui M74 408 (mm_w (v1 + 1)) 1) := nn_L_ua L (congrArg Prod.fst (na_13_0 NN (nn_c407 NN))) (by decide)
    have N : (nn_ui M74 408 (mm_w (v1 + 1)) 1).1 = n := N
    generalize e_M85 : (nn_ui M74 408 (mm_w (v1 + 1)) 1) = M85 at L N ⊢
    replace h := h _ e_M85.symm
    show mm_Go (mm_run 4) mc_M_readsIndex _ (86, [(0, .inr (.inr 407)), (1, .inl v1)], [], M85)
    refine mm_s1 rfl ?_
    refine nn_getr rfl (nn_c407 NN).1 (lf_13_0 L N (nn_c407 NN)) ?_
    refine mm_s1 rfl ?_
    refine mm_s1 rfl ?_
    refine mm_s1 rfl ?_
    show mm_Go (mm_run 4) mc_M_readsIndex _ (93, [(0, .inr (.inr 407)), (1, .inl v1)], [.inl (mm_w (v1 + 2)), .inr (.inr 408)], M85)
    refine mm_s1 rfl ?_
    refine mm_s1 rfl ?_
    refine mm_s1 rfl ⟨(nn_c407 NN).1, ?_⟩
    refine nn_call (D := 3) (by decide) (h n L N) ?_
    intro v M97 q; clear L N h
    obtain ⟨r97, rfl, q97, L, N, h⟩ := q
    show mm_Go (mm_run 4) mc_M_readsIndex _ (100, [(0, .inr (.inr 407)), (1, .inl v1)], [.inl r97, .inl (mm_w (v1 + 2)), .inr (.inr 408)], M97)
    refine mm_s1 rfl ⟨fun c100 => ?_, fun c100 => ?_⟩
    · show mm_Go (mm_run 4) mc_M_readsIndex _ (107, [(0, .inr (.inr 407)), (1, .inl v1)], [.inl (mm_w (v1 + 2)), .inr (.inr 408)], M97)
      replace h := h.1 c100
      refine mm_s1 rfl ?_
      obtain ⟨b108, h⟩ := h
      refine mm_s1 rfl ⟨nn_bd (na_13_0 NN (nn_c407 NN)) b108, ?_⟩
      show mm_Go (mm_run 4) mc_M_readsIndex _ (109, [(0, .inr (.inr 407)), (1, .inl v1)], [], (nn_ui M97 408 (mm_w (v1 + 2)) 0))
      have L : nn_L (nn_ui M97 408 (mm_w (v1 + 2)) 0) := nn_L_ua L (congrArg Prod.fst (na_13_0 NN (nn_c407 NN))) (by decide)
      have N : (nn_ui M97 408 (mm_w (v1 + 2)) 0).1 = n := N
      generalize e_M108 : (nn_ui M97 408 (mm_w (v1 + 2)) 0) = M108 at L N ⊢
      replace h := h _ e_M108.symm
      show mm_Go (mm_run 4) mc_M_readsIndex _ (109, [(0, .inr (.inr 407)), (1, .inl v1)], [], M108)
      refine mm_s1 rfl ?_
      refine mm_s1 rfl ⟨(nn_c407 NN).1, ?_⟩
      show mm_Go (mm_run 4) mc_M_readsIndex _ (113, [(0, .inr (.inr 407)), (1, .inl v1)], [.inl (nn_rf M108 407 7)], M108)
      refine mm_s1 rfl ⟨fun c113 => ?_, fun c113 => ?_⟩
      · show mm_Go (mm_run 4) mc_M_readsIndex _ (128, [(0, .inr (.inr 407)), (1, .inl v1)], [], M108)
        replace h := h.1 (Or.inl c113)
        exact mm_s1 rfl ⟨rfl, L, N, h⟩
      · show mm_Go (mm_run 4) mc_M_readsIndex _ (116, [(0, .inr (.inr 407)), (1, .inl v1)], [], M108)
        replace c113 := Decidable.not_not.mp c113
        refine mm_s1 rfl ?_
        refine mm_s1 rfl ⟨(nn_c407 NN).1, ?_⟩
        show mm_Go (mm_run 4) mc_M_readsIndex _ (120, [(0, .inr (.inr 407)), (1, .inl v1)], [.inl (nn_rf M108 407 5)], M108)
        refine mm_s1 rfl ⟨fun c120 => ?_, fun c120 => ?_⟩
        · show mm_Go (mm_run 4) mc_M_readsIndex _ (128, [(0, .inr (.inr 407)), (1, .inl v1)], [], M108)
          replace h := h.1 (Or.inr c120)
          exact mm_s1 rfl ⟨rfl, L, N, h⟩
        · show mm_Go (mm_run 4) mc_M_readsIndex _ (123, [(0, .inr (.inr 407)), (1, .inl v1)], [], M108)
          refine mm_s1 rfl ?_
          refine mm_s1 rfl ?_
          replace h := h.2 ⟨c113, c120⟩
          refine mm_s1 rfl ⟨(nn_c407 NN).1, ?_⟩
          refine nn_call (D := 1) (by decide) (h n L N) ?_
          intro v M125 q; clear L N h
          obtain ⟨rfl, L, N, h⟩ := q
          show mm_Go (mm_run 4) mc_M_readsIndex _ (128, [(0, .inr (.inr 407)), (1, .inl v1)], [], M125)
          exact mm_s1 rfl ⟨rfl, L, N, h⟩
    · show mm_Go (mm_run 4) mc_M_readsIndex _ (103, [(0, .inr (.inr 407)), (1, .inl v1)], [.inl (mm_w (v1 + 2)), .inr (.inr 408)], M97)
      replace h := h.2 c100
      refine mm_s1 rfl ?_
      refine mm_s1 rfl ?_
      show mm_Go (mm_run 4) mc_M_readsIndex _ (108, [(0, .inr (.inr 407)), (1, .inl v1)], [.inl 1, .inl (mm_w (v1 + 2)), .inr (.inr 408)], M97)
      obtain ⟨b108, h⟩ := h
      refine mm_s1 rfl ⟨nn_bd (na_13_0 NN (nn_c407 NN)) b108, ?_⟩
      show mm_Go (mm_run 4) mc_M_readsIndex _ (109, [(0, .inr (.inr 407)), (1, .inl v1)], [], (nn_ui M97 408 (mm_w (v1 + 2)) 1))
      have L : nn_L (nn_ui M97 408 (mm_w (v1 + 2)) 1) := nn_L_ua L (congrArg Prod.fst (na_13_0 NN (nn_c407 NN))) (by decide)
      have N : (nn_ui M97 408 (mm_w (v1 + 2)) 1).1 = n := N
      generalize e_M108 : (nn_ui M97 408 (mm_w (v1 + 2)) 1) = M108 at L N ⊢
      replace h := h _ e_M108.symm
      show mm_Go (mm_run 4) mc_M_readsIndex _ (109, [(0, .inr (.inr 407)), (1, .inl v1)], [], M108)
      refine mm_s1 rfl ?_
      refine mm_s1 rfl ⟨(nn_c407 NN).1, ?_⟩
      show mm_Go (mm_run 4) mc_M_readsIndex _ (113, [(0, .inr (.inr 407)), (1, .inl v1)], [.inl (nn_rf M108 407 7)], M108)
      refine mm_s1 rfl ⟨fun c113 => ?_, fun c113 => ?_⟩
      · show mm_Go (mm_run 4) mc_M_readsIndex _ (128, [(0, .inr (.inr 407)), (1, .inl v1)], [], M108)
        replace h := h.1 (Or.inl c113)
        exact mm_s1 rfl ⟨rfl, L, N, h⟩
      · show mm_Go (mm_run 4) mc_M_readsIndex _ (116, [(0, .inr (.inr 407)), (1, .inl v1)], [], M108)
        replace c113 := Decidable.not_not.mp c113
        refine mm_s1 rfl ?_
        refine mm_s1 rfl ⟨(nn_c407 NN).1, ?_⟩
        show mm_Go (mm_run 4) mc_M_readsIndex _ (120, [(0, .inr (.inr 407)), (1, .inl v1)], [.inl (nn_rf M108 407 5)], M108)
        refine mm_s1 rfl ⟨fun c120 => ?_, fun c120 => ?_⟩
        · show mm_Go (mm_run 4) mc_M_readsIndex _ (128, [(0, .inr (.inr 407)), (1, .inl v1)], [], M108)
          replace h := h.1 (Or.inr c120)
          exact mm_s1 rfl ⟨rfl, L, N, h⟩
        · show mm_Go (mm_run 4) mc_M_readsIndex _ (123, [(0, .inr (.inr 407)), (1, .inl v1)], [], M108)
          refine mm_s1 rfl ?_
          refine mm_s1 rfl ?_
          replace h := h.2 ⟨c113, c120⟩
          refine mm_s1 rfl ⟨(nn_c407 NN).1, ?_⟩
          refine nn_call (D := 1) (by decide) (h n L N) ?_
          intro v M125 q; clear L N h
          obtain ⟨rfl, L, N, h⟩ := q
          show mm_Go (mm_run 4) mc_M_readsIndex _ (128, [(0, .inr (.inr 407)), (1, .inl v1)], [], M125)
          exact mm_s1 rfl ⟨rfl, L, N, h⟩
set_option maxRecDepth 20000 in
theorem ng_M_readsIndex_45 (v1 : Int) (M : mm_M) (R : mm_M → Prop) (h : (nr_M_hasWord 1111 M (fun r49 M49 => ((r49 = 0 → nk_M_readsIndex_63 v1 M49 R) ∧ (r49 ≠ 0 → (nr_M_readsAtom v1 M49 (fun M57 => nk_M_readsIndex_45 v1 M57 R))))))) : nk_M_readsIndex_45 v1 M R := by
  intro n L N 
  have NN := nn_L_n L N
  show mm_Go (mm_run 4) mc_M_readsIndex _ (45, [(0, .inr (.inr 407)), (1, .inl v1)], [], M)
  refine mm_s1 rfl ?_
  refine mm_s1 rfl ?_
  refine mm_s1 rfl ⟨(nn_c407 NN).1, ?_⟩
  refine nn_call (D := 3) (by decide) (h n L N) ?_
  intro v M49 q; clear L N h
  obtain ⟨r49, rfl, q49, L, N, h⟩ := q
  show mm_Go (mm_run 4) mc_M_readsIndex _ (52, [(0, .inr (.inr 407)), (1, .inl v1)], [.inl r49], M49)
  refine mm_s1 rfl ⟨fun c52 => ?_, fun c52 => ?_⟩
  · show mm_Go (mm_run 4) mc_M_readsIndex _ (63, [(0, .inr (.inr 407)), (1, .inl v1)], [], M49)
    replace h := h.1 c52
    exact nn_go_ext (nn_xc rfl (nn_xc rfl nn_xn)) (h n L N)
  · show mm_Go (mm_run 4) mc_M_readsIndex _ (55, [(0, .inr (.inr 407)), (1, .inl v1)], [], M49)
    replace h := h.2 c52
    refine mm_s1 rfl ?_
    refine mm_s1 rfl ?_
    refine mm_s1 rfl ⟨(nn_c407 NN).1, ?_⟩
    refine nn_call (D := 4) (by decide) (h n L N) ?_
    intro v M57 q; clear L N h
    obtain ⟨rfl, L, N, h⟩ := q
    show mm_Go (mm_run 4) mc_M_readsIndex _ (60, [(0, .inr (.inr 407)), (1, .inl v1)], [], M57)
    refine mm_s1 rfl ?_
    show mm_Go (mm_run 4) mc_M_readsIndex _ (45, [(0, .inr (.inr 407)), (1, .inl v1)], [], M57)
    exact nn_go_ext (nn_xc rfl (nn_xc rfl nn_xn)) (h n L N)
def nr_M_other (v1 : Int) (v2 : Int) (v3 : Int) (v4 : Int) (M : mm_M) (R : Int → mm_M → Prop) : Prop := ∀ n, nn_L M → M.1 = n → mm_run 5 mi_M_other [.inr (.inr 407), .inl v1, .inl v2, .inl v3, .inl v4] M (nw_I n R)
def nk_M_other_3 (v1 : Int) (v2 : Int) (v3 : Int) (v4 : Int) (v5 : Int) (M : mm_M) (R : Int → mm_M → Prop) : Prop := ∀ n, nn_L M → M.1 = n → mm_Go (mm_run 4) mc_M_other (nw_I n R) (3, [(0, .inr (.inr 407)), (1, .inl v1), (2, .inl v2), (3, .inl v3), (4, .inl v4), (5, .inl v5)], [], M)
set_option maxRecDepth 20000 in
theorem ng_M_other (v1 : Int) (v2 : Int) (v3 : Int) (v4 : Int) (M : mm_M) (R : Int → mm_M → Prop) (h : nk_M_other_3 v1 v2 v3 v4 0 M R) : nr_M_other v1 v2 v3 v4 M R := by
  intro n L N 
  have NN := nn_L_n L N
  show mm_Go (mm_run 4) mc_M_other _ (0, [(0, .inr (.inr 407)), (1, .inl v1), (2, .inl v2), (3, .inl v3), (4, .inl v4)], [], M)
  refine mm_s1 rfl ?_
  refine mm_s1 rfl ?_
  show mm_Go (mm_run 4) mc_M_other _ (3, [(0, .inr (.inr 407)), (1, .inl v1), (2, .inl v2), (3, .inl v3), (4, .inl v4), (5, .inl 0)], [], M)
  exact nn_go_ext (nn_xc rfl (nn_xc rfl (nn_xc rfl (nn_xc rfl (nn_xc rfl (nn_xc rfl nn_xn)))))) (h n L N)
set_option maxRecDepth 20000 in
theorem ng_M_other_3 (v1 : Int) (v2 : Int) (v3 : Int) (v4 : Int) (v5 : Int) (M : mm_M) (R : Int → mm_M → Prop) (h : ((32 ≤ v5 → R (-1) M) ∧ (v5 < 32 → ((v5 = v3 → nk_M_other_3 v1 v2 v3 v4 (mm_w (v5 + 1)) M R) ∧ (v5 ≠ v3 → (nr_M_isWanted v1 v2 v5 M (fun r21 M21 => ((r21 = 0 → nk_M_other_3 v1 v2 v3 v4 (mm_w (v5 + 1)) M21 R) ∧ (r21 ≠ 0 → (nr_M_rowOf v1 v5 M21 (fun r33 M33 => (nr_M_valueOf v2 r33 M33 (fun r36 M36 => ((r36 ≠ v4 → nk_M_other_3 v1 v2 v3 v4 (mm_w (v5 + 1)) M36 R) ∧ (r36 = v4 → R v5 M36))))))))))))))) : nk_M_other_3 v1 v2 v3 v4 v5 M R := by
  intro n L N 
  have NN := nn_L_n L N
  show mm_Go (mm_run 4) mc_M_other _ (3, [(0, .inr (.inr 407)), (1, .inl v1), (2, .inl v2), (3, .inl v3), (4, .inl v4), (5, .inl v5)], [], M)
  refine mm_s1 rfl ?_
  refine mm_s1 rfl ?_
  refine mm_s1 rfl ⟨fun c7 => ?_, fun c7 => ?_⟩
  · show mm_Go (mm_run 4) mc_M_other _ (53, [(0, .inr (.inr 407)), (1, .inl v1), (2, .inl v2), (3, .inl v3), (4, .inl v4), (5, .inl v5)], [], M)
    replace h := h.1 c7
    refine mm_s1 rfl ?_
    exact mm_s1 rfl ⟨_, rfl, L, N, h⟩
  · show mm_Go (mm_run 4) mc_M_other _ (10, [(0, .inr (.inr 407)), (1, .inl v1), (2, .inl v2), (3, .inl v3), (4, .inl v4), (5, .inl v5)], [], M)
    replace c7 := Int.not_le.mp c7
    replace h := h.2 c7
    refine mm_s1 rfl ?_
    refine mm_s1 rfl ?_
    refine mm_s1 rfl ⟨fun c13 => ?_, fun c13 => ?_⟩
    · show mm_Go (mm_run 4) mc_M_other _ (47, [(0, .inr (.inr 407)), (1, .inl v1), (2, .inl v2), (3, .inl v3), (4, .inl v4), (5, .inl v5)], [], M)
      replace h := h.1 c13
      refine mm_s1 rfl ?_
      show mm_Go (mm_run 4) mc_M_other _ (50, [(0, .inr (.inr 407)), (1, .inl v1), (2, .inl v2), (3, .inl v3), (4, .inl v4), (5, .inl (mm_w (v5 + 1)))], [], M)
      refine mm_s1 rfl ?_
      show mm_Go (mm_run 4) mc_M_other _ (3, [(0, .inr (.inr 407)), (1, .inl v1), (2, .inl v2), (3, .inl v3), (4, .inl v4), (5, .inl (mm_w (v5 + 1)))], [], M)
      exact nn_go_ext (nn_xc rfl (nn_xc rfl (nn_xc rfl (nn_xc rfl (nn_xc rfl (nn_xc rfl nn_xn)))))) (h n L N)
    · show mm_Go (mm_run 4) mc_M_other _ (16, [(0, .inr (.inr 407)), (1, .inl v1), (2, .inl v2), (3, .inl v3), (4, .inl v4), (5, .inl v5)], [], M)
      replace h := h.2 c13
      refine mm_s1 rfl ?_
      refine mm_s1 rfl ?_
      refine mm_s1 rfl ?_
      refine mm_s1 rfl ?_
      refine mm_s1 rfl ⟨(nn_c407 NN).1, ?_⟩
      refine nn_call (D := 4) (by decide) (h n L N) ?_
      intro v M21 q; clear L N h
      obtain ⟨r21, rfl, q21, L, N, h⟩ := q
      show mm_Go (mm_run 4) mc_M_other _ (24, [(0, .inr (.inr 407)), (1, .inl v1), (2, .inl v2), (3, .inl v3), (4, .inl v4), (5, .inl v5)], [.inl r21], M21)
      refine mm_s1 rfl ⟨fun c24 => ?_, fun c24 => ?_⟩
      · show mm_Go (mm_run 4) mc_M_other _ (47, [(0, .inr (.inr 407)), (1, .inl v1), (2, .inl v2), (3, .inl v3), (4, .inl v4), (5, .inl v5)], [], M21)
        replace h := h.1 c24
        refine mm_s1 rfl ?_
        show mm_Go (mm_run 4) mc_M_other _ (50, [(0, .inr (.inr 407)), (1, .inl v1), (2, .inl v2), (3, .inl v3), (4, .inl v4), (5, .inl (mm_w (v5 + 1)))], [], M21)
        refine mm_s1 rfl ?_
        show mm_Go (mm_run 4) mc_M_other _ (3, [(0, .inr (.inr 407)), (1, .inl v1), (2, .inl v2), (3, .inl v3), (4, .inl v4), (5, .inl (mm_w (v5 + 1)))], [], M21)
        exact nn_go_ext (nn_xc rfl (nn_xc rfl (nn_xc rfl (nn_xc rfl (nn_xc rfl (nn_xc rfl nn_xn)))))) (h n L N)
      · show mm_Go (mm_run 4) mc_M_other _ (27, [(0, .inr (.inr 407)), (1, .inl v1), (2, .inl v2), (3, .inl v3), (4, .inl v4), (5, .inl v5)], [], M21)
        replace h := h.2 c24
        refine mm_s1 rfl ?_
        refine mm_s1 rfl ?_
        refine mm_s1 rfl ?_
        refine mm_s1 rfl ?_
        refine mm_s1 rfl ?_
        show mm_Go (mm_run 4) mc_M_other _ (33, [(0, .inr (.inr 407)), (1, .inl v1), (2, .inl v2), (3, .inl v3), (4, .inl v4), (5, .inl v5)], [.inl v5, .inl v1, .inr (.inr 407), .inl v2, .inr (.inr 407)], M21)
        refine mm_s1 rfl ⟨(nn_c407 NN).1, ?_⟩
        refine nn_call (D := 3) (by decide) (h n L N) ?_
        intro v M33 q; clear L N h
        obtain ⟨r33, rfl, L, N, h⟩ := q
        show mm_Go (mm_run 4) mc_M_other _ (36, [(0, .inr (.inr 407)), (1, .inl v1), (2, .inl v2), (3, .inl v3), (4, .inl v4), (5, .inl v5)], [.inl r33, .inl v2, .inr (.inr 407)], M33)
        refine mm_s1 rfl ⟨(nn_c407 NN).1, ?_⟩
        refine nn_call (D := 3) (by decide) (h n L N) ?_
        intro v M36 q; clear L N h
        obtain ⟨r36, rfl, L, N, h⟩ := q
        show mm_Go (mm_run 4) mc_M_other _ (39, [(0, .inr (.inr 407)), (1, .inl v1), (2, .inl v2), (3, .inl v3), (4, .inl v4), (5, .inl v5)], [.inl r36], M36)
        refine mm_s1 rfl ?_
        refine mm_s1 rfl ⟨fun c41 => ?_, fun c41 => ?_⟩
        · show mm_Go (mm_run 4) mc_M_other _ (47, [(0, .inr (.inr 407)), (1, .inl v1), (2, .inl v2), (3, .inl v3), (4, .inl v4), (5, .inl v5)], [], M36)
          replace h := h.1 c41
          refine mm_s1 rfl ?_
          show mm_Go (mm_run 4) mc_M_other _ (50, [(0, .inr (.inr 407)), (1, .inl v1), (2, .inl v2), (3, .inl v3), (4, .inl v4), (5, .inl (mm_w (v5 + 1)))], [], M36)
          refine mm_s1 rfl ?_
          show mm_Go (mm_run 4) mc_M_other _ (3, [(0, .inr (.inr 407)), (1, .inl v1), (2, .inl v2), (3, .inl v3), (4, .inl v4), (5, .inl (mm_w (v5 + 1)))], [], M36)
          exact nn_go_ext (nn_xc rfl (nn_xc rfl (nn_xc rfl (nn_xc rfl (nn_xc rfl (nn_xc rfl nn_xn)))))) (h n L N)
        · show mm_Go (mm_run 4) mc_M_other _ (44, [(0, .inr (.inr 407)), (1, .inl v1), (2, .inl v2), (3, .inl v3), (4, .inl v4), (5, .inl v5)], [], M36)
          replace c41 := Decidable.not_not.mp c41
          replace h := h.2 c41
          refine mm_s1 rfl ?_
          exact mm_s1 rfl ⟨_, rfl, L, N, h⟩
def nr_M_mergesIndex (v1 : Int) (v2 : Int) (v3 : Int) (v4 : Int) (v5 : Int) (M : mm_M) (R : mm_M → Prop) : Prop := ∀ n, nn_L M → M.1 = n → mm_run 5 mi_M_mergesIndex [.inr (.inr 407), .inl v1, .inl v2, .inl v3, .inl v4, .inl v5] M (nw_V n R)
def nk_M_mergesIndex_25 (v1 : Int) (v3 : Int) (v4 : Int) (v5 : Int) (v6 : Int) (v7 : Int) (v8 : Int) (M : mm_M) (R : mm_M → Prop) : Prop := ∀ n, nn_L M → M.1 = n → mm_Go (mm_run 4) mc_M_mergesIndex (nw_V n R) (25, [(0, .inr (.inr 407)), (1, .inl v1), (3, .inl v3), (4, .inl v4), (5, .inl v5), (6, .inl v6), (7, .inl v7), (8, .inl v8)], [], M)
def nk_M_mergesIndex_83 (v1 : Int) (v3 : Int) (v4 : Int) (v5 : Int) (v6 : Int) (v7 : Int) (v8 : Int) (M : mm_M) (R : mm_M → Prop) : Prop := ∀ n, nn_L M → M.1 = n → mm_Go (mm_run 4) mc_M_mergesIndex (nw_V n R) (83, [(0, .inr (.inr 407)), (1, .inl v1), (3, .inl v3), (4, .inl v4), (5, .inl v5), (6, .inl v6), (7, .inl v7), (8, .inl v8)], [], M)
def nk_M_mergesIndex_205 (v1 : Int) (v3 : Int) (v4 : Int) (v5 : Int) (v6 : Int) (v7 : Int) (v8 : Int) (v9 : Int) (M : mm_M) (R : mm_M → Prop) : Prop := ∀ n, nn_L M → M.1 = n → mm_Go (mm_run 4) mc_M_mergesIndex (nw_V n R) (205, [(0, .inr (.inr 407)), (1, .inl v1), (3, .inl v3), (4, .inl v4), (5, .inl v5), (6, .inl v6), (7, .inl v7), (8, .inl v8), (9, .inl v9)], [], M)
def nk_M_mergesIndex_372 (v1 : Int) (v3 : Int) (v5 : Int) (v6 : Int) (v7 : Int) (v8 : Int) (v9 : Int) (M : mm_M) (R : mm_M → Prop) : Prop := ∀ n, nn_L M → M.1 = n → mm_Go (mm_run 4) mc_M_mergesIndex (nw_V n R) (372, [(0, .inr (.inr 407)), (1, .inl v1), (3, .inl v3), (5, .inl v5), (6, .inl v6), (7, .inl v7), (8, .inl v8), (9, .inl v9)], [], M)
def nk_M_mergesIndex_322 (v1 : Int) (v3 : Int) (v4 : Int) (v5 : Int) (v6 : Int) (v7 : Int) (v8 : Int) (v9 : Int) (v10 : Int) (v11 : Int) (M : mm_M) (R : mm_M → Prop) : Prop := ∀ n, nn_L M → M.1 = n → mm_Go (mm_run 4) mc_M_mergesIndex (nw_V n R) (322, [(0, .inr (.inr 407)), (1, .inl v1), (3, .inl v3), (4, .inl v4), (5, .inl v5), (6, .inl v6), (7, .inl v7), (8, .inl v8), (9, .inl v9), (10, .inl v10), (11, .inl v11)], [], M)
def nk_M_mergesIndex_350 (v1 : Int) (v3 : Int) (v4 : Int) (v5 : Int) (v6 : Int) (v7 : Int) (v8 : Int) (v9 : Int) (M : mm_M) (R : mm_M → Prop) : Prop := ∀ n, nn_L M → M.1 = n → mm_Go (mm_run 4) mc_M_mergesIndex (nw_V n R) (350, [(0, .inr (.inr 407)), (1, .inl v1), (3, .inl v3), (4, .inl v4), (5, .inl v5), (6, .inl v6), (7, .inl v7), (8, .inl v8), (9, .inl v9)], [], M)
set_option maxRecDepth 20000 in
theorem ng_M_mergesIndex (v1 : Int) (v2 : Int) (v3 : Int) (v4 : Int) (v5 : Int) (M : mm_M) (R : mm_M → Prop) (h : (((0 : Int) ≤ (mm_w ((nf_M_head (nf_M_at v1 v2) v3) + 2)) ∧ (mm_w ((nf_M_head (nf_M_at v1 v2) v3) + 2)) < (32844 : Int)) ∧ (∀ x7_20 : Int, x7_20 = nn_ri M 408 (mm_w ((nf_M_head (nf_M_at v1 v2) v3) + 2)) → nk_M_mergesIndex_25 v1 v3 v4 v5 (nf_M_at v1 v2) x7_20 v3 M R))) : nr_M_mergesIndex v1 v2 v3 v4 v5 M R := by
  intro n L N 
  have NN := nn_L_n L N
  show mm_Go (mm_run 4) mc_M_mergesIndex _ (0, [(0, .inr (.inr 407)), (1, .inl v1), (2, .inl v2), (3, .inl v3), (4, .inl v4), (5, .inl v5)], [], M)
  refine mm_s1 rfl ?_
  refine mm_s1 rfl ?_
  refine mm_s1 rfl ⟨trivial, ?_⟩
  refine np_M_at (by decide) L N ?_
  show mm_Go (mm_run 4) mc_M_mergesIndex _ (5, [(0, .inr (.inr 407)), (1, .inl v1), (2, .inl v2), (3, .inl v3), (4, .inl v4), (5, .inl v5)], [.inl (nf_M_at v1 v2)], M)
  refine mm_s1 rfl ?_
  show mm_Go (mm_run 4) mc_M_mergesIndex _ (7, [(0, .inr (.inr 407)), (1, .inl v1), (2, .inl v2), (3, .inl v3), (4, .inl v4), (5, .inl v5), (6, .inl (nf_M_at v1 v2))], [], M)
  refine mm_s1 rfl ?_
  refine nn_getr rfl (nn_c407 NN).1 (lf_13_0 L N (nn_c407 NN)) ?_
  refine mm_s1 rfl ?_
  refine mm_s1 rfl ?_
  refine mm_s1 rfl ⟨trivial, ?_⟩
  refine np_M_head (by decide) L N ?_
  show mm_Go (mm_run 4) mc_M_mergesIndex _ (17, [(0, .inr (.inr 407)), (1, .inl v1), (2, .inl v2), (3, .inl v3), (4, .inl v4), (5, .inl v5), (6, .inl (nf_M_at v1 v2))], [.inl (nf_M_head (nf_M_at v1 v2) v3), .inr (.inr 408)], M)
  refine mm_s1 rfl ?_
  refine mm_s1 rfl ?_
  obtain ⟨b19, h⟩ := h
  refine mm_s1 rfl ⟨nn_bd (na_13_0 NN (nn_c407 NN)) b19, ?_⟩
  show mm_Go (mm_run 4) mc_M_mergesIndex _ (20, [(0, .inr (.inr 407)), (1, .inl v1), (2, .inl v2), (3, .inl v3), (4, .inl v4), (5, .inl v5), (6, .inl (nf_M_at v1 v2))], [.inl (nn_ri M 408 (mm_w ((nf_M_head (nf_M_at v1 v2) v3) + 2)))], M)
  refine mm_s1 rfl ?_
  show mm_Go (mm_run 4) mc_M_mergesIndex _ (22, [(0, .inr (.inr 407)), (1, .inl v1), (2, .inl v2), (3, .inl v3), (4, .inl v4), (5, .inl v5), (6, .inl (nf_M_at v1 v2)), (7, .inl (nn_ri M 408 (mm_w ((nf_M_head (nf_M_at v1 v2) v3) + 2))))], [], M)
  generalize e_x7_20 : (nn_ri M 408 (mm_w ((nf_M_head (nf_M_at v1 v2) v3) + 2))) = x7_20
  replace h := h _ e_x7_20.symm
  show mm_Go (mm_run 4) mc_M_mergesIndex _ (22, [(0, .inr (.inr 407)), (1, .inl v1), (2, .inl v2), (3, .inl v3), (4, .inl v4), (5, .inl v5), (6, .inl (nf_M_at v1 v2)), (7, .inl x7_20)], [], M)
  refine mm_s1 rfl ?_
  refine mm_s1 rfl ?_
  show mm_Go (mm_run 4) mc_M_mergesIndex _ (25, [(0, .inr (.inr 407)), (1, .inl v1), (2, .inl v2), (3, .inl v3), (4, .inl v4), (5, .inl v5), (6, .inl (nf_M_at v1 v2)), (7, .inl x7_20), (8, .inl v3)], [], M)
  exact nn_go_ext (nn_xc rfl (nn_xc rfl (nn_xc rfl (nn_xc rfl (nn_xc rfl (nn_xc rfl (nn_xc rfl (nn_xc rfl nn_xn)))))))) (h n L N)
set_option maxRecDepth 20000 in
theorem ng_M_mergesIndex_25 (v1 : Int) (v3 : Int) (v4 : Int) (v5 : Int) (v6 : Int) (v7 : Int) (v8 : Int) (M : mm_M) (R : mm_M → Prop) (h : (((mm_w (v3 + v4)) ≤ v8 → nk_M_mergesIndex_83 v1 v3 v4 v5 v6 v7 0 M R) ∧ (v8 < (mm_w (v3 + v4)) → (((0 : Int) ≤ (mm_w ((nf_M_head v6 v8) + 2)) ∧ (mm_w ((nf_M_head v6 v8) + 2)) < (32844 : Int)) ∧ ((v7 ≤ (nn_ri M 408 (mm_w ((nf_M_head v6 v8) + 2))) → nk_M_mergesIndex_25 v1 v3 v4 v5 v6 v7 (mm_w (v8 + 1)) M R) ∧ ((nn_ri M 408 (mm_w ((nf_M_head v6 v8) + 2))) < v7 → (((0 : Int) ≤ (mm_w ((nf_M_head v6 v8) + 2)) ∧ (mm_w ((nf_M_head v6 v8) + 2)) < (32844 : Int)) ∧ (∀ x7_72 : Int, x7_72 = nn_ri M 408 (mm_w ((nf_M_head v6 v8) + 2)) → nk_M_mergesIndex_25 v1 v3 v4 v5 v6 x7_72 (mm_w (v8 + 1)) M R)))))))) : nk_M_mergesIndex_25 v1 v3 v4 v5 v6 v7 v8 M R := by
  intro n L N 
  have NN := nn_L_n L N
  show mm_Go (mm_run 4) mc_M_mergesIndex _ (25, [(0, .inr (.inr 407)), (1, .inl v1), (3, .inl v3), (4, .inl v4), (5, .inl v5), (6, .inl v6), (7, .inl v7), (8, .inl v8)], [], M)
  refine mm_s1 rfl ?_
  refine mm_s1 rfl ?_
  refine mm_s1 rfl ?_
  refine mm_s1 rfl ?_
  refine mm_s1 rfl ⟨fun c31 => ?_, fun c31 => ?_⟩
  · show mm_Go (mm_run 4) mc_M_mergesIndex _ (80, [(0, .inr (.inr 407)), (1, .inl v1), (3, .inl v3), (4, .inl v4), (5, .inl v5), (6, .inl v6), (7, .inl v7), (8, .inl v8)], [], M)
    replace h := h.1 c31
    refine mm_s1 rfl ?_
    refine mm_s1 rfl ?_
    show mm_Go (mm_run 4) mc_M_mergesIndex _ (83, [(0, .inr (.inr 407)), (1, .inl v1), (3, .inl v3), (4, .inl v4), (5, .inl v5), (6, .inl v6), (7, .inl v7), (8, .inl 0)], [], M)
    exact nn_go_ext (nn_xc rfl (nn_xc rfl (nn_xc rfl (nn_xc rfl (nn_xc rfl (nn_xc rfl (nn_xc rfl (nn_xc rfl nn_xn)))))))) (h n L N)
  · show mm_Go (mm_run 4) mc_M_mergesIndex _ (34, [(0, .inr (.inr 407)), (1, .inl v1), (3, .inl v3), (4, .inl v4), (5, .inl v5), (6, .inl v6), (7, .inl v7), (8, .inl v8)], [], M)
    replace c31 := Int.not_le.mp c31
    replace h := h.2 c31
    refine mm_s1 rfl ?_
    refine nn_getr rfl (nn_c407 NN).1 (lf_13_0 L N (nn_c407 NN)) ?_
    refine mm_s1 rfl ?_
    refine mm_s1 rfl ?_
    refine mm_s1 rfl ⟨trivial, ?_⟩
    refine np_M_head (by decide) L N ?_
    show mm_Go (mm_run 4) mc_M_mergesIndex _ (45, [(0, .inr (.inr 407)), (1, .inl v1), (3, .inl v3), (4, .inl v4), (5, .inl v5), (6, .inl v6), (7, .inl v7), (8, .inl v8)], [.inl (nf_M_head v6 v8), .inr (.inr 408)], M)
    refine mm_s1 rfl ?_
    refine mm_s1 rfl ?_
    obtain ⟨b47, h⟩ := h
    refine mm_s1 rfl ⟨nn_bd (na_13_0 NN (nn_c407 NN)) b47, ?_⟩
    show mm_Go (mm_run 4) mc_M_mergesIndex _ (48, [(0, .inr (.inr 407)), (1, .inl v1), (3, .inl v3), (4, .inl v4), (5, .inl v5), (6, .inl v6), (7, .inl v7), (8, .inl v8)], [.inl (nn_ri M 408 (mm_w ((nf_M_head v6 v8) + 2)))], M)
    refine mm_s1 rfl ?_
    refine mm_s1 rfl ⟨fun c50 => ?_, fun c50 => ?_⟩
    · show mm_Go (mm_run 4) mc_M_mergesIndex _ (70, [(0, .inr (.inr 407)), (1, .inl v1), (3, .inl v3), (4, .inl v4), (5, .inl v5), (6, .inl v6), (7, .inl v7), (8, .inl v8)], [], M)
      replace h := h.1 c50
      refine mm_s1 rfl ?_
      refine mm_s1 rfl ?_
      show mm_Go (mm_run 4) mc_M_mergesIndex _ (74, [(0, .inr (.inr 407)), (1, .inl v1), (3, .inl v3), (4, .inl v4), (5, .inl v5), (6, .inl v6), (7, .inl v7), (8, .inl v8)], [], M)
      refine mm_s1 rfl ?_
      show mm_Go (mm_run 4) mc_M_mergesIndex _ (77, [(0, .inr (.inr 407)), (1, .inl v1), (3, .inl v3), (4, .inl v4), (5, .inl v5), (6, .inl v6), (7, .inl v7), (8, .inl (mm_w (v8 + 1)))], [], M)
      refine mm_s1 rfl ?_
      show mm_Go (mm_run 4) mc_M_mergesIndex _ (25, [(0, .inr (.inr 407)), (1, .inl v1), (3, .inl v3), (4, .inl v4), (5, .inl v5), (6, .inl v6), (7, .inl v7), (8, .inl (mm_w (v8 + 1)))], [], M)
      exact nn_go_ext (nn_xc rfl (nn_xc rfl (nn_xc rfl (nn_xc rfl (nn_xc rfl (nn_xc rfl (nn_xc rfl (nn_xc rfl nn_xn)))))))) (h n L N)
    · show mm_Go (mm_run 4) mc_M_mergesIndex _ (53, [(0, .inr (.inr 407)), (1, .inl v1), (3, .inl v3), (4, .inl v4), (5, .inl v5), (6, .inl v6), (7, .inl v7), (8, .inl v8)], [], M)
      replace c50 := Int.not_le.mp c50
      replace h := h.2 c50
      refine mm_s1 rfl ?_
      refine nn_getr rfl (nn_c407 NN).1 (lf_13_0 L N (nn_c407 NN)) ?_
      refine mm_s1 rfl ?_
      refine mm_s1 rfl ?_
      refine mm_s1 rfl ⟨trivial, ?_⟩
      refine np_M_head (by decide) L N ?_
      show mm_Go (mm_run 4) mc_M_mergesIndex _ (64, [(0, .inr (.inr 407)), (1, .inl v1), (3, .inl v3), (4, .inl v4), (5, .inl v5), (6, .inl v6), (7, .inl v7), (8, .inl v8)], [.inl (nf_M_head v6 v8), .inr (.inr 408)], M)
      refine mm_s1 rfl ?_
      refine mm_s1 rfl ?_
      obtain ⟨b66, h⟩ := h
      refine mm_s1 rfl ⟨nn_bd (na_13_0 NN (nn_c407 NN)) b66, ?_⟩
      show mm_Go (mm_run 4) mc_M_mergesIndex _ (67, [(0, .inr (.inr 407)), (1, .inl v1), (3, .inl v3), (4, .inl v4), (5, .inl v5), (6, .inl v6), (7, .inl v7), (8, .inl v8)], [.inl (nn_ri M 408 (mm_w ((nf_M_head v6 v8) + 2)))], M)
      refine mm_s1 rfl ?_
      show mm_Go (mm_run 4) mc_M_mergesIndex _ (72, [(0, .inr (.inr 407)), (1, .inl v1), (3, .inl v3), (4, .inl v4), (5, .inl v5), (6, .inl v6), (7, .inl v7), (8, .inl v8)], [.inl (nn_ri M 408 (mm_w ((nf_M_head v6 v8) + 2)))], M)
      refine mm_s1 rfl ?_
      show mm_Go (mm_run 4) mc_M_mergesIndex _ (74, [(0, .inr (.inr 407)), (1, .inl v1), (3, .inl v3), (4, .inl v4), (5, .inl v5), (6, .inl v6), (7, .inl (nn_ri M 408 (mm_w ((nf_M_head v6 v8) + 2)))), (8, .inl v8)], [], M)
      generalize e_x7_72 : (nn_ri M 408 (mm_w ((nf_M_head v6 v8) + 2))) = x7_72
      replace h := h _ e_x7_72.symm
      show mm_Go (mm_run 4) mc_M_mergesIndex _ (74, [(0, .inr (.inr 407)), (1, .inl v1), (3, .inl v3), (4, .inl v4), (5, .inl v5), (6, .inl v6), (7, .inl x7_72), (8, .inl v8)], [], M)
      refine mm_s1 rfl ?_
      show mm_Go (mm_run 4) mc_M_mergesIndex _ (77, [(0, .inr (.inr 407)), (1, .inl v1), (3, .inl v3), (4, .inl v4), (5, .inl v5), (6, .inl v6), (7, .inl x7_72), (8, .inl (mm_w (v8 + 1)))], [], M)
      refine mm_s1 rfl ?_
      show mm_Go (mm_run 4) mc_M_mergesIndex _ (25, [(0, .inr (.inr 407)), (1, .inl v1), (3, .inl v3), (4, .inl v4), (5, .inl v5), (6, .inl v6), (7, .inl x7_72), (8, .inl (mm_w (v8 + 1)))], [], M)
      exact nn_go_ext (nn_xc rfl (nn_xc rfl (nn_xc rfl (nn_xc rfl (nn_xc rfl (nn_xc rfl (nn_xc rfl (nn_xc rfl nn_xn)))))))) (h n L N)
set_option maxRecDepth 20000 in
theorem ng_M_mergesIndex_83 (v1 : Int) (v3 : Int) (v4 : Int) (v5 : Int) (v6 : Int) (v7 : Int) (v8 : Int) (M : mm_M) (R : mm_M → Prop) (h : (((0 : Int) ≤ (mm_w (v6 + 6)) ∧ (mm_w (v6 + 6)) < (32844 : Int)) ∧ (((nn_ri M 408 (mm_w (v6 + 6))) ≤ v8 → (nr_M_sorts v6 M (fun M168 => (((0 : Int) ≤ (mm_w (v6 + 2)) ∧ (mm_w (v6 + 2)) < (32844 : Int)) ∧ (((nn_ri M168 408 (mm_w (v6 + 2))) ≠ 1 → (((0 : Int) ≤ (mm_w (v6 + 6)) ∧ (mm_w (v6 + 6)) < (32844 : Int)) ∧ (∀ x9_203 : Int, x9_203 = mm_w ((nn_ri M168 408 (mm_w (v6 + 6))) - 1) → nk_M_mergesIndex_205 v1 v3 v4 v5 v6 v7 0 x9_203 M168 R))) ∧ ((nn_ri M168 408 (mm_w (v6 + 2))) = 1 → (((0 : Int) ≤ (mm_w (v6 + 6)) ∧ (mm_w (v6 + 6)) < (32844 : Int)) ∧ (∀ x9_203 : Int, x9_203 = mm_w ((nn_ri M168 408 (mm_w (v6 + 6))) - 1) → nk_M_mergesIndex_205 v1 v3 v4 v5 v6 v7 1 x9_203 M168 R)))))))) ∧ (v8 < (nn_ri M 408 (mm_w (v6 + 6))) → (((0 : Int) ≤ (nf_M_entryAt v6 v8) ∧ (nf_M_entryAt v6 v8) < (32844 : Int)) ∧ (∀ x9_112 : Int, x9_112 = mm_w ((nn_ri M 408 (nf_M_entryAt v6 v8)) - 1) → (((nf_M_isIn x9_112 v3 (mm_w ((mm_w (v3 + v4)) - 1))) = 0 → (((0 : Int) ≤ (nf_M_entryAt v6 v8) ∧ (nf_M_entryAt v6 v8) < (32844 : Int)) ∧ (((0 : Int) ≤ (nf_M_entryAt v6 v8) ∧ (nf_M_entryAt v6 v8) < (32844 : Int)) ∧ (∀ M158 : mm_M, M158 = nn_ui M 408 (nf_M_entryAt v6 v8) (nn_ri M 408 (nf_M_entryAt v6 v8)) → nk_M_mergesIndex_83 v1 v3 v4 v5 v6 v7 (mm_w (v8 + 1)) M158 R)))) ∧ ((nf_M_isIn x9_112 v3 (mm_w ((mm_w (v3 + v4)) - 1))) ≠ 0 → (((0 : Int) ≤ (nf_M_entryAt v6 v8) ∧ (nf_M_entryAt v6 v8) < (32844 : Int)) ∧ (∀ M158 : mm_M, M158 = nn_ui M 408 (nf_M_entryAt v6 v8) (mm_w (v3 + 1)) → nk_M_mergesIndex_83 v1 v3 v4 v5 v6 v7 (mm_w (v8 + 1)) M158 R)))))))))) : nk_M_mergesIndex_83 v1 v3 v4 v5 v6 v7 v8 M R := by
  intro n L N 
  have NN := nn_L_n L N
  show mm_Go (mm_run 4) mc_M_mergesIndex _ (83, [(0, .inr (.inr 407)), (1, .inl v1), (3, .inl v3), (4, .inl v4), (5, .inl v5), (6, .inl v6), (7, .inl v7), (8, .inl v8)], [], M)
  refine mm_s1 rfl ?_
  refine mm_s1 rfl ?_
  refine nn_getr rfl (nn_c407 NN).1 (lf_13_0 L N (nn_c407 NN)) ?_
  refine mm_s1 rfl ?_
  refine mm_s1 rfl ?_
  show mm_Go (mm_run 4) mc_M_mergesIndex _ (93, [(0, .inr (.inr 407)), (1, .inl v1), (3, .inl v3), (4, .inl v4), (5, .inl v5), (6, .inl v6), (7, .inl v7), (8, .inl v8)], [.inl 6, .inl v6, .inr (.inr 408), .inl v8], M)
  refine mm_s1 rfl ?_
  obtain ⟨b94, h⟩ := h
  refine mm_s1 rfl ⟨nn_bd (na_13_0 NN (nn_c407 NN)) b94, ?_⟩
  show mm_Go (mm_run 4) mc_M_mergesIndex _ (95, [(0, .inr (.inr 407)), (1, .inl v1), (3, .inl v3), (4, .inl v4), (5, .inl v5), (6, .inl v6), (7, .inl v7), (8, .inl v8)], [.inl (nn_ri M 408 (mm_w (v6 + 6))), .inl v8], M)
  refine mm_s1 rfl ⟨fun c95 => ?_, fun c95 => ?_⟩
  · show mm_Go (mm_run 4) mc_M_mergesIndex _ (165, [(0, .inr (.inr 407)), (1, .inl v1), (3, .inl v3), (4, .inl v4), (5, .inl v5), (6, .inl v6), (7, .inl v7), (8, .inl v8)], [], M)
    replace h := h.1 c95
    refine mm_s1 rfl ?_
    refine mm_s1 rfl ?_
    refine mm_s1 rfl ⟨(nn_c407 NN).1, ?_⟩
    refine nn_call (D := 2) (by decide) (h n L N) ?_
    intro v M168 q; clear L N h
    obtain ⟨rfl, L, N, h⟩ := q
    show mm_Go (mm_run 4) mc_M_mergesIndex _ (171, [(0, .inr (.inr 407)), (1, .inl v1), (3, .inl v3), (4, .inl v4), (5, .inl v5), (6, .inl v6), (7, .inl v7), (8, .inl v8)], [], M168)
    refine mm_s1 rfl ?_
    refine nn_getr rfl (nn_c407 NN).1 (lf_13_0 L N (nn_c407 NN)) ?_
    refine mm_s1 rfl ?_
    refine mm_s1 rfl ?_
    refine mm_s1 rfl ?_
    show mm_Go (mm_run 4) mc_M_mergesIndex _ (179, [(0, .inr (.inr 407)), (1, .inl v1), (3, .inl v3), (4, .inl v4), (5, .inl v5), (6, .inl v6), (7, .inl v7), (8, .inl v8)], [.inl (mm_w (v6 + 2)), .inr (.inr 408)], M168)
    obtain ⟨b179, h⟩ := h
    refine mm_s1 rfl ⟨nn_bd (na_13_0 NN (nn_c407 NN)) b179, ?_⟩
    show mm_Go (mm_run 4) mc_M_mergesIndex _ (180, [(0, .inr (.inr 407)), (1, .inl v1), (3, .inl v3), (4, .inl v4), (5, .inl v5), (6, .inl v6), (7, .inl v7), (8, .inl v8)], [.inl (nn_ri M168 408 (mm_w (v6 + 2)))], M168)
    refine mm_s1 rfl ?_
    refine mm_s1 rfl ⟨fun c181 => ?_, fun c181 => ?_⟩
    · show mm_Go (mm_run 4) mc_M_mergesIndex _ (188, [(0, .inr (.inr 407)), (1, .inl v1), (3, .inl v3), (4, .inl v4), (5, .inl v5), (6, .inl v6), (7, .inl v7), (8, .inl v8)], [], M168)
      replace h := h.1 c181
      refine mm_s1 rfl ?_
      refine mm_s1 rfl ?_
      show mm_Go (mm_run 4) mc_M_mergesIndex _ (191, [(0, .inr (.inr 407)), (1, .inl v1), (3, .inl v3), (4, .inl v4), (5, .inl v5), (6, .inl v6), (7, .inl v7), (8, .inl 0)], [], M168)
      refine mm_s1 rfl ?_
      refine nn_getr rfl (nn_c407 NN).1 (lf_13_0 L N (nn_c407 NN)) ?_
      refine mm_s1 rfl ?_
      refine mm_s1 rfl ?_
      refine mm_s1 rfl ?_
      show mm_Go (mm_run 4) mc_M_mergesIndex _ (200, [(0, .inr (.inr 407)), (1, .inl v1), (3, .inl v3), (4, .inl v4), (5, .inl v5), (6, .inl v6), (7, .inl v7), (8, .inl 0)], [.inl (mm_w (v6 + 6)), .inr (.inr 408)], M168)
      obtain ⟨b200, h⟩ := h
      refine mm_s1 rfl ⟨nn_bd (na_13_0 NN (nn_c407 NN)) b200, ?_⟩
      show mm_Go (mm_run 4) mc_M_mergesIndex _ (201, [(0, .inr (.inr 407)), (1, .inl v1), (3, .inl v3), (4, .inl v4), (5, .inl v5), (6, .inl v6), (7, .inl v7), (8, .inl 0)], [.inl (nn_ri M168 408 (mm_w (v6 + 6)))], M168)
      refine mm_s1 rfl ?_
      refine mm_s1 rfl ?_
      refine mm_s1 rfl ?_
      show mm_Go (mm_run 4) mc_M_mergesIndex _ (205, [(0, .inr (.inr 407)), (1, .inl v1), (3, .inl v3), (4, .inl v4), (5, .inl v5), (6, .inl v6), (7, .inl v7), (8, .inl 0), (9, .inl (mm_w ((nn_ri M168 408 (mm_w (v6 + 6))) - 1)))], [], M168)
      generalize e_x9_203 : (mm_w ((nn_ri M168 408 (mm_w (v6 + 6))) - 1)) = x9_203
      replace h := h _ e_x9_203.symm
      show mm_Go (mm_run 4) mc_M_mergesIndex _ (205, [(0, .inr (.inr 407)), (1, .inl v1), (3, .inl v3), (4, .inl v4), (5, .inl v5), (6, .inl v6), (7, .inl v7), (8, .inl 0), (9, .inl x9_203)], [], M168)
      exact nn_go_ext (nn_xc rfl (nn_xc rfl (nn_xc rfl (nn_xc rfl (nn_xc rfl (nn_xc rfl (nn_xc rfl (nn_xc rfl (nn_xc rfl nn_xn))))))))) (h n L N)
    · show mm_Go (mm_run 4) mc_M_mergesIndex _ (184, [(0, .inr (.inr 407)), (1, .inl v1), (3, .inl v3), (4, .inl v4), (5, .inl v5), (6, .inl v6), (7, .inl v7), (8, .inl v8)], [], M168)
      replace c181 := Decidable.not_not.mp c181
      replace h := h.2 c181
      refine mm_s1 rfl ?_
      refine mm_s1 rfl ?_
      show mm_Go (mm_run 4) mc_M_mergesIndex _ (189, [(0, .inr (.inr 407)), (1, .inl v1), (3, .inl v3), (4, .inl v4), (5, .inl v5), (6, .inl v6), (7, .inl v7), (8, .inl v8)], [.inl 1], M168)
      refine mm_s1 rfl ?_
      show mm_Go (mm_run 4) mc_M_mergesIndex _ (191, [(0, .inr (.inr 407)), (1, .inl v1), (3, .inl v3), (4, .inl v4), (5, .inl v5), (6, .inl v6), (7, .inl v7), (8, .inl 1)], [], M168)
      refine mm_s1 rfl ?_
      refine nn_getr rfl (nn_c407 NN).1 (lf_13_0 L N (nn_c407 NN)) ?_
      refine mm_s1 rfl ?_
      refine mm_s1 rfl ?_
      refine mm_s1 rfl ?_
      show mm_Go (mm_run 4) mc_M_mergesIndex _ (200, [(0, .inr (.inr 407)), (1, .inl v1), (3, .inl v3), (4, .inl v4), (5, .inl v5), (6, .inl v6), (7, .inl v7), (8, .inl 1)], [.inl (mm_w (v6 + 6)), .inr (.inr 408)], M168)
      obtain ⟨b200, h⟩ := h
      refine mm_s1 rfl ⟨nn_bd (na_13_0 NN (nn_c407 NN)) b200, ?_⟩
      show mm_Go (mm_run 4) mc_M_mergesIndex _ (201, [(0, .inr (.inr 407)), (1, .inl v1), (3, .inl v3), (4, .inl v4), (5, .inl v5), (6, .inl v6), (7, .inl v7), (8, .inl 1)], [.inl (nn_ri M168 408 (mm_w (v6 + 6)))], M168)
      refine mm_s1 rfl ?_
      refine mm_s1 rfl ?_
      refine mm_s1 rfl ?_
      show mm_Go (mm_run 4) mc_M_mergesIndex _ (205, [(0, .inr (.inr 407)), (1, .inl v1), (3, .inl v3), (4, .inl v4), (5, .inl v5), (6, .inl v6), (7, .inl v7), (8, .inl 1), (9, .inl (mm_w ((nn_ri M168 408 (mm_w (v6 + 6))) - 1)))], [], M168)
      generalize e_x9_203 : (mm_w ((nn_ri M168 408 (mm_w (v6 + 6))) - 1)) = x9_203
      replace h := h _ e_x9_203.symm
      show mm_Go (mm_run 4) mc_M_mergesIndex _ (205, [(0, .inr (.inr 407)), (1, .inl v1), (3, .inl v3), (4, .inl v4), (5, .inl v5), (6, .inl v6), (7, .inl v7), (8, .inl 1), (9, .inl x9_203)], [], M168)
      exact nn_go_ext (nn_xc rfl (nn_xc rfl (nn_xc rfl (nn_xc rfl (nn_xc rfl (nn_xc rfl (nn_xc rfl (nn_xc rfl (nn_xc rfl nn_xn))))))))) (h n L N)
  · show mm_Go (mm_run 4) mc_M_mergesIndex _ (98, [(0, .inr (.inr 407)), (1, .inl v1), (3, .inl v3), (4, .inl v4), (5, .inl v5), (6, .inl v6), (7, .inl v7), (8, .inl v8)], [], M)
    replace c95 := Int.not_le.mp c95
    replace h := h.2 c95
    refine mm_s1 rfl ?_
    refine nn_getr rfl (nn_c407 NN).1 (lf_13_0 L N (nn_c407 NN)) ?_
    refine mm_s1 rfl ?_
    refine mm_s1 rfl ?_
    refine mm_s1 rfl ⟨trivial, ?_⟩
    refine np_M_entryAt (by decide) L N ?_
    show mm_Go (mm_run 4) mc_M_mergesIndex _ (109, [(0, .inr (.inr 407)), (1, .inl v1), (3, .inl v3), (4, .inl v4), (5, .inl v5), (6, .inl v6), (7, .inl v7), (8, .inl v8)], [.inl (nf_M_entryAt v6 v8), .inr (.inr 408)], M)
    obtain ⟨b109, h⟩ := h
    refine mm_s1 rfl ⟨nn_bd (na_13_0 NN (nn_c407 NN)) b109, ?_⟩
    show mm_Go (mm_run 4) mc_M_mergesIndex _ (110, [(0, .inr (.inr 407)), (1, .inl v1), (3, .inl v3), (4, .inl v4), (5, .inl v5), (6, .inl v6), (7, .inl v7), (8, .inl v8)], [.inl (nn_ri M 408 (nf_M_entryAt v6 v8))], M)
    refine mm_s1 rfl ?_
    refine mm_s1 rfl ?_
    refine mm_s1 rfl ?_
    show mm_Go (mm_run 4) mc_M_mergesIndex _ (114, [(0, .inr (.inr 407)), (1, .inl v1), (3, .inl v3), (4, .inl v4), (5, .inl v5), (6, .inl v6), (7, .inl v7), (8, .inl v8), (9, .inl (mm_w ((nn_ri M 408 (nf_M_entryAt v6 v8)) - 1)))], [], M)
    generalize e_x9_112 : (mm_w ((nn_ri M 408 (nf_M_entryAt v6 v8)) - 1)) = x9_112
    replace h := h _ e_x9_112.symm
    show mm_Go (mm_run 4) mc_M_mergesIndex _ (114, [(0, .inr (.inr 407)), (1, .inl v1), (3, .inl v3), (4, .inl v4), (5, .inl v5), (6, .inl v6), (7, .inl v7), (8, .inl v8), (9, .inl x9_112)], [], M)
    refine mm_s1 rfl ?_
    refine nn_getr rfl (nn_c407 NN).1 (lf_13_0 L N (nn_c407 NN)) ?_
    refine mm_s1 rfl ?_
    refine mm_s1 rfl ?_
    refine mm_s1 rfl ⟨trivial, ?_⟩
    refine np_M_entryAt (by decide) L N ?_
    show mm_Go (mm_run 4) mc_M_mergesIndex _ (125, [(0, .inr (.inr 407)), (1, .inl v1), (3, .inl v3), (4, .inl v4), (5, .inl v5), (6, .inl v6), (7, .inl v7), (8, .inl v8), (9, .inl x9_112)], [.inl (nf_M_entryAt v6 v8), .inr (.inr 408)], M)
    refine mm_s1 rfl ?_
    refine mm_s1 rfl ?_
    refine mm_s1 rfl ?_
    refine mm_s1 rfl ?_
    refine mm_s1 rfl ?_
    show mm_Go (mm_run 4) mc_M_mergesIndex _ (132, [(0, .inr (.inr 407)), (1, .inl v1), (3, .inl v3), (4, .inl v4), (5, .inl v5), (6, .inl v6), (7, .inl v7), (8, .inl v8), (9, .inl x9_112)], [.inl (mm_w (v3 + v4)), .inl v3, .inl x9_112, .inl (nf_M_entryAt v6 v8), .inr (.inr 408)], M)
    refine mm_s1 rfl ?_
    refine mm_s1 rfl ?_
    refine mm_s1 rfl ⟨trivial, ?_⟩
    refine np_M_isIn (by decide) L N ?_
    show mm_Go (mm_run 4) mc_M_mergesIndex _ (137, [(0, .inr (.inr 407)), (1, .inl v1), (3, .inl v3), (4, .inl v4), (5, .inl v5), (6, .inl v6), (7, .inl v7), (8, .inl v8), (9, .inl x9_112)], [.inl (nf_M_isIn x9_112 v3 (mm_w ((mm_w (v3 + v4)) - 1))), .inl (nf_M_entryAt v6 v8), .inr (.inr 408)], M)
    refine mm_s1 rfl ⟨fun c137 => ?_, fun c137 => ?_⟩
    · show mm_Go (mm_run 4) mc_M_mergesIndex _ (146, [(0, .inr (.inr 407)), (1, .inl v1), (3, .inl v3), (4, .inl v4), (5, .inl v5), (6, .inl v6), (7, .inl v7), (8, .inl v8), (9, .inl x9_112)], [.inl (nf_M_entryAt v6 v8), .inr (.inr 408)], M)
      replace h := h.1 c137
      refine mm_s1 rfl ?_
      refine nn_getr rfl (nn_c407 NN).1 (lf_13_0 L N (nn_c407 NN)) ?_
      refine mm_s1 rfl ?_
      refine mm_s1 rfl ?_
      refine mm_s1 rfl ⟨trivial, ?_⟩
      refine np_M_entryAt (by decide) L N ?_
      show mm_Go (mm_run 4) mc_M_mergesIndex _ (157, [(0, .inr (.inr 407)), (1, .inl v1), (3, .inl v3), (4, .inl v4), (5, .inl v5), (6, .inl v6), (7, .inl v7), (8, .inl v8), (9, .inl x9_112)], [.inl (nf_M_entryAt v6 v8), .inr (.inr 408), .inl (nf_M_entryAt v6 v8), .inr (.inr 408)], M)
      obtain ⟨b157, h⟩ := h
      refine mm_s1 rfl ⟨nn_bd (na_13_0 NN (nn_c407 NN)) b157, ?_⟩
      show mm_Go (mm_run 4) mc_M_mergesIndex _ (158, [(0, .inr (.inr 407)), (1, .inl v1), (3, .inl v3), (4, .inl v4), (5, .inl v5), (6, .inl v6), (7, .inl v7), (8, .inl v8), (9, .inl x9_112)], [.inl (nn_ri M 408 (nf_M_entryAt v6 v8)), .inl (nf_M_entryAt v6 v8), .inr (.inr 408)], M)
      obtain ⟨b158, h⟩ := h
      refine mm_s1 rfl ⟨nn_bd (na_13_0 NN (nn_c407 NN)) b158, ?_⟩
      show mm_Go (mm_run 4) mc_M_mergesIndex _ (159, [(0, .inr (.inr 407)), (1, .inl v1), (3, .inl v3), (4, .inl v4), (5, .inl v5), (6, .inl v6), (7, .inl v7), (8, .inl v8), (9, .inl x9_112)], [], (nn_ui M 408 (nf_M_entryAt v6 v8) (nn_ri M 408 (nf_M_entryAt v6 v8))))
      have L : nn_L (nn_ui M 408 (nf_M_entryAt v6 v8) (nn_ri M 408 (nf_M_entryAt v6 v8))) := nn_L_ua L (congrArg Prod.fst (na_13_0 NN (nn_c407 NN))) (by decide)
      have N : (nn_ui M 408 (nf_M_entryAt v6 v8) (nn_ri M 408 (nf_M_entryAt v6 v8))).1 = n := N
      generalize e_M158 : (nn_ui M 408 (nf_M_entryAt v6 v8) (nn_ri M 408 (nf_M_entryAt v6 v8))) = M158 at L N ⊢
      replace h := h _ e_M158.symm
      show mm_Go (mm_run 4) mc_M_mergesIndex _ (159, [(0, .inr (.inr 407)), (1, .inl v1), (3, .inl v3), (4, .inl v4), (5, .inl v5), (6, .inl v6), (7, .inl v7), (8, .inl v8), (9, .inl x9_112)], [], M158)
      refine mm_s1 rfl ?_
      show mm_Go (mm_run 4) mc_M_mergesIndex _ (162, [(0, .inr (.inr 407)), (1, .inl v1), (3, .inl v3), (4, .inl v4), (5, .inl v5), (6, .inl v6), (7, .inl v7), (8, .inl (mm_w (v8 + 1))), (9, .inl x9_112)], [], M158)
      refine mm_s1 rfl ?_
      show mm_Go (mm_run 4) mc_M_mergesIndex _ (83, [(0, .inr (.inr 407)), (1, .inl v1), (3, .inl v3), (4, .inl v4), (5, .inl v5), (6, .inl v6), (7, .inl v7), (8, .inl (mm_w (v8 + 1))), (9, .inl x9_112)], [], M158)
      exact nn_go_ext (nn_xc rfl (nn_xc rfl (nn_xc rfl (nn_xc rfl (nn_xc rfl (nn_xc rfl (nn_xc rfl (nn_xc rfl nn_xn)))))))) (h n L N)
    · show mm_Go (mm_run 4) mc_M_mergesIndex _ (140, [(0, .inr (.inr 407)), (1, .inl v1), (3, .inl v3), (4, .inl v4), (5, .inl v5), (6, .inl v6), (7, .inl v7), (8, .inl v8), (9, .inl x9_112)], [.inl (nf_M_entryAt v6 v8), .inr (.inr 408)], M)
      replace h := h.2 c137
      refine mm_s1 rfl ?_
      refine mm_s1 rfl ?_
      refine mm_s1 rfl ?_
      refine mm_s1 rfl ?_
      show mm_Go (mm_run 4) mc_M_mergesIndex _ (158, [(0, .inr (.inr 407)), (1, .inl v1), (3, .inl v3), (4, .inl v4), (5, .inl v5), (6, .inl v6), (7, .inl v7), (8, .inl v8), (9, .inl x9_112)], [.inl (mm_w (v3 + 1)), .inl (nf_M_entryAt v6 v8), .inr (.inr 408)], M)
      obtain ⟨b158, h⟩ := h
      refine mm_s1 rfl ⟨nn_bd (na_13_0 NN (nn_c407 NN)) b158, ?_⟩
      show mm_Go (mm_run 4) mc_M_mergesIndex _ (159, [(0, .inr (.inr 407)), (1, .inl v1), (3, .inl v3), (4, .inl v4), (5, .inl v5), (6, .inl v6), (7, .inl v7), (8, .inl v8), (9, .inl x9_112)], [], (nn_ui M 408 (nf_M_entryAt v6 v8) (mm_w (v3 + 1))))
      have L : nn_L (nn_ui M 408 (nf_M_entryAt v6 v8) (mm_w (v3 + 1))) := nn_L_ua L (congrArg Prod.fst (na_13_0 NN (nn_c407 NN))) (by decide)
      have N : (nn_ui M 408 (nf_M_entryAt v6 v8) (mm_w (v3 + 1))).1 = n := N
      generalize e_M158 : (nn_ui M 408 (nf_M_entryAt v6 v8) (mm_w (v3 + 1))) = M158 at L N ⊢
      replace h := h _ e_M158.symm
      show mm_Go (mm_run 4) mc_M_mergesIndex _ (159, [(0, .inr (.inr 407)), (1, .inl v1), (3, .inl v3), (4, .inl v4), (5, .inl v5), (6, .inl v6), (7, .inl v7), (8, .inl v8), (9, .inl x9_112)], [], M158)
      refine mm_s1 rfl ?_
      show mm_Go (mm_run 4) mc_M_mergesIndex _ (162, [(0, .inr (.inr 407)), (1, .inl v1), (3, .inl v3), (4, .inl v4), (5, .inl v5), (6, .inl v6), (7, .inl v7), (8, .inl (mm_w (v8 + 1))), (9, .inl x9_112)], [], M158)
      refine mm_s1 rfl ?_
      show mm_Go (mm_run 4) mc_M_mergesIndex _ (83, [(0, .inr (.inr 407)), (1, .inl v1), (3, .inl v3), (4, .inl v4), (5, .inl v5), (6, .inl v6), (7, .inl v7), (8, .inl (mm_w (v8 + 1))), (9, .inl x9_112)], [], M158)
      exact nn_go_ext (nn_xc rfl (nn_xc rfl (nn_xc rfl (nn_xc rfl (nn_xc rfl (nn_xc rfl (nn_xc rfl (nn_xc rfl nn_xn)))))))) (h n L N)
set_option maxRecDepth 20000 in
theorem ng_M_mergesIndex_205 (v1 : Int) (v3 : Int) (v4 : Int) (v5 : Int) (v6 : Int) (v7 : Int) (v8 : Int) (v9 : Int) (M : mm_M) (R : mm_M → Prop) (h : ((v9 < 0 → nk_M_mergesIndex_372 v1 v3 v5 v6 v7 v8 (mm_w ((mm_w (v3 + v4)) - 1)) M R) ∧ (0 ≤ v9 → (((0 : Int) ≤ (nf_M_entryAt v6 v9) ∧ (nf_M_entryAt v6 v9) < (32844 : Int)) ∧ (((nn_ri M 408 (nf_M_entryAt v6 v9)) ≠ (mm_w (v3 + 1)) → (((0 : Int) ≤ (mm_w (v6 + 6)) ∧ (mm_w (v6 + 6)) < (32844 : Int)) ∧ ((((mm_w (v9 + 1)) < (nn_ri M 408 (mm_w (v6 + 6)))) → ((0 : Int) ≤ (mm_w ((nf_M_entryAt v6 v9) + 4)) ∧ (mm_w ((nf_M_entryAt v6 v9) + 4)) < (32844 : Int))) ∧ (((mm_w (v9 + 1)) < (nn_ri M 408 (mm_w (v6 + 6)))) → ((0 : Int) ≤ (nf_M_entryAt v6 v9) ∧ (nf_M_entryAt v6 v9) < (32844 : Int))) ∧ (((mm_w (v9 + 1)) < (nn_ri M 408 (mm_w (v6 + 6)))) ∧ ((nn_ri M 408 (mm_w ((nf_M_entryAt v6 v9) + 4))) = (nn_ri M 408 (nf_M_entryAt v6 v9))) → ((0 : Int) ≤ (mm_w ((nf_M_entryAt v6 v9) + 5)) ∧ (mm_w ((nf_M_entryAt v6 v9) + 5)) < (32844 : Int))) ∧ (((mm_w (v9 + 1)) < (nn_ri M 408 (mm_w (v6 + 6)))) ∧ ((nn_ri M 408 (mm_w ((nf_M_entryAt v6 v9) + 4))) = (nn_ri M 408 (nf_M_entryAt v6 v9))) → ((0 : Int) ≤ (mm_w ((nf_M_entryAt v6 v9) + 1)) ∧ (mm_w ((nf_M_entryAt v6 v9) + 1)) < (32844 : Int))) ∧ (((mm_w (v9 + 1)) < (nn_ri M 408 (mm_w (v6 + 6)))) ∧ ((nn_ri M 408 (mm_w ((nf_M_entryAt v6 v9) + 4))) = (nn_ri M 408 (nf_M_entryAt v6 v9))) ∧ ((nn_ri M 408 (mm_w ((nf_M_entryAt v6 v9) + 5))) = (nn_ri M 408 (mm_w ((nf_M_entryAt v6 v9) + 1)))) → ((0 : Int) ≤ (mm_w ((nf_M_entryAt v6 v9) + 6)) ∧ (mm_w ((nf_M_entryAt v6 v9) + 6)) < (32844 : Int))) ∧ (((mm_w (v9 + 1)) < (nn_ri M 408 (mm_w (v6 + 6)))) ∧ ((nn_ri M 408 (mm_w ((nf_M_entryAt v6 v9) + 4))) = (nn_ri M 408 (nf_M_entryAt v6 v9))) ∧ ((nn_ri M 408 (mm_w ((nf_M_entryAt v6 v9) + 5))) = (nn_ri M 408 (mm_w ((nf_M_entryAt v6 v9) + 1)))) → ((0 : Int) ≤ (mm_w ((nf_M_entryAt v6 v9) + 2)) ∧ (mm_w ((nf_M_entryAt v6 v9) + 2)) < (32844 : Int))) ∧ (((nn_ri M 408 (mm_w (v6 + 6))) ≤ (mm_w (v9 + 1)) ∨ ((nn_ri M 408 (mm_w ((nf_M_entryAt v6 v9) + 4))) ≠ (nn_ri M 408 (nf_M_entryAt v6 v9)) ∨ ((nn_ri M 408 (mm_w ((nf_M_entryAt v6 v9) + 5))) ≠ (nn_ri M 408 (mm_w ((nf_M_entryAt v6 v9) + 1))) ∨ ((nn_ri M 408 (mm_w ((nf_M_entryAt v6 v9) + 6))) ≠ (nn_ri M 408 (mm_w ((nf_M_entryAt v6 v9) + 2))))))) → nk_M_mergesIndex_322 v1 v3 v4 v5 v6 v7 v8 v9 (nf_M_entryAt v6 v9) 0 M R) ∧ (((mm_w (v9 + 1)) < (nn_ri M 408 (mm_w (v6 + 6))) ∧ ((nn_ri M 408 (mm_w ((nf_M_entryAt v6 v9) + 4))) = (nn_ri M 408 (nf_M_entryAt v6 v9)) ∧ ((nn_ri M 408 (mm_w ((nf_M_entryAt v6 v9) + 5))) = (nn_ri M 408 (mm_w ((nf_M_entryAt v6 v9) + 1))) ∧ ((nn_ri M 408 (mm_w ((nf_M_entryAt v6 v9) + 6))) = (nn_ri M 408 (mm_w ((nf_M_entryAt v6 v9) + 2))))))) → nk_M_mergesIndex_205 v1 v3 v4 v5 v6 v7 v8 (mm_w (v9 + (-1))) M R)))) ∧ ((nn_ri M 408 (nf_M_entryAt v6 v9)) = (mm_w (v3 + 1)) → (((0 : Int) ≤ (mm_w (v6 + 6)) ∧ (mm_w (v6 + 6)) < (32844 : Int)) ∧ ((((mm_w (v9 + 1)) < (nn_ri M 408 (mm_w (v6 + 6)))) → ((0 : Int) ≤ (mm_w ((nf_M_entryAt v6 v9) + 4)) ∧ (mm_w ((nf_M_entryAt v6 v9) + 4)) < (32844 : Int))) ∧ (((mm_w (v9 + 1)) < (nn_ri M 408 (mm_w (v6 + 6)))) → ((0 : Int) ≤ (nf_M_entryAt v6 v9) ∧ (nf_M_entryAt v6 v9) < (32844 : Int))) ∧ (((mm_w (v9 + 1)) < (nn_ri M 408 (mm_w (v6 + 6)))) ∧ ((nn_ri M 408 (mm_w ((nf_M_entryAt v6 v9) + 4))) = (nn_ri M 408 (nf_M_entryAt v6 v9))) → ((0 : Int) ≤ (mm_w ((nf_M_entryAt v6 v9) + 5)) ∧ (mm_w ((nf_M_entryAt v6 v9) + 5)) < (32844 : Int))) ∧ (((mm_w (v9 + 1)) < (nn_ri M 408 (mm_w (v6 + 6)))) ∧ ((nn_ri M 408 (mm_w ((nf_M_entryAt v6 v9) + 4))) = (nn_ri M 408 (nf_M_entryAt v6 v9))) → ((0 : Int) ≤ (mm_w ((nf_M_entryAt v6 v9) + 1)) ∧ (mm_w ((nf_M_entryAt v6 v9) + 1)) < (32844 : Int))) ∧ (((mm_w (v9 + 1)) < (nn_ri M 408 (mm_w (v6 + 6)))) ∧ ((nn_ri M 408 (mm_w ((nf_M_entryAt v6 v9) + 4))) = (nn_ri M 408 (nf_M_entryAt v6 v9))) ∧ ((nn_ri M 408 (mm_w ((nf_M_entryAt v6 v9) + 5))) = (nn_ri M 408 (mm_w ((nf_M_entryAt v6 v9) + 1)))) → ((0 : Int) ≤ (mm_w ((nf_M_entryAt v6 v9) + 6)) ∧ (mm_w ((nf_M_entryAt v6 v9) + 6)) < (32844 : Int))) ∧ (((mm_w (v9 + 1)) < (nn_ri M 408 (mm_w (v6 + 6)))) ∧ ((nn_ri M 408 (mm_w ((nf_M_entryAt v6 v9) + 4))) = (nn_ri M 408 (nf_M_entryAt v6 v9))) ∧ ((nn_ri M 408 (mm_w ((nf_M_entryAt v6 v9) + 5))) = (nn_ri M 408 (mm_w ((nf_M_entryAt v6 v9) + 1)))) → ((0 : Int) ≤ (mm_w ((nf_M_entryAt v6 v9) + 2)) ∧ (mm_w ((nf_M_entryAt v6 v9) + 2)) < (32844 : Int))) ∧ (((nn_ri M 408 (mm_w (v6 + 6))) ≤ (mm_w (v9 + 1)) ∨ ((nn_ri M 408 (mm_w ((nf_M_entryAt v6 v9) + 4))) ≠ (nn_ri M 408 (nf_M_entryAt v6 v9)) ∨ ((nn_ri M 408 (mm_w ((nf_M_entryAt v6 v9) + 5))) ≠ (nn_ri M 408 (mm_w ((nf_M_entryAt v6 v9) + 1))) ∨ ((nn_ri M 408 (mm_w ((nf_M_entryAt v6 v9) + 6))) ≠ (nn_ri M 408 (mm_w ((nf_M_entryAt v6 v9) + 2))))))) → nk_M_mergesIndex_322 v1 v3 v4 v5 v6 v7 v8 v9 (nf_M_entryAt v6 v9) 1 M R) ∧ (((mm_w (v9 + 1)) < (nn_ri M 408 (mm_w (v6 + 6))) ∧ ((nn_ri M 408 (mm_w ((nf_M_entryAt v6 v9) + 4))) = (nn_ri M 408 (nf_M_entryAt v6 v9)) ∧ ((nn_ri M 408 (mm_w ((nf_M_entryAt v6 v9) + 5))) = (nn_ri M 408 (mm_w ((nf_M_entryAt v6 v9) + 1))) ∧ ((nn_ri M 408 (mm_w ((nf_M_entryAt v6 v9) + 6))) = (nn_ri M 408 (mm_w ((nf_M_entryAt v6 v9) + 2))))))) → nk_M_mergesIndex_350 v1 v3 v4 v5 v6 v7 v8 v9 M R))))))))) : nk_M_mergesIndex_205 v1 v3 v4 v5 v6 v7 v8 v9 M R := by
  intro n L N 
  have NN := nn_L_n L N
  show mm_Go (mm_run 4) mc_M_mergesIndex _ (205, [(0, .inr (.inr 407)), (1, .inl v1), (3, .inl v3), (4, .inl v4), (5, .inl v5), (6, .inl v6), (7, .inl v7), (8, .inl v8), (9, .inl v9)], [], M)
  refine mm_s1 rfl ?_
  refine mm_s1 rfl ⟨fun c207 => ?_, fun c207 => ?_⟩
  · show mm_Go (mm_run 4) mc_M_mergesIndex _ (364, [(0, .inr (.inr 407)), (1, .inl v1), (3, .inl v3), (4, .inl v4), (5, .inl v5), (6, .inl v6), (7, .inl v7), (8, .inl v8), (9, .inl v9)], [], M)
    replace h := h.1 c207
    refine mm_s1 rfl ?_
    refine mm_s1 rfl ?_
    refine mm_s1 rfl ?_
    refine mm_s1 rfl ?_
    refine mm_s1 rfl ?_
    show mm_Go (mm_run 4) mc_M_mergesIndex _ (370, [(0, .inr (.inr 407)), (1, .inl v1), (3, .inl v3), (4, .inl v4), (5, .inl v5), (6, .inl v6), (7, .inl v7), (8, .inl v8), (9, .inl v9)], [.inl (mm_w ((mm_w (v3 + v4)) - 1))], M)
    refine mm_s1 rfl ?_
    show mm_Go (mm_run 4) mc_M_mergesIndex _ (372, [(0, .inr (.inr 407)), (1, .inl v1), (3, .inl v3), (4, .inl v4), (5, .inl v5), (6, .inl v6), (7, .inl v7), (8, .inl v8), (9, .inl (mm_w ((mm_w (v3 + v4)) - 1)))], [], M)
    exact nn_go_ext (nn_xc rfl (nn_xc rfl (nn_xc rfl (nn_xc rfl (nn_xc rfl (nn_xc rfl (nn_xc rfl (nn_xc rfl nn_xn)))))))) (h n L N)
  · show mm_Go (mm_run 4) mc_M_mergesIndex _ (210, [(0, .inr (.inr 407)), (1, .inl v1), (3, .inl v3), (4, .inl v4), (5, .inl v5), (6, .inl v6), (7, .inl v7), (8, .inl v8), (9, .inl v9)], [], M)
    replace c207 := Int.not_lt.mp c207
    replace h := h.2 c207
    refine mm_s1 rfl ?_
    refine mm_s1 rfl ?_
    refine mm_s1 rfl ⟨trivial, ?_⟩
    refine np_M_entryAt (by decide) L N ?_
    show mm_Go (mm_run 4) mc_M_mergesIndex _ (217, [(0, .inr (.inr 407)), (1, .inl v1), (3, .inl v3), (4, .inl v4), (5, .inl v5), (6, .inl v6), (7, .inl v7), (8, .inl v8), (9, .inl v9)], [.inl (nf_M_entryAt v6 v9)], M)
    refine mm_s1 rfl ?_
    show mm_Go (mm_run 4) mc_M_mergesIndex _ (219, [(0, .inr (.inr 407)), (1, .inl v1), (3, .inl v3), (4, .inl v4), (5, .inl v5), (6, .inl v6), (7, .inl v7), (8, .inl v8), (9, .inl v9), (10, .inl (nf_M_entryAt v6 v9))], [], M)
    refine mm_s1 rfl ?_
    refine nn_getr rfl (nn_c407 NN).1 (lf_13_0 L N (nn_c407 NN)) ?_
    refine mm_s1 rfl ?_
    obtain ⟨b225, h⟩ := h
    refine mm_s1 rfl ⟨nn_bd (na_13_0 NN (nn_c407 NN)) b225, ?_⟩
    show mm_Go (mm_run 4) mc_M_mergesIndex _ (226, [(0, .inr (.inr 407)), (1, .inl v1), (3, .inl v3), (4, .inl v4), (5, .inl v5), (6, .inl v6), (7, .inl v7), (8, .inl v8), (9, .inl v9), (10, .inl (nf_M_entryAt v6 v9))], [.inl (nn_ri M 408 (nf_M_entryAt v6 v9))], M)
    refine mm_s1 rfl ?_
    refine mm_s1 rfl ?_
    refine mm_s1 rfl ?_
    refine mm_s1 rfl ⟨fun c229 => ?_, fun c229 => ?_⟩
    · show mm_Go (mm_run 4) mc_M_mergesIndex _ (236, [(0, .inr (.inr 407)), (1, .inl v1), (3, .inl v3), (4, .inl v4), (5, .inl v5), (6, .inl v6), (7, .inl v7), (8, .inl v8), (9, .inl v9), (10, .inl (nf_M_entryAt v6 v9))], [], M)
      replace h := h.1 c229
      refine mm_s1 rfl ?_
      refine mm_s1 rfl ?_
      show mm_Go (mm_run 4) mc_M_mergesIndex _ (239, [(0, .inr (.inr 407)), (1, .inl v1), (3, .inl v3), (4, .inl v4), (5, .inl v5), (6, .inl v6), (7, .inl v7), (8, .inl v8), (9, .inl v9), (10, .inl (nf_M_entryAt v6 v9)), (11, .inl 0)], [], M)
      refine mm_s1 rfl ?_
      refine mm_s1 rfl ?_
      refine mm_s1 rfl ?_
      refine mm_s1 rfl ?_
      refine nn_getr rfl (nn_c407 NN).1 (lf_13_0 L N (nn_c407 NN)) ?_
      show mm_Go (mm_run 4) mc_M_mergesIndex _ (247, [(0, .inr (.inr 407)), (1, .inl v1), (3, .inl v3), (4, .inl v4), (5, .inl v5), (6, .inl v6), (7, .inl v7), (8, .inl v8), (9, .inl v9), (10, .inl (nf_M_entryAt v6 v9)), (11, .inl 0)], [.inr (.inr 408), .inl (mm_w (v9 + 1))], M)
      refine mm_s1 rfl ?_
      refine mm_s1 rfl ?_
      refine mm_s1 rfl ?_
      obtain ⟨b252, h⟩ := h
      refine mm_s1 rfl ⟨nn_bd (na_13_0 NN (nn_c407 NN)) b252, ?_⟩
      show mm_Go (mm_run 4) mc_M_mergesIndex _ (253, [(0, .inr (.inr 407)), (1, .inl v1), (3, .inl v3), (4, .inl v4), (5, .inl v5), (6, .inl v6), (7, .inl v7), (8, .inl v8), (9, .inl v9), (10, .inl (nf_M_entryAt v6 v9)), (11, .inl 0)], [.inl (nn_ri M 408 (mm_w (v6 + 6))), .inl (mm_w (v9 + 1))], M)
      refine mm_s1 rfl ⟨fun c253 => ?_, fun c253 => ?_⟩
      · show mm_Go (mm_run 4) mc_M_mergesIndex _ (322, [(0, .inr (.inr 407)), (1, .inl v1), (3, .inl v3), (4, .inl v4), (5, .inl v5), (6, .inl v6), (7, .inl v7), (8, .inl v8), (9, .inl v9), (10, .inl (nf_M_entryAt v6 v9)), (11, .inl 0)], [], M)
        replace h := h.2.2.2.2.2.2.1 (Or.inl c253)
        exact nn_go_ext (nn_xc rfl (nn_xc rfl (nn_xc rfl (nn_xc rfl (nn_xc rfl (nn_xc rfl (nn_xc rfl (nn_xc rfl (nn_xc rfl (nn_xc rfl (nn_xc rfl nn_xn))))))))))) (h n L N)
      · show mm_Go (mm_run 4) mc_M_mergesIndex _ (256, [(0, .inr (.inr 407)), (1, .inl v1), (3, .inl v3), (4, .inl v4), (5, .inl v5), (6, .inl v6), (7, .inl v7), (8, .inl v8), (9, .inl v9), (10, .inl (nf_M_entryAt v6 v9)), (11, .inl 0)], [], M)
        replace c253 := Int.not_le.mp c253
        refine mm_s1 rfl ?_
        refine nn_getr rfl (nn_c407 NN).1 (lf_13_0 L N (nn_c407 NN)) ?_
        refine mm_s1 rfl ?_
        refine mm_s1 rfl ?_
        refine mm_s1 rfl ?_
        show mm_Go (mm_run 4) mc_M_mergesIndex _ (264, [(0, .inr (.inr 407)), (1, .inl v1), (3, .inl v3), (4, .inl v4), (5, .inl v5), (6, .inl v6), (7, .inl v7), (8, .inl v8), (9, .inl v9), (10, .inl (nf_M_entryAt v6 v9)), (11, .inl 0)], [.inl (mm_w ((nf_M_entryAt v6 v9) + 4)), .inr (.inr 408)], M)
        have b264 := h.1 c253
        refine mm_s1 rfl ⟨nn_bd (na_13_0 NN (nn_c407 NN)) b264, ?_⟩
        show mm_Go (mm_run 4) mc_M_mergesIndex _ (265, [(0, .inr (.inr 407)), (1, .inl v1), (3, .inl v3), (4, .inl v4), (5, .inl v5), (6, .inl v6), (7, .inl v7), (8, .inl v8), (9, .inl v9), (10, .inl (nf_M_entryAt v6 v9)), (11, .inl 0)], [.inl (nn_ri M 408 (mm_w ((nf_M_entryAt v6 v9) + 4)))], M)
        refine mm_s1 rfl ?_
        refine nn_getr rfl (nn_c407 NN).1 (lf_13_0 L N (nn_c407 NN)) ?_
        refine mm_s1 rfl ?_
        have b271 := h.2.1 c253
        refine mm_s1 rfl ⟨nn_bd (na_13_0 NN (nn_c407 NN)) b271, ?_⟩
        show mm_Go (mm_run 4) mc_M_mergesIndex _ (272, [(0, .inr (.inr 407)), (1, .inl v1), (3, .inl v3), (4, .inl v4), (5, .inl v5), (6, .inl v6), (7, .inl v7), (8, .inl v8), (9, .inl v9), (10, .inl (nf_M_entryAt v6 v9)), (11, .inl 0)], [.inl (nn_ri M 408 (nf_M_entryAt v6 v9)), .inl (nn_ri M 408 (mm_w ((nf_M_entryAt v6 v9) + 4)))], M)
        refine mm_s1 rfl ⟨fun c272 => ?_, fun c272 => ?_⟩
        · show mm_Go (mm_run 4) mc_M_mergesIndex _ (322, [(0, .inr (.inr 407)), (1, .inl v1), (3, .inl v3), (4, .inl v4), (5, .inl v5), (6, .inl v6), (7, .inl v7), (8, .inl v8), (9, .inl v9), (10, .inl (nf_M_entryAt v6 v9)), (11, .inl 0)], [], M)
          replace h := h.2.2.2.2.2.2.1 (Or.inr (Or.inl c272))
          exact nn_go_ext (nn_xc rfl (nn_xc rfl (nn_xc rfl (nn_xc rfl (nn_xc rfl (nn_xc rfl (nn_xc rfl (nn_xc rfl (nn_xc rfl (nn_xc rfl (nn_xc rfl nn_xn))))))))))) (h n L N)
        · show mm_Go (mm_run 4) mc_M_mergesIndex _ (275, [(0, .inr (.inr 407)), (1, .inl v1), (3, .inl v3), (4, .inl v4), (5, .inl v5), (6, .inl v6), (7, .inl v7), (8, .inl v8), (9, .inl v9), (10, .inl (nf_M_entryAt v6 v9)), (11, .inl 0)], [], M)
          replace c272 := Decidable.not_not.mp c272
          refine mm_s1 rfl ?_
          refine nn_getr rfl (nn_c407 NN).1 (lf_13_0 L N (nn_c407 NN)) ?_
          refine mm_s1 rfl ?_
          refine mm_s1 rfl ?_
          refine mm_s1 rfl ?_
          show mm_Go (mm_run 4) mc_M_mergesIndex _ (283, [(0, .inr (.inr 407)), (1, .inl v1), (3, .inl v3), (4, .inl v4), (5, .inl v5), (6, .inl v6), (7, .inl v7), (8, .inl v8), (9, .inl v9), (10, .inl (nf_M_entryAt v6 v9)), (11, .inl 0)], [.inl (mm_w ((nf_M_entryAt v6 v9) + 5)), .inr (.inr 408)], M)
          have b283 := h.2.2.1 ⟨c253, c272⟩
          refine mm_s1 rfl ⟨nn_bd (na_13_0 NN (nn_c407 NN)) b283, ?_⟩
          show mm_Go (mm_run 4) mc_M_mergesIndex _ (284, [(0, .inr (.inr 407)), (1, .inl v1), (3, .inl v3), (4, .inl v4), (5, .inl v5), (6, .inl v6), (7, .inl v7), (8, .inl v8), (9, .inl v9), (10, .inl (nf_M_entryAt v6 v9)), (11, .inl 0)], [.inl (nn_ri M 408 (mm_w ((nf_M_entryAt v6 v9) + 5)))], M)
          refine mm_s1 rfl ?_
          refine nn_getr rfl (nn_c407 NN).1 (lf_13_0 L N (nn_c407 NN)) ?_
          refine mm_s1 rfl ?_
          refine mm_s1 rfl ?_
          refine mm_s1 rfl ?_
          show mm_Go (mm_run 4) mc_M_mergesIndex _ (292, [(0, .inr (.inr 407)), (1, .inl v1), (3, .inl v3), (4, .inl v4), (5, .inl v5), (6, .inl v6), (7, .inl v7), (8, .inl v8), (9, .inl v9), (10, .inl (nf_M_entryAt v6 v9)), (11, .inl 0)], [.inl (mm_w ((nf_M_entryAt v6 v9) + 1)), .inr (.inr 408), .inl (nn_ri M 408 (mm_w ((nf_M_entryAt v6 v9) + 5)))], M)
          have b292 := h.2.2.2.1 ⟨c253, c272⟩
          refine mm_s1 rfl ⟨nn_bd (na_13_0 NN (nn_c407 NN)) b292, ?_⟩
          show mm_Go (mm_run 4) mc_M_mergesIndex _ (293, [(0, .inr (.inr 407)), (1, .inl v1), (3, .inl v3), (4, .inl v4), (5, .inl v5), (6, .inl v6), (7, .inl v7), (8, .inl v8), (9, .inl v9), (10, .inl (nf_M_entryAt v6 v9)), (11, .inl 0)], [.inl (nn_ri M 408 (mm_w ((nf_M_entryAt v6 v9) + 1))), .inl (nn_ri M 408 (mm_w ((nf_M_entryAt v6 v9) + 5)))], M)
          refine mm_s1 rfl ⟨fun c293 => ?_, fun c293 => ?_⟩
          · show mm_Go (mm_run 4) mc_M_mergesIndex _ (322, [(0, .inr (.inr 407)), (1, .inl v1), (3, .inl v3), (4, .inl v4), (5, .inl v5), (6, .inl v6), (7, .inl v7), (8, .inl v8), (9, .inl v9), (10, .inl (nf_M_entryAt v6 v9)), (11, .inl 0)], [], M)
            replace h := h.2.2.2.2.2.2.1 (Or.inr (Or.inr (Or.inl c293)))
            exact nn_go_ext (nn_xc rfl (nn_xc rfl (nn_xc rfl (nn_xc rfl (nn_xc rfl (nn_xc rfl (nn_xc rfl (nn_xc rfl (nn_xc rfl (nn_xc rfl (nn_xc rfl nn_xn))))))))))) (h n L N)
          · show mm_Go (mm_run 4) mc_M_mergesIndex _ (296, [(0, .inr (.inr 407)), (1, .inl v1), (3, .inl v3), (4, .inl v4), (5, .inl v5), (6, .inl v6), (7, .inl v7), (8, .inl v8), (9, .inl v9), (10, .inl (nf_M_entryAt v6 v9)), (11, .inl 0)], [], M)
            replace c293 := Decidable.not_not.mp c293
            refine mm_s1 rfl ?_
            refine nn_getr rfl (nn_c407 NN).1 (lf_13_0 L N (nn_c407 NN)) ?_
            refine mm_s1 rfl ?_
            refine mm_s1 rfl ?_
            refine mm_s1 rfl ?_
            show mm_Go (mm_run 4) mc_M_mergesIndex _ (305, [(0, .inr (.inr 407)), (1, .inl v1), (3, .inl v3), (4, .inl v4), (5, .inl v5), (6, .inl v6), (7, .inl v7), (8, .inl v8), (9, .inl v9), (10, .inl (nf_M_entryAt v6 v9)), (11, .inl 0)], [.inl (mm_w ((nf_M_entryAt v6 v9) + 6)), .inr (.inr 408)], M)
            have b305 := h.2.2.2.2.1 ⟨c253, c272, c293⟩
            refine mm_s1 rfl ⟨nn_bd (na_13_0 NN (nn_c407 NN)) b305, ?_⟩
            show mm_Go (mm_run 4) mc_M_mergesIndex _ (306, [(0, .inr (.inr 407)), (1, .inl v1), (3, .inl v3), (4, .inl v4), (5, .inl v5), (6, .inl v6), (7, .inl v7), (8, .inl v8), (9, .inl v9), (10, .inl (nf_M_entryAt v6 v9)), (11, .inl 0)], [.inl (nn_ri M 408 (mm_w ((nf_M_entryAt v6 v9) + 6)))], M)
            refine mm_s1 rfl ?_
            refine nn_getr rfl (nn_c407 NN).1 (lf_13_0 L N (nn_c407 NN)) ?_
            refine mm_s1 rfl ?_
            refine mm_s1 rfl ?_
            refine mm_s1 rfl ?_
            show mm_Go (mm_run 4) mc_M_mergesIndex _ (314, [(0, .inr (.inr 407)), (1, .inl v1), (3, .inl v3), (4, .inl v4), (5, .inl v5), (6, .inl v6), (7, .inl v7), (8, .inl v8), (9, .inl v9), (10, .inl (nf_M_entryAt v6 v9)), (11, .inl 0)], [.inl (mm_w ((nf_M_entryAt v6 v9) + 2)), .inr (.inr 408), .inl (nn_ri M 408 (mm_w ((nf_M_entryAt v6 v9) + 6)))], M)
            have b314 := h.2.2.2.2.2.1 ⟨c253, c272, c293⟩
            refine mm_s1 rfl ⟨nn_bd (na_13_0 NN (nn_c407 NN)) b314, ?_⟩
            show mm_Go (mm_run 4) mc_M_mergesIndex _ (315, [(0, .inr (.inr 407)), (1, .inl v1), (3, .inl v3), (4, .inl v4), (5, .inl v5), (6, .inl v6), (7, .inl v7), (8, .inl v8), (9, .inl v9), (10, .inl (nf_M_entryAt v6 v9)), (11, .inl 0)], [.inl (nn_ri M 408 (mm_w ((nf_M_entryAt v6 v9) + 2))), .inl (nn_ri M 408 (mm_w ((nf_M_entryAt v6 v9) + 6)))], M)
            refine mm_s1 rfl ⟨fun c315 => ?_, fun c315 => ?_⟩
            · show mm_Go (mm_run 4) mc_M_mergesIndex _ (322, [(0, .inr (.inr 407)), (1, .inl v1), (3, .inl v3), (4, .inl v4), (5, .inl v5), (6, .inl v6), (7, .inl v7), (8, .inl v8), (9, .inl v9), (10, .inl (nf_M_entryAt v6 v9)), (11, .inl 0)], [], M)
              replace h := h.2.2.2.2.2.2.1 (Or.inr (Or.inr (Or.inr c315)))
              exact nn_go_ext (nn_xc rfl (nn_xc rfl (nn_xc rfl (nn_xc rfl (nn_xc rfl (nn_xc rfl (nn_xc rfl (nn_xc rfl (nn_xc rfl (nn_xc rfl (nn_xc rfl nn_xn))))))))))) (h n L N)
            · show mm_Go (mm_run 4) mc_M_mergesIndex _ (318, [(0, .inr (.inr 407)), (1, .inl v1), (3, .inl v3), (4, .inl v4), (5, .inl v5), (6, .inl v6), (7, .inl v7), (8, .inl v8), (9, .inl v9), (10, .inl (nf_M_entryAt v6 v9)), (11, .inl 0)], [], M)
              replace c315 := Decidable.not_not.mp c315
              refine mm_s1 rfl ?_
              refine mm_s1 rfl ?_
              show mm_Go (mm_run 4) mc_M_mergesIndex _ (323, [(0, .inr (.inr 407)), (1, .inl v1), (3, .inl v3), (4, .inl v4), (5, .inl v5), (6, .inl v6), (7, .inl v7), (8, .inl v8), (9, .inl v9), (10, .inl (nf_M_entryAt v6 v9)), (11, .inl 0)], [.inl 1], M)
              refine mm_s1 rfl ?_
              show mm_Go (mm_run 4) mc_M_mergesIndex _ (325, [(0, .inr (.inr 407)), (1, .inl v1), (3, .inl v3), (4, .inl v4), (5, .inl v5), (6, .inl v6), (7, .inl v7), (8, .inl v8), (9, .inl v9), (10, .inl (nf_M_entryAt v6 v9)), (11, .inl 0), (12, .inl 1)], [], M)
              refine mm_s1 rfl ?_
              refine mm_s1 rfl ⟨fun _ => ?_, fun c => absurd (show (0 : Int) = 0 by decide) c⟩
              show mm_Go (mm_run 4) mc_M_mergesIndex _ (358, [(0, .inr (.inr 407)), (1, .inl v1), (3, .inl v3), (4, .inl v4), (5, .inl v5), (6, .inl v6), (7, .inl v7), (8, .inl v8), (9, .inl v9), (10, .inl (nf_M_entryAt v6 v9)), (11, .inl 0), (12, .inl 1)], [], M)
              refine mm_s1 rfl ?_
              show mm_Go (mm_run 4) mc_M_mergesIndex _ (361, [(0, .inr (.inr 407)), (1, .inl v1), (3, .inl v3), (4, .inl v4), (5, .inl v5), (6, .inl v6), (7, .inl v7), (8, .inl v8), (9, .inl (mm_w (v9 + (-1)))), (10, .inl (nf_M_entryAt v6 v9)), (11, .inl 0), (12, .inl 1)], [], M)
              refine mm_s1 rfl ?_
              show mm_Go (mm_run 4) mc_M_mergesIndex _ (205, [(0, .inr (.inr 407)), (1, .inl v1), (3, .inl v3), (4, .inl v4), (5, .inl v5), (6, .inl v6), (7, .inl v7), (8, .inl v8), (9, .inl (mm_w (v9 + (-1)))), (10, .inl (nf_M_entryAt v6 v9)), (11, .inl 0), (12, .inl 1)], [], M)
              replace h := h.2.2.2.2.2.2.2 ⟨c253, ⟨c272, ⟨c293, c315⟩⟩⟩
              exact nn_go_ext (nn_xc rfl (nn_xc rfl (nn_xc rfl (nn_xc rfl (nn_xc rfl (nn_xc rfl (nn_xc rfl (nn_xc rfl (nn_xc rfl nn_xn))))))))) (h n L N)
    · show mm_Go (mm_run 4) mc_M_mergesIndex _ (232, [(0, .inr (.inr 407)), (1, .inl v1), (3, .inl v3), (4, .inl v4), (5, .inl v5), (6, .inl v6), (7, .inl v7), (8, .inl v8), (9, .inl v9), (10, .inl (nf_M_entryAt v6 v9))], [], M)
      replace c229 := Decidable.not_not.mp c229
      replace h := h.2 c229
      refine mm_s1 rfl ?_
      refine mm_s1 rfl ?_
      show mm_Go (mm_run 4) mc_M_mergesIndex _ (237, [(0, .inr (.inr 407)), (1, .inl v1), (3, .inl v3), (4, .inl v4), (5, .inl v5), (6, .inl v6), (7, .inl v7), (8, .inl v8), (9, .inl v9), (10, .inl (nf_M_entryAt v6 v9))], [.inl 1], M)
      refine mm_s1 rfl ?_
      show mm_Go (mm_run 4) mc_M_mergesIndex _ (239, [(0, .inr (.inr 407)), (1, .inl v1), (3, .inl v3), (4, .inl v4), (5, .inl v5), (6, .inl v6), (7, .inl v7), (8, .inl v8), (9, .inl v9), (10, .inl (nf_M_entryAt v6 v9)), (11, .inl 1)], [], M)
      refine mm_s1 rfl ?_
      refine mm_s1 rfl ?_
      refine mm_s1 rfl ?_
      refine mm_s1 rfl ?_
      refine nn_getr rfl (nn_c407 NN).1 (lf_13_0 L N (nn_c407 NN)) ?_
      show mm_Go (mm_run 4) mc_M_mergesIndex _ (247, [(0, .inr (.inr 407)), (1, .inl v1), (3, .inl v3), (4, .inl v4), (5, .inl v5), (6, .inl v6), (7, .inl v7), (8, .inl v8), (9, .inl v9), (10, .inl (nf_M_entryAt v6 v9)), (11, .inl 1)], [.inr (.inr 408), .inl (mm_w (v9 + 1))], M)
      refine mm_s1 rfl ?_
      refine mm_s1 rfl ?_
      refine mm_s1 rfl ?_
      obtain ⟨b252, h⟩ := h
      refine mm_s1 rfl ⟨nn_bd (na_13_0 NN (nn_c407 NN)) b252, ?_⟩
      show mm_Go (mm_run 4) mc_M_mergesIndex _ (253, [(0, .inr (.inr 407)), (1, .inl v1), (3, .inl v3), (4, .inl v4), (5, .inl v5), (6, .inl v6), (7, .inl v7), (8, .inl v8), (9, .inl v9), (10, .inl (nf_M_entryAt v6 v9)), (11, .inl 1)], [.inl (nn_ri M 408 (mm_w (v6 + 6))), .inl (mm_w (v9 + 1))], M)
      refine mm_s1 rfl ⟨fun c253 => ?_, fun c253 => ?_⟩
      · show mm_Go (mm_run 4) mc_M_mergesIndex _ (322, [(0, .inr (.inr 407)), (1, .inl v1), (3, .inl v3), (4, .inl v4), (5, .inl v5), (6, .inl v6), (7, .inl v7), (8, .inl v8), (9, .inl v9), (10, .inl (nf_M_entryAt v6 v9)), (11, .inl 1)], [], M)
        replace h := h.2.2.2.2.2.2.1 (Or.inl c253)
        exact nn_go_ext (nn_xc rfl (nn_xc rfl (nn_xc rfl (nn_xc rfl (nn_xc rfl (nn_xc rfl (nn_xc rfl (nn_xc rfl (nn_xc rfl (nn_xc rfl (nn_xc rfl nn_xn))))))))))) (h n L N)
      · show mm_Go (mm_run 4) mc_M_mergesIndex _ (256, [(0, .inr (.inr 407)), (1, .inl v1), (3, .inl v3), (4, .inl v4), (5, .inl v5), (6, .inl v6), (7, .inl v7), (8, .inl v8), (9, .inl v9), (10, .inl (nf_M_entryAt v6 v9)), (11, .inl 1)], [], M)
        replace c253 := Int.not_le.mp c253
        refine mm_s1 rfl ?_
        refine nn_getr rfl (nn_c407 NN).1 (lf_13_0 L N (nn_c407 NN)) ?_
        refine mm_s1 rfl ?_
        refine mm_s1 rfl ?_
        refine mm_s1 rfl ?_
        show mm_Go (mm_run 4) mc_M_mergesIndex _ (264, [(0, .inr (.inr 407)), (1, .inl v1), (3, .inl v3), (4, .inl v4), (5, .inl v5), (6, .inl v6), (7, .inl v7), (8, .inl v8), (9, .inl v9), (10, .inl (nf_M_entryAt v6 v9)), (11, .inl 1)], [.inl (mm_w ((nf_M_entryAt v6 v9) + 4)), .inr (.inr 408)], M)
        have b264 := h.1 c253
        refine mm_s1 rfl ⟨nn_bd (na_13_0 NN (nn_c407 NN)) b264, ?_⟩
        show mm_Go (mm_run 4) mc_M_mergesIndex _ (265, [(0, .inr (.inr 407)), (1, .inl v1), (3, .inl v3), (4, .inl v4), (5, .inl v5), (6, .inl v6), (7, .inl v7), (8, .inl v8), (9, .inl v9), (10, .inl (nf_M_entryAt v6 v9)), (11, .inl 1)], [.inl (nn_ri M 408 (mm_w ((nf_M_entryAt v6 v9) + 4)))], M)
        refine mm_s1 rfl ?_
        refine nn_getr rfl (nn_c407 NN).1 (lf_13_0 L N (nn_c407 NN)) ?_
        refine mm_s1 rfl ?_
        have b271 := h.2.1 c253
        refine mm_s1 rfl ⟨nn_bd (na_13_0 NN (nn_c407 NN)) b271, ?_⟩
        show mm_Go (mm_run 4) mc_M_mergesIndex _ (272, [(0, .inr (.inr 407)), (1, .inl v1), (3, .inl v3), (4, .inl v4), (5, .inl v5), (6, .inl v6), (7, .inl v7), (8, .inl v8), (9, .inl v9), (10, .inl (nf_M_entryAt v6 v9)), (11, .inl 1)], [.inl (nn_ri M 408 (nf_M_entryAt v6 v9)), .inl (nn_ri M 408 (mm_w ((nf_M_entryAt v6 v9) + 4)))], M)
        refine mm_s1 rfl ⟨fun c272 => ?_, fun c272 => ?_⟩
        · show mm_Go (mm_run 4) mc_M_mergesIndex _ (322, [(0, .inr (.inr 407)), (1, .inl v1), (3, .inl v3), (4, .inl v4), (5, .inl v5), (6, .inl v6), (7, .inl v7), (8, .inl v8), (9, .inl v9), (10, .inl (nf_M_entryAt v6 v9)), (11, .inl 1)], [], M)
          replace h := h.2.2.2.2.2.2.1 (Or.inr (Or.inl c272))
          exact nn_go_ext (nn_xc rfl (nn_xc rfl (nn_xc rfl (nn_xc rfl (nn_xc rfl (nn_xc rfl (nn_xc rfl (nn_xc rfl (nn_xc rfl (nn_xc rfl (nn_xc rfl nn_xn))))))))))) (h n L N)
        · show mm_Go (mm_run 4) mc_M_mergesIndex _ (275, [(0, .inr (.inr 407)), (1, .inl v1), (3, .inl v3), (4, .inl v4), (5, .inl v5), (6, .inl v6), (7, .inl v7), (8, .inl v8), (9, .inl v9), (10, .inl (nf_M_entryAt v6 v9)), (11, .inl 1)], [], M)
          replace c272 := Decidable.not_not.mp c272
          refine mm_s1 rfl ?_
          refine nn_getr rfl (nn_c407 NN).1 (lf_13_0 L N (nn_c407 NN)) ?_
          refine mm_s1 rfl ?_
          refine mm_s1 rfl ?_
          refine mm_s1 rfl ?_
          show mm_Go (mm_run 4) mc_M_mergesIndex _ (283, [(0, .inr (.inr 407)), (1, .inl v1), (3, .inl v3), (4, .inl v4), (5, .inl v5), (6, .inl v6), (7, .inl v7), (8, .inl v8), (9, .inl v9), (10, .inl (nf_M_entryAt v6 v9)), (11, .inl 1)], [.inl (mm_w ((nf_M_entryAt v6 v9) + 5)), .inr (.inr 408)], M)
          have b283 := h.2.2.1 ⟨c253, c272⟩
          refine mm_s1 rfl ⟨nn_bd (na_13_0 NN (nn_c407 NN)) b283, ?_⟩
          show mm_Go (mm_run 4) mc_M_mergesIndex _ (284, [(0, .inr (.inr 407)), (1, .inl v1), (3, .inl v3), (4, .inl v4), (5, .inl v5), (6, .inl v6), (7, .inl v7), (8, .inl v8), (9, .inl v9), (10, .inl (nf_M_entryAt v6 v9)), (11, .inl 1)], [.inl (nn_ri M 408 (mm_w ((nf_M_entryAt v6 v9) + 5)))], M)
          refine mm_s1 rfl ?_
          refine nn_getr rfl (nn_c407 NN).1 (lf_13_0 L N (nn_c407 NN)) ?_
          refine mm_s1 rfl ?_
          refine mm_s1 rfl ?_
          refine mm_s1 rfl ?_
          show mm_Go (mm_run 4) mc_M_mergesIndex _ (292, [(0, .inr (.inr 407)), (1, .inl v1), (3, .inl v3), (4, .inl v4), (5, .inl v5), (6, .inl v6), (7, .inl v7), (8, .inl v8), (9, .inl v9), (10, .inl (nf_M_entryAt v6 v9)), (11, .inl 1)], [.inl (mm_w ((nf_M_entryAt v6 v9) + 1)), .inr (.inr 408), .inl (nn_ri M 408 (mm_w ((nf_M_entryAt v6 v9) + 5)))], M)
          have b292 := h.2.2.2.1 ⟨c253, c272⟩
          refine mm_s1 rfl ⟨nn_bd (na_13_0 NN (nn_c407 NN)) b292, ?_⟩
          show mm_Go (mm_run 4) mc_M_mergesIndex _ (293, [(0, .inr (.inr 407)), (1, .inl v1), (3, .inl v3), (4, .inl v4), (5, .inl v5), (6, .inl v6), (7, .inl v7), (8, .inl v8), (9, .inl v9), (10, .inl (nf_M_entryAt v6 v9)), (11, .inl 1)], [.inl (nn_ri M 408 (mm_w ((nf_M_entryAt v6 v9) + 1))), .inl (nn_ri M 408 (mm_w ((nf_M_entryAt v6 v9) + 5)))], M)
          refine mm_s1 rfl ⟨fun c293 => ?_, fun c293 => ?_⟩
          · show mm_Go (mm_run 4) mc_M_mergesIndex _ (322, [(0, .inr (.inr 407)), (1, .inl v1), (3, .inl v3), (4, .inl v4), (5, .inl v5), (6, .inl v6), (7, .inl v7), (8, .inl v8), (9, .inl v9), (10, .inl (nf_M_entryAt v6 v9)), (11, .inl 1)], [], M)
            replace h := h.2.2.2.2.2.2.1 (Or.inr (Or.inr (Or.inl c293)))
            exact nn_go_ext (nn_xc rfl (nn_xc rfl (nn_xc rfl (nn_xc rfl (nn_xc rfl (nn_xc rfl (nn_xc rfl (nn_xc rfl (nn_xc rfl (nn_xc rfl (nn_xc rfl nn_xn))))))))))) (h n L N)
          · show mm_Go (mm_run 4) mc_M_mergesIndex _ (296, [(0, .inr (.inr 407)), (1, .inl v1), (3, .inl v3), (4, .inl v4), (5, .inl v5), (6, .inl v6), (7, .inl v7), (8, .inl v8), (9, .inl v9), (10, .inl (nf_M_entryAt v6 v9)), (11, .inl 1)], [], M)
            replace c293 := Decidable.not_not.mp c293
            refine mm_s1 rfl ?_
            refine nn_getr rfl (nn_c407 NN).1 (lf_13_0 L N (nn_c407 NN)) ?_
            refine mm_s1 rfl ?_
            refine mm_s1 rfl ?_
            refine mm_s1 rfl ?_
            show mm_Go (mm_run 4) mc_M_mergesIndex _ (305, [(0, .inr (.inr 407)), (1, .inl v1), (3, .inl v3), (4, .inl v4), (5, .inl v5), (6, .inl v6), (7, .inl v7), (8, .inl v8), (9, .inl v9), (10, .inl (nf_M_entryAt v6 v9)), (11, .inl 1)], [.inl (mm_w ((nf_M_entryAt v6 v9) + 6)), .inr (.inr 408)], M)
            have b305 := h.2.2.2.2.1 ⟨c253, c272, c293⟩
            refine mm_s1 rfl ⟨nn_bd (na_13_0 NN (nn_c407 NN)) b305, ?_⟩
            show mm_Go (mm_run 4) mc_M_mergesIndex _ (306, [(0, .inr (.inr 407)), (1, .inl v1), (3, .inl v3), (4, .inl v4), (5, .inl v5), (6, .inl v6), (7, .inl v7), (8, .inl v8), (9, .inl v9), (10, .inl (nf_M_entryAt v6 v9)), (11, .inl 1)], [.inl (nn_ri M 408 (mm_w ((nf_M_entryAt v6 v9) + 6)))], M)
            refine mm_s1 rfl ?_
            refine nn_getr rfl (nn_c407 NN).1 (lf_13_0 L N (nn_c407 NN)) ?_
            refine mm_s1 rfl ?_
            refine mm_s1 rfl ?_
            refine mm_s1 rfl ?_
            show mm_Go (mm_run 4) mc_M_mergesIndex _ (314, [(0, .inr (.inr 407)), (1, .inl v1), (3, .inl v3), (4, .inl v4), (5, .inl v5), (6, .inl v6), (7, .inl v7), (8, .inl v8), (9, .inl v9), (10, .inl (nf_M_entryAt v6 v9)), (11, .inl 1)], [.inl (mm_w ((nf_M_entryAt v6 v9) + 2)), .inr (.inr 408), .inl (nn_ri M 408 (mm_w ((nf_M_entryAt v6 v9) + 6)))], M)
            have b314 := h.2.2.2.2.2.1 ⟨c253, c272, c293⟩
            refine mm_s1 rfl ⟨nn_bd (na_13_0 NN (nn_c407 NN)) b314, ?_⟩
            show mm_Go (mm_run 4) mc_M_mergesIndex _ (315, [(0, .inr (.inr 407)), (1, .inl v1), (3, .inl v3), (4, .inl v4), (5, .inl v5), (6, .inl v6), (7, .inl v7), (8, .inl v8), (9, .inl v9), (10, .inl (nf_M_entryAt v6 v9)), (11, .inl 1)], [.inl (nn_ri M 408 (mm_w ((nf_M_entryAt v6 v9) + 2))), .inl (nn_ri M 408 (mm_w ((nf_M_entryAt v6 v9) + 6)))], M)
            refine mm_s1 rfl ⟨fun c315 => ?_, fun c315 => ?_⟩
            · show mm_Go (mm_run 4) mc_M_mergesIndex _ (322, [(0, .inr (.inr 407)), (1, .inl v1), (3, .inl v3), (4, .inl v4), (5, .inl v5), (6, .inl v6), (7, .inl v7), (8, .inl v8), (9, .inl v9), (10, .inl (nf_M_entryAt v6 v9)), (11, .inl 1)], [], M)
              replace h := h.2.2.2.2.2.2.1 (Or.inr (Or.inr (Or.inr c315)))
              exact nn_go_ext (nn_xc rfl (nn_xc rfl (nn_xc rfl (nn_xc rfl (nn_xc rfl (nn_xc rfl (nn_xc rfl (nn_xc rfl (nn_xc rfl (nn_xc rfl (nn_xc rfl nn_xn))))))))))) (h n L N)
            · show mm_Go (mm_run 4) mc_M_mergesIndex _ (318, [(0, .inr (.inr 407)), (1, .inl v1), (3, .inl v3), (4, .inl v4), (5, .inl v5), (6, .inl v6), (7, .inl v7), (8, .inl v8), (9, .inl v9), (10, .inl (nf_M_entryAt v6 v9)), (11, .inl 1)], [], M)
              replace c315 := Decidable.not_not.mp c315
              refine mm_s1 rfl ?_
              refine mm_s1 rfl ?_
              show mm_Go (mm_run 4) mc_M_mergesIndex _ (323, [(0, .inr (.inr 407)), (1, .inl v1), (3, .inl v3), (4, .inl v4), (5, .inl v5), (6, .inl v6), (7, .inl v7), (8, .inl v8), (9, .inl v9), (10, .inl (nf_M_entryAt v6 v9)), (11, .inl 1)], [.inl 1], M)
              refine mm_s1 rfl ?_
              show mm_Go (mm_run 4) mc_M_mergesIndex _ (325, [(0, .inr (.inr 407)), (1, .inl v1), (3, .inl v3), (4, .inl v4), (5, .inl v5), (6, .inl v6), (7, .inl v7), (8, .inl v8), (9, .inl v9), (10, .inl (nf_M_entryAt v6 v9)), (11, .inl 1), (12, .inl 1)], [], M)
              refine mm_s1 rfl ?_
              refine mm_s1 rfl ⟨fun c => absurd c (show ¬ ((1 : Int) = 0) by decide), fun _ => ?_⟩
              show mm_Go (mm_run 4) mc_M_mergesIndex _ (330, [(0, .inr (.inr 407)), (1, .inl v1), (3, .inl v3), (4, .inl v4), (5, .inl v5), (6, .inl v6), (7, .inl v7), (8, .inl v8), (9, .inl v9), (10, .inl (nf_M_entryAt v6 v9)), (11, .inl 1), (12, .inl 1)], [], M)
              refine mm_s1 rfl ?_
              refine mm_s1 rfl ⟨fun _ => ?_, fun c => absurd (show (1 : Int) ≠ 0 by decide) c⟩
              show mm_Go (mm_run 4) mc_M_mergesIndex _ (350, [(0, .inr (.inr 407)), (1, .inl v1), (3, .inl v3), (4, .inl v4), (5, .inl v5), (6, .inl v6), (7, .inl v7), (8, .inl v8), (9, .inl v9), (10, .inl (nf_M_entryAt v6 v9)), (11, .inl 1), (12, .inl 1)], [], M)
              replace h := h.2.2.2.2.2.2.2 ⟨c253, ⟨c272, ⟨c293, c315⟩⟩⟩
              exact nn_go_ext (nn_xc rfl (nn_xc rfl (nn_xc rfl (nn_xc rfl (nn_xc rfl (nn_xc rfl (nn_xc rfl (nn_xc rfl (nn_xc rfl nn_xn))))))))) (h n L N)
set_option maxRecDepth 20000 in
theorem ng_M_mergesIndex_372 (v1 : Int) (v3 : Int) (v5 : Int) (v6 : Int) (v7 : Int) (v8 : Int) (v9 : Int) (M : mm_M) (R : mm_M → Prop) (h : ((v9 ≤ v3 → ((v8 = 0 → (nr_M_lays v1 v6 v3 v5 v7 M (fun M417 => (nr_M_entriesOf v6 (mm_w (v3 + 1)) M417 (fun r426 M426 => ((r426 ≠ 0 → R M426) ∧ (r426 = 0 → (nr_M_runGoes v6 v3 M426 (fun M436 => R M436))))))))) ∧ (v8 ≠ 0 → (((0 : Int) ≤ (mm_w (v1 + 0)) ∧ (mm_w (v1 + 0)) < (32844 : Int)) ∧ (nr_M_lays v1 v6 v3 v5 (nn_ri M 408 (mm_w (v1 + 0))) M (fun M417 => (nr_M_entriesOf v6 (mm_w (v3 + 1)) M417 (fun r426 M426 => ((r426 ≠ 0 → R M426) ∧ (r426 = 0 → (nr_M_runGoes v6 v3 M426 (fun M436 => R M436)))))))))))) ∧ (v3 < v9 → (nr_M_runGoes v6 v9 M (fun M383 => nk_M_mergesIndex_372 v1 v3 v5 v6 v7 v8 (mm_w (v9 + (-1))) M383 R))))) : nk_M_mergesIndex_372 v1 v3 v5 v6 v7 v8 v9 M R := by
  intro n L N 
  have NN := nn_L_n L N
  show mm_Go (mm_run 4) mc_M_mergesIndex _ (372, [(0, .inr (.inr 407)), (1, .inl v1), (3, .inl v3), (5, .inl v5), (6, .inl v6), (7, .inl v7), (8, .inl v8), (9, .inl v9)], [], M)
  refine mm_s1 rfl ?_
  refine mm_s1 rfl ?_
  refine mm_s1 rfl ⟨fun c375 => ?_, fun c375 => ?_⟩
  · show mm_Go (mm_run 4) mc_M_mergesIndex _ (392, [(0, .inr (.inr 407)), (1, .inl v1), (3, .inl v3), (5, .inl v5), (6, .inl v6), (7, .inl v7), (8, .inl v8), (9, .inl v9)], [], M)
    replace h := h.1 c375
    refine mm_s1 rfl ?_
    refine mm_s1 rfl ?_
    refine mm_s1 rfl ?_
    refine mm_s1 rfl ?_
    refine mm_s1 rfl ?_
    show mm_Go (mm_run 4) mc_M_mergesIndex _ (399, [(0, .inr (.inr 407)), (1, .inl v1), (3, .inl v3), (5, .inl v5), (6, .inl v6), (7, .inl v7), (8, .inl v8), (9, .inl v9)], [.inl v5, .inl v3, .inl v6, .inl v1, .inr (.inr 407)], M)
    refine mm_s1 rfl ?_
    refine mm_s1 rfl ⟨fun c401 => ?_, fun c401 => ?_⟩
    · show mm_Go (mm_run 4) mc_M_mergesIndex _ (415, [(0, .inr (.inr 407)), (1, .inl v1), (3, .inl v3), (5, .inl v5), (6, .inl v6), (7, .inl v7), (8, .inl v8), (9, .inl v9)], [.inl v5, .inl v3, .inl v6, .inl v1, .inr (.inr 407)], M)
      replace h := h.1 c401
      refine mm_s1 rfl ?_
      refine mm_s1 rfl ⟨(nn_c407 NN).1, ?_⟩
      refine nn_call (D := 2) (by decide) (h n L N) ?_
      intro v M417 q; clear L N h
      obtain ⟨rfl, L, N, h⟩ := q
      show mm_Go (mm_run 4) mc_M_mergesIndex _ (420, [(0, .inr (.inr 407)), (1, .inl v1), (3, .inl v3), (5, .inl v5), (6, .inl v6), (7, .inl v7), (8, .inl v8), (9, .inl v9)], [], M417)
      refine mm_s1 rfl ?_
      refine mm_s1 rfl ?_
      refine mm_s1 rfl ?_
      refine mm_s1 rfl ?_
      refine mm_s1 rfl ?_
      show mm_Go (mm_run 4) mc_M_mergesIndex _ (426, [(0, .inr (.inr 407)), (1, .inl v1), (3, .inl v3), (5, .inl v5), (6, .inl v6), (7, .inl v7), (8, .inl v8), (9, .inl v9)], [.inl (mm_w (v3 + 1)), .inl v6, .inr (.inr 407)], M417)
      refine mm_s1 rfl ⟨(nn_c407 NN).1, ?_⟩
      refine nn_call (D := 2) (by decide) (h n L N) ?_
      intro v M426 q; clear L N h
      obtain ⟨r426, rfl, L, N, h⟩ := q
      show mm_Go (mm_run 4) mc_M_mergesIndex _ (429, [(0, .inr (.inr 407)), (1, .inl v1), (3, .inl v3), (5, .inl v5), (6, .inl v6), (7, .inl v7), (8, .inl v8), (9, .inl v9)], [.inl r426], M426)
      refine mm_s1 rfl ⟨fun c429 => ?_, fun c429 => ?_⟩
      · show mm_Go (mm_run 4) mc_M_mergesIndex _ (439, [(0, .inr (.inr 407)), (1, .inl v1), (3, .inl v3), (5, .inl v5), (6, .inl v6), (7, .inl v7), (8, .inl v8), (9, .inl v9)], [], M426)
        replace h := h.1 c429
        exact mm_s1 rfl ⟨rfl, L, N, h⟩
      · show mm_Go (mm_run 4) mc_M_mergesIndex _ (432, [(0, .inr (.inr 407)), (1, .inl v1), (3, .inl v3), (5, .inl v5), (6, .inl v6), (7, .inl v7), (8, .inl v8), (9, .inl v9)], [], M426)
        replace c429 := Decidable.not_not.mp c429
        replace h := h.2 c429
        refine mm_s1 rfl ?_
        refine mm_s1 rfl ?_
        refine mm_s1 rfl ?_
        refine mm_s1 rfl ⟨(nn_c407 NN).1, ?_⟩
        refine nn_call (D := 2) (by decide) (h n L N) ?_
        intro v M436 q; clear L N h
        obtain ⟨rfl, L, N, h⟩ := q
        show mm_Go (mm_run 4) mc_M_mergesIndex _ (439, [(0, .inr (.inr 407)), (1, .inl v1), (3, .inl v3), (5, .inl v5), (6, .inl v6), (7, .inl v7), (8, .inl v8), (9, .inl v9)], [], M436)
        exact mm_s1 rfl ⟨rfl, L, N, h⟩
    · show mm_Go (mm_run 4) mc_M_mergesIndex _ (404, [(0, .inr (.inr 407)), (1, .inl v1), (3, .inl v3), (5, .inl v5), (6, .inl v6), (7, .inl v7), (8, .inl v8), (9, .inl v9)], [.inl v5, .inl v3, .inl v6, .inl v1, .inr (.inr 407)], M)
      replace h := h.2 c401
      refine mm_s1 rfl ?_
      refine nn_getr rfl (nn_c407 NN).1 (lf_13_0 L N (nn_c407 NN)) ?_
      refine mm_s1 rfl ?_
      refine mm_s1 rfl ?_
      refine mm_s1 rfl ?_
      show mm_Go (mm_run 4) mc_M_mergesIndex _ (411, [(0, .inr (.inr 407)), (1, .inl v1), (3, .inl v3), (5, .inl v5), (6, .inl v6), (7, .inl v7), (8, .inl v8), (9, .inl v9)], [.inl (mm_w (v1 + 0)), .inr (.inr 408), .inl v5, .inl v3, .inl v6, .inl v1, .inr (.inr 407)], M)
      obtain ⟨b411, h⟩ := h
      refine mm_s1 rfl ⟨nn_bd (na_13_0 NN (nn_c407 NN)) b411, ?_⟩
      show mm_Go (mm_run 4) mc_M_mergesIndex _ (412, [(0, .inr (.inr 407)), (1, .inl v1), (3, .inl v3), (5, .inl v5), (6, .inl v6), (7, .inl v7), (8, .inl v8), (9, .inl v9)], [.inl (nn_ri M 408 (mm_w (v1 + 0))), .inl v5, .inl v3, .inl v6, .inl v1, .inr (.inr 407)], M)
      refine mm_s1 rfl ?_
      show mm_Go (mm_run 4) mc_M_mergesIndex _ (417, [(0, .inr (.inr 407)), (1, .inl v1), (3, .inl v3), (5, .inl v5), (6, .inl v6), (7, .inl v7), (8, .inl v8), (9, .inl v9)], [.inl (nn_ri M 408 (mm_w (v1 + 0))), .inl v5, .inl v3, .inl v6, .inl v1, .inr (.inr 407)], M)
      refine mm_s1 rfl ⟨(nn_c407 NN).1, ?_⟩
      refine nn_call (D := 2) (by decide) (h n L N) ?_
      intro v M417 q; clear L N h
      obtain ⟨rfl, L, N, h⟩ := q
      show mm_Go (mm_run 4) mc_M_mergesIndex _ (420, [(0, .inr (.inr 407)), (1, .inl v1), (3, .inl v3), (5, .inl v5), (6, .inl v6), (7, .inl v7), (8, .inl v8), (9, .inl v9)], [], M417)
      refine mm_s1 rfl ?_
      refine mm_s1 rfl ?_
      refine mm_s1 rfl ?_
      refine mm_s1 rfl ?_
      refine mm_s1 rfl ?_
      show mm_Go (mm_run 4) mc_M_mergesIndex _ (426, [(0, .inr (.inr 407)), (1, .inl v1), (3, .inl v3), (5, .inl v5), (6, .inl v6), (7, .inl v7), (8, .inl v8), (9, .inl v9)], [.inl (mm_w (v3 + 1)), .inl v6, .inr (.inr 407)], M417)
      refine mm_s1 rfl ⟨(nn_c407 NN).1, ?_⟩
      refine nn_call (D := 2) (by decide) (h n L N) ?_
      intro v M426 q; clear L N h
      obtain ⟨r426, rfl, L, N, h⟩ := q
      show mm_Go (mm_run 4) mc_M_mergesIndex _ (429, [(0, .inr (.inr 407)), (1, .inl v1), (3, .inl v3), (5, .inl v5), (6, .inl v6), (7, .inl v7), (8, .inl v8), (9, .inl v9)], [.inl r426], M426)
      refine mm_s1 rfl ⟨fun c429 => ?_, fun c429 => ?_⟩
      · show mm_Go (mm_run 4) mc_M_mergesIndex _ (439, [(0, .inr (.inr 407)), (1, .inl v1), (3, .inl v3), (5, .inl v5), (6, .inl v6), (7, .inl v7), (8, .inl v8), (9, .inl v9)], [], M426)
        replace h := h.1 c429
        exact mm_s1 rfl ⟨rfl, L, N, h⟩
      · show mm_Go (mm_run 4) mc_M_mergesIndex _ (432, [(0, .inr (.inr 407)), (1, .inl v1), (3, .inl v3), (5, .inl v5), (6, .inl v6), (7, .inl v7), (8, .inl v8), (9, .inl v9)], [], M426)
        replace c429 := Decidable.not_not.mp c429
        replace h := h.2 c429
        refine mm_s1 rfl ?_
        refine mm_s1 rfl ?_
        refine mm_s1 rfl ?_
        refine mm_s1 rfl ⟨(nn_c407 NN).1, ?_⟩
        refine nn_call (D := 2) (by decide) (h n L N) ?_
        intro v M436 q; clear L N h
        obtain ⟨rfl, L, N, h⟩ := q
        show mm_Go (mm_run 4) mc_M_mergesIndex _ (439, [(0, .inr (.inr 407)), (1, .inl v1), (3, .inl v3), (5, .inl v5), (6, .inl v6), (7, .inl v7), (8, .inl v8), (9, .inl v9)], [], M436)
        exact mm_s1 rfl ⟨rfl, L, N, h⟩
  · show mm_Go (mm_run 4) mc_M_mergesIndex _ (378, [(0, .inr (.inr 407)), (1, .inl v1), (3, .inl v3), (5, .inl v5), (6, .inl v6), (7, .inl v7), (8, .inl v8), (9, .inl v9)], [], M)
    replace c375 := Int.not_le.mp c375
    replace h := h.2 c375
    refine mm_s1 rfl ?_
    refine mm_s1 rfl ?_
    refine mm_s1 rfl ?_
    refine mm_s1 rfl ⟨(nn_c407 NN).1, ?_⟩
    refine nn_call (D := 2) (by decide) (h n L N) ?_
    intro v M383 q; clear L N h
    obtain ⟨rfl, L, N, h⟩ := q
    show mm_Go (mm_run 4) mc_M_mergesIndex _ (386, [(0, .inr (.inr 407)), (1, .inl v1), (3, .inl v3), (5, .inl v5), (6, .inl v6), (7, .inl v7), (8, .inl v8), (9, .inl v9)], [], M383)
    refine mm_s1 rfl ?_
    show mm_Go (mm_run 4) mc_M_mergesIndex _ (389, [(0, .inr (.inr 407)), (1, .inl v1), (3, .inl v3), (5, .inl v5), (6, .inl v6), (7, .inl v7), (8, .inl v8), (9, .inl (mm_w (v9 + (-1))))], [], M383)
    refine mm_s1 rfl ?_
    show mm_Go (mm_run 4) mc_M_mergesIndex _ (372, [(0, .inr (.inr 407)), (1, .inl v1), (3, .inl v3), (5, .inl v5), (6, .inl v6), (7, .inl v7), (8, .inl v8), (9, .inl (mm_w (v9 + (-1))))], [], M383)
    exact nn_go_ext (nn_xc rfl (nn_xc rfl (nn_xc rfl (nn_xc rfl (nn_xc rfl (nn_xc rfl (nn_xc rfl (nn_xc rfl nn_xn)))))))) (h n L N)
set_option maxRecDepth 20000 in
theorem ng_M_mergesIndex_322 (v1 : Int) (v3 : Int) (v4 : Int) (v5 : Int) (v6 : Int) (v7 : Int) (v8 : Int) (v9 : Int) (v10 : Int) (v11 : Int) (M : mm_M) (R : mm_M → Prop) (h : (((v11 = 0 ∨ (v8 = 0)) → nk_M_mergesIndex_205 v1 v3 v4 v5 v6 v7 v8 (mm_w (v9 + (-1))) M R) ∧ ((v11 ≠ 0 ∧ (v8 ≠ 0)) → (nr_M_isStale v1 v10 M (fun r344 M344 => ((r344 = 0 → nk_M_mergesIndex_205 v1 v3 v4 v5 v6 v7 v8 (mm_w (v9 + (-1))) M344 R) ∧ (r344 ≠ 0 → nk_M_mergesIndex_350 v1 v3 v4 v5 v6 v7 v8 v9 M344 R))))))) : nk_M_mergesIndex_322 v1 v3 v4 v5 v6 v7 v8 v9 v10 v11 M R := by
  intro n L N 
  have NN := nn_L_n L N
  show mm_Go (mm_run 4) mc_M_mergesIndex _ (322, [(0, .inr (.inr 407)), (1, .inl v1), (3, .inl v3), (4, .inl v4), (5, .inl v5), (6, .inl v6), (7, .inl v7), (8, .inl v8), (9, .inl v9), (10, .inl v10), (11, .inl v11)], [], M)
  refine mm_s1 rfl ?_
  refine mm_s1 rfl ?_
  show mm_Go (mm_run 4) mc_M_mergesIndex _ (325, [(0, .inr (.inr 407)), (1, .inl v1), (3, .inl v3), (4, .inl v4), (5, .inl v5), (6, .inl v6), (7, .inl v7), (8, .inl v8), (9, .inl v9), (10, .inl v10), (11, .inl v11), (12, .inl 0)], [], M)
  refine mm_s1 rfl ?_
  refine mm_s1 rfl ⟨fun c327 => ?_, fun c327 => ?_⟩
  · show mm_Go (mm_run 4) mc_M_mergesIndex _ (358, [(0, .inr (.inr 407)), (1, .inl v1), (3, .inl v3), (4, .inl v4), (5, .inl v5), (6, .inl v6), (7, .inl v7), (8, .inl v8), (9, .inl v9), (10, .inl v10), (11, .inl v11), (12, .inl 0)], [], M)
    refine mm_s1 rfl ?_
    show mm_Go (mm_run 4) mc_M_mergesIndex _ (361, [(0, .inr (.inr 407)), (1, .inl v1), (3, .inl v3), (4, .inl v4), (5, .inl v5), (6, .inl v6), (7, .inl v7), (8, .inl v8), (9, .inl (mm_w (v9 + (-1)))), (10, .inl v10), (11, .inl v11), (12, .inl 0)], [], M)
    refine mm_s1 rfl ?_
    show mm_Go (mm_run 4) mc_M_mergesIndex _ (205, [(0, .inr (.inr 407)), (1, .inl v1), (3, .inl v3), (4, .inl v4), (5, .inl v5), (6, .inl v6), (7, .inl v7), (8, .inl v8), (9, .inl (mm_w (v9 + (-1)))), (10, .inl v10), (11, .inl v11), (12, .inl 0)], [], M)
    replace h := h.1 (Or.inl c327)
    exact nn_go_ext (nn_xc rfl (nn_xc rfl (nn_xc rfl (nn_xc rfl (nn_xc rfl (nn_xc rfl (nn_xc rfl (nn_xc rfl (nn_xc rfl nn_xn))))))))) (h n L N)
  · show mm_Go (mm_run 4) mc_M_mergesIndex _ (330, [(0, .inr (.inr 407)), (1, .inl v1), (3, .inl v3), (4, .inl v4), (5, .inl v5), (6, .inl v6), (7, .inl v7), (8, .inl v8), (9, .inl v9), (10, .inl v10), (11, .inl v11), (12, .inl 0)], [], M)
    refine mm_s1 rfl ?_
    refine mm_s1 rfl ⟨fun c => absurd c (show ¬ ((0 : Int) ≠ 0) by decide), fun _ => ?_⟩
    show mm_Go (mm_run 4) mc_M_mergesIndex _ (335, [(0, .inr (.inr 407)), (1, .inl v1), (3, .inl v3), (4, .inl v4), (5, .inl v5), (6, .inl v6), (7, .inl v7), (8, .inl v8), (9, .inl v9), (10, .inl v10), (11, .inl v11), (12, .inl 0)], [], M)
    refine mm_s1 rfl ?_
    refine mm_s1 rfl ⟨fun c337 => ?_, fun c337 => ?_⟩
    · show mm_Go (mm_run 4) mc_M_mergesIndex _ (358, [(0, .inr (.inr 407)), (1, .inl v1), (3, .inl v3), (4, .inl v4), (5, .inl v5), (6, .inl v6), (7, .inl v7), (8, .inl v8), (9, .inl v9), (10, .inl v10), (11, .inl v11), (12, .inl 0)], [], M)
      refine mm_s1 rfl ?_
      show mm_Go (mm_run 4) mc_M_mergesIndex _ (361, [(0, .inr (.inr 407)), (1, .inl v1), (3, .inl v3), (4, .inl v4), (5, .inl v5), (6, .inl v6), (7, .inl v7), (8, .inl v8), (9, .inl (mm_w (v9 + (-1)))), (10, .inl v10), (11, .inl v11), (12, .inl 0)], [], M)
      refine mm_s1 rfl ?_
      show mm_Go (mm_run 4) mc_M_mergesIndex _ (205, [(0, .inr (.inr 407)), (1, .inl v1), (3, .inl v3), (4, .inl v4), (5, .inl v5), (6, .inl v6), (7, .inl v7), (8, .inl v8), (9, .inl (mm_w (v9 + (-1)))), (10, .inl v10), (11, .inl v11), (12, .inl 0)], [], M)
      replace h := h.1 (Or.inr c337)
      exact nn_go_ext (nn_xc rfl (nn_xc rfl (nn_xc rfl (nn_xc rfl (nn_xc rfl (nn_xc rfl (nn_xc rfl (nn_xc rfl (nn_xc rfl nn_xn))))))))) (h n L N)
    · show mm_Go (mm_run 4) mc_M_mergesIndex _ (340, [(0, .inr (.inr 407)), (1, .inl v1), (3, .inl v3), (4, .inl v4), (5, .inl v5), (6, .inl v6), (7, .inl v7), (8, .inl v8), (9, .inl v9), (10, .inl v10), (11, .inl v11), (12, .inl 0)], [], M)
      refine mm_s1 rfl ?_
      refine mm_s1 rfl ?_
      refine mm_s1 rfl ?_
      replace h := h.2 ⟨c327, c337⟩
      refine mm_s1 rfl ⟨(nn_c407 NN).1, ?_⟩
      refine nn_call (D := 4) (by decide) (h n L N) ?_
      intro v M344 q; clear L N h
      obtain ⟨r344, rfl, q344, L, N, h⟩ := q
      show mm_Go (mm_run 4) mc_M_mergesIndex _ (347, [(0, .inr (.inr 407)), (1, .inl v1), (3, .inl v3), (4, .inl v4), (5, .inl v5), (6, .inl v6), (7, .inl v7), (8, .inl v8), (9, .inl v9), (10, .inl v10), (11, .inl v11), (12, .inl 0)], [.inl r344], M344)
      refine mm_s1 rfl ⟨fun c347 => ?_, fun c347 => ?_⟩
      · show mm_Go (mm_run 4) mc_M_mergesIndex _ (358, [(0, .inr (.inr 407)), (1, .inl v1), (3, .inl v3), (4, .inl v4), (5, .inl v5), (6, .inl v6), (7, .inl v7), (8, .inl v8), (9, .inl v9), (10, .inl v10), (11, .inl v11), (12, .inl 0)], [], M344)
        replace h := h.1 c347
        refine mm_s1 rfl ?_
        show mm_Go (mm_run 4) mc_M_mergesIndex _ (361, [(0, .inr (.inr 407)), (1, .inl v1), (3, .inl v3), (4, .inl v4), (5, .inl v5), (6, .inl v6), (7, .inl v7), (8, .inl v8), (9, .inl (mm_w (v9 + (-1)))), (10, .inl v10), (11, .inl v11), (12, .inl 0)], [], M344)
        refine mm_s1 rfl ?_
        show mm_Go (mm_run 4) mc_M_mergesIndex _ (205, [(0, .inr (.inr 407)), (1, .inl v1), (3, .inl v3), (4, .inl v4), (5, .inl v5), (6, .inl v6), (7, .inl v7), (8, .inl v8), (9, .inl (mm_w (v9 + (-1)))), (10, .inl v10), (11, .inl v11), (12, .inl 0)], [], M344)
        exact nn_go_ext (nn_xc rfl (nn_xc rfl (nn_xc rfl (nn_xc rfl (nn_xc rfl (nn_xc rfl (nn_xc rfl (nn_xc rfl (nn_xc rfl nn_xn))))))))) (h n L N)
      · show mm_Go (mm_run 4) mc_M_mergesIndex _ (350, [(0, .inr (.inr 407)), (1, .inl v1), (3, .inl v3), (4, .inl v4), (5, .inl v5), (6, .inl v6), (7, .inl v7), (8, .inl v8), (9, .inl v9), (10, .inl v10), (11, .inl v11), (12, .inl 0)], [], M344)
        replace h := h.2 c347
        exact nn_go_ext (nn_xc rfl (nn_xc rfl (nn_xc rfl (nn_xc rfl (nn_xc rfl (nn_xc rfl (nn_xc rfl (nn_xc rfl (nn_xc rfl nn_xn))))))))) (h n L N)
set_option maxRecDepth 20000 in
theorem ng_M_mergesIndex_350 (v1 : Int) (v3 : Int) (v4 : Int) (v5 : Int) (v6 : Int) (v7 : Int) (v8 : Int) (v9 : Int) (M : mm_M) (R : mm_M → Prop) (h : (nr_M_drops v6 v9 M (fun M355 => nk_M_mergesIndex_205 v1 v3 v4 v5 v6 v7 v8 (mm_w (v9 + (-1))) M355 R))) : nk_M_mergesIndex_350 v1 v3 v4 v5 v6 v7 v8 v9 M R := by
  intro n L N 
  have NN := nn_L_n L N
  show mm_Go (mm_run 4) mc_M_mergesIndex _ (350, [(0, .inr (.inr 407)), (1, .inl v1), (3, .inl v3), (4, .inl v4), (5, .inl v5), (6, .inl v6), (7, .inl v7), (8, .inl v8), (9, .inl v9)], [], M)
  refine mm_s1 rfl ?_
  refine mm_s1 rfl ?_
  refine mm_s1 rfl ?_
  refine mm_s1 rfl ⟨(nn_c407 NN).1, ?_⟩
  refine nn_call (D := 2) (by decide) (h n L N) ?_
  intro v M355 q; clear L N h
  obtain ⟨rfl, L, N, h⟩ := q
  show mm_Go (mm_run 4) mc_M_mergesIndex _ (358, [(0, .inr (.inr 407)), (1, .inl v1), (3, .inl v3), (4, .inl v4), (5, .inl v5), (6, .inl v6), (7, .inl v7), (8, .inl v8), (9, .inl v9)], [], M355)
  refine mm_s1 rfl ?_
  show mm_Go (mm_run 4) mc_M_mergesIndex _ (361, [(0, .inr (.inr 407)), (1, .inl v1), (3, .inl v3), (4, .inl v4), (5, .inl v5), (6, .inl v6), (7, .inl v7), (8, .inl v8), (9, .inl (mm_w (v9 + (-1))))], [], M355)
  refine mm_s1 rfl ?_
  show mm_Go (mm_run 4) mc_M_mergesIndex _ (205, [(0, .inr (.inr 407)), (1, .inl v1), (3, .inl v3), (4, .inl v4), (5, .inl v5), (6, .inl v6), (7, .inl v7), (8, .inl v8), (9, .inl (mm_w (v9 + (-1))))], [], M355)
  exact nn_go_ext (nn_xc rfl (nn_xc rfl (nn_xc rfl (nn_xc rfl (nn_xc rfl (nn_xc rfl (nn_xc rfl (nn_xc rfl (nn_xc rfl nn_xn))))))))) (h n L N)
