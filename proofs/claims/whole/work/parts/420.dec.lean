/-! methods walked by program (wip/whole/dec.py) -/
def nr_LI_define  (M : mm_M) (R : Int → mm_M → Prop) : Prop := ∀ n, nn_L M → M.1 = n → mm_run 13 mi_LI_define [.inr (.inr 1)] M (nw_I n R)
set_option maxRecDepth 20000 in
theorem ng_LI_define  (M : mm_M) (R : Int → mm_M → Prop) (h : (nr_Store_defined 2 M (fun r8 M8 => R r8 M8))) : nr_LI_define  M R := by
  intro n L N 
  have NN := nn_L_n L N
  show mm_Go (mm_run 12) mc_LI_define _ (0, [(0, .inr (.inr 1))], [], M)
  refine mm_s1 rfl ?_
  refine nn_getr rfl (nn_c1 NN).1 (lf_1_0 L N (nn_c1 NN)) ?_
  refine mm_s1 rfl ?_
  refine nn_getr rfl (nn_c1 NN).1 (lf_1_3 L N (nn_c1 NN)) ?_
  refine mm_s1 rfl ⟨(nc_1_0 NN (nn_c1 NN)).1, ?_⟩
  refine nn_call (D := 12) (by decide) (h n L N (nc_1_0 NN (nn_c1 NN))) ?_
  intro v M8 q; clear L N h
  obtain ⟨r8, rfl, L, N, h⟩ := q
  show mm_Go (mm_run 12) mc_LI_define _ (11, [(0, .inr (.inr 1))], [.inl r8], M8)
  exact mm_s1 rfl ⟨_, rfl, L, N, h⟩
def nr_M_load (v1 : Int) (v2 : Int) (M : mm_M) (R : Int → mm_M → Prop) : Prop := ∀ n, nn_L M → M.1 = n → mm_run 13 mi_M_load [.inr (.inr 407), .inl v1, .inl v2] M (nw_I n R)
set_option maxRecDepth 20000 in
theorem ng_M_load (v1 : Int) (v2 : Int) (M : mm_M) (R : Int → mm_M → Prop) (h : (((nf_M_isIn v2 1 20) = 0 → R (-1) M) ∧ ((nf_M_isIn v2 1 20) ≠ 0 → (nr_M_loads 0 v1 v2 M (fun r14 M14 => R r14 M14))))) : nr_M_load v1 v2 M R := by
  intro n L N 
  have NN := nn_L_n L N
  show mm_Go (mm_run 12) mc_M_load _ (0, [(0, .inr (.inr 407)), (1, .inl v1), (2, .inl v2)], [], M)
  refine mm_s1 rfl ?_
  refine mm_s1 rfl ?_
  refine mm_s1 rfl ?_
  refine mm_s1 rfl ⟨trivial, ?_⟩
  refine np_M_isIn (by decide) L N ?_
  show mm_Go (mm_run 12) mc_M_load _ (7, [(0, .inr (.inr 407)), (1, .inl v1), (2, .inl v2)], [.inl (nf_M_isIn v2 1 20)], M)
  refine mm_s1 rfl ⟨fun c7 => ?_, fun c7 => ?_⟩
  · show mm_Go (mm_run 12) mc_M_load _ (20, [(0, .inr (.inr 407)), (1, .inl v1), (2, .inl v2)], [], M)
    replace h := h.1 c7
    refine mm_s1 rfl ?_
    exact mm_s1 rfl ⟨_, rfl, L, N, h⟩
  · show mm_Go (mm_run 12) mc_M_load _ (10, [(0, .inr (.inr 407)), (1, .inl v1), (2, .inl v2)], [], M)
    replace h := h.2 c7
    refine mm_s1 rfl ?_
    refine mm_s1 rfl ?_
    refine mm_s1 rfl ?_
    refine mm_s1 rfl ?_
    refine mm_s1 rfl ⟨(nn_c407 NN).1, ?_⟩
    refine nn_call (D := 12) (by decide) (h n L N) ?_
    intro v M14 q; clear L N h
    obtain ⟨r14, rfl, L, N, h⟩ := q
    show mm_Go (mm_run 12) mc_M_load _ (17, [(0, .inr (.inr 407)), (1, .inl v1), (2, .inl v2)], [.inl r14], M14)
    refine mm_s1 rfl ?_
    show mm_Go (mm_run 12) mc_M_load _ (21, [(0, .inr (.inr 407)), (1, .inl v1), (2, .inl v2)], [.inl r14], M14)
    exact mm_s1 rfl ⟨_, rfl, L, N, h⟩
def nr_M_tried (v1 : Int) (v2 : Int) (v3 : Int) (M : mm_M) (R : Int → mm_M → Prop) : Prop := ∀ n, nn_L M → M.1 = n → mm_run 13 mi_M_tried [.inr (.inr 407), .inl v1, .inl v2, .inl v3] M (nw_I n R)
def nk_M_tried_54 (v1 : Int) (v2 : Int) (v3 : Int) (v4 : Int) (M : mm_M) (R : Int → mm_M → Prop) : Prop := ∀ n, nn_L M → M.1 = n → mm_Go (mm_run 12) mc_M_tried (nw_I n R) (54, [(0, .inr (.inr 407)), (1, .inl v1), (2, .inl v2), (3, .inl v3), (4, .inl v4)], [], M)
def nk_M_tried_72 (v1 : Int) (v2 : Int) (v3 : Int) (v4 : Int) (M : mm_M) (R : Int → mm_M → Prop) : Prop := ∀ n, nn_L M → M.1 = n → mm_Go (mm_run 12) mc_M_tried (nw_I n R) (72, [(0, .inr (.inr 407)), (1, .inl v1), (2, .inl v2), (3, .inl v3), (4, .inl v4)], [], M)
set_option maxRecDepth 20000 in
theorem ng_M_tried (v1 : Int) (v2 : Int) (v3 : Int) (M : mm_M) (R : Int → mm_M → Prop) (h : (((nf_M_isIn v3 20 23) ≠ 0 → (((nf_M_isIn v2 1 20) = 0 → R (-1) M) ∧ ((nf_M_isIn v2 1 20) ≠ 0 → nk_M_tried_54 v1 v2 v3 1 M R))) ∧ ((nf_M_isIn v3 20 23) = 0 → (((nf_M_isIn v3 30 33) = 0 → ((((nf_M_isIn v2 1 20) = 0 ∨ ((nf_M_isIn v3 0 13) = 0)) → R (-1) M) ∧ (((nf_M_isIn v2 1 20) ≠ 0 ∧ ((nf_M_isIn v3 0 13) ≠ 0)) → nk_M_tried_54 v1 v2 v3 0 M R))) ∧ ((nf_M_isIn v3 30 33) ≠ 0 → (((nf_M_isIn v2 1 20) = 0 → R (-1) M) ∧ ((nf_M_isIn v2 1 20) ≠ 0 → nk_M_tried_54 v1 v2 v3 1 M R))))))) : nr_M_tried v1 v2 v3 M R := by
  intro n L N 
  have NN := nn_L_n L N
  show mm_Go (mm_run 12) mc_M_tried _ (0, [(0, .inr (.inr 407)), (1, .inl v1), (2, .inl v2), (3, .inl v3)], [], M)
  refine mm_s1 rfl ?_
  refine mm_s1 rfl ?_
  refine mm_s1 rfl ?_
  refine mm_s1 rfl ⟨trivial, ?_⟩
  refine np_M_isIn (by decide) L N ?_
  show mm_Go (mm_run 12) mc_M_tried _ (8, [(0, .inr (.inr 407)), (1, .inl v1), (2, .inl v2), (3, .inl v3)], [.inl (nf_M_isIn v3 20 23)], M)
  refine mm_s1 rfl ⟨fun c8 => ?_, fun c8 => ?_⟩
  · show mm_Go (mm_run 12) mc_M_tried _ (22, [(0, .inr (.inr 407)), (1, .inl v1), (2, .inl v2), (3, .inl v3)], [], M)
    replace h := h.1 c8
    refine mm_s1 rfl ?_
    refine mm_s1 rfl ?_
    show mm_Go (mm_run 12) mc_M_tried _ (27, [(0, .inr (.inr 407)), (1, .inl v1), (2, .inl v2), (3, .inl v3)], [.inl 1], M)
    refine mm_s1 rfl ?_
    show mm_Go (mm_run 12) mc_M_tried _ (29, [(0, .inr (.inr 407)), (1, .inl v1), (2, .inl v2), (3, .inl v3), (4, .inl 1)], [], M)
    refine mm_s1 rfl ?_
    refine mm_s1 rfl ?_
    refine mm_s1 rfl ?_
    refine mm_s1 rfl ⟨trivial, ?_⟩
    refine np_M_isIn (by decide) L N ?_
    show mm_Go (mm_run 12) mc_M_tried _ (36, [(0, .inr (.inr 407)), (1, .inl v1), (2, .inl v2), (3, .inl v3), (4, .inl 1)], [.inl (nf_M_isIn v2 1 20)], M)
    refine mm_s1 rfl ⟨fun c36 => ?_, fun c36 => ?_⟩
    · show mm_Go (mm_run 12) mc_M_tried _ (70, [(0, .inr (.inr 407)), (1, .inl v1), (2, .inl v2), (3, .inl v3), (4, .inl 1)], [], M)
      replace h := h.1 c36
      refine mm_s1 rfl ?_
      exact mm_s1 rfl ⟨_, rfl, L, N, h⟩
    · show mm_Go (mm_run 12) mc_M_tried _ (39, [(0, .inr (.inr 407)), (1, .inl v1), (2, .inl v2), (3, .inl v3), (4, .inl 1)], [], M)
      replace h := h.2 c36
      refine mm_s1 rfl ?_
      refine mm_s1 rfl ⟨fun _ => ?_, fun c => absurd (show (1 : Int) ≠ 0 by decide) c⟩
      show mm_Go (mm_run 12) mc_M_tried _ (54, [(0, .inr (.inr 407)), (1, .inl v1), (2, .inl v2), (3, .inl v3), (4, .inl 1)], [], M)
      exact nn_go_ext (nn_xc rfl (nn_xc rfl (nn_xc rfl (nn_xc rfl (nn_xc rfl nn_xn))))) (h n L N)
  · show mm_Go (mm_run 12) mc_M_tried _ (11, [(0, .inr (.inr 407)), (1, .inl v1), (2, .inl v2), (3, .inl v3)], [], M)
    replace c8 := Decidable.not_not.mp c8
    replace h := h.2 c8
    refine mm_s1 rfl ?_
    refine mm_s1 rfl ?_
    refine mm_s1 rfl ?_
    refine mm_s1 rfl ⟨trivial, ?_⟩
    refine np_M_isIn (by decide) L N ?_
    show mm_Go (mm_run 12) mc_M_tried _ (19, [(0, .inr (.inr 407)), (1, .inl v1), (2, .inl v2), (3, .inl v3)], [.inl (nf_M_isIn v3 30 33)], M)
    refine mm_s1 rfl ⟨fun c19 => ?_, fun c19 => ?_⟩
    · show mm_Go (mm_run 12) mc_M_tried _ (26, [(0, .inr (.inr 407)), (1, .inl v1), (2, .inl v2), (3, .inl v3)], [], M)
      replace h := h.1 c19
      refine mm_s1 rfl ?_
      refine mm_s1 rfl ?_
      show mm_Go (mm_run 12) mc_M_tried _ (29, [(0, .inr (.inr 407)), (1, .inl v1), (2, .inl v2), (3, .inl v3), (4, .inl 0)], [], M)
      refine mm_s1 rfl ?_
      refine mm_s1 rfl ?_
      refine mm_s1 rfl ?_
      refine mm_s1 rfl ⟨trivial, ?_⟩
      refine np_M_isIn (by decide) L N ?_
      show mm_Go (mm_run 12) mc_M_tried _ (36, [(0, .inr (.inr 407)), (1, .inl v1), (2, .inl v2), (3, .inl v3), (4, .inl 0)], [.inl (nf_M_isIn v2 1 20)], M)
      refine mm_s1 rfl ⟨fun c36 => ?_, fun c36 => ?_⟩
      · show mm_Go (mm_run 12) mc_M_tried _ (70, [(0, .inr (.inr 407)), (1, .inl v1), (2, .inl v2), (3, .inl v3), (4, .inl 0)], [], M)
        refine mm_s1 rfl ?_
        replace h := h.1 (Or.inl c36)
        exact mm_s1 rfl ⟨_, rfl, L, N, h⟩
      · show mm_Go (mm_run 12) mc_M_tried _ (39, [(0, .inr (.inr 407)), (1, .inl v1), (2, .inl v2), (3, .inl v3), (4, .inl 0)], [], M)
        refine mm_s1 rfl ?_
        refine mm_s1 rfl ⟨fun c => absurd c (show ¬ ((0 : Int) ≠ 0) by decide), fun _ => ?_⟩
        show mm_Go (mm_run 12) mc_M_tried _ (44, [(0, .inr (.inr 407)), (1, .inl v1), (2, .inl v2), (3, .inl v3), (4, .inl 0)], [], M)
        refine mm_s1 rfl ?_
        refine mm_s1 rfl ?_
        refine mm_s1 rfl ?_
        refine mm_s1 rfl ⟨trivial, ?_⟩
        refine np_M_isIn (by decide) L N ?_
        show mm_Go (mm_run 12) mc_M_tried _ (51, [(0, .inr (.inr 407)), (1, .inl v1), (2, .inl v2), (3, .inl v3), (4, .inl 0)], [.inl (nf_M_isIn v3 0 13)], M)
        refine mm_s1 rfl ⟨fun c51 => ?_, fun c51 => ?_⟩
        · show mm_Go (mm_run 12) mc_M_tried _ (70, [(0, .inr (.inr 407)), (1, .inl v1), (2, .inl v2), (3, .inl v3), (4, .inl 0)], [], M)
          refine mm_s1 rfl ?_
          replace h := h.1 (Or.inr c51)
          exact mm_s1 rfl ⟨_, rfl, L, N, h⟩
        · show mm_Go (mm_run 12) mc_M_tried _ (54, [(0, .inr (.inr 407)), (1, .inl v1), (2, .inl v2), (3, .inl v3), (4, .inl 0)], [], M)
          replace h := h.2 ⟨c36, c51⟩
          exact nn_go_ext (nn_xc rfl (nn_xc rfl (nn_xc rfl (nn_xc rfl (nn_xc rfl nn_xn))))) (h n L N)
    · show mm_Go (mm_run 12) mc_M_tried _ (22, [(0, .inr (.inr 407)), (1, .inl v1), (2, .inl v2), (3, .inl v3)], [], M)
      replace h := h.2 c19
      refine mm_s1 rfl ?_
      refine mm_s1 rfl ?_
      show mm_Go (mm_run 12) mc_M_tried _ (27, [(0, .inr (.inr 407)), (1, .inl v1), (2, .inl v2), (3, .inl v3)], [.inl 1], M)
      refine mm_s1 rfl ?_
      show mm_Go (mm_run 12) mc_M_tried _ (29, [(0, .inr (.inr 407)), (1, .inl v1), (2, .inl v2), (3, .inl v3), (4, .inl 1)], [], M)
      refine mm_s1 rfl ?_
      refine mm_s1 rfl ?_
      refine mm_s1 rfl ?_
      refine mm_s1 rfl ⟨trivial, ?_⟩
      refine np_M_isIn (by decide) L N ?_
      show mm_Go (mm_run 12) mc_M_tried _ (36, [(0, .inr (.inr 407)), (1, .inl v1), (2, .inl v2), (3, .inl v3), (4, .inl 1)], [.inl (nf_M_isIn v2 1 20)], M)
      refine mm_s1 rfl ⟨fun c36 => ?_, fun c36 => ?_⟩
      · show mm_Go (mm_run 12) mc_M_tried _ (70, [(0, .inr (.inr 407)), (1, .inl v1), (2, .inl v2), (3, .inl v3), (4, .inl 1)], [], M)
        replace h := h.1 c36
        refine mm_s1 rfl ?_
        exact mm_s1 rfl ⟨_, rfl, L, N, h⟩
      · show mm_Go (mm_run 12) mc_M_tried _ (39, [(0, .inr (.inr 407)), (1, .inl v1), (2, .inl v2), (3, .inl v3), (4, .inl 1)], [], M)
        replace h := h.2 c36
        refine mm_s1 rfl ?_
        refine mm_s1 rfl ⟨fun _ => ?_, fun c => absurd (show (1 : Int) ≠ 0 by decide) c⟩
        show mm_Go (mm_run 12) mc_M_tried _ (54, [(0, .inr (.inr 407)), (1, .inl v1), (2, .inl v2), (3, .inl v3), (4, .inl 1)], [], M)
        exact nn_go_ext (nn_xc rfl (nn_xc rfl (nn_xc rfl (nn_xc rfl (nn_xc rfl nn_xn))))) (h n L N)
set_option maxRecDepth 20000 in
theorem ng_M_tried_54 (v1 : Int) (v2 : Int) (v3 : Int) (v4 : Int) (M : mm_M) (R : Int → mm_M → Prop) (h : (((v4 ≠ 0) → ((0 : Int) ≤ v3 ∧ (0 : Int) < 10)) ∧ ((v4 ≠ 0) → (nc_M_isIndex (v3 % 10) M)) ∧ ((v4 = 0 ∨ ((nf_M_isIndex (v3 % 10) M) ≠ 0)) → nk_M_tried_72 v1 v2 v3 v4 M R) ∧ ((v4 ≠ 0 ∧ ((nf_M_isIndex (v3 % 10) M) = 0)) → R (-1) M))) : nk_M_tried_54 v1 v2 v3 v4 M R := by
  intro n L N 
  have NN := nn_L_n L N
  show mm_Go (mm_run 12) mc_M_tried _ (54, [(0, .inr (.inr 407)), (1, .inl v1), (2, .inl v2), (3, .inl v3), (4, .inl v4)], [], M)
  refine mm_s1 rfl ?_
  refine mm_s1 rfl ⟨fun c56 => ?_, fun c56 => ?_⟩
  · show mm_Go (mm_run 12) mc_M_tried _ (72, [(0, .inr (.inr 407)), (1, .inl v1), (2, .inl v2), (3, .inl v3), (4, .inl v4)], [], M)
    replace h := h.2.2.1 (Or.inl c56)
    exact nn_go_ext (nn_xc rfl (nn_xc rfl (nn_xc rfl (nn_xc rfl (nn_xc rfl nn_xn))))) (h n L N)
  · show mm_Go (mm_run 12) mc_M_tried _ (59, [(0, .inr (.inr 407)), (1, .inl v1), (2, .inl v2), (3, .inl v3), (4, .inl v4)], [], M)
    refine mm_s1 rfl ?_
    refine mm_s1 rfl ?_
    refine mm_s1 rfl ?_
    have b63 := h.1 c56
    refine mm_s1 rfl ⟨b63, ?_⟩
    have b64 := h.2.1 c56
    refine mm_s1 rfl ⟨(nn_c407 NN).1, ?_⟩
    refine np_M_isIndex (by decide) L N b64 ?_
    show mm_Go (mm_run 12) mc_M_tried _ (67, [(0, .inr (.inr 407)), (1, .inl v1), (2, .inl v2), (3, .inl v3), (4, .inl v4)], [.inl (nf_M_isIndex (v3 % 10) M)], M)
    refine mm_s1 rfl ⟨fun c67 => ?_, fun c67 => ?_⟩
    · show mm_Go (mm_run 12) mc_M_tried _ (72, [(0, .inr (.inr 407)), (1, .inl v1), (2, .inl v2), (3, .inl v3), (4, .inl v4)], [], M)
      replace h := h.2.2.1 (Or.inr c67)
      exact nn_go_ext (nn_xc rfl (nn_xc rfl (nn_xc rfl (nn_xc rfl (nn_xc rfl nn_xn))))) (h n L N)
    · show mm_Go (mm_run 12) mc_M_tried _ (70, [(0, .inr (.inr 407)), (1, .inl v1), (2, .inl v2), (3, .inl v3), (4, .inl v4)], [], M)
      replace c67 := Decidable.not_not.mp c67
      refine mm_s1 rfl ?_
      replace h := h.2.2.2 ⟨c56, c67⟩
      exact mm_s1 rfl ⟨_, rfl, L, N, h⟩
set_option maxRecDepth 20000 in
theorem ng_M_tried_72 (v1 : Int) (v2 : Int) (v3 : Int) (v4 : Int) (M : mm_M) (R : Int → mm_M → Prop) (h : (nr_M_copies 0 5474 M (fun M77 => (nr_M_loads 5474 v1 v2 M77 (fun r86 M86 => ((v4 ≠ 0 → ((30 ≤ v3 → (((0 : Int) ≤ v3 ∧ (0 : Int) < 10) ∧ (nr_M_waste 5474 (v3 % 10) M86 (fun r140 M140 => R r140 M140)))) ∧ (v3 < 30 → (((0 : Int) ≤ v3 ∧ (0 : Int) < 10) ∧ (((0 : Int) ≤ (mm_w ((nf_M_at 5474 (v3 % 10)) + 6)) ∧ (mm_w ((nf_M_at 5474 (v3 % 10)) + 6)) < (32844 : Int)) ∧ R (nn_ri M86 408 (mm_w ((nf_M_at 5474 (v3 % 10)) + 6))) M86))))) ∧ (v4 = 0 → (nr_M_counts 5474 v3 M86 (fun r101 M101 => R r101 M101))))))))) : nk_M_tried_72 v1 v2 v3 v4 M R := by
  intro n L N 
  have NN := nn_L_n L N
  show mm_Go (mm_run 12) mc_M_tried _ (72, [(0, .inr (.inr 407)), (1, .inl v1), (2, .inl v2), (3, .inl v3), (4, .inl v4)], [], M)
  refine mm_s1 rfl ?_
  refine mm_s1 rfl ?_
  refine mm_s1 rfl ?_
  refine mm_s1 rfl ⟨(nn_c407 NN).1, ?_⟩
  refine nn_call (D := 1) (by decide) (h n L N) ?_
  intro v M77 q; clear L N h
  obtain ⟨rfl, L, N, h⟩ := q
  show mm_Go (mm_run 12) mc_M_tried _ (80, [(0, .inr (.inr 407)), (1, .inl v1), (2, .inl v2), (3, .inl v3), (4, .inl v4)], [], M77)
  refine mm_s1 rfl ?_
  refine mm_s1 rfl ?_
  refine mm_s1 rfl ?_
  refine mm_s1 rfl ?_
  refine mm_s1 rfl ⟨(nn_c407 NN).1, ?_⟩
  refine nn_call (D := 12) (by decide) (h n L N) ?_
  intro v M86 q; clear L N h
  obtain ⟨r86, rfl, L, N, h⟩ := q
  show mm_Go (mm_run 12) mc_M_tried _ (89, [(0, .inr (.inr 407)), (1, .inl v1), (2, .inl v2), (3, .inl v3), (4, .inl v4)], [.inl r86], M86)
  refine mm_s1 rfl ?_
  show mm_Go (mm_run 12) mc_M_tried _ (91, [(0, .inr (.inr 407)), (1, .inl v1), (2, .inl v2), (3, .inl v3), (4, .inl v4), (5, .inl r86)], [], M86)
  refine mm_s1 rfl ?_
  refine mm_s1 rfl ⟨fun c93 => ?_, fun c93 => ?_⟩
  · show mm_Go (mm_run 12) mc_M_tried _ (105, [(0, .inr (.inr 407)), (1, .inl v1), (2, .inl v2), (3, .inl v3), (4, .inl v4), (5, .inl r86)], [], M86)
    replace h := h.1 c93
    refine mm_s1 rfl ?_
    refine mm_s1 rfl ?_
    refine mm_s1 rfl ⟨fun c108 => ?_, fun c108 => ?_⟩
    · show mm_Go (mm_run 12) mc_M_tried _ (132, [(0, .inr (.inr 407)), (1, .inl v1), (2, .inl v2), (3, .inl v3), (4, .inl v4), (5, .inl r86)], [], M86)
      replace h := h.1 c108
      refine mm_s1 rfl ?_
      refine mm_s1 rfl ?_
      refine mm_s1 rfl ?_
      refine mm_s1 rfl ?_
      obtain ⟨b139, h⟩ := h
      refine mm_s1 rfl ⟨b139, ?_⟩
      show mm_Go (mm_run 12) mc_M_tried _ (140, [(0, .inr (.inr 407)), (1, .inl v1), (2, .inl v2), (3, .inl v3), (4, .inl v4), (5, .inl r86)], [.inl (v3 % 10), .inl 5474, .inr (.inr 407)], M86)
      refine mm_s1 rfl ⟨(nn_c407 NN).1, ?_⟩
      refine nn_call (D := 5) (by decide) (h n L N) ?_
      intro v M140 q; clear L N h
      obtain ⟨r140, rfl, L, N, h⟩ := q
      show mm_Go (mm_run 12) mc_M_tried _ (143, [(0, .inr (.inr 407)), (1, .inl v1), (2, .inl v2), (3, .inl v3), (4, .inl v4), (5, .inl r86)], [.inl r140], M140)
      exact mm_s1 rfl ⟨_, rfl, L, N, h⟩
    · show mm_Go (mm_run 12) mc_M_tried _ (111, [(0, .inr (.inr 407)), (1, .inl v1), (2, .inl v2), (3, .inl v3), (4, .inl v4), (5, .inl r86)], [], M86)
      replace c108 := Int.not_le.mp c108
      replace h := h.2 c108
      refine mm_s1 rfl ?_
      refine nn_getr rfl (nn_c407 NN).1 (lf_13_0 L N (nn_c407 NN)) ?_
      refine mm_s1 rfl ?_
      refine mm_s1 rfl ?_
      refine mm_s1 rfl ?_
      show mm_Go (mm_run 12) mc_M_tried _ (121, [(0, .inr (.inr 407)), (1, .inl v1), (2, .inl v2), (3, .inl v3), (4, .inl v4), (5, .inl r86)], [.inl 10, .inl v3, .inl 5474, .inr (.inr 408)], M86)
      obtain ⟨b121, h⟩ := h
      refine mm_s1 rfl ⟨b121, ?_⟩
      refine mm_s1 rfl ⟨trivial, ?_⟩
      refine np_M_at (by decide) L N ?_
      show mm_Go (mm_run 12) mc_M_tried _ (125, [(0, .inr (.inr 407)), (1, .inl v1), (2, .inl v2), (3, .inl v3), (4, .inl v4), (5, .inl r86)], [.inl (nf_M_at 5474 (v3 % 10)), .inr (.inr 408)], M86)
      refine mm_s1 rfl ?_
      refine mm_s1 rfl ?_
      obtain ⟨b128, h⟩ := h
      refine mm_s1 rfl ⟨nn_bd (na_13_0 NN (nn_c407 NN)) b128, ?_⟩
      show mm_Go (mm_run 12) mc_M_tried _ (129, [(0, .inr (.inr 407)), (1, .inl v1), (2, .inl v2), (3, .inl v3), (4, .inl v4), (5, .inl r86)], [.inl (nn_ri M86 408 (mm_w ((nf_M_at 5474 (v3 % 10)) + 6)))], M86)
      refine mm_s1 rfl ?_
      show mm_Go (mm_run 12) mc_M_tried _ (143, [(0, .inr (.inr 407)), (1, .inl v1), (2, .inl v2), (3, .inl v3), (4, .inl v4), (5, .inl r86)], [.inl (nn_ri M86 408 (mm_w ((nf_M_at 5474 (v3 % 10)) + 6)))], M86)
      exact mm_s1 rfl ⟨_, rfl, L, N, h⟩
  · show mm_Go (mm_run 12) mc_M_tried _ (96, [(0, .inr (.inr 407)), (1, .inl v1), (2, .inl v2), (3, .inl v3), (4, .inl v4), (5, .inl r86)], [], M86)
    replace c93 := Decidable.not_not.mp c93
    replace h := h.2 c93
    refine mm_s1 rfl ?_
    refine mm_s1 rfl ?_
    refine mm_s1 rfl ?_
    refine mm_s1 rfl ⟨(nn_c407 NN).1, ?_⟩
    refine nn_call (D := 10) (by decide) (h n L N) ?_
    intro v M101 q; clear L N h
    obtain ⟨r101, rfl, L, N, h⟩ := q
    show mm_Go (mm_run 12) mc_M_tried _ (104, [(0, .inr (.inr 407)), (1, .inl v1), (2, .inl v2), (3, .inl v3), (4, .inl v4), (5, .inl r86)], [.inl r101], M101)
    exact mm_s1 rfl ⟨_, rfl, L, N, h⟩
