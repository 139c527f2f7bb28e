/-! methods walked by program (wip/whole/dec.py) -/
def nr_M_filter (v1 : Int) (M : mm_M) (R : Int → mm_M → Prop) : Prop := ∀ n, nn_L M → M.1 = n → mm_run 2 mi_M_filter [.inr (.inr 407), .inl v1] M (nw_I n R)
def nk_M_filter_4 (v1 : Int) (v2 : Int) (v3 : Int) (M : mm_M) (R : Int → mm_M → Prop) : Prop := ∀ n, nn_L M → M.1 = n → mm_Go (mm_run 1) mc_M_filter (nw_I n R) (4, [(0, .inr (.inr 407)), (1, .inl v1), (2, .inl v2), (3, .inl v3)], [], M)
set_option maxRecDepth 20000 in
theorem ng_M_filter (v1 : Int) (M : mm_M) (R : Int → mm_M → Prop) (h : nk_M_filter_4 v1 0 0 M R) : nr_M_filter v1 M R := by
  intro n L N 
  have NN := nn_L_n L N
  show mm_Go (mm_run 1) mc_M_filter _ (0, [(0, .inr (.inr 407)), (1, .inl v1)], [], M)
  refine mm_s1 rfl ?_
  refine mm_s1 rfl ?_
  show mm_Go (mm_run 1) mc_M_filter _ (2, [(0, .inr (.inr 407)), (1, .inl v1), (2, .inl 0)], [], M)
  refine mm_s1 rfl ?_
  refine mm_s1 rfl ?_
  show mm_Go (mm_run 1) mc_M_filter _ (4, [(0, .inr (.inr 407)), (1, .inl v1), (2, .inl 0), (3, .inl 0)], [], M)
  exact nn_go_ext (nn_xc rfl (nn_xc rfl (nn_xc rfl (nn_xc rfl nn_xn)))) (h n L N)
set_option maxRecDepth 20000 in
theorem ng_M_filter_4 (v1 : Int) (v2 : Int) (v3 : Int) (M : mm_M) (R : Int → mm_M → Prop) (h : ((32 ≤ v3 → R v2 M) ∧ (v3 < 32 → (((0 : Int) ≤ (mm_w ((mm_w ((nf_M_runAt 0 v1) + 4)) + v3)) ∧ (mm_w ((mm_w ((nf_M_runAt 0 v1) + 4)) + v3)) < (32844 : Int)) ∧ (((nn_ri M 408 (mm_w ((mm_w ((nf_M_runAt 0 v1) + 4)) + v3))) ≤ 0 → nk_M_filter_4 v1 (mm_or v2 0) (mm_w (v3 + 1)) M R) ∧ (0 < (nn_ri M 408 (mm_w ((mm_w ((nf_M_runAt 0 v1) + 4)) + v3))) → (((0 : Int) ≤ v3 ∧ (0 : Int) < 8) ∧ nk_M_filter_4 v1 (mm_or v2 (mm_shl 1 (v3 % 8))) (mm_w (v3 + 1)) M R))))))) : nk_M_filter_4 v1 v2 v3 M R := by
  intro n L N 
  have NN := nn_L_n L N
  show mm_Go (mm_run 1) mc_M_filter _ (4, [(0, .inr (.inr 407)), (1, .inl v1), (2, .inl v2), (3, .inl v3)], [], M)
  refine mm_s1 rfl ?_
  refine mm_s1 rfl ?_
  refine mm_s1 rfl ⟨fun c7 => ?_, fun c7 => ?_⟩
  · show mm_Go (mm_run 1) mc_M_filter _ (46, [(0, .inr (.inr 407)), (1, .inl v1), (2, .inl v2), (3, .inl v3)], [], M)
    replace h := h.1 c7
    refine mm_s1 rfl ?_
    exact mm_s1 rfl ⟨_, rfl, L, N, h⟩
  · show mm_Go (mm_run 1) mc_M_filter _ (10, [(0, .inr (.inr 407)), (1, .inl v1), (2, .inl v2), (3, .inl v3)], [], M)
    replace c7 := Int.not_le.mp c7
    replace h := h.2 c7
    refine mm_s1 rfl ?_
    refine mm_s1 rfl ?_
    refine nn_getr rfl (nn_c407 NN).1 (lf_13_0 L N (nn_c407 NN)) ?_
    refine mm_s1 rfl ?_
    refine mm_s1 rfl ?_
    show mm_Go (mm_run 1) mc_M_filter _ (17, [(0, .inr (.inr 407)), (1, .inl v1), (2, .inl v2), (3, .inl v3)], [.inl v1, .inl 0, .inr (.inr 408), .inl v2], M)
    refine mm_s1 rfl ⟨trivial, ?_⟩
    refine np_M_runAt (by decide) L N ?_
    show mm_Go (mm_run 1) mc_M_filter _ (20, [(0, .inr (.inr 407)), (1, .inl v1), (2, .inl v2), (3, .inl v3)], [.inl (nf_M_runAt 0 v1), .inr (.inr 408), .inl v2], M)
    refine mm_s1 rfl ?_
    refine mm_s1 rfl ?_
    refine mm_s1 rfl ?_
    refine mm_s1 rfl ?_
    obtain ⟨b24, h⟩ := h
    refine mm_s1 rfl ⟨nn_bd (na_13_0 NN (nn_c407 NN)) b24, ?_⟩
    show mm_Go (mm_run 1) mc_M_filter _ (25, [(0, .inr (.inr 407)), (1, .inl v1), (2, .inl v2), (3, .inl v3)], [.inl (nn_ri M 408 (mm_w ((mm_w ((nf_M_runAt 0 v1) + 4)) + v3))), .inl v2], M)
    refine mm_s1 rfl ⟨fun c25 => ?_, fun c25 => ?_⟩
    · show mm_Go (mm_run 1) mc_M_filter _ (37, [(0, .inr (.inr 407)), (1, .inl v1), (2, .inl v2), (3, .inl v3)], [.inl v2], M)
      replace h := h.1 c25
      refine mm_s1 rfl ?_
      refine mm_s1 rfl ?_
      refine mm_s1 rfl ?_
      show mm_Go (mm_run 1) mc_M_filter _ (40, [(0, .inr (.inr 407)), (1, .inl v1), (2, .inl (mm_or v2 0)), (3, .inl v3)], [], M)
      refine mm_s1 rfl ?_
      show mm_Go (mm_run 1) mc_M_filter _ (43, [(0, .inr (.inr 407)), (1, .inl v1), (2, .inl (mm_or v2 0)), (3, .inl (mm_w (v3 + 1)))], [], M)
      refine mm_s1 rfl ?_
      show mm_Go (mm_run 1) mc_M_filter _ (4, [(0, .inr (.inr 407)), (1, .inl v1), (2, .inl (mm_or v2 0)), (3, .inl (mm_w (v3 + 1)))], [], M)
      exact nn_go_ext (nn_xc rfl (nn_xc rfl (nn_xc rfl (nn_xc rfl nn_xn)))) (h n L N)
    · show mm_Go (mm_run 1) mc_M_filter _ (28, [(0, .inr (.inr 407)), (1, .inl v1), (2, .inl v2), (3, .inl v3)], [.inl v2], M)
      replace c25 := Int.not_le.mp c25
      replace h := h.2 c25
      refine mm_s1 rfl ?_
      refine mm_s1 rfl ?_
      refine mm_s1 rfl ?_
      obtain ⟨b32, h⟩ := h
      refine mm_s1 rfl ⟨b32, ?_⟩
      refine mm_s1 rfl ?_
      show mm_Go (mm_run 1) mc_M_filter _ (34, [(0, .inr (.inr 407)), (1, .inl v1), (2, .inl v2), (3, .inl v3)], [.inl (mm_shl 1 (v3 % 8)), .inl v2], M)
      refine mm_s1 rfl ?_
      show mm_Go (mm_run 1) mc_M_filter _ (38, [(0, .inr (.inr 407)), (1, .inl v1), (2, .inl v2), (3, .inl v3)], [.inl (mm_shl 1 (v3 % 8)), .inl v2], M)
      refine mm_s1 rfl ?_
      refine mm_s1 rfl ?_
      show mm_Go (mm_run 1) mc_M_filter _ (40, [(0, .inr (.inr 407)), (1, .inl v1), (2, .inl (mm_or v2 (mm_shl 1 (v3 % 8)))), (3, .inl v3)], [], M)
      refine mm_s1 rfl ?_
      show mm_Go (mm_run 1) mc_M_filter _ (43, [(0, .inr (.inr 407)), (1, .inl v1), (2, .inl (mm_or v2 (mm_shl 1 (v3 % 8)))), (3, .inl (mm_w (v3 + 1)))], [], M)
      refine mm_s1 rfl ?_
      show mm_Go (mm_run 1) mc_M_filter _ (4, [(0, .inr (.inr 407)), (1, .inl v1), (2, .inl (mm_or v2 (mm_shl 1 (v3 % 8)))), (3, .inl (mm_w (v3 + 1)))], [], M)
      exact nn_go_ext (nn_xc rfl (nn_xc rfl (nn_xc rfl (nn_xc rfl nn_xn)))) (h n L N)
def nf_M_cost (v1 : Int) (M : mm_M) : Int := (if (nn_ri M 408 15) ≠ 1 then (-1) else (if (nf_M_isIn v1 0 3) = 0 then (-1) else nn_ri M 408 (mm_w (16 + v1))))
def nc_M_cost (v1 : Int) (M : mm_M) : Prop := ((nn_ri M 408 15) = 1 → ((nf_M_isIn v1 0 3) ≠ 0 → ((0 : Int) ≤ (mm_w (16 + v1)) ∧ (mm_w (16 + v1)) < (32844 : Int))))
set_option maxRecDepth 20000 in
theorem np_M_cost {v1 : Int} {M : mm_M} {n d : Nat} {P : mm_P} (hd : 2 ≤ d) (L : nn_L M) (N : M.1 = n)  (b : nc_M_cost v1 M) (h : P (some (.inl (nf_M_cost v1 M))) M) : mm_run d mi_M_cost [.inr (.inr 407), .inl v1] M P := by
  have NN := nn_L_n L N
  unfold nc_M_cost at b
  unfold nf_M_cost at h
  refine nn_run_le hd ?_
  show mm_Go (mm_run 1) mc_M_cost _ (0, [(0, .inr (.inr 407)), (1, .inl v1)], [], M)
  refine mm_s1 rfl ?_
  refine nn_getr rfl (nn_c407 NN).1 (lf_13_0 L N (nn_c407 NN)) ?_
  refine mm_s1 rfl ?_
  refine mm_s1 rfl ⟨nn_bd (na_13_0 NN (nn_c407 NN)) (by decide), ?_⟩
  show mm_Go (mm_run 1) mc_M_cost _ (7, [(0, .inr (.inr 407)), (1, .inl v1)], [.inl (nn_ri M 408 15)], M)
  refine mm_s1 rfl ?_
  refine mm_s1 rfl ⟨fun c8 => ?_, fun c8 => ?_⟩
  · show mm_Go (mm_run 1) mc_M_cost _ (32, [(0, .inr (.inr 407)), (1, .inl v1)], [], M)
    rw [if_pos (show (nn_ri M 408 15) ≠ 1 from c8)] at h
    refine mm_s1 rfl ?_
    exact mm_s1 rfl h
  · show mm_Go (mm_run 1) mc_M_cost _ (11, [(0, .inr (.inr 407)), (1, .inl v1)], [], M)
    rw [if_neg (show ¬ ((nn_ri M 408 15) ≠ 1) from c8)] at h
    replace c8 := Decidable.not_not.mp c8
    replace b := b c8
    refine mm_s1 rfl ?_
    refine mm_s1 rfl ?_
    refine mm_s1 rfl ?_
    refine mm_s1 rfl ⟨trivial, ?_⟩
    refine np_M_isIn (by decide) L N ?_
    show mm_Go (mm_run 1) mc_M_cost _ (17, [(0, .inr (.inr 407)), (1, .inl v1)], [.inl (nf_M_isIn v1 0 3)], M)
    refine mm_s1 rfl ⟨fun c17 => ?_, fun c17 => ?_⟩
    · show mm_Go (mm_run 1) mc_M_cost _ (32, [(0, .inr (.inr 407)), (1, .inl v1)], [], M)
      rw [if_pos (show (nf_M_isIn v1 0 3) = 0 from c17)] at h
      refine mm_s1 rfl ?_
      exact mm_s1 rfl h
    · show mm_Go (mm_run 1) mc_M_cost _ (20, [(0, .inr (.inr 407)), (1, .inl v1)], [], M)
      rw [if_neg (show ¬ ((nf_M_isIn v1 0 3) = 0) from c17)] at h
      replace b := b c17
      refine mm_s1 rfl ?_
      refine nn_getr rfl (nn_c407 NN).1 (lf_13_0 L N (nn_c407 NN)) ?_
      refine mm_s1 rfl ?_
      refine mm_s1 rfl ?_
      refine mm_s1 rfl ?_
      have b28 := b
      refine mm_s1 rfl ⟨nn_bd (na_13_0 NN (nn_c407 NN)) b28, ?_⟩
      show mm_Go (mm_run 1) mc_M_cost _ (29, [(0, .inr (.inr 407)), (1, .inl v1)], [.inl (nn_ri M 408 (mm_w (16 + v1)))], M)
      refine mm_s1 rfl ?_
      show mm_Go (mm_run 1) mc_M_cost _ (33, [(0, .inr (.inr 407)), (1, .inl v1)], [.inl (nn_ri M 408 (mm_w (16 + v1)))], M)
      exact mm_s1 rfl h
def nf_M_isOpen (v1 : Int) (M : mm_M) : Int := (if (nf_M_isIn v1 0 2) = 0 then 0 else (if (nn_ri M 408 (nf_M_cursorAt 0 v1)) ≠ 1 then 0 else 1))
def nc_M_isOpen (v1 : Int) (M : mm_M) : Prop := ((nf_M_isIn v1 0 2) ≠ 0 → ((0 : Int) ≤ (nf_M_cursorAt 0 v1) ∧ (nf_M_cursorAt 0 v1) < (32844 : Int)))
theorem nz_M_isOpen (v1 : Int) (M : mm_M) : nf_M_isOpen v1 M = 0 ∨ nf_M_isOpen v1 M = 1 := by
  unfold nf_M_isOpen
  repeat' split
  all_goals first | exact Or.inl rfl | exact Or.inr rfl
set_option maxRecDepth 20000 in
theorem np_M_isOpen {v1 : Int} {M : mm_M} {n d : Nat} {P : mm_P} (hd : 2 ≤ d) (L : nn_L M) (N : M.1 = n)  (b : nc_M_isOpen v1 M) (h : P (some (.inl (nf_M_isOpen v1 M))) M) : mm_run d mi_M_isOpen [.inr (.inr 407), .inl v1] M P := by
  have NN := nn_L_n L N
  unfold nc_M_isOpen at b
  unfold nf_M_isOpen at h
  refine nn_run_le hd ?_
  show mm_Go (mm_run 1) mc_M_isOpen _ (0, [(0, .inr (.inr 407)), (1, .inl v1)], [], M)
  refine mm_s1 rfl ?_
  refine mm_s1 rfl ?_
  refine mm_s1 rfl ?_
  refine mm_s1 rfl ⟨trivial, ?_⟩
  refine np_M_isIn (by decide) L N ?_
  show mm_Go (mm_run 1) mc_M_isOpen _ (6, [(0, .inr (.inr 407)), (1, .inl v1)], [.inl (nf_M_isIn v1 0 2)], M)
  refine mm_s1 rfl ⟨fun c6 => ?_, fun c6 => ?_⟩
  · show mm_Go (mm_run 1) mc_M_isOpen _ (27, [(0, .inr (.inr 407)), (1, .inl v1)], [], M)
    rw [if_pos (show (nf_M_isIn v1 0 2) = 0 from c6)] at h
    refine mm_s1 rfl ?_
    exact mm_s1 rfl ⟨(Or.inl rfl), h⟩
  · show mm_Go (mm_run 1) mc_M_isOpen _ (9, [(0, .inr (.inr 407)), (1, .inl v1)], [], M)
    rw [if_neg (show ¬ ((nf_M_isIn v1 0 2) = 0) from c6)] at h
    replace b := b c6
    refine mm_s1 rfl ?_
    refine nn_getr rfl (nn_c407 NN).1 (lf_13_0 L N (nn_c407 NN)) ?_
    refine mm_s1 rfl ?_
    refine mm_s1 rfl ?_
    refine mm_s1 rfl ⟨trivial, ?_⟩
    refine np_M_cursorAt (by decide) L N ?_
    show mm_Go (mm_run 1) mc_M_isOpen _ (18, [(0, .inr (.inr 407)), (1, .inl v1)], [.inl (nf_M_cursorAt 0 v1), .inr (.inr 408)], M)
    have b18 := b
    refine mm_s1 rfl ⟨nn_bd (na_13_0 NN (nn_c407 NN)) b18, ?_⟩
    show mm_Go (mm_run 1) mc_M_isOpen _ (19, [(0, .inr (.inr 407)), (1, .inl v1)], [.inl (nn_ri M 408 (nf_M_cursorAt 0 v1))], M)
    refine mm_s1 rfl ?_
    refine mm_s1 rfl ⟨fun c20 => ?_, fun c20 => ?_⟩
    · show mm_Go (mm_run 1) mc_M_isOpen _ (27, [(0, .inr (.inr 407)), (1, .inl v1)], [], M)
      rw [if_pos (show (nn_ri M 408 (nf_M_cursorAt 0 v1)) ≠ 1 from c20)] at h
      refine mm_s1 rfl ?_
      exact mm_s1 rfl ⟨(Or.inl rfl), h⟩
    · show mm_Go (mm_run 1) mc_M_isOpen _ (23, [(0, .inr (.inr 407)), (1, .inl v1)], [], M)
      rw [if_neg (show ¬ ((nn_ri M 408 (nf_M_cursorAt 0 v1)) ≠ 1) from c20)] at h
      replace c20 := Decidable.not_not.mp c20
      refine mm_s1 rfl ?_
      refine mm_s1 rfl ?_
      show mm_Go (mm_run 1) mc_M_isOpen _ (28, [(0, .inr (.inr 407)), (1, .inl v1)], [.inl 1], M)
      exact mm_s1 rfl ⟨(Or.inr rfl), h⟩
def nr_M_versions (v1 : Int) (v2 : Int) (M : mm_M) (R : Int → mm_M → Prop) : Prop := ∀ n, nn_L M → M.1 = n → mm_run 2 mi_M_versions [.inr (.inr 407), .inl v1, .inl v2] M (nw_I n R)
def nk_M_versions_5 (v1 : Int) (v2 : Int) (v3 : Int) (v4 : Int) (M : mm_M) (R : Int → mm_M → Prop) : Prop := ∀ n, nn_L M → M.1 = n → mm_Go (mm_run 1) mc_M_versions (nw_I n R) (5, [(0, .inr (.inr 407)), (1, .inl v1), (2, .inl v2), (3, .inl v3), (4, .inl v4)], [], M)
def nk_M_versions_28 (v1 : Int) (v2 : Int) (v3 : Int) (v4 : Int) (v5 : Int) (M : mm_M) (R : Int → mm_M → Prop) : Prop := ∀ n, nn_L M → M.1 = n → mm_Go (mm_run 1) mc_M_versions (nw_I n R) (28, [(0, .inr (.inr 407)), (1, .inl v1), (2, .inl v2), (3, .inl v3), (4, .inl v4), (5, .inl v5)], [], M)
set_option maxRecDepth 20000 in
theorem ng_M_versions (v1 : Int) (v2 : Int) (M : mm_M) (R : Int → mm_M → Prop) (h : nk_M_versions_5 v1 v2 0 0 M R) : nr_M_versions v1 v2 M R := by
  intro n L N 
  have NN := nn_L_n L N
  show mm_Go (mm_run 1) mc_M_versions _ (0, [(0, .inr (.inr 407)), (1, .inl v1), (2, .inl v2)], [], M)
  refine mm_s1 rfl ?_
  refine mm_s1 rfl ?_
  show mm_Go (mm_run 1) mc_M_versions _ (2, [(0, .inr (.inr 407)), (1, .inl v1), (2, .inl v2), (3, .inl 0)], [], M)
  refine mm_s1 rfl ?_
  refine mm_s1 rfl ?_
  show mm_Go (mm_run 1) mc_M_versions _ (5, [(0, .inr (.inr 407)), (1, .inl v1), (2, .inl v2), (3, .inl 0), (4, .inl 0)], [], M)
  exact nn_go_ext (nn_xc rfl (nn_xc rfl (nn_xc rfl (nn_xc rfl (nn_xc rfl nn_xn))))) (h n L N)
set_option maxRecDepth 20000 in
theorem ng_M_versions_5 (v1 : Int) (v2 : Int) (v3 : Int) (v4 : Int) (M : mm_M) (R : Int → mm_M → Prop) (h : (((0 : Int) ≤ (mm_w (v1 + 5)) ∧ (mm_w (v1 + 5)) < (32844 : Int)) ∧ (((nn_ri M 408 (mm_w (v1 + 5))) ≤ v4 → R v3 M) ∧ (v4 < (nn_ri M 408 (mm_w (v1 + 5))) → (∀ x5_26 : Int, x5_26 = mm_w ((nf_M_runAt v1 v4) + 4) → nk_M_versions_28 v1 v2 v3 v4 x5_26 M R))))) : nk_M_versions_5 v1 v2 v3 v4 M R := by
  intro n L N 
  have NN := nn_L_n L N
  show mm_Go (mm_run 1) mc_M_versions _ (5, [(0, .inr (.inr 407)), (1, .inl v1), (2, .inl v2), (3, .inl v3), (4, .inl v4)], [], M)
  refine mm_s1 rfl ?_
  refine mm_s1 rfl ?_
  refine nn_getr rfl (nn_c407 NN).1 (lf_13_0 L N (nn_c407 NN)) ?_
  refine mm_s1 rfl ?_
  refine mm_s1 rfl ?_
  show mm_Go (mm_run 1) mc_M_versions _ (13, [(0, .inr (.inr 407)), (1, .inl v1), (2, .inl v2), (3, .inl v3), (4, .inl v4)], [.inl 5, .inl v1, .inr (.inr 408), .inl v4], M)
  refine mm_s1 rfl ?_
  obtain ⟨b14, h⟩ := h
  refine mm_s1 rfl ⟨nn_bd (na_13_0 NN (nn_c407 NN)) b14, ?_⟩
  show mm_Go (mm_run 1) mc_M_versions _ (15, [(0, .inr (.inr 407)), (1, .inl v1), (2, .inl v2), (3, .inl v3), (4, .inl v4)], [.inl (nn_ri M 408 (mm_w (v1 + 5))), .inl v4], M)
  refine mm_s1 rfl ⟨fun c15 => ?_, fun c15 => ?_⟩
  · show mm_Go (mm_run 1) mc_M_versions _ (92, [(0, .inr (.inr 407)), (1, .inl v1), (2, .inl v2), (3, .inl v3), (4, .inl v4)], [], M)
    replace h := h.1 c15
    refine mm_s1 rfl ?_
    exact mm_s1 rfl ⟨_, rfl, L, N, h⟩
  · show mm_Go (mm_run 1) mc_M_versions _ (18, [(0, .inr (.inr 407)), (1, .inl v1), (2, .inl v2), (3, .inl v3), (4, .inl v4)], [], M)
    replace c15 := Int.not_le.mp c15
    replace h := h.2 c15
    refine mm_s1 rfl ?_
    refine mm_s1 rfl ?_
    refine mm_s1 rfl ⟨trivial, ?_⟩
    refine np_M_runAt (by decide) L N ?_
    show mm_Go (mm_run 1) mc_M_versions _ (24, [(0, .inr (.inr 407)), (1, .inl v1), (2, .inl v2), (3, .inl v3), (4, .inl v4)], [.inl (nf_M_runAt v1 v4)], M)
    refine mm_s1 rfl ?_
    refine mm_s1 rfl ?_
    refine mm_s1 rfl ?_
    show mm_Go (mm_run 1) mc_M_versions _ (28, [(0, .inr (.inr 407)), (1, .inl v1), (2, .inl v2), (3, .inl v3), (4, .inl v4), (5, .inl (mm_w ((nf_M_runAt v1 v4) + 4)))], [], M)
    generalize e_x5_26 : (mm_w ((nf_M_runAt v1 v4) + 4)) = x5_26
    replace h := h _ e_x5_26.symm
    show mm_Go (mm_run 1) mc_M_versions _ (28, [(0, .inr (.inr 407)), (1, .inl v1), (2, .inl v2), (3, .inl v3), (4, .inl v4), (5, .inl x5_26)], [], M)
    exact nn_go_ext (nn_xc rfl (nn_xc rfl (nn_xc rfl (nn_xc rfl (nn_xc rfl (nn_xc rfl nn_xn)))))) (h n L N)
set_option maxRecDepth 20000 in
theorem ng_M_versions_28 (v1 : Int) (v2 : Int) (v3 : Int) (v4 : Int) (v5 : Int) (M : mm_M) (R : Int → mm_M → Prop) (h : (((mm_w ((mm_w ((nf_M_runAt v1 v4) + 4)) + 32)) ≤ v5 → nk_M_versions_5 v1 v2 v3 (mm_w (v4 + 1)) M R) ∧ (v5 < (mm_w ((mm_w ((nf_M_runAt v1 v4) + 4)) + 32)) → (((0 : Int) ≤ v5 ∧ v5 < (32844 : Int)) ∧ (((0 < (nn_ri M 408 v5)) ∧ (v2 ≠ 0) → ((0 : Int) ≤ (mm_w (v5 + 32)) ∧ (mm_w (v5 + 32)) < (32844 : Int))) ∧ (((nn_ri M 408 v5) ≤ 0 ∨ (v2 ≠ 0 ∧ ((nn_ri M 408 (mm_w (v5 + 32))) ≠ (-1)))) → nk_M_versions_28 v1 v2 (mm_w (v3 + 0)) v4 (mm_w (v5 + 1)) M R) ∧ ((0 < (nn_ri M 408 v5) ∧ (v2 = 0 ∨ ((nn_ri M 408 (mm_w (v5 + 32))) = (-1)))) → nk_M_versions_28 v1 v2 (mm_w (v3 + 1)) v4 (mm_w (v5 + 1)) M R)))))) : nk_M_versions_28 v1 v2 v3 v4 v5 M R := by
  intro n L N 
  have NN := nn_L_n L N
  show mm_Go (mm_run 1) mc_M_versions _ (28, [(0, .inr (.inr 407)), (1, .inl v1), (2, .inl v2), (3, .inl v3), (4, .inl v4), (5, .inl v5)], [], M)
  refine mm_s1 rfl ?_
  refine mm_s1 rfl ?_
  refine mm_s1 rfl ?_
  refine mm_s1 rfl ⟨trivial, ?_⟩
  refine np_M_runAt (by decide) L N ?_
  show mm_Go (mm_run 1) mc_M_versions _ (36, [(0, .inr (.inr 407)), (1, .inl v1), (2, .inl v2), (3, .inl v3), (4, .inl v4), (5, .inl v5)], [.inl (nf_M_runAt v1 v4), .inl v5], M)
  refine mm_s1 rfl ?_
  refine mm_s1 rfl ?_
  refine mm_s1 rfl ?_
  refine mm_s1 rfl ?_
  refine mm_s1 rfl ⟨fun c41 => ?_, fun c41 => ?_⟩
  · show mm_Go (mm_run 1) mc_M_versions _ (86, [(0, .inr (.inr 407)), (1, .inl v1), (2, .inl v2), (3, .inl v3), (4, .inl v4), (5, .inl v5)], [], M)
    replace h := h.1 c41
    refine mm_s1 rfl ?_
    show mm_Go (mm_run 1) mc_M_versions _ (89, [(0, .inr (.inr 407)), (1, .inl v1), (2, .inl v2), (3, .inl v3), (4, .inl (mm_w (v4 + 1))), (5, .inl v5)], [], M)
    refine mm_s1 rfl ?_
    show mm_Go (mm_run 1) mc_M_versions _ (5, [(0, .inr (.inr 407)), (1, .inl v1), (2, .inl v2), (3, .inl v3), (4, .inl (mm_w (v4 + 1))), (5, .inl v5)], [], M)
    exact nn_go_ext (nn_xc rfl (nn_xc rfl (nn_xc rfl (nn_xc rfl (nn_xc rfl nn_xn))))) (h n L N)
  · show mm_Go (mm_run 1) mc_M_versions _ (44, [(0, .inr (.inr 407)), (1, .inl v1), (2, .inl v2), (3, .inl v3), (4, .inl v4), (5, .inl v5)], [], M)
    replace c41 := Int.not_le.mp c41
    replace h := h.2 c41
    refine mm_s1 rfl ?_
    refine mm_s1 rfl ?_
    refine nn_getr rfl (nn_c407 NN).1 (lf_13_0 L N (nn_c407 NN)) ?_
    refine mm_s1 rfl ?_
    obtain ⟨b51, h⟩ := h
    refine mm_s1 rfl ⟨nn_bd (na_13_0 NN (nn_c407 NN)) b51, ?_⟩
    show mm_Go (mm_run 1) mc_M_versions _ (52, [(0, .inr (.inr 407)), (1, .inl v1), (2, .inl v2), (3, .inl v3), (4, .inl v4), (5, .inl v5)], [.inl (nn_ri M 408 v5), .inl v3], M)
    refine mm_s1 rfl ⟨fun c52 => ?_, fun c52 => ?_⟩
    · show mm_Go (mm_run 1) mc_M_versions _ (77, [(0, .inr (.inr 407)), (1, .inl v1), (2, .inl v2), (3, .inl v3), (4, .inl v4), (5, .inl v5)], [.inl v3], M)
      refine mm_s1 rfl ?_
      refine mm_s1 rfl ?_
      refine mm_s1 rfl ?_
      show mm_Go (mm_run 1) mc_M_versions _ (80, [(0, .inr (.inr 407)), (1, .inl v1), (2, .inl v2), (3, .inl (mm_w (v3 + 0))), (4, .inl v4), (5, .inl v5)], [], M)
      refine mm_s1 rfl ?_
      show mm_Go (mm_run 1) mc_M_versions _ (83, [(0, .inr (.inr 407)), (1, .inl v1), (2, .inl v2), (3, .inl (mm_w (v3 + 0))), (4, .inl v4), (5, .inl (mm_w (v5 + 1)))], [], M)
      refine mm_s1 rfl ?_
      show mm_Go (mm_run 1) mc_M_versions _ (28, [(0, .inr (.inr 407)), (1, .inl v1), (2, .inl v2), (3, .inl (mm_w (v3 + 0))), (4, .inl v4), (5, .inl (mm_w (v5 + 1)))], [], M)
      replace h := h.2.1 (Or.inl c52)
      exact nn_go_ext (nn_xc rfl (nn_xc rfl (nn_xc rfl (nn_xc rfl (nn_xc rfl (nn_xc rfl nn_xn)))))) (h n L N)
    · show mm_Go (mm_run 1) mc_M_versions _ (55, [(0, .inr (.inr 407)), (1, .inl v1), (2, .inl v2), (3, .inl v3), (4, .inl v4), (5, .inl v5)], [.inl v3], M)
      replace c52 := Int.not_le.mp c52
      refine mm_s1 rfl ?_
      refine mm_s1 rfl ⟨fun c56 => ?_, fun c56 => ?_⟩
      · show mm_Go (mm_run 1) mc_M_versions _ (73, [(0, .inr (.inr 407)), (1, .inl v1), (2, .inl v2), (3, .inl v3), (4, .inl v4), (5, .inl v5)], [.inl v3], M)
        refine mm_s1 rfl ?_
        refine mm_s1 rfl ?_
        show mm_Go (mm_run 1) mc_M_versions _ (78, [(0, .inr (.inr 407)), (1, .inl v1), (2, .inl v2), (3, .inl v3), (4, .inl v4), (5, .inl v5)], [.inl 1, .inl v3], M)
        refine mm_s1 rfl ?_
        refine mm_s1 rfl ?_
        show mm_Go (mm_run 1) mc_M_versions _ (80, [(0, .inr (.inr 407)), (1, .inl v1), (2, .inl v2), (3, .inl (mm_w (v3 + 1))), (4, .inl v4), (5, .inl v5)], [], M)
        refine mm_s1 rfl ?_
        show mm_Go (mm_run 1) mc_M_versions _ (83, [(0, .inr (.inr 407)), (1, .inl v1), (2, .inl v2), (3, .inl (mm_w (v3 + 1))), (4, .inl v4), (5, .inl (mm_w (v5 + 1)))], [], M)
        refine mm_s1 rfl ?_
        show mm_Go (mm_run 1) mc_M_versions _ (28, [(0, .inr (.inr 407)), (1, .inl v1), (2, .inl v2), (3, .inl (mm_w (v3 + 1))), (4, .inl v4), (5, .inl (mm_w (v5 + 1)))], [], M)
        replace h := h.2.2 ⟨c52, (Or.inl c56)⟩
        exact nn_go_ext (nn_xc rfl (nn_xc rfl (nn_xc rfl (nn_xc rfl (nn_xc rfl (nn_xc rfl nn_xn)))))) (h n L N)
      · show mm_Go (mm_run 1) mc_M_versions _ (59, [(0, .inr (.inr 407)), (1, .inl v1), (2, .inl v2), (3, .inl v3), (4, .inl v4), (5, .inl v5)], [.inl v3], M)
        refine mm_s1 rfl ?_
        refine nn_getr rfl (nn_c407 NN).1 (lf_13_0 L N (nn_c407 NN)) ?_
        refine mm_s1 rfl ?_
        refine mm_s1 rfl ?_
        refine mm_s1 rfl ?_
        show mm_Go (mm_run 1) mc_M_versions _ (68, [(0, .inr (.inr 407)), (1, .inl v1), (2, .inl v2), (3, .inl v3), (4, .inl v4), (5, .inl v5)], [.inl (mm_w (v5 + 32)), .inr (.inr 408), .inl v3], M)
        have b68 := h.1 ⟨c52, c56⟩
        refine mm_s1 rfl ⟨nn_bd (na_13_0 NN (nn_c407 NN)) b68, ?_⟩
        show mm_Go (mm_run 1) mc_M_versions _ (69, [(0, .inr (.inr 407)), (1, .inl v1), (2, .inl v2), (3, .inl v3), (4, .inl v4), (5, .inl v5)], [.inl (nn_ri M 408 (mm_w (v5 + 32))), .inl v3], M)
        refine mm_s1 rfl ?_
        refine mm_s1 rfl ⟨fun c70 => ?_, fun c70 => ?_⟩
        · show mm_Go (mm_run 1) mc_M_versions _ (77, [(0, .inr (.inr 407)), (1, .inl v1), (2, .inl v2), (3, .inl v3), (4, .inl v4), (5, .inl v5)], [.inl v3], M)
          refine mm_s1 rfl ?_
          refine mm_s1 rfl ?_
          refine mm_s1 rfl ?_
          show mm_Go (mm_run 1) mc_M_versions _ (80, [(0, .inr (.inr 407)), (1, .inl v1), (2, .inl v2), (3, .inl (mm_w (v3 + 0))), (4, .inl v4), (5, .inl v5)], [], M)
          refine mm_s1 rfl ?_
          show mm_Go (mm_run 1) mc_M_versions _ (83, [(0, .inr (.inr 407)), (1, .inl v1), (2, .inl v2), (3, .inl (mm_w (v3 + 0))), (4, .inl v4), (5, .inl (mm_w (v5 + 1)))], [], M)
          refine mm_s1 rfl ?_
          show mm_Go (mm_run 1) mc_M_versions _ (28, [(0, .inr (.inr 407)), (1, .inl v1), (2, .inl v2), (3, .inl (mm_w (v3 + 0))), (4, .inl v4), (5, .inl (mm_w (v5 + 1)))], [], M)
          replace h := h.2.1 (Or.inr ⟨c56, c70⟩)
          exact nn_go_ext (nn_xc rfl (nn_xc rfl (nn_xc rfl (nn_xc rfl (nn_xc rfl (nn_xc rfl nn_xn)))))) (h n L N)
        · show mm_Go (mm_run 1) mc_M_versions _ (73, [(0, .inr (.inr 407)), (1, .inl v1), (2, .inl v2), (3, .inl v3), (4, .inl v4), (5, .inl v5)], [.inl v3], M)
          replace c70 := Decidable.not_not.mp c70
          refine mm_s1 rfl ?_
          refine mm_s1 rfl ?_
          show mm_Go (mm_run 1) mc_M_versions _ (78, [(0, .inr (.inr 407)), (1, .inl v1), (2, .inl v2), (3, .inl v3), (4, .inl v4), (5, .inl v5)], [.inl 1, .inl v3], M)
          refine mm_s1 rfl ?_
          refine mm_s1 rfl ?_
          show mm_Go (mm_run 1) mc_M_versions _ (80, [(0, .inr (.inr 407)), (1, .inl v1), (2, .inl v2), (3, .inl (mm_w (v3 + 1))), (4, .inl v4), (5, .inl v5)], [], M)
          refine mm_s1 rfl ?_
          show mm_Go (mm_run 1) mc_M_versions _ (83, [(0, .inr (.inr 407)), (1, .inl v1), (2, .inl v2), (3, .inl (mm_w (v3 + 1))), (4, .inl v4), (5, .inl (mm_w (v5 + 1)))], [], M)
          refine mm_s1 rfl ?_
          show mm_Go (mm_run 1) mc_M_versions _ (28, [(0, .inr (.inr 407)), (1, .inl v1), (2, .inl v2), (3, .inl (mm_w (v3 + 1))), (4, .inl v4), (5, .inl (mm_w (v5 + 1)))], [], M)
          replace h := h.2.2 ⟨c52, (Or.inr c70)⟩
          exact nn_go_ext (nn_xc rfl (nn_xc rfl (nn_xc rfl (nn_xc rfl (nn_xc rfl (nn_xc rfl nn_xn)))))) (h n L N)
def nr_M_isRun (v1 : Int) (v2 : Int) (M : mm_M) (R : Int → mm_M → Prop) : Prop := ∀ n, nn_L M → M.1 = n → mm_run 2 mi_M_isRun [.inr (.inr 407), .inl v1, .inl v2] M (nw_Z n R)
def nk_M_isRun_2 (v1 : Int) (v2 : Int) (v3 : Int) (M : mm_M) (R : Int → mm_M → Prop) : Prop := ∀ n, nn_L M → M.1 = n → mm_Go (mm_run 1) mc_M_isRun (nw_Z n R) (2, [(0, .inr (.inr 407)), (1, .inl v1), (2, .inl v2), (3, .inl v3)], [], M)
def nk_M_isRun_38 (v1 : Int) (v2 : Int) (v3 : Int) (M : mm_M) (R : Int → mm_M → Prop) : Prop := ∀ n, nn_L M → M.1 = n → mm_Go (mm_run 1) mc_M_isRun (nw_Z n R) (38, [(0, .inr (.inr 407)), (1, .inl v1), (2, .inl v2), (3, .inl v3)], [], M)
def nk_M_isRun_53 (v1 : Int) (v2 : Int) (v3 : Int) (v4 : Int) (v5 : Int) (M : mm_M) (R : Int → mm_M → Prop) : Prop := ∀ n, nn_L M → M.1 = n → mm_Go (mm_run 1) mc_M_isRun (nw_Z n R) (53, [(0, .inr (.inr 407)), (1, .inl v1), (2, .inl v2), (3, .inl v3), (4, .inl v4), (5, .inl v5)], [], M)
set_option maxRecDepth 20000 in
theorem ng_M_isRun (v1 : Int) (v2 : Int) (M : mm_M) (R : Int → mm_M → Prop) (h : nk_M_isRun_2 v1 v2 0 M R) : nr_M_isRun v1 v2 M R := by
  intro n L N 
  have NN := nn_L_n L N
  show mm_Go (mm_run 1) mc_M_isRun _ (0, [(0, .inr (.inr 407)), (1, .inl v1), (2, .inl v2)], [], M)
  refine mm_s1 rfl ?_
  refine mm_s1 rfl ?_
  show mm_Go (mm_run 1) mc_M_isRun _ (2, [(0, .inr (.inr 407)), (1, .inl v1), (2, .inl v2), (3, .inl 0)], [], M)
  exact nn_go_ext (nn_xc rfl (nn_xc rfl (nn_xc rfl (nn_xc rfl nn_xn)))) (h n L N)
set_option maxRecDepth 20000 in
theorem ng_M_isRun_2 (v1 : Int) (v2 : Int) (v3 : Int) (M : mm_M) (R : Int → mm_M → Prop) (h : (((0 : Int) ≤ (mm_w (v1 + 5)) ∧ (mm_w (v1 + 5)) < (32844 : Int)) ∧ (((nn_ri M 408 (mm_w (v1 + 5))) ≤ v3 → nk_M_isRun_38 v1 v2 0 M R) ∧ (v3 < (nn_ri M 408 (mm_w (v1 + 5))) → (((0 : Int) ≤ (nf_M_runAt v1 v3) ∧ (nf_M_runAt v1 v3) < (32844 : Int)) ∧ (((nn_ri M 408 (nf_M_runAt v1 v3)) ≠ v2 → nk_M_isRun_2 v1 v2 (mm_w (v3 + 1)) M R) ∧ ((nn_ri M 408 (nf_M_runAt v1 v3)) = v2 → R 1 M))))))) : nk_M_isRun_2 v1 v2 v3 M R := by
  intro n L N 
  have NN := nn_L_n L N
  show mm_Go (mm_run 1) mc_M_isRun _ (2, [(0, .inr (.inr 407)), (1, .inl v1), (2, .inl v2), (3, .inl v3)], [], M)
  refine mm_s1 rfl ?_
  refine mm_s1 rfl ?_
  refine nn_getr rfl (nn_c407 NN).1 (lf_13_0 L N (nn_c407 NN)) ?_
  refine mm_s1 rfl ?_
  refine mm_s1 rfl ?_
  show mm_Go (mm_run 1) mc_M_isRun _ (9, [(0, .inr (.inr 407)), (1, .inl v1), (2, .inl v2), (3, .inl v3)], [.inl 5, .inl v1, .inr (.inr 408), .inl v3], M)
  refine mm_s1 rfl ?_
  obtain ⟨b10, h⟩ := h
  refine mm_s1 rfl ⟨nn_bd (na_13_0 NN (nn_c407 NN)) b10, ?_⟩
  show mm_Go (mm_run 1) mc_M_isRun _ (11, [(0, .inr (.inr 407)), (1, .inl v1), (2, .inl v2), (3, .inl v3)], [.inl (nn_ri M 408 (mm_w (v1 + 5))), .inl v3], M)
  refine mm_s1 rfl ⟨fun c11 => ?_, fun c11 => ?_⟩
  · show mm_Go (mm_run 1) mc_M_isRun _ (36, [(0, .inr (.inr 407)), (1, .inl v1), (2, .inl v2), (3, .inl v3)], [], M)
    replace h := h.1 c11
    refine mm_s1 rfl ?_
    refine mm_s1 rfl ?_
    show mm_Go (mm_run 1) mc_M_isRun _ (38, [(0, .inr (.inr 407)), (1, .inl v1), (2, .inl v2), (3, .inl 0)], [], M)
    exact nn_go_ext (nn_xc rfl (nn_xc rfl (nn_xc rfl (nn_xc rfl nn_xn)))) (h n L N)
  · show mm_Go (mm_run 1) mc_M_isRun _ (14, [(0, .inr (.inr 407)), (1, .inl v1), (2, .inl v2), (3, .inl v3)], [], M)
    replace c11 := Int.not_le.mp c11
    replace h := h.2 c11
    refine mm_s1 rfl ?_
    refine nn_getr rfl (nn_c407 NN).1 (lf_13_0 L N (nn_c407 NN)) ?_
    refine mm_s1 rfl ?_
    refine mm_s1 rfl ?_
    refine mm_s1 rfl ⟨trivial, ?_⟩
    refine np_M_runAt (by decide) L N ?_
    show mm_Go (mm_run 1) mc_M_isRun _ (23, [(0, .inr (.inr 407)), (1, .inl v1), (2, .inl v2), (3, .inl v3)], [.inl (nf_M_runAt v1 v3), .inr (.inr 408)], M)
    obtain ⟨b23, h⟩ := h
    refine mm_s1 rfl ⟨nn_bd (na_13_0 NN (nn_c407 NN)) b23, ?_⟩
    show mm_Go (mm_run 1) mc_M_isRun _ (24, [(0, .inr (.inr 407)), (1, .inl v1), (2, .inl v2), (3, .inl v3)], [.inl (nn_ri M 408 (nf_M_runAt v1 v3))], M)
    refine mm_s1 rfl ?_
    refine mm_s1 rfl ⟨fun c25 => ?_, fun c25 => ?_⟩
    · show mm_Go (mm_run 1) mc_M_isRun _ (30, [(0, .inr (.inr 407)), (1, .inl v1), (2, .inl v2), (3, .inl v3)], [], M)
      replace h := h.1 c25
      refine mm_s1 rfl ?_
      show mm_Go (mm_run 1) mc_M_isRun _ (33, [(0, .inr (.inr 407)), (1, .inl v1), (2, .inl v2), (3, .inl (mm_w (v3 + 1)))], [], M)
      refine mm_s1 rfl ?_
      show mm_Go (mm_run 1) mc_M_isRun _ (2, [(0, .inr (.inr 407)), (1, .inl v1), (2, .inl v2), (3, .inl (mm_w (v3 + 1)))], [], M)
      exact nn_go_ext (nn_xc rfl (nn_xc rfl (nn_xc rfl (nn_xc rfl nn_xn)))) (h n L N)
    · show mm_Go (mm_run 1) mc_M_isRun _ (28, [(0, .inr (.inr 407)), (1, .inl v1), (2, .inl v2), (3, .inl v3)], [], M)
      replace c25 := Decidable.not_not.mp c25
      replace h := h.2 c25
      refine mm_s1 rfl ?_
      exact mm_s1 rfl ⟨(Or.inr rfl), _, rfl, (Or.inr rfl), L, N, h⟩
set_option maxRecDepth 20000 in
theorem ng_M_isRun_38 (v1 : Int) (v2 : Int) (v3 : Int) (M : mm_M) (R : Int → mm_M → Prop) (h : ((4 ≤ v3 → R 0 M) ∧ (v3 < 4 → nk_M_isRun_53 v1 v2 v3 (nf_M_at v1 v3) 0 M R))) : nk_M_isRun_38 v1 v2 v3 M R := by
  intro n L N 
  have NN := nn_L_n L N
  show mm_Go (mm_run 1) mc_M_isRun _ (38, [(0, .inr (.inr 407)), (1, .inl v1), (2, .inl v2), (3, .inl v3)], [], M)
  refine mm_s1 rfl ?_
  refine mm_s1 rfl ?_
  refine mm_s1 rfl ⟨fun c40 => ?_, fun c40 => ?_⟩
  · show mm_Go (mm_run 1) mc_M_isRun _ (109, [(0, .inr (.inr 407)), (1, .inl v1), (2, .inl v2), (3, .inl v3)], [], M)
    replace h := h.1 c40
    refine mm_s1 rfl ?_
    exact mm_s1 rfl ⟨(Or.inl rfl), _, rfl, (Or.inl rfl), L, N, h⟩
  · show mm_Go (mm_run 1) mc_M_isRun _ (43, [(0, .inr (.inr 407)), (1, .inl v1), (2, .inl v2), (3, .inl v3)], [], M)
    replace c40 := Int.not_le.mp c40
    replace h := h.2 c40
    refine mm_s1 rfl ?_
    refine mm_s1 rfl ?_
    refine mm_s1 rfl ⟨trivial, ?_⟩
    refine np_M_at (by decide) L N ?_
    show mm_Go (mm_run 1) mc_M_isRun _ (48, [(0, .inr (.inr 407)), (1, .inl v1), (2, .inl v2), (3, .inl v3)], [.inl (nf_M_at v1 v3)], M)
    refine mm_s1 rfl ?_
    show mm_Go (mm_run 1) mc_M_isRun _ (50, [(0, .inr (.inr 407)), (1, .inl v1), (2, .inl v2), (3, .inl v3), (4, .inl (nf_M_at v1 v3))], [], M)
    refine mm_s1 rfl ?_
    refine mm_s1 rfl ?_
    show mm_Go (mm_run 1) mc_M_isRun _ (53, [(0, .inr (.inr 407)), (1, .inl v1), (2, .inl v2), (3, .inl v3), (4, .inl (nf_M_at v1 v3)), (5, .inl 0)], [], M)
    exact nn_go_ext (nn_xc rfl (nn_xc rfl (nn_xc rfl (nn_xc rfl (nn_xc rfl (nn_xc rfl nn_xn)))))) (h n L N)
set_option maxRecDepth 20000 in
theorem ng_M_isRun_53 (v1 : Int) (v2 : Int) (v3 : Int) (v4 : Int) (v5 : Int) (M : mm_M) (R : Int → mm_M → Prop) (h : (((0 : Int) ≤ (mm_w (v4 + 5)) ∧ (mm_w (v4 + 5)) < (32844 : Int)) ∧ (((nn_ri M 408 (mm_w (v4 + 5))) ≤ v5 → nk_M_isRun_38 v1 v2 (mm_w (v3 + 1)) M R) ∧ (v5 < (nn_ri M 408 (mm_w (v4 + 5))) → (((0 : Int) ≤ (mm_w (v4 + 0)) ∧ (mm_w (v4 + 0)) < (32844 : Int)) ∧ (((nn_ri M 408 (mm_w (v4 + 0))) ≤ 0 → nk_M_isRun_38 v1 v2 (mm_w (v3 + 1)) M R) ∧ (0 < (nn_ri M 408 (mm_w (v4 + 0))) → (((0 : Int) ≤ (nf_M_head v4 v5) ∧ (nf_M_head v4 v5) < (32844 : Int)) ∧ (((nn_ri M 408 (nf_M_head v4 v5)) ≠ v2 → nk_M_isRun_53 v1 v2 v3 v4 (mm_w (v5 + 1)) M R) ∧ ((nn_ri M 408 (nf_M_head v4 v5)) = v2 → R 1 M)))))))))) : nk_M_isRun_53 v1 v2 v3 v4 v5 M R := by
  intro n L N 
  have NN := nn_L_n L N
  show mm_Go (mm_run 1) mc_M_isRun _ (53, [(0, .inr (.inr 407)), (1, .inl v1), (2, .inl v2), (3, .inl v3), (4, .inl v4), (5, .inl v5)], [], M)
  refine mm_s1 rfl ?_
  refine mm_s1 rfl ?_
  refine nn_getr rfl (nn_c407 NN).1 (lf_13_0 L N (nn_c407 NN)) ?_
  refine mm_s1 rfl ?_
  refine mm_s1 rfl ?_
  show mm_Go (mm_run 1) mc_M_isRun _ (62, [(0, .inr (.inr 407)), (1, .inl v1), (2, .inl v2), (3, .inl v3), (4, .inl v4), (5, .inl v5)], [.inl 5, .inl v4, .inr (.inr 408), .inl v5], M)
  refine mm_s1 rfl ?_
  obtain ⟨b63, h⟩ := h
  refine mm_s1 rfl ⟨nn_bd (na_13_0 NN (nn_c407 NN)) b63, ?_⟩
  show mm_Go (mm_run 1) mc_M_isRun _ (64, [(0, .inr (.inr 407)), (1, .inl v1), (2, .inl v2), (3, .inl v3), (4, .inl v4), (5, .inl v5)], [.inl (nn_ri M 408 (mm_w (v4 + 5))), .inl v5], M)
  refine mm_s1 rfl ⟨fun c64 => ?_, fun c64 => ?_⟩
  · show mm_Go (mm_run 1) mc_M_isRun _ (103, [(0, .inr (.inr 407)), (1, .inl v1), (2, .inl v2), (3, .inl v3), (4, .inl v4), (5, .inl v5)], [], M)
    replace h := h.1 c64
    refine mm_s1 rfl ?_
    show mm_Go (mm_run 1) mc_M_isRun _ (106, [(0, .inr (.inr 407)), (1, .inl v1), (2, .inl v2), (3, .inl (mm_w (v3 + 1))), (4, .inl v4), (5, .inl v5)], [], M)
    refine mm_s1 rfl ?_
    show mm_Go (mm_run 1) mc_M_isRun _ (38, [(0, .inr (.inr 407)), (1, .inl v1), (2, .inl v2), (3, .inl (mm_w (v3 + 1))), (4, .inl v4), (5, .inl v5)], [], M)
    exact nn_go_ext (nn_xc rfl (nn_xc rfl (nn_xc rfl (nn_xc rfl nn_xn)))) (h n L N)
  · show mm_Go (mm_run 1) mc_M_isRun _ (67, [(0, .inr (.inr 407)), (1, .inl v1), (2, .inl v2), (3, .inl v3), (4, .inl v4), (5, .inl v5)], [], M)
    replace c64 := Int.not_le.mp c64
    replace h := h.2 c64
    refine mm_s1 rfl ?_
    refine nn_getr rfl (nn_c407 NN).1 (lf_13_0 L N (nn_c407 NN)) ?_
    refine mm_s1 rfl ?_
    refine mm_s1 rfl ?_
    refine mm_s1 rfl ?_
    show mm_Go (mm_run 1) mc_M_isRun _ (75, [(0, .inr (.inr 407)), (1, .inl v1), (2, .inl v2), (3, .inl v3), (4, .inl v4), (5, .inl v5)], [.inl (mm_w (v4 + 0)), .inr (.inr 408)], M)
    obtain ⟨b75, h⟩ := h
    refine mm_s1 rfl ⟨nn_bd (na_13_0 NN (nn_c407 NN)) b75, ?_⟩
    show mm_Go (mm_run 1) mc_M_isRun _ (76, [(0, .inr (.inr 407)), (1, .inl v1), (2, .inl v2), (3, .inl v3), (4, .inl v4), (5, .inl v5)], [.inl (nn_ri M 408 (mm_w (v4 + 0)))], M)
    refine mm_s1 rfl ⟨fun c76 => ?_, fun c76 => ?_⟩
    · show mm_Go (mm_run 1) mc_M_isRun _ (103, [(0, .inr (.inr 407)), (1, .inl v1), (2, .inl v2), (3, .inl v3), (4, .inl v4), (5, .inl v5)], [], M)
      replace h := h.1 c76
      refine mm_s1 rfl ?_
      show mm_Go (mm_run 1) mc_M_isRun _ (106, [(0, .inr (.inr 407)), (1, .inl v1), (2, .inl v2), (3, .inl (mm_w (v3 + 1))), (4, .inl v4), (5, .inl v5)], [], M)
      refine mm_s1 rfl ?_
      show mm_Go (mm_run 1) mc_M_isRun _ (38, [(0, .inr (.inr 407)), (1, .inl v1), (2, .inl v2), (3, .inl (mm_w (v3 + 1))), (4, .inl v4), (5, .inl v5)], [], M)
      exact nn_go_ext (nn_xc rfl (nn_xc rfl (nn_xc rfl (nn_xc rfl nn_xn)))) (h n L N)
    · show mm_Go (mm_run 1) mc_M_isRun _ (79, [(0, .inr (.inr 407)), (1, .inl v1), (2, .inl v2), (3, .inl v3), (4, .inl v4), (5, .inl v5)], [], M)
      replace c76 := Int.not_le.mp c76
      replace h := h.2 c76
      refine mm_s1 rfl ?_
      refine nn_getr rfl (nn_c407 NN).1 (lf_13_0 L N (nn_c407 NN)) ?_
      refine mm_s1 rfl ?_
      refine mm_s1 rfl ?_
      refine mm_s1 rfl ⟨trivial, ?_⟩
      refine np_M_head (by decide) L N ?_
      show mm_Go (mm_run 1) mc_M_isRun _ (90, [(0, .inr (.inr 407)), (1, .inl v1), (2, .inl v2), (3, .inl v3), (4, .inl v4), (5, .inl v5)], [.inl (nf_M_head v4 v5), .inr (.inr 408)], M)
      obtain ⟨b90, h⟩ := h
      refine mm_s1 rfl ⟨nn_bd (na_13_0 NN (nn_c407 NN)) b90, ?_⟩
      show mm_Go (mm_run 1) mc_M_isRun _ (91, [(0, .inr (.inr 407)), (1, .inl v1), (2, .inl v2), (3, .inl v3), (4, .inl v4), (5, .inl v5)], [.inl (nn_ri M 408 (nf_M_head v4 v5))], M)
      refine mm_s1 rfl ?_
      refine mm_s1 rfl ⟨fun c92 => ?_, fun c92 => ?_⟩
      · show mm_Go (mm_run 1) mc_M_isRun _ (97, [(0, .inr (.inr 407)), (1, .inl v1), (2, .inl v2), (3, .inl v3), (4, .inl v4), (5, .inl v5)], [], M)
        replace h := h.1 c92
        refine mm_s1 rfl ?_
        show mm_Go (mm_run 1) mc_M_isRun _ (100, [(0, .inr (.inr 407)), (1, .inl v1), (2, .inl v2), (3, .inl v3), (4, .inl v4), (5, .inl (mm_w (v5 + 1)))], [], M)
        refine mm_s1 rfl ?_
        show mm_Go (mm_run 1) mc_M_isRun _ (53, [(0, .inr (.inr 407)), (1, .inl v1), (2, .inl v2), (3, .inl v3), (4, .inl v4), (5, .inl (mm_w (v5 + 1)))], [], M)
        exact nn_go_ext (nn_xc rfl (nn_xc rfl (nn_xc rfl (nn_xc rfl (nn_xc rfl (nn_xc rfl nn_xn)))))) (h n L N)
      · show mm_Go (mm_run 1) mc_M_isRun _ (95, [(0, .inr (.inr 407)), (1, .inl v1), (2, .inl v2), (3, .inl v3), (4, .inl v4), (5, .inl v5)], [], M)
        replace c92 := Decidable.not_not.mp c92
        replace h := h.2 c92
        refine mm_s1 rfl ?_
        exact mm_s1 rfl ⟨(Or.inr rfl), _, rfl, (Or.inr rfl), L, N, h⟩
def nr_M_isHeld (v1 : Int) (v2 : Int) (v3 : Int) (M : mm_M) (R : Int → mm_M → Prop) : Prop := ∀ n, nn_L M → M.1 = n → mm_run 2 mi_M_isHeld [.inr (.inr 407), .inl v1, .inl v2, .inl v3] M (nw_Z n R)
def nk_M_isHeld_3 (v1 : Int) (v2 : Int) (v3 : Int) (v4 : Int) (M : mm_M) (R : Int → mm_M → Prop) : Prop := ∀ n, nn_L M → M.1 = n → mm_Go (mm_run 1) mc_M_isHeld (nw_Z n R) (3, [(0, .inr (.inr 407)), (1, .inl v1), (2, .inl v2), (3, .inl v3), (4, .inl v4)], [], M)
def nk_M_isHeld_20 (v1 : Int) (v2 : Int) (v3 : Int) (v4 : Int) (v5 : Int) (v6 : Int) (M : mm_M) (R : Int → mm_M → Prop) : Prop := ∀ n, nn_L M → M.1 = n → mm_Go (mm_run 1) mc_M_isHeld (nw_Z n R) (20, [(0, .inr (.inr 407)), (1, .inl v1), (2, .inl v2), (3, .inl v3), (4, .inl v4), (5, .inl v5), (6, .inl v6)], [], M)
set_option maxRecDepth 20000 in
theorem ng_M_isHeld (v1 : Int) (v2 : Int) (v3 : Int) (M : mm_M) (R : Int → mm_M → Prop) (h : nk_M_isHeld_3 v1 v2 v3 0 M R) : nr_M_isHeld v1 v2 v3 M R := by
  intro n L N 
  have NN := nn_L_n L N
  show mm_Go (mm_run 1) mc_M_isHeld _ (0, [(0, .inr (.inr 407)), (1, .inl v1), (2, .inl v2), (3, .inl v3)], [], M)
  refine mm_s1 rfl ?_
  refine mm_s1 rfl ?_
  show mm_Go (mm_run 1) mc_M_isHeld _ (3, [(0, .inr (.inr 407)), (1, .inl v1), (2, .inl v2), (3, .inl v3), (4, .inl 0)], [], M)
  exact nn_go_ext (nn_xc rfl (nn_xc rfl (nn_xc rfl (nn_xc rfl (nn_xc rfl nn_xn))))) (h n L N)
set_option maxRecDepth 20000 in
theorem ng_M_isHeld_3 (v1 : Int) (v2 : Int) (v3 : Int) (v4 : Int) (M : mm_M) (R : Int → mm_M → Prop) (h : ((v2 ≤ v4 → R 0 M) ∧ (v4 < v2 → nk_M_isHeld_20 v1 v2 v3 v4 (nf_M_cursorAt v1 v4) 0 M R))) : nk_M_isHeld_3 v1 v2 v3 v4 M R := by
  intro n L N 
  have NN := nn_L_n L N
  show mm_Go (mm_run 1) mc_M_isHeld _ (3, [(0, .inr (.inr 407)), (1, .inl v1), (2, .inl v2), (3, .inl v3), (4, .inl v4)], [], M)
  refine mm_s1 rfl ?_
  refine mm_s1 rfl ?_
  refine mm_s1 rfl ⟨fun c6 => ?_, fun c6 => ?_⟩
  · show mm_Go (mm_run 1) mc_M_isHeld _ (79, [(0, .inr (.inr 407)), (1, .inl v1), (2, .inl v2), (3, .inl v3), (4, .inl v4)], [], M)
    replace h := h.1 c6
    refine mm_s1 rfl ?_
    exact mm_s1 rfl ⟨(Or.inl rfl), _, rfl, (Or.inl rfl), L, N, h⟩
  · show mm_Go (mm_run 1) mc_M_isHeld _ (9, [(0, .inr (.inr 407)), (1, .inl v1), (2, .inl v2), (3, .inl v3), (4, .inl v4)], [], M)
    replace c6 := Int.not_le.mp c6
    replace h := h.2 c6
    refine mm_s1 rfl ?_
    refine mm_s1 rfl ?_
    refine mm_s1 rfl ⟨trivial, ?_⟩
    refine np_M_cursorAt (by decide) L N ?_
    show mm_Go (mm_run 1) mc_M_isHeld _ (15, [(0, .inr (.inr 407)), (1, .inl v1), (2, .inl v2), (3, .inl v3), (4, .inl v4)], [.inl (nf_M_cursorAt v1 v4)], M)
    refine mm_s1 rfl ?_
    show mm_Go (mm_run 1) mc_M_isHeld _ (17, [(0, .inr (.inr 407)), (1, .inl v1), (2, .inl v2), (3, .inl v3), (4, .inl v4), (5, .inl (nf_M_cursorAt v1 v4))], [], M)
    refine mm_s1 rfl ?_
    refine mm_s1 rfl ?_
    show mm_Go (mm_run 1) mc_M_isHeld _ (20, [(0, .inr (.inr 407)), (1, .inl v1), (2, .inl v2), (3, .inl v3), (4, .inl v4), (5, .inl (nf_M_cursorAt v1 v4)), (6, .inl 0)], [], M)
    exact nn_go_ext (nn_xc rfl (nn_xc rfl (nn_xc rfl (nn_xc rfl (nn_xc rfl (nn_xc rfl (nn_xc rfl nn_xn))))))) (h n L N)
set_option maxRecDepth 20000 in
theorem ng_M_isHeld_20 (v1 : Int) (v2 : Int) (v3 : Int) (v4 : Int) (v5 : Int) (v6 : Int) (M : mm_M) (R : Int → mm_M → Prop) (h : (((0 : Int) ≤ (mm_w (v5 + 35)) ∧ (mm_w (v5 + 35)) < (32844 : Int)) ∧ (((nn_ri M 408 (mm_w (v5 + 35))) ≤ v6 → nk_M_isHeld_3 v1 v2 v3 (mm_w (v4 + 1)) M R) ∧ (v6 < (nn_ri M 408 (mm_w (v5 + 35))) → (((0 : Int) ≤ v5 ∧ v5 < (32844 : Int)) ∧ (((nn_ri M 408 v5) ≠ 1 → nk_M_isHeld_3 v1 v2 v3 (mm_w (v4 + 1)) M R) ∧ ((nn_ri M 408 v5) = 1 → (((0 : Int) ≤ (mm_w ((mm_w ((mm_w (v5 + 35)) + 1)) + v6)) ∧ (mm_w ((mm_w ((mm_w (v5 + 35)) + 1)) + v6)) < (32844 : Int)) ∧ (((nn_ri M 408 (mm_w ((mm_w ((mm_w (v5 + 35)) + 1)) + v6))) ≠ v3 → nk_M_isHeld_20 v1 v2 v3 v4 v5 (mm_w (v6 + 1)) M R) ∧ ((nn_ri M 408 (mm_w ((mm_w ((mm_w (v5 + 35)) + 1)) + v6))) = v3 → R 1 M)))))))))) : nk_M_isHeld_20 v1 v2 v3 v4 v5 v6 M R := by
  intro n L N 
  have NN := nn_L_n L N
  show mm_Go (mm_run 1) mc_M_isHeld _ (20, [(0, .inr (.inr 407)), (1, .inl v1), (2, .inl v2), (3, .inl v3), (4, .inl v4), (5, .inl v5), (6, .inl v6)], [], M)
  refine mm_s1 rfl ?_
  refine mm_s1 rfl ?_
  refine nn_getr rfl (nn_c407 NN).1 (lf_13_0 L N (nn_c407 NN)) ?_
  refine mm_s1 rfl ?_
  refine mm_s1 rfl ?_
  show mm_Go (mm_run 1) mc_M_isHeld _ (30, [(0, .inr (.inr 407)), (1, .inl v1), (2, .inl v2), (3, .inl v3), (4, .inl v4), (5, .inl v5), (6, .inl v6)], [.inl 35, .inl v5, .inr (.inr 408), .inl v6], M)
  refine mm_s1 rfl ?_
  obtain ⟨b31, h⟩ := h
  refine mm_s1 rfl ⟨nn_bd (na_13_0 NN (nn_c407 NN)) b31, ?_⟩
  show mm_Go (mm_run 1) mc_M_isHeld _ (32, [(0, .inr (.inr 407)), (1, .inl v1), (2, .inl v2), (3, .inl v3), (4, .inl v4), (5, .inl v5), (6, .inl v6)], [.inl (nn_ri M 408 (mm_w (v5 + 35))), .inl v6], M)
  refine mm_s1 rfl ⟨fun c32 => ?_, fun c32 => ?_⟩
  · show mm_Go (mm_run 1) mc_M_isHeld _ (73, [(0, .inr (.inr 407)), (1, .inl v1), (2, .inl v2), (3, .inl v3), (4, .inl v4), (5, .inl v5), (6, .inl v6)], [], M)
    replace h := h.1 c32
    refine mm_s1 rfl ?_
    show mm_Go (mm_run 1) mc_M_isHeld _ (76, [(0, .inr (.inr 407)), (1, .inl v1), (2, .inl v2), (3, .inl v3), (4, .inl (mm_w (v4 + 1))), (5, .inl v5), (6, .inl v6)], [], M)
    refine mm_s1 rfl ?_
    show mm_Go (mm_run 1) mc_M_isHeld _ (3, [(0, .inr (.inr 407)), (1, .inl v1), (2, .inl v2), (3, .inl v3), (4, .inl (mm_w (v4 + 1))), (5, .inl v5), (6, .inl v6)], [], M)
    exact nn_go_ext (nn_xc rfl (nn_xc rfl (nn_xc rfl (nn_xc rfl (nn_xc rfl nn_xn))))) (h n L N)
  · show mm_Go (mm_run 1) mc_M_isHeld _ (35, [(0, .inr (.inr 407)), (1, .inl v1), (2, .inl v2), (3, .inl v3), (4, .inl v4), (5, .inl v5), (6, .inl v6)], [], M)
    replace c32 := Int.not_le.mp c32
    replace h := h.2 c32
    refine mm_s1 rfl ?_
    refine nn_getr rfl (nn_c407 NN).1 (lf_13_0 L N (nn_c407 NN)) ?_
    refine mm_s1 rfl ?_
    obtain ⟨b41, h⟩ := h
    refine mm_s1 rfl ⟨nn_bd (na_13_0 NN (nn_c407 NN)) b41, ?_⟩
    show mm_Go (mm_run 1) mc_M_isHeld _ (42, [(0, .inr (.inr 407)), (1, .inl v1), (2, .inl v2), (3, .inl v3), (4, .inl v4), (5, .inl v5), (6, .inl v6)], [.inl (nn_ri M 408 v5)], M)
    refine mm_s1 rfl ?_
    refine mm_s1 rfl ⟨fun c43 => ?_, fun c43 => ?_⟩
    · show mm_Go (mm_run 1) mc_M_isHeld _ (73, [(0, .inr (.inr 407)), (1, .inl v1), (2, .inl v2), (3, .inl v3), (4, .inl v4), (5, .inl v5), (6, .inl v6)], [], M)
      replace h := h.1 c43
      refine mm_s1 rfl ?_
      show mm_Go (mm_run 1) mc_M_isHeld _ (76, [(0, .inr (.inr 407)), (1, .inl v1), (2, .inl v2), (3, .inl v3), (4, .inl (mm_w (v4 + 1))), (5, .inl v5), (6, .inl v6)], [], M)
      refine mm_s1 rfl ?_
      show mm_Go (mm_run 1) mc_M_isHeld _ (3, [(0, .inr (.inr 407)), (1, .inl v1), (2, .inl v2), (3, .inl v3), (4, .inl (mm_w (v4 + 1))), (5, .inl v5), (6, .inl v6)], [], M)
      exact nn_go_ext (nn_xc rfl (nn_xc rfl (nn_xc rfl (nn_xc rfl (nn_xc rfl nn_xn))))) (h n L N)
    · show mm_Go (mm_run 1) mc_M_isHeld _ (46, [(0, .inr (.inr 407)), (1, .inl v1), (2, .inl v2), (3, .inl v3), (4, .inl v4), (5, .inl v5), (6, .inl v6)], [], M)
      replace c43 := Decidable.not_not.mp c43
      replace h := h.2 c43
      refine mm_s1 rfl ?_
      refine nn_getr rfl (nn_c407 NN).1 (lf_13_0 L N (nn_c407 NN)) ?_
      refine mm_s1 rfl ?_
      refine mm_s1 rfl ?_
      refine mm_s1 rfl ?_
      show mm_Go (mm_run 1) mc_M_isHeld _ (55, [(0, .inr (.inr 407)), (1, .inl v1), (2, .inl v2), (3, .inl v3), (4, .inl v4), (5, .inl v5), (6, .inl v6)], [.inl (mm_w (v5 + 35)), .inr (.inr 408)], M)
      refine mm_s1 rfl ?_
      refine mm_s1 rfl ?_
      refine mm_s1 rfl ?_
      refine mm_s1 rfl ?_
      obtain ⟨b60, h⟩ := h
      refine mm_s1 rfl ⟨nn_bd (na_13_0 NN (nn_c407 NN)) b60, ?_⟩
      show mm_Go (mm_run 1) mc_M_isHeld _ (61, [(0, .inr (.inr 407)), (1, .inl v1), (2, .inl v2), (3, .inl v3), (4, .inl v4), (5, .inl v5), (6, .inl v6)], [.inl (nn_ri M 408 (mm_w ((mm_w ((mm_w (v5 + 35)) + 1)) + v6)))], M)
      refine mm_s1 rfl ?_
      refine mm_s1 rfl ⟨fun c62 => ?_, fun c62 => ?_⟩
      · show mm_Go (mm_run 1) mc_M_isHeld _ (67, [(0, .inr (.inr 407)), (1, .inl v1), (2, .inl v2), (3, .inl v3), (4, .inl v4), (5, .inl v5), (6, .inl v6)], [], M)
        replace h := h.1 c62
        refine mm_s1 rfl ?_
        show mm_Go (mm_run 1) mc_M_isHeld _ (70, [(0, .inr (.inr 407)), (1, .inl v1), (2, .inl v2), (3, .inl v3), (4, .inl v4), (5, .inl v5), (6, .inl (mm_w (v6 + 1)))], [], M)
        refine mm_s1 rfl ?_
        show mm_Go (mm_run 1) mc_M_isHeld _ (20, [(0, .inr (.inr 407)), (1, .inl v1), (2, .inl v2), (3, .inl v3), (4, .inl v4), (5, .inl v5), (6, .inl (mm_w (v6 + 1)))], [], M)
        exact nn_go_ext (nn_xc rfl (nn_xc rfl (nn_xc rfl (nn_xc rfl (nn_xc rfl (nn_xc rfl (nn_xc rfl nn_xn))))))) (h n L N)
      · show mm_Go (mm_run 1) mc_M_isHeld _ (65, [(0, .inr (.inr 407)), (1, .inl v1), (2, .inl v2), (3, .inl v3), (4, .inl v4), (5, .inl v5), (6, .inl v6)], [], M)
        replace c62 := Decidable.not_not.mp c62
        replace h := h.2 c62
        refine mm_s1 rfl ?_
        exact mm_s1 rfl ⟨(Or.inr rfl), _, rfl, (Or.inr rfl), L, N, h⟩
def nr_M_cursors (v1 : Int) (M : mm_M) (R : Int → mm_M → Prop) : Prop := ∀ n, nn_L M → M.1 = n → mm_run 2 mi_M_cursors [.inr (.inr 407), .inl v1] M (nw_I n R)
def nk_M_cursors_4 (v1 : Int) (v2 : Int) (v3 : Int) (M : mm_M) (R : Int → mm_M → Prop) : Prop := ∀ n, nn_L M → M.1 = n → mm_Go (mm_run 1) mc_M_cursors (nw_I n R) (4, [(0, .inr (.inr 407)), (1, .inl v1), (2, .inl v2), (3, .inl v3)], [], M)
set_option maxRecDepth 20000 in
theorem ng_M_cursors (v1 : Int) (M : mm_M) (R : Int → mm_M → Prop) (h : nk_M_cursors_4 v1 0 0 M R) : nr_M_cursors v1 M R := by
  intro n L N 
  have NN := nn_L_n L N
  show mm_Go (mm_run 1) mc_M_cursors _ (0, [(0, .inr (.inr 407)), (1, .inl v1)], [], M)
  refine mm_s1 rfl ?_
  refine mm_s1 rfl ?_
  show mm_Go (mm_run 1) mc_M_cursors _ (2, [(0, .inr (.inr 407)), (1, .inl v1), (2, .inl 0)], [], M)
  refine mm_s1 rfl ?_
  refine mm_s1 rfl ?_
  show mm_Go (mm_run 1) mc_M_cursors _ (4, [(0, .inr (.inr 407)), (1, .inl v1), (2, .inl 0), (3, .inl 0)], [], M)
  exact nn_go_ext (nn_xc rfl (nn_xc rfl (nn_xc rfl (nn_xc rfl nn_xn)))) (h n L N)
set_option maxRecDepth 20000 in
theorem ng_M_cursors_4 (v1 : Int) (v2 : Int) (v3 : Int) (M : mm_M) (R : Int → mm_M → Prop) (h : ((3 ≤ v3 → R v2 M) ∧ (v3 < 3 → (((0 : Int) ≤ (nf_M_cursorAt v1 v3) ∧ (nf_M_cursorAt v1 v3) < (32844 : Int)) ∧ (∀ x2_21 : Int, x2_21 = mm_w (v2 + (nn_ri M 408 (nf_M_cursorAt v1 v3))) → nk_M_cursors_4 v1 x2_21 (mm_w (v3 + 1)) M R))))) : nk_M_cursors_4 v1 v2 v3 M R := by
  intro n L N 
  have NN := nn_L_n L N
  show mm_Go (mm_run 1) mc_M_cursors _ (4, [(0, .inr (.inr 407)), (1, .inl v1), (2, .inl v2), (3, .inl v3)], [], M)
  refine mm_s1 rfl ?_
  refine mm_s1 rfl ?_
  refine mm_s1 rfl ⟨fun c6 => ?_, fun c6 => ?_⟩
  · show mm_Go (mm_run 1) mc_M_cursors _ (28, [(0, .inr (.inr 407)), (1, .inl v1), (2, .inl v2), (3, .inl v3)], [], M)
    replace h := h.1 c6
    refine mm_s1 rfl ?_
    exact mm_s1 rfl ⟨_, rfl, L, N, h⟩
  · show mm_Go (mm_run 1) mc_M_cursors _ (9, [(0, .inr (.inr 407)), (1, .inl v1), (2, .inl v2), (3, .inl v3)], [], M)
    replace c6 := Int.not_le.mp c6
    replace h := h.2 c6
    refine mm_s1 rfl ?_
    refine mm_s1 rfl ?_
    refine nn_getr rfl (nn_c407 NN).1 (lf_13_0 L N (nn_c407 NN)) ?_
    refine mm_s1 rfl ?_
    refine mm_s1 rfl ?_
    show mm_Go (mm_run 1) mc_M_cursors _ (16, [(0, .inr (.inr 407)), (1, .inl v1), (2, .inl v2), (3, .inl v3)], [.inl v3, .inl v1, .inr (.inr 408), .inl v2], M)
    refine mm_s1 rfl ⟨trivial, ?_⟩
    refine np_M_cursorAt (by decide) L N ?_
    show mm_Go (mm_run 1) mc_M_cursors _ (19, [(0, .inr (.inr 407)), (1, .inl v1), (2, .inl v2), (3, .inl v3)], [.inl (nf_M_cursorAt v1 v3), .inr (.inr 408), .inl v2], M)
    obtain ⟨b19, h⟩ := h
    refine mm_s1 rfl ⟨nn_bd (na_13_0 NN (nn_c407 NN)) b19, ?_⟩
    show mm_Go (mm_run 1) mc_M_cursors _ (20, [(0, .inr (.inr 407)), (1, .inl v1), (2, .inl v2), (3, .inl v3)], [.inl (nn_ri M 408 (nf_M_cursorAt v1 v3)), .inl v2], M)
    refine mm_s1 rfl ?_
    refine mm_s1 rfl ?_
    show mm_Go (mm_run 1) mc_M_cursors _ (22, [(0, .inr (.inr 407)), (1, .inl v1), (2, .inl (mm_w (v2 + (nn_ri M 408 (nf_M_cursorAt v1 v3))))), (3, .inl v3)], [], M)
    generalize e_x2_21 : (mm_w (v2 + (nn_ri M 408 (nf_M_cursorAt v1 v3)))) = x2_21
    replace h := h _ e_x2_21.symm
    show mm_Go (mm_run 1) mc_M_cursors _ (22, [(0, .inr (.inr 407)), (1, .inl v1), (2, .inl x2_21), (3, .inl v3)], [], M)
    refine mm_s1 rfl ?_
    show mm_Go (mm_run 1) mc_M_cursors _ (25, [(0, .inr (.inr 407)), (1, .inl v1), (2, .inl x2_21), (3, .inl (mm_w (v3 + 1)))], [], M)
    refine mm_s1 rfl ?_
    show mm_Go (mm_run 1) mc_M_cursors _ (4, [(0, .inr (.inr 407)), (1, .inl v1), (2, .inl x2_21), (3, .inl (mm_w (v3 + 1)))], [], M)
    exact nn_go_ext (nn_xc rfl (nn_xc rfl (nn_xc rfl (nn_xc rfl nn_xn)))) (h n L N)
def nr_M_indexes (v1 : Int) (M : mm_M) (R : Int → mm_M → Prop) : Prop := ∀ n, nn_L M → M.1 = n → mm_run 2 mi_M_indexes [.inr (.inr 407), .inl v1] M (nw_I n R)
def nk_M_indexes_4 (v1 : Int) (v2 : Int) (v3 : Int) (M : mm_M) (R : Int → mm_M → Prop) : Prop := ∀ n, nn_L M → M.1 = n → mm_Go (mm_run 1) mc_M_indexes (nw_I n R) (4, [(0, .inr (.inr 407)), (1, .inl v1), (2, .inl v2), (3, .inl v3)], [], M)
set_option maxRecDepth 20000 in
theorem ng_M_indexes (v1 : Int) (M : mm_M) (R : Int → mm_M → Prop) (h : nk_M_indexes_4 v1 0 0 M R) : nr_M_indexes v1 M R := by
  intro n L N 
  have NN := nn_L_n L N
  show mm_Go (mm_run 1) mc_M_indexes _ (0, [(0, .inr (.inr 407)), (1, .inl v1)], [], M)
  refine mm_s1 rfl ?_
  refine mm_s1 rfl ?_
  show mm_Go (mm_run 1) mc_M_indexes _ (2, [(0, .inr (.inr 407)), (1, .inl v1), (2, .inl 0)], [], M)
  refine mm_s1 rfl ?_
  refine mm_s1 rfl ?_
  show mm_Go (mm_run 1) mc_M_indexes _ (4, [(0, .inr (.inr 407)), (1, .inl v1), (2, .inl 0), (3, .inl 0)], [], M)
  exact nn_go_ext (nn_xc rfl (nn_xc rfl (nn_xc rfl (nn_xc rfl nn_xn)))) (h n L N)
set_option maxRecDepth 20000 in
theorem ng_M_indexes_4 (v1 : Int) (v2 : Int) (v3 : Int) (M : mm_M) (R : Int → mm_M → Prop) (h : ((4 ≤ v3 → R v2 M) ∧ (v3 < 4 → (((0 : Int) ≤ (mm_w ((nf_M_at v1 v3) + 0)) ∧ (mm_w ((nf_M_at v1 v3) + 0)) < (32844 : Int)) ∧ (((nn_ri M 408 (mm_w ((nf_M_at v1 v3) + 0))) ≤ 0 → nk_M_indexes_4 v1 (mm_or v2 0) (mm_w (v3 + 1)) M R) ∧ (0 < (nn_ri M 408 (mm_w ((nf_M_at v1 v3) + 0))) → nk_M_indexes_4 v1 (mm_or v2 (mm_shl 1 v3)) (mm_w (v3 + 1)) M R)))))) : nk_M_indexes_4 v1 v2 v3 M R := by
  intro n L N 
  have NN := nn_L_n L N
  show mm_Go (mm_run 1) mc_M_indexes _ (4, [(0, .inr (.inr 407)), (1, .inl v1), (2, .inl v2), (3, .inl v3)], [], M)
  refine mm_s1 rfl ?_
  refine mm_s1 rfl ?_
  refine mm_s1 rfl ⟨fun c6 => ?_, fun c6 => ?_⟩
  · show mm_Go (mm_run 1) mc_M_indexes _ (40, [(0, .inr (.inr 407)), (1, .inl v1), (2, .inl v2), (3, .inl v3)], [], M)
    replace h := h.1 c6
    refine mm_s1 rfl ?_
    exact mm_s1 rfl ⟨_, rfl, L, N, h⟩
  · show mm_Go (mm_run 1) mc_M_indexes _ (9, [(0, .inr (.inr 407)), (1, .inl v1), (2, .inl v2), (3, .inl v3)], [], M)
    replace c6 := Int.not_le.mp c6
    replace h := h.2 c6
    refine mm_s1 rfl ?_
    refine mm_s1 rfl ?_
    refine nn_getr rfl (nn_c407 NN).1 (lf_13_0 L N (nn_c407 NN)) ?_
    refine mm_s1 rfl ?_
    refine mm_s1 rfl ?_
    show mm_Go (mm_run 1) mc_M_indexes _ (16, [(0, .inr (.inr 407)), (1, .inl v1), (2, .inl v2), (3, .inl v3)], [.inl v3, .inl v1, .inr (.inr 408), .inl v2], M)
    refine mm_s1 rfl ⟨trivial, ?_⟩
    refine np_M_at (by decide) L N ?_
    show mm_Go (mm_run 1) mc_M_indexes _ (19, [(0, .inr (.inr 407)), (1, .inl v1), (2, .inl v2), (3, .inl v3)], [.inl (nf_M_at v1 v3), .inr (.inr 408), .inl v2], M)
    refine mm_s1 rfl ?_
    refine mm_s1 rfl ?_
    obtain ⟨b21, h⟩ := h
    refine mm_s1 rfl ⟨nn_bd (na_13_0 NN (nn_c407 NN)) b21, ?_⟩
    show mm_Go (mm_run 1) mc_M_indexes _ (22, [(0, .inr (.inr 407)), (1, .inl v1), (2, .inl v2), (3, .inl v3)], [.inl (nn_ri M 408 (mm_w ((nf_M_at v1 v3) + 0))), .inl v2], M)
    refine mm_s1 rfl ⟨fun c22 => ?_, fun c22 => ?_⟩
    · show mm_Go (mm_run 1) mc_M_indexes _ (31, [(0, .inr (.inr 407)), (1, .inl v1), (2, .inl v2), (3, .inl v3)], [.inl v2], M)
      replace h := h.1 c22
      refine mm_s1 rfl ?_
      refine mm_s1 rfl ?_
      refine mm_s1 rfl ?_
      show mm_Go (mm_run 1) mc_M_indexes _ (34, [(0, .inr (.inr 407)), (1, .inl v1), (2, .inl (mm_or v2 0)), (3, .inl v3)], [], M)
      refine mm_s1 rfl ?_
      show mm_Go (mm_run 1) mc_M_indexes _ (37, [(0, .inr (.inr 407)), (1, .inl v1), (2, .inl (mm_or v2 0)), (3, .inl (mm_w (v3 + 1)))], [], M)
      refine mm_s1 rfl ?_
      show mm_Go (mm_run 1) mc_M_indexes _ (4, [(0, .inr (.inr 407)), (1, .inl v1), (2, .inl (mm_or v2 0)), (3, .inl (mm_w (v3 + 1)))], [], M)
      exact nn_go_ext (nn_xc rfl (nn_xc rfl (nn_xc rfl (nn_xc rfl nn_xn)))) (h n L N)
    · show mm_Go (mm_run 1) mc_M_indexes _ (25, [(0, .inr (.inr 407)), (1, .inl v1), (2, .inl v2), (3, .inl v3)], [.inl v2], M)
      replace c22 := Int.not_le.mp c22
      replace h := h.2 c22
      refine mm_s1 rfl ?_
      refine mm_s1 rfl ?_
      refine mm_s1 rfl ?_
      refine mm_s1 rfl ?_
      show mm_Go (mm_run 1) mc_M_indexes _ (32, [(0, .inr (.inr 407)), (1, .inl v1), (2, .inl v2), (3, .inl v3)], [.inl (mm_shl 1 v3), .inl v2], M)
      refine mm_s1 rfl ?_
      refine mm_s1 rfl ?_
      show mm_Go (mm_run 1) mc_M_indexes _ (34, [(0, .inr (.inr 407)), (1, .inl v1), (2, .inl (mm_or v2 (mm_shl 1 v3))), (3, .inl v3)], [], M)
      refine mm_s1 rfl ?_
      show mm_Go (mm_run 1) mc_M_indexes _ (37, [(0, .inr (.inr 407)), (1, .inl v1), (2, .inl (mm_or v2 (mm_shl 1 v3))), (3, .inl (mm_w (v3 + 1)))], [], M)
      refine mm_s1 rfl ?_
      show mm_Go (mm_run 1) mc_M_indexes _ (4, [(0, .inr (.inr 407)), (1, .inl v1), (2, .inl (mm_or v2 (mm_shl 1 v3))), (3, .inl (mm_w (v3 + 1)))], [], M)
      exact nn_go_ext (nn_xc rfl (nn_xc rfl (nn_xc rfl (nn_xc rfl nn_xn)))) (h n L N)
def nf_M_why (v1 : Int) (v2 : Int) (M : mm_M) : Int := (if (nn_ri M 408 9) = (-1) then (-1) else (if (nf_M_isIn v1 0 2) = 0 then (-1) else (if (nf_M_isIn v2 0 1) ≠ 0 then nn_ri M 408 (mm_w ((mm_w (9 + (mm_w (2 * v1)))) + v2)) else (-1))))
def nc_M_why (v1 : Int) (v2 : Int) (M : mm_M) : Prop := ((nn_ri M 408 9) ≠ (-1) → ((nf_M_isIn v1 0 2) ≠ 0 → ((nf_M_isIn v2 0 1) ≠ 0 → ((0 : Int) ≤ (mm_w ((mm_w (9 + (mm_w (2 * v1)))) + v2)) ∧ (mm_w ((mm_w (9 + (mm_w (2 * v1)))) + v2)) < (32844 : Int)))))
set_option maxRecDepth 20000 in
theorem np_M_why {v1 : Int} {v2 : Int} {M : mm_M} {n d : Nat} {P : mm_P} (hd : 2 ≤ d) (L : nn_L M) (N : M.1 = n)  (b : nc_M_why v1 v2 M) (h : P (some (.inl (nf_M_why v1 v2 M))) M) : mm_run d mi_M_why [.inr (.inr 407), .inl v1, .inl v2] M P := by
  have NN := nn_L_n L N
  unfold nc_M_why at b
  unfold nf_M_why at h
  refine nn_run_le hd ?_
  show mm_Go (mm_run 1) mc_M_why _ (0, [(0, .inr (.inr 407)), (1, .inl v1), (2, .inl v2)], [], M)
  refine mm_s1 rfl ?_
  refine nn_getr rfl (nn_c407 NN).1 (lf_13_0 L N (nn_c407 NN)) ?_
  refine mm_s1 rfl ?_
  refine mm_s1 rfl ⟨nn_bd (na_13_0 NN (nn_c407 NN)) (by decide), ?_⟩
  show mm_Go (mm_run 1) mc_M_why _ (7, [(0, .inr (.inr 407)), (1, .inl v1), (2, .inl v2)], [.inl (nn_ri M 408 9)], M)
  refine mm_s1 rfl ?_
  refine mm_s1 rfl ⟨fun c8 => ?_, fun c8 => ?_⟩
  · show mm_Go (mm_run 1) mc_M_why _ (29, [(0, .inr (.inr 407)), (1, .inl v1), (2, .inl v2)], [], M)
    rw [if_pos (show (nn_ri M 408 9) = (-1) from c8)] at h
    refine mm_s1 rfl ?_
    exact mm_s1 rfl h
  · show mm_Go (mm_run 1) mc_M_why _ (11, [(0, .inr (.inr 407)), (1, .inl v1), (2, .inl v2)], [], M)
    rw [if_neg (show ¬ ((nn_ri M 408 9) = (-1)) from c8)] at h
    replace b := b c8
    refine mm_s1 rfl ?_
    refine mm_s1 rfl ?_
    refine mm_s1 rfl ?_
    refine mm_s1 rfl ⟨trivial, ?_⟩
    refine np_M_isIn (by decide) L N ?_
    show mm_Go (mm_run 1) mc_M_why _ (17, [(0, .inr (.inr 407)), (1, .inl v1), (2, .inl v2)], [.inl (nf_M_isIn v1 0 2)], M)
    refine mm_s1 rfl ⟨fun c17 => ?_, fun c17 => ?_⟩
    · show mm_Go (mm_run 1) mc_M_why _ (29, [(0, .inr (.inr 407)), (1, .inl v1), (2, .inl v2)], [], M)
      rw [if_pos (show (nf_M_isIn v1 0 2) = 0 from c17)] at h
      refine mm_s1 rfl ?_
      exact mm_s1 rfl h
    · show mm_Go (mm_run 1) mc_M_why _ (20, [(0, .inr (.inr 407)), (1, .inl v1), (2, .inl v2)], [], M)
      rw [if_neg (show ¬ ((nf_M_isIn v1 0 2) = 0) from c17)] at h
      replace b := b c17
      refine mm_s1 rfl ?_
      refine mm_s1 rfl ?_
      refine mm_s1 rfl ?_
      refine mm_s1 rfl ⟨trivial, ?_⟩
      refine np_M_isIn (by decide) L N ?_
      show mm_Go (mm_run 1) mc_M_why _ (26, [(0, .inr (.inr 407)), (1, .inl v1), (2, .inl v2)], [.inl (nf_M_isIn v2 0 1)], M)
      refine mm_s1 rfl ⟨fun c26 => ?_, fun c26 => ?_⟩
      · show mm_Go (mm_run 1) mc_M_why _ (31, [(0, .inr (.inr 407)), (1, .inl v1), (2, .inl v2)], [], M)
        rw [if_pos (show (nf_M_isIn v2 0 1) ≠ 0 from c26)] at h
        replace b := b c26
        refine mm_s1 rfl ?_
        refine nn_getr rfl (nn_c407 NN).1 (lf_13_0 L N (nn_c407 NN)) ?_
        refine mm_s1 rfl ?_
        refine mm_s1 rfl ?_
        refine mm_s1 rfl ?_
        refine mm_s1 rfl ?_
        refine mm_s1 rfl ?_
        refine mm_s1 rfl ?_
        refine mm_s1 rfl ?_
        have b43 := b
        refine mm_s1 rfl ⟨nn_bd (na_13_0 NN (nn_c407 NN)) b43, ?_⟩
        show mm_Go (mm_run 1) mc_M_why _ (44, [(0, .inr (.inr 407)), (1, .inl v1), (2, .inl v2)], [.inl (nn_ri M 408 (mm_w ((mm_w (9 + (mm_w (2 * v1)))) + v2)))], M)
        exact mm_s1 rfl h
      · show mm_Go (mm_run 1) mc_M_why _ (29, [(0, .inr (.inr 407)), (1, .inl v1), (2, .inl v2)], [], M)
        rw [if_neg (show ¬ ((nf_M_isIn v2 0 1) ≠ 0) from c26)] at h
        replace c26 := Decidable.not_not.mp c26
        refine mm_s1 rfl ?_
        exact mm_s1 rfl h
def nr_M_image (v1 : Int) (M : mm_M) (R : Int → mm_M → Prop) : Prop := ∀ n, nn_L M → M.1 = n → mm_run 2 mi_M_image [.inr (.inr 407), .inl v1] M (nw_Z n R)
set_option maxRecDepth 20000 in
theorem ng_M_image (v1 : Int) (M : mm_M) (R : Int → mm_M → Prop) (h : (((nf_M_isIn v1 0 2) ≠ 0 → (nr_M_copies 0 (mm_w (16422 + (mm_w (5474 * v1)))) M (fun M22 => (((0 : Int) ≤ v1 ∧ v1 < (3 : Int)) ∧ (∀ M31 : mm_M, M31 = nn_ui M22 409 v1 1 → R 1 M31))))) ∧ ((nf_M_isIn v1 0 2) = 0 → R 0 M))) : nr_M_image v1 M R := by
  intro n L N 
  have NN := nn_L_n L N
  show mm_Go (mm_run 1) mc_M_image _ (0, [(0, .inr (.inr 407)), (1, .inl v1)], [], M)
  refine mm_s1 rfl ?_
  refine mm_s1 rfl ?_
  refine mm_s1 rfl ?_
  refine mm_s1 rfl ⟨trivial, ?_⟩
  refine np_M_isIn (by decide) L N ?_
  show mm_Go (mm_run 1) mc_M_image _ (6, [(0, .inr (.inr 407)), (1, .inl v1)], [.inl (nf_M_isIn v1 0 2)], M)
  refine mm_s1 rfl ⟨fun c6 => ?_, fun c6 => ?_⟩
  · show mm_Go (mm_run 1) mc_M_image _ (11, [(0, .inr (.inr 407)), (1, .inl v1)], [], M)
    replace h := h.1 c6
    refine mm_s1 rfl ?_
    refine mm_s1 rfl ?_
    refine mm_s1 rfl ?_
    refine mm_s1 rfl ?_
    refine mm_s1 rfl ?_
    show mm_Go (mm_run 1) mc_M_image _ (20, [(0, .inr (.inr 407)), (1, .inl v1)], [.inl v1, .inl 5474, .inl 16422, .inl 0, .inr (.inr 407)], M)
    refine mm_s1 rfl ?_
    refine mm_s1 rfl ?_
    refine mm_s1 rfl ⟨(nn_c407 NN).1, ?_⟩
    refine nn_call (D := 1) (by decide) (h n L N) ?_
    intro v M22 q; clear L N h
    obtain ⟨rfl, L, N, h⟩ := q
    show mm_Go (mm_run 1) mc_M_image _ (25, [(0, .inr (.inr 407)), (1, .inl v1)], [], M22)
    refine mm_s1 rfl ?_
    refine nn_getr rfl (nn_c407 NN).1 (lf_13_1 L N (nn_c407 NN)) ?_
    refine mm_s1 rfl ?_
    refine mm_s1 rfl ?_
    obtain ⟨b31, h⟩ := h
    refine mm_s1 rfl ⟨⟨congrArg Prod.fst (na_13_1 NN (nn_c407 NN)), Or.inr rfl, (nn_bd (na_13_1 NN (nn_c407 NN)) b31).2⟩, ?_⟩
    show mm_Go (mm_run 1) mc_M_image _ (32, [(0, .inr (.inr 407)), (1, .inl v1)], [], (nn_ui M22 409 v1 1))
    have L : nn_L (nn_ui M22 409 v1 1) := nn_L_ua L (congrArg Prod.fst (na_13_1 NN (nn_c407 NN))) (by decide)
    have N : (nn_ui M22 409 v1 1).1 = n := N
    generalize e_M31 : (nn_ui M22 409 v1 1) = M31 at L N ⊢
    replace h := h _ e_M31.symm
    show mm_Go (mm_run 1) mc_M_image _ (32, [(0, .inr (.inr 407)), (1, .inl v1)], [], M31)
    refine mm_s1 rfl ?_
    exact mm_s1 rfl ⟨(Or.inr rfl), _, rfl, (Or.inr rfl), L, N, h⟩
  · show mm_Go (mm_run 1) mc_M_image _ (9, [(0, .inr (.inr 407)), (1, .inl v1)], [], M)
    replace c6 := Decidable.not_not.mp c6
    replace h := h.2 c6
    refine mm_s1 rfl ?_
    exact mm_s1 rfl ⟨(Or.inl rfl), _, rfl, (Or.inl rfl), L, N, h⟩
def nr_M_again (v1 : Int) (M : mm_M) (R : Int → mm_M → Prop) : Prop := ∀ n, nn_L M → M.1 = n → mm_run 2 mi_M_again [.inr (.inr 407), .inl v1] M (nw_Z n R)
set_option maxRecDepth 20000 in
theorem ng_M_again (v1 : Int) (M : mm_M) (R : Int → mm_M → Prop) (h : ((((nf_M_isIn v1 0 2) ≠ 0) → ((0 : Int) ≤ v1 ∧ v1 < (3 : Int))) ∧ (((nf_M_isIn v1 0 2) = 0 ∨ ((nn_ri M 409 v1) = 0)) → R 0 M) ∧ (((nf_M_isIn v1 0 2) ≠ 0 ∧ ((nn_ri M 409 v1) ≠ 0)) → (nr_M_copies (mm_w (16422 + (mm_w (5474 * v1)))) 0 M (fun M31 => R 1 M31))))) : nr_M_again v1 M R := by
  intro n L N 
  have NN := nn_L_n L N
  show mm_Go (mm_run 1) mc_M_again _ (0, [(0, .inr (.inr 407)), (1, .inl v1)], [], M)
  refine mm_s1 rfl ?_
  refine mm_s1 rfl ?_
  refine mm_s1 rfl ?_
  refine mm_s1 rfl ⟨trivial, ?_⟩
  refine np_M_isIn (by decide) L N ?_
  show mm_Go (mm_run 1) mc_M_again _ (6, [(0, .inr (.inr 407)), (1, .inl v1)], [.inl (nf_M_isIn v1 0 2)], M)
  refine mm_s1 rfl ⟨fun c6 => ?_, fun c6 => ?_⟩
  · show mm_Go (mm_run 1) mc_M_again _ (18, [(0, .inr (.inr 407)), (1, .inl v1)], [], M)
    refine mm_s1 rfl ?_
    replace h := h.2.1 (Or.inl c6)
    exact mm_s1 rfl ⟨(Or.inl rfl), _, rfl, (Or.inl rfl), L, N, h⟩
  · show mm_Go (mm_run 1) mc_M_again _ (9, [(0, .inr (.inr 407)), (1, .inl v1)], [], M)
    refine mm_s1 rfl ?_
    refine nn_getr rfl (nn_c407 NN).1 (lf_13_1 L N (nn_c407 NN)) ?_
    refine mm_s1 rfl ?_
    have b14 := h.1 c6
    refine mm_s1 rfl ⟨nn_bd (na_13_1 NN (nn_c407 NN)) b14, ?_⟩
    show mm_Go (mm_run 1) mc_M_again _ (15, [(0, .inr (.inr 407)), (1, .inl v1)], [.inl (nn_ri M 409 v1)], M)
    refine mm_s1 rfl ⟨fun c15 => ?_, fun c15 => ?_⟩
    · show mm_Go (mm_run 1) mc_M_again _ (20, [(0, .inr (.inr 407)), (1, .inl v1)], [], M)
      refine mm_s1 rfl ?_
      refine mm_s1 rfl ?_
      refine mm_s1 rfl ?_
      refine mm_s1 rfl ?_
      refine mm_s1 rfl ?_
      show mm_Go (mm_run 1) mc_M_again _ (29, [(0, .inr (.inr 407)), (1, .inl v1)], [.inl (mm_w (5474 * v1)), .inl 16422, .inr (.inr 407)], M)
      refine mm_s1 rfl ?_
      refine mm_s1 rfl ?_
      replace h := h.2.2 ⟨c6, c15⟩
      refine mm_s1 rfl ⟨(nn_c407 NN).1, ?_⟩
      refine nn_call (D := 1) (by decide) (h n L N) ?_
      intro v M31 q; clear L N h
      obtain ⟨rfl, L, N, h⟩ := q
      show mm_Go (mm_run 1) mc_M_again _ (34, [(0, .inr (.inr 407)), (1, .inl v1)], [], M31)
      refine mm_s1 rfl ?_
      exact mm_s1 rfl ⟨(Or.inr rfl), _, rfl, (Or.inr rfl), L, N, h⟩
    · show mm_Go (mm_run 1) mc_M_again _ (18, [(0, .inr (.inr 407)), (1, .inl v1)], [], M)
      replace c15 := Decidable.not_not.mp c15
      refine mm_s1 rfl ?_
      replace h := h.2.1 (Or.inr c15)
      exact mm_s1 rfl ⟨(Or.inl rfl), _, rfl, (Or.inl rfl), L, N, h⟩
def nf_LI_row (v1 : Int) (v2 : Int) (M : mm_M) : Int := (if (nf_LI_isKey v1) = 0 then (-1) else (if (nf_Versions_has 9 v1 M) ≠ 0 then (if v2 ≠ 4 then (if (nf_LI_isColumn v2) = 0 then (-1) else (if (nf_Versions_isThere 9 v1 M) = 0 then (-1) else nf_LI_columnOf (nn_ri M 10 v1) v2)) else nn_ri M 11 v1) else (-1)))
def nc_LI_row (v1 : Int) (v2 : Int) (M : mm_M) : Prop := ((nf_LI_isKey v1) ≠ 0 → ((nf_Versions_has 9 v1 M) ≠ 0 → ((v2 ≠ 4 → ((nf_LI_isColumn v2) ≠ 0 → ((nc_Versions_isThere 9 v1 M) ∧ ((nf_Versions_isThere 9 v1 M) ≠ 0 → ((0 : Int) ≤ v1 ∧ v1 < (32 : Int)))))) ∧ (v2 = 4 → ((0 : Int) ≤ v1 ∧ v1 < (32 : Int))))))
set_option maxRecDepth 20000 in
theorem np_LI_row {v1 : Int} {v2 : Int} {M : mm_M} {n d : Nat} {P : mm_P} (hd : 3 ≤ d) (L : nn_L M) (N : M.1 = n)  (b : nc_LI_row v1 v2 M) (h : P (some (.inl (nf_LI_row v1 v2 M))) M) : mm_run d mi_LI_row [.inr (.inr 1), .inl v1, .inl v2] M P := by
  have NN := nn_L_n L N
  unfold nc_LI_row at b
  unfold nf_LI_row at h
  refine nn_run_le hd ?_
  show mm_Go (mm_run 2) mc_LI_row _ (0, [(0, .inr (.inr 1)), (1, .inl v1), (2, .inl v2)], [], M)
  refine mm_s1 rfl ?_
  refine nn_getr rfl (nn_c1 NN).1 (lf_1_0 L N (nn_c1 NN)) ?_
  refine nn_getr rfl (nc_1_0 NN (nn_c1 NN)).1 (lf_9_1 L N (nc_1_0 NN (nn_c1 NN))) ?_
  refine nn_getr rfl (nc_9_1 NN (nc_1_0 NN (nn_c1 NN))).1 (lf_10_1 L N (nc_9_1 NN (nc_1_0 NN (nn_c1 NN)))) ?_
  refine mm_s1 rfl ?_
  show mm_Go (mm_run 2) mc_LI_row _ (11, [(0, .inr (.inr 1)), (1, .inl v1), (2, .inl v2), (3, .inr (.inr 9))], [], M)
  refine mm_s1 rfl ?_
  refine mm_s1 rfl ⟨trivial, ?_⟩
  refine np_LI_isKey (by decide) L N ?_
  show mm_Go (mm_run 2) mc_LI_row _ (15, [(0, .inr (.inr 1)), (1, .inl v1), (2, .inl v2), (3, .inr (.inr 9))], [.inl (nf_LI_isKey v1)], M)
  refine mm_s1 rfl ⟨fun c15 => ?_, fun c15 => ?_⟩
  · show mm_Go (mm_run 2) mc_LI_row _ (26, [(0, .inr (.inr 1)), (1, .inl v1), (2, .inl v2), (3, .inr (.inr 9))], [], M)
    rw [if_pos (show (nf_LI_isKey v1) = 0 from c15)] at h
    refine mm_s1 rfl ?_
    exact mm_s1 rfl h
  · show mm_Go (mm_run 2) mc_LI_row _ (18, [(0, .inr (.inr 1)), (1, .inl v1), (2, .inl v2), (3, .inr (.inr 9))], [], M)
    rw [if_neg (show ¬ ((nf_LI_isKey v1) = 0) from c15)] at h
    replace b := b c15
    refine mm_s1 rfl ?_
    refine mm_s1 rfl ?_
    refine mm_s1 rfl ⟨(nc_10_1 NN (nc_9_1 NN (nc_1_0 NN (nn_c1 NN)))).1, ?_⟩
    refine np_Versions_has (by decide) L N (nc_10_1 NN (nc_9_1 NN (nc_1_0 NN (nn_c1 NN)))) ?_
    show mm_Go (mm_run 2) mc_LI_row _ (23, [(0, .inr (.inr 1)), (1, .inl v1), (2, .inl v2), (3, .inr (.inr 9))], [.inl (nf_Versions_has 9 v1 M)], M)
    refine mm_s1 rfl ⟨fun c23 => ?_, fun c23 => ?_⟩
    · show mm_Go (mm_run 2) mc_LI_row _ (28, [(0, .inr (.inr 1)), (1, .inl v1), (2, .inl v2), (3, .inr (.inr 9))], [], M)
      rw [if_pos (show (nf_Versions_has 9 v1 M) ≠ 0 from c23)] at h
      replace b := b c23
      refine mm_s1 rfl ?_
      refine mm_s1 rfl ?_
      refine mm_s1 rfl ⟨fun c30 => ?_, fun c30 => ?_⟩
      · show mm_Go (mm_run 2) mc_LI_row _ (40, [(0, .inr (.inr 1)), (1, .inl v1), (2, .inl v2), (3, .inr (.inr 9))], [], M)
        rw [if_pos (show v2 ≠ 4 from c30)] at h
        replace b := b.1 c30
        refine mm_s1 rfl ?_
        refine mm_s1 rfl ⟨trivial, ?_⟩
        refine np_LI_isColumn (by decide) L N ?_
        show mm_Go (mm_run 2) mc_LI_row _ (44, [(0, .inr (.inr 1)), (1, .inl v1), (2, .inl v2), (3, .inr (.inr 9))], [.inl (nf_LI_isColumn v2)], M)
        refine mm_s1 rfl ⟨fun c44 => ?_, fun c44 => ?_⟩
        · show mm_Go (mm_run 2) mc_LI_row _ (68, [(0, .inr (.inr 1)), (1, .inl v1), (2, .inl v2), (3, .inr (.inr 9))], [], M)
          rw [if_pos (show (nf_LI_isColumn v2) = 0 from c44)] at h
          refine mm_s1 rfl ?_
          exact mm_s1 rfl h
        · show mm_Go (mm_run 2) mc_LI_row _ (47, [(0, .inr (.inr 1)), (1, .inl v1), (2, .inl v2), (3, .inr (.inr 9))], [], M)
          rw [if_neg (show ¬ ((nf_LI_isColumn v2) = 0) from c44)] at h
          replace b := b c44
          refine mm_s1 rfl ?_
          refine mm_s1 rfl ?_
          obtain ⟨b49, b⟩ := b
          refine mm_s1 rfl ⟨(nc_10_1 NN (nc_9_1 NN (nc_1_0 NN (nn_c1 NN)))).1, ?_⟩
          refine np_Versions_isThere (by decide) L N (nc_10_1 NN (nc_9_1 NN (nc_1_0 NN (nn_c1 NN)))) b49 ?_
          show mm_Go (mm_run 2) mc_LI_row _ (52, [(0, .inr (.inr 1)), (1, .inl v1), (2, .inl v2), (3, .inr (.inr 9))], [.inl (nf_Versions_isThere 9 v1 M)], M)
          refine mm_s1 rfl ⟨fun c52 => ?_, fun c52 => ?_⟩
          · show mm_Go (mm_run 2) mc_LI_row _ (68, [(0, .inr (.inr 1)), (1, .inl v1), (2, .inl v2), (3, .inr (.inr 9))], [], M)
            rw [if_pos (show (nf_Versions_isThere 9 v1 M) = 0 from c52)] at h
            refine mm_s1 rfl ?_
            exact mm_s1 rfl h
          · show mm_Go (mm_run 2) mc_LI_row _ (55, [(0, .inr (.inr 1)), (1, .inl v1), (2, .inl v2), (3, .inr (.inr 9))], [], M)
            rw [if_neg (show ¬ ((nf_Versions_isThere 9 v1 M) = 0) from c52)] at h
            replace b := b c52
            refine mm_s1 rfl ?_
            refine nn_getr rfl (nc_10_1 NN (nc_9_1 NN (nc_1_0 NN (nn_c1 NN)))).1 (lf_12_0 L N (nc_10_1 NN (nc_9_1 NN (nc_1_0 NN (nn_c1 NN))))) ?_
            refine mm_s1 rfl ?_
            have b60 := b
            refine mm_s1 rfl ⟨nn_bd (na_12_0 NN (nc_10_1 NN (nc_9_1 NN (nc_1_0 NN (nn_c1 NN))))) b60, ?_⟩
            show mm_Go (mm_run 2) mc_LI_row _ (61, [(0, .inr (.inr 1)), (1, .inl v1), (2, .inl v2), (3, .inr (.inr 9))], [.inl (nn_ri M 10 v1)], M)
            refine mm_s1 rfl ?_
            refine mm_s1 rfl ⟨trivial, ?_⟩
            refine np_LI_columnOf (by decide) L N ?_
            show mm_Go (mm_run 2) mc_LI_row _ (65, [(0, .inr (.inr 1)), (1, .inl v1), (2, .inl v2), (3, .inr (.inr 9))], [.inl (nf_LI_columnOf (nn_ri M 10 v1) v2)], M)
            refine mm_s1 rfl ?_
            show mm_Go (mm_run 2) mc_LI_row _ (69, [(0, .inr (.inr 1)), (1, .inl v1), (2, .inl v2), (3, .inr (.inr 9))], [.inl (nf_LI_columnOf (nn_ri M 10 v1) v2)], M)
            exact mm_s1 rfl h
      · show mm_Go (mm_run 2) mc_LI_row _ (33, [(0, .inr (.inr 1)), (1, .inl v1), (2, .inl v2), (3, .inr (.inr 9))], [], M)
        rw [if_neg (show ¬ (v2 ≠ 4) from c30)] at h
        replace c30 := Decidable.not_not.mp c30
        replace b := b.2 c30
        refine mm_s1 rfl ?_
        refine nn_getr rfl (nc_10_1 NN (nc_9_1 NN (nc_1_0 NN (nn_c1 NN)))).1 (lf_12_1 L N (nc_10_1 NN (nc_9_1 NN (nc_1_0 NN (nn_c1 NN))))) ?_
        refine mm_s1 rfl ?_
        have b38 := b
        refine mm_s1 rfl ⟨nn_bd (na_12_1 NN (nc_10_1 NN (nc_9_1 NN (nc_1_0 NN (nn_c1 NN))))) b38, ?_⟩
        show mm_Go (mm_run 2) mc_LI_row _ (39, [(0, .inr (.inr 1)), (1, .inl v1), (2, .inl v2), (3, .inr (.inr 9))], [.inl (nn_ri M 11 v1)], M)
        exact mm_s1 rfl h
    · show mm_Go (mm_run 2) mc_LI_row _ (26, [(0, .inr (.inr 1)), (1, .inl v1), (2, .inl v2), (3, .inr (.inr 9))], [], M)
      rw [if_neg (show ¬ ((nf_Versions_has 9 v1 M) ≠ 0) from c23)] at h
      replace c23 := Decidable.not_not.mp c23
      refine mm_s1 rfl ?_
      exact mm_s1 rfl h
def nr_LI_run (v1 : Int) (v2 : Int) (M : mm_M) (R : Int → mm_M → Prop) : Prop := ∀ n, nn_L M → M.1 = n → mm_run 3 mi_LI_run [.inr (.inr 1), .inl v1, .inl v2] M (nw_I n R)
set_option maxRecDepth 20000 in
theorem ng_LI_run (v1 : Int) (v2 : Int) (M : mm_M) (R : Int → mm_M → Prop) (h : (((0 ≤ v1) ∧ (v1 < (nn_rf M 5 5)) → ((0 : Int) ≤ v1 ∧ v1 < (24 : Int))) ∧ ((v1 < 0 ∨ ((nn_rf M 5 5) ≤ v1)) → R (-1) M) ∧ ((0 ≤ v1 ∧ (v1 < (nn_rf M 5 5))) → ((v2 = 0 → R (nf_Versions_size (nn_rr M 12 v1) M) M) ∧ (v2 = 1 → (((0 : Int) ≤ v1 ∧ v1 < (24 : Int)) ∧ R (nn_ri M 13 v1) M)) ∧ (v2 = 2 → R (nn_rf M (nn_rr M 12 v1) 3) M) ∧ (v2 = 3 → R (nn_rf M (nn_rr M 12 v1) 4) M) ∧ (v2 = 4 → R (nf_Versions_filter (nn_rr M 12 v1) M) M) ∧ ((v2 < 0 ∨ 4 < v2) → ((v2 < 10 → R (-1) M) ∧ (10 ≤ v2 → (nr_Versions_keyAt (nn_rr M 12 v1) (mm_w (v2 - 10)) M (fun r107 M107 => R r107 M107))))))))) : nr_LI_run v1 v2 M R := by
  intro n L N 
  have NN := nn_L_n L N
  show mm_Go (mm_run 2) mc_LI_run _ (0, [(0, .inr (.inr 1)), (1, .inl v1), (2, .inl v2)], [], M)
  refine mm_s1 rfl ?_
  refine nn_getr rfl (nn_c1 NN).1 (lf_1_0 L N (nn_c1 NN)) ?_
  refine nn_getr rfl (nc_1_0 NN (nn_c1 NN)).1 (lf_9_1 L N (nc_1_0 NN (nn_c1 NN))) ?_
  refine mm_s1 rfl ?_
  show mm_Go (mm_run 2) mc_LI_run _ (8, [(0, .inr (.inr 1)), (1, .inl v1), (2, .inl v2), (3, .inr (.inr 5))], [], M)
  refine mm_s1 rfl ?_
  refine mm_s1 rfl ⟨fun c9 => ?_, fun c9 => ?_⟩
  · show mm_Go (mm_run 2) mc_LI_run _ (20, [(0, .inr (.inr 1)), (1, .inl v1), (2, .inl v2), (3, .inr (.inr 5))], [], M)
    refine mm_s1 rfl ?_
    replace h := h.2.1 (Or.inl c9)
    exact mm_s1 rfl ⟨_, rfl, L, N, h⟩
  · show mm_Go (mm_run 2) mc_LI_run _ (12, [(0, .inr (.inr 1)), (1, .inl v1), (2, .inl v2), (3, .inr (.inr 5))], [], M)
    replace c9 := Int.not_lt.mp c9
    refine mm_s1 rfl ?_
    refine mm_s1 rfl ?_
    refine mm_s1 rfl ⟨(nc_9_1 NN (nc_1_0 NN (nn_c1 NN))).1, ?_⟩
    show mm_Go (mm_run 2) mc_LI_run _ (17, [(0, .inr (.inr 1)), (1, .inl v1), (2, .inl v2), (3, .inr (.inr 5))], [.inl (nn_rf M 5 5), .inl v1], M)
    refine mm_s1 rfl ⟨fun c17 => ?_, fun c17 => ?_⟩
    · show mm_Go (mm_run 2) mc_LI_run _ (22, [(0, .inr (.inr 1)), (1, .inl v1), (2, .inl v2), (3, .inr (.inr 5))], [], M)
      refine mm_s1 rfl ?_
      refine nn_getr rfl (nc_9_1 NN (nc_1_0 NN (nn_c1 NN))).1 (lf_10_2 L N (nc_9_1 NN (nc_1_0 NN (nn_c1 NN)))) ?_
      refine mm_s1 rfl ?_
      have b27 := h.1 ⟨c9, c17⟩
      have C27 := (nn_l42 L N (nc_10_2 NN (nc_9_1 NN (nc_1_0 NN (nn_c1 NN)))) b27).2
      refine nn_aald rfl (nn_bd30 (na_10_2 NN (nc_9_1 NN (nc_1_0 NN (nn_c1 NN)))) (by decide) b27) (nn_l42 L N (nc_10_2 NN (nc_9_1 NN (nc_1_0 NN (nn_c1 NN)))) b27).1 ?_
      show mm_Go (mm_run 2) mc_LI_run _ (28, [(0, .inr (.inr 1)), (1, .inl v1), (2, .inl v2), (3, .inr (.inr 5))], [.inr (.inr (nn_rr M 12 v1))], M)
      refine mm_s1 rfl ?_
      show mm_Go (mm_run 2) mc_LI_run _ (30, [(0, .inr (.inr 1)), (1, .inl v1), (2, .inl v2), (3, .inr (.inr 5)), (4, .inr (.inr (nn_rr M 12 v1)))], [], M)
      refine mm_s1 rfl ?_
      replace h := h.2.2 ⟨c9, c17⟩
      refine nn_sw rfl (by decide) (fun k hk hx => ?_) (fun c31 => ?_)
      · match k, hk, hx with
        | 0, _, hx =>
          have c31 : v2 = 0 := hx.trans (by decide)
          replace h := h.1 c31
          show mm_Go (mm_run 2) mc_LI_run _ (64, [(0, .inr (.inr 1)), (1, .inl v1), (2, .inl v2), (3, .inr (.inr 5)), (4, .inr (.inr (nn_rr M 12 v1)))], [], M)
          refine mm_s1 rfl ?_
          refine mm_s1 rfl ⟨C27.2.1, ?_⟩
          refine np_Versions_size (by decide) L N C27.2 ?_
          show mm_Go (mm_run 2) mc_LI_run _ (69, [(0, .inr (.inr 1)), (1, .inl v1), (2, .inl v2), (3, .inr (.inr 5)), (4, .inr (.inr (nn_rr M 12 v1)))], [.inl (nf_Versions_size (nn_rr M 12 v1) M)], M)
          exact mm_s1 rfl ⟨_, rfl, L, N, h⟩
        | 1, _, hx =>
          have c31 : v2 = 1 := hx.trans (by decide)
          replace h := h.2.1 c31
          show mm_Go (mm_run 2) mc_LI_run _ (70, [(0, .inr (.inr 1)), (1, .inl v1), (2, .inl v2), (3, .inr (.inr 5)), (4, .inr (.inr (nn_rr M 12 v1)))], [], M)
          refine mm_s1 rfl ?_
          refine nn_getr rfl (nc_9_1 NN (nc_1_0 NN (nn_c1 NN))).1 (lf_10_3 L N (nc_9_1 NN (nc_1_0 NN (nn_c1 NN)))) ?_
          refine mm_s1 rfl ?_
          obtain ⟨b75, h⟩ := h
          refine mm_s1 rfl ⟨nn_bd (na_10_3 NN (nc_9_1 NN (nc_1_0 NN (nn_c1 NN)))) b75, ?_⟩
          show mm_Go (mm_run 2) mc_LI_run _ (76, [(0, .inr (.inr 1)), (1, .inl v1), (2, .inl v2), (3, .inr (.inr 5)), (4, .inr (.inr (nn_rr M 12 v1)))], [.inl (nn_ri M 13 v1)], M)
          exact mm_s1 rfl ⟨_, rfl, L, N, h⟩
        | 2, _, hx =>
          have c31 : v2 = 2 := hx.trans (by decide)
          replace h := h.2.2.1 c31
          show mm_Go (mm_run 2) mc_LI_run _ (77, [(0, .inr (.inr 1)), (1, .inl v1), (2, .inl v2), (3, .inr (.inr 5)), (4, .inr (.inr (nn_rr M 12 v1)))], [], M)
          refine mm_s1 rfl ?_
          refine mm_s1 rfl ⟨C27.2.1, ?_⟩
          show mm_Go (mm_run 2) mc_LI_run _ (82, [(0, .inr (.inr 1)), (1, .inl v1), (2, .inl v2), (3, .inr (.inr 5)), (4, .inr (.inr (nn_rr M 12 v1)))], [.inl (nn_rf M (nn_rr M 12 v1) 3)], M)
          exact mm_s1 rfl ⟨_, rfl, L, N, h⟩
        | 3, _, hx =>
          have c31 : v2 = 3 := hx.trans (by decide)
          replace h := h.2.2.2.1 c31
          show mm_Go (mm_run 2) mc_LI_run _ (83, [(0, .inr (.inr 1)), (1, .inl v1), (2, .inl v2), (3, .inr (.inr 5)), (4, .inr (.inr (nn_rr M 12 v1)))], [], M)
          refine mm_s1 rfl ?_
          refine mm_s1 rfl ⟨C27.2.1, ?_⟩
          show mm_Go (mm_run 2) mc_LI_run _ (88, [(0, .inr (.inr 1)), (1, .inl v1), (2, .inl v2), (3, .inr (.inr 5)), (4, .inr (.inr (nn_rr M 12 v1)))], [.inl (nn_rf M (nn_rr M 12 v1) 4)], M)
          exact mm_s1 rfl ⟨_, rfl, L, N, h⟩
        | 4, _, hx =>
          have c31 : v2 = 4 := hx.trans (by decide)
          replace h := h.2.2.2.2.1 c31
          show mm_Go (mm_run 2) mc_LI_run _ (89, [(0, .inr (.inr 1)), (1, .inl v1), (2, .inl v2), (3, .inr (.inr 5)), (4, .inr (.inr (nn_rr M 12 v1)))], [], M)
          refine mm_s1 rfl ?_
          refine mm_s1 rfl ⟨C27.2.1, ?_⟩
          refine np_Versions_filter (by decide) L N C27.2 ?_
          show mm_Go (mm_run 2) mc_LI_run _ (94, [(0, .inr (.inr 1)), (1, .inl v1), (2, .inl v2), (3, .inr (.inr 5)), (4, .inr (.inr (nn_rr M 12 v1)))], [.inl (nf_Versions_filter (nn_rr M 12 v1) M)], M)
          exact mm_s1 rfl ⟨_, rfl, L, N, h⟩
        | k + 5, hk, _ => exact absurd hk (by show ¬ (k + 5 < 5); omega)
      · replace h := h.2.2.2.2.2 c31
        show mm_Go (mm_run 2) mc_LI_run _ (95, [(0, .inr (.inr 1)), (1, .inl v1), (2, .inl v2), (3, .inr (.inr 5)), (4, .inr (.inr (nn_rr M 12 v1)))], [], M)
        refine mm_s1 rfl ?_
        refine mm_s1 rfl ?_
        refine mm_s1 rfl ⟨fun c98 => ?_, fun c98 => ?_⟩
        · show mm_Go (mm_run 2) mc_LI_run _ (113, [(0, .inr (.inr 1)), (1, .inl v1), (2, .inl v2), (3, .inr (.inr 5)), (4, .inr (.inr (nn_rr M 12 v1)))], [], M)
          replace h := h.1 c98
          refine mm_s1 rfl ?_
          exact mm_s1 rfl ⟨_, rfl, L, N, h⟩
        · show mm_Go (mm_run 2) mc_LI_run _ (101, [(0, .inr (.inr 1)), (1, .inl v1), (2, .inl v2), (3, .inr (.inr 5)), (4, .inr (.inr (nn_rr M 12 v1)))], [], M)
          replace c98 := Int.not_lt.mp c98
          replace h := h.2 c98
          refine mm_s1 rfl ?_
          refine mm_s1 rfl ?_
          refine mm_s1 rfl ?_
          refine mm_s1 rfl ?_
          refine mm_s1 rfl ⟨C27.2.1, ?_⟩
          refine nn_call (D := 2) (by decide) (h n L N C27.2) ?_
          intro v M107 q; clear L N h
          obtain ⟨r107, rfl, L, N, h⟩ := q
          show mm_Go (mm_run 2) mc_LI_run _ (110, [(0, .inr (.inr 1)), (1, .inl v1), (2, .inl v2), (3, .inr (.inr 5)), (4, .inr (.inr (nn_rr M 12 v1)))], [.inl r107], M107)
          refine mm_s1 rfl ?_
          show mm_Go (mm_run 2) mc_LI_run _ (114, [(0, .inr (.inr 1)), (1, .inl v1), (2, .inl v2), (3, .inr (.inr 5)), (4, .inr (.inr (nn_rr M 12 v1)))], [.inl r107], M107)
          exact mm_s1 rfl ⟨_, rfl, L, N, h⟩
    · show mm_Go (mm_run 2) mc_LI_run _ (20, [(0, .inr (.inr 1)), (1, .inl v1), (2, .inl v2), (3, .inr (.inr 5))], [], M)
      replace c17 := Int.not_lt.mp c17
      refine mm_s1 rfl ?_
      replace h := h.2.1 (Or.inr c17)
      exact mm_s1 rfl ⟨_, rfl, L, N, h⟩
def nr_LI_toldEntry (v0 : Int) (v2 : Nat) (v3 : Int) (v4 : Int) (M : mm_M) (R : Int → mm_M → Prop) : Prop := ∀ n, nn_L M → M.1 = n → nn_C 10 v2 n → mm_run 3 mi_LI_toldEntry [.inr (.inl v0), .inr (.inr v2), .inl v3, .inl v4] M (nw_I n R)
set_option maxRecDepth 20000 in
theorem ng_LI_toldEntry (v0 : Int) (v2 : Nat) (v3 : Int) (v4 : Int) (M : mm_M) (R : Int → mm_M → Prop) (h : ((v4 = 0 → R (nf_LI_valueOf v0) M) ∧ (v4 = 1 → R (nf_LI_keyOf v0) M) ∧ (v4 = 2 → R (nf_LI_stampOf v0) M) ∧ (v4 = 3 → ((nc_LI_isStale v0 (v2 + 4) M) ∧ (((nf_LI_isStale v0 (v2 + 4) M) = 0 → R 0 M) ∧ ((nf_LI_isStale v0 (v2 + 4) M) ≠ 0 → R 1 M)))) ∧ (v4 = 4 → (nr_Table_looks v2 (nf_LI_keyOf v0) v3 M (fun r74 M74 => R r74 M74))) ∧ ((v4 < 0 ∨ 4 < v4) → R (-2) M))) : nr_LI_toldEntry v0 v2 v3 v4 M R := by
  intro n L N C2
  have NN := nn_L_n L N
  show mm_Go (mm_run 2) mc_LI_toldEntry _ (0, [(0, .inr (.inl v0)), (2, .inr (.inr v2)), (3, .inl v3), (4, .inl v4)], [], M)
  refine mm_s1 rfl ?_
  refine nn_sw rfl (by decide) (fun k hk hx => ?_) (fun c2 => ?_)
  · match k, hk, hx with
    | 0, _, hx =>
      have c2 : v4 = 0 := hx.trans (by decide)
      replace h := h.1 c2
      show mm_Go (mm_run 2) mc_LI_toldEntry _ (36, [(0, .inr (.inl v0)), (2, .inr (.inr v2)), (3, .inl v3), (4, .inl v4)], [], M)
      refine mm_s1 rfl ?_
      refine mm_s1 rfl ⟨trivial, ?_⟩
      refine np_LI_valueOf (by decide) L N ?_
      show mm_Go (mm_run 2) mc_LI_toldEntry _ (40, [(0, .inr (.inl v0)), (2, .inr (.inr v2)), (3, .inl v3), (4, .inl v4)], [.inl (nf_LI_valueOf v0)], M)
      exact mm_s1 rfl ⟨_, rfl, L, N, h⟩
    | 1, _, hx =>
      have c2 : v4 = 1 := hx.trans (by decide)
      replace h := h.2.1 c2
      show mm_Go (mm_run 2) mc_LI_toldEntry _ (41, [(0, .inr (.inl v0)), (2, .inr (.inr v2)), (3, .inl v3), (4, .inl v4)], [], M)
      refine mm_s1 rfl ?_
      refine mm_s1 rfl ⟨trivial, ?_⟩
      refine np_LI_keyOf (by decide) L N ?_
      show mm_Go (mm_run 2) mc_LI_toldEntry _ (45, [(0, .inr (.inl v0)), (2, .inr (.inr v2)), (3, .inl v3), (4, .inl v4)], [.inl (nf_LI_keyOf v0)], M)
      exact mm_s1 rfl ⟨_, rfl, L, N, h⟩
    | 2, _, hx =>
      have c2 : v4 = 2 := hx.trans (by decide)
      replace h := h.2.2.1 c2
      show mm_Go (mm_run 2) mc_LI_toldEntry _ (46, [(0, .inr (.inl v0)), (2, .inr (.inr v2)), (3, .inl v3), (4, .inl v4)], [], M)
      refine mm_s1 rfl ?_
      refine mm_s1 rfl ⟨trivial, ?_⟩
      refine np_LI_stampOf (by decide) L N ?_
      show mm_Go (mm_run 2) mc_LI_toldEntry _ (50, [(0, .inr (.inl v0)), (2, .inr (.inr v2)), (3, .inl v3), (4, .inl v4)], [.inl (nf_LI_stampOf v0)], M)
      exact mm_s1 rfl ⟨_, rfl, L, N, h⟩
    | 3, _, hx =>
      have c2 : v4 = 3 := hx.trans (by decide)
      replace h := h.2.2.2.1 c2
      show mm_Go (mm_run 2) mc_LI_toldEntry _ (51, [(0, .inr (.inl v0)), (2, .inr (.inr v2)), (3, .inl v3), (4, .inl v4)], [], M)
      refine mm_s1 rfl ?_
      refine mm_s1 rfl ?_
      refine nn_getr rfl C2.1 (lf_10_1 L N C2) ?_
      obtain ⟨b56, h⟩ := h
      refine mm_s1 rfl ⟨trivial, ?_⟩
      refine np_LI_isStale (by decide) L N (nc_10_1 NN C2) b56 ?_
      show mm_Go (mm_run 2) mc_LI_toldEntry _ (59, [(0, .inr (.inl v0)), (2, .inr (.inr v2)), (3, .inl v3), (4, .inl v4)], [.inl (nf_LI_isStale v0 (v2 + 4) M)], M)
      refine mm_s1 rfl ⟨fun c59 => ?_, fun c59 => ?_⟩
      · show mm_Go (mm_run 2) mc_LI_toldEntry _ (66, [(0, .inr (.inl v0)), (2, .inr (.inr v2)), (3, .inl v3), (4, .inl v4)], [], M)
        replace h := h.1 c59
        refine mm_s1 rfl ?_
        exact mm_s1 rfl ⟨_, rfl, L, N, h⟩
      · show mm_Go (mm_run 2) mc_LI_toldEntry _ (62, [(0, .inr (.inl v0)), (2, .inr (.inr v2)), (3, .inl v3), (4, .inl v4)], [], M)
        replace h := h.2 c59
        refine mm_s1 rfl ?_
        refine mm_s1 rfl ?_
        show mm_Go (mm_run 2) mc_LI_toldEntry _ (67, [(0, .inr (.inl v0)), (2, .inr (.inr v2)), (3, .inl v3), (4, .inl v4)], [.inl 1], M)
        exact mm_s1 rfl ⟨_, rfl, L, N, h⟩
    | 4, _, hx =>
      have c2 : v4 = 4 := hx.trans (by decide)
      replace h := h.2.2.2.2.1 c2
      show mm_Go (mm_run 2) mc_LI_toldEntry _ (68, [(0, .inr (.inl v0)), (2, .inr (.inr v2)), (3, .inl v3), (4, .inl v4)], [], M)
      refine mm_s1 rfl ?_
      refine mm_s1 rfl ?_
      refine mm_s1 rfl ⟨trivial, ?_⟩
      refine np_LI_keyOf (by decide) L N ?_
      show mm_Go (mm_run 2) mc_LI_toldEntry _ (73, [(0, .inr (.inl v0)), (2, .inr (.inr v2)), (3, .inl v3), (4, .inl v4)], [.inl (nf_LI_keyOf v0), .inr (.inr v2)], M)
      refine mm_s1 rfl ?_
      refine mm_s1 rfl ⟨C2.1, ?_⟩
      refine nn_call (D := 2) (by decide) (h n L N C2) ?_
      intro v M74 q; clear L N h
      obtain ⟨r74, rfl, L, N, h⟩ := q
      show mm_Go (mm_run 2) mc_LI_toldEntry _ (77, [(0, .inr (.inl v0)), (2, .inr (.inr v2)), (3, .inl v3), (4, .inl v4)], [.inl r74], M74)
      exact mm_s1 rfl ⟨_, rfl, L, N, h⟩
    | k + 5, hk, _ => exact absurd hk (by show ¬ (k + 5 < 5); omega)
  · replace h := h.2.2.2.2.2 c2
    show mm_Go (mm_run 2) mc_LI_toldEntry _ (78, [(0, .inr (.inl v0)), (2, .inr (.inr v2)), (3, .inl v3), (4, .inl v4)], [], M)
    refine mm_s1 rfl ?_
    exact mm_s1 rfl ⟨_, rfl, L, N, h⟩
def nr_LI_would (v1 : Int) (v2 : Int) (v3 : Int) (M : mm_M) (R : Int → mm_M → Prop) : Prop := ∀ n, nn_L M → M.1 = n → mm_run 3 mi_LI_would [.inr (.inr 1), .inl v1, .inl v2, .inl v3] M (nw_I n R)
set_option maxRecDepth 20000 in
theorem ng_LI_would (v1 : Int) (v2 : Int) (v3 : Int) (M : mm_M) (R : Int → mm_M → Prop) (h : (nr_Store_find 2 v1 M (fun r5 M5 => (((r5 = 0 ∨ ((nf_Pile_hasRuns (r5 + 8) v2 v3 M5) = 0)) → R (-1) M5) ∧ ((r5 ≠ 0 ∧ ((nf_Pile_hasRuns (r5 + 8) v2 v3 M5) ≠ 0)) → (nr_Pile_wouldHave (r5 + 8) v2 v3 (nn_rf M5 r5 7) 9 M5 (fun r52 M52 => R r52 M52))))))) : nr_LI_would v1 v2 v3 M R := by
  intro n L N 
  have NN := nn_L_n L N
  show mm_Go (mm_run 2) mc_LI_would _ (0, [(0, .inr (.inr 1)), (1, .inl v1), (2, .inl v2), (3, .inl v3)], [], M)
  refine mm_s1 rfl ?_
  refine nn_getr rfl (nn_c1 NN).1 (lf_1_0 L N (nn_c1 NN)) ?_
  refine mm_s1 rfl ?_
  refine mm_s1 rfl ⟨(nc_1_0 NN (nn_c1 NN)).1, ?_⟩
  refine nn_call (D := 1) (by decide) (h n L N (nc_1_0 NN (nn_c1 NN))) ?_
  intro v M5 q; clear L N h
  obtain ⟨r5, rfl, q5, L, N, h⟩ := q
  show mm_Go (mm_run 2) mc_LI_would _ (8, [(0, .inr (.inr 1)), (1, .inl v1), (2, .inl v2), (3, .inl v3)], [.inr (.inr r5)], M5)
  refine mm_s1 rfl ?_
  show mm_Go (mm_run 2) mc_LI_would _ (10, [(0, .inr (.inr 1)), (1, .inl v1), (2, .inl v2), (3, .inl v3), (4, .inr (.inr r5))], [], M5)
  refine mm_s1 rfl ?_
  refine mm_s1 rfl ⟨fun c12 => ?_, fun c12 => ?_⟩
  · show mm_Go (mm_run 2) mc_LI_would _ (28, [(0, .inr (.inr 1)), (1, .inl v1), (2, .inl v2), (3, .inl v3), (4, .inr (.inr r5))], [], M5)
    refine mm_s1 rfl ?_
    replace h := h.1 (Or.inl c12)
    exact mm_s1 rfl ⟨_, rfl, L, N, h⟩
  · show mm_Go (mm_run 2) mc_LI_would _ (15, [(0, .inr (.inr 1)), (1, .inl v1), (2, .inl v2), (3, .inl v3), (4, .inr (.inr r5))], [], M5)
    refine mm_s1 rfl ?_
    refine nn_getr rfl (Or.resolve_left q5 c12).1 (lf_5_3 L N (Or.resolve_left q5 c12)) ?_
    refine mm_s1 rfl ?_
    refine mm_s1 rfl ?_
    refine mm_s1 rfl ⟨(nc_5_3 NN (Or.resolve_left q5 c12)).1, ?_⟩
    refine np_Pile_hasRuns (by decide) L N (nc_5_3 NN (Or.resolve_left q5 c12)) ?_
    show mm_Go (mm_run 2) mc_LI_would _ (25, [(0, .inr (.inr 1)), (1, .inl v1), (2, .inl v2), (3, .inl v3), (4, .inr (.inr r5))], [.inl (nf_Pile_hasRuns (r5 + 8) v2 v3 M5)], M5)
    refine mm_s1 rfl ⟨fun c25 => ?_, fun c25 => ?_⟩
    · show mm_Go (mm_run 2) mc_LI_would _ (30, [(0, .inr (.inr 1)), (1, .inl v1), (2, .inl v2), (3, .inl v3), (4, .inr (.inr r5))], [], M5)
      refine mm_s1 rfl ?_
      refine nn_getr rfl (Or.resolve_left q5 c12).1 (lf_5_3 L N (Or.resolve_left q5 c12)) ?_
      refine mm_s1 rfl ?_
      refine mm_s1 rfl ?_
      refine mm_s1 rfl ?_
      show mm_Go (mm_run 2) mc_LI_would _ (39, [(0, .inr (.inr 1)), (1, .inl v1), (2, .inl v2), (3, .inl v3), (4, .inr (.inr r5))], [.inr (.inr r5), .inl v3, .inl v2, .inr (.inr (r5 + 8))], M5)
      refine mm_s1 rfl ⟨(Or.resolve_left q5 c12).1, ?_⟩
      show mm_Go (mm_run 2) mc_LI_would _ (42, [(0, .inr (.inr 1)), (1, .inl v1), (2, .inl v2), (3, .inl v3), (4, .inr (.inr r5))], [.inl (nn_rf M5 r5 7), .inl v3, .inl v2, .inr (.inr (r5 + 8))], M5)
      refine mm_s1 rfl ?_
      refine nn_getr rfl (nn_c1 NN).1 (lf_1_0 L N (nn_c1 NN)) ?_
      refine nn_getr rfl (nc_1_0 NN (nn_c1 NN)).1 (lf_9_1 L N (nc_1_0 NN (nn_c1 NN))) ?_
      refine nn_getr rfl (nc_9_1 NN (nc_1_0 NN (nn_c1 NN))).1 (lf_10_1 L N (nc_9_1 NN (nc_1_0 NN (nn_c1 NN)))) ?_
      replace h := h.2 ⟨c12, c25⟩
      refine mm_s1 rfl ⟨(nc_5_3 NN (Or.resolve_left q5 c12)).1, ?_⟩
      refine nn_call (D := 2) (by decide) (h n L N (nc_5_3 NN (Or.resolve_left q5 c12)) (nc_10_1 NN (nc_9_1 NN (nc_1_0 NN (nn_c1 NN))))) ?_
      intro v M52 q; clear L N h
      obtain ⟨r52, rfl, L, N, h⟩ := q
      show mm_Go (mm_run 2) mc_LI_would _ (55, [(0, .inr (.inr 1)), (1, .inl v1), (2, .inl v2), (3, .inl v3), (4, .inr (.inr r5))], [.inl r52], M52)
      exact mm_s1 rfl ⟨_, rfl, L, N, h⟩
    · show mm_Go (mm_run 2) mc_LI_would _ (28, [(0, .inr (.inr 1)), (1, .inl v1), (2, .inl v2), (3, .inl v3), (4, .inr (.inr r5))], [], M5)
      replace c25 := Decidable.not_not.mp c25
      refine mm_s1 rfl ?_
      replace h := h.1 (Or.inr c25)
      exact mm_s1 rfl ⟨_, rfl, L, N, h⟩
def nr_Cost_judge (v0 : Nat) (v1 : Int) (v3 : Int) (v4 : Int) (v5 : Nat) (v6 : Int) (M : mm_M) (R : mm_M → Prop) : Prop := ∀ n, nn_L M → M.1 = n → nn_C 2 v0 n → nn_C 10 v5 n → mm_run 3 mi_Cost_judge [.inr (.inr v0), .inr (.inl v1), .inl v3, .inl v4, .inr (.inr v5), .inl v6] M (nw_V n R)
set_option maxRecDepth 20000 in
theorem ng_Cost_judge (v0 : Nat) (v1 : Int) (v3 : Int) (v4 : Int) (v5 : Nat) (v6 : Int) (M : mm_M) (R : mm_M → Prop) (h : ((((nf_LI_valueOf v1) < v3 ∨ (v4 < (nf_LI_valueOf v1))) → R M) ∧ ((v3 ≤ (nf_LI_valueOf v1) ∧ ((nf_LI_valueOf v1) ≤ v4)) → (∀ M33 : mm_M, M33 = nn_uf M v0 1 (mm_w ((nn_rf M v0 1) + 1)) → (((mm_and (mm_ushr (nn_rf M33 v0 5) (nf_LI_keyOf v1)) 1) = 0 → (nr_Table_looks v5 (nf_LI_keyOf v1) v6 M33 (fun r70 M70 => (∀ M74 : mm_M, M74 = nn_uf M70 v0 4 (mm_w ((nn_rf M33 v0 4) + r70)) → ((nc_LI_isStale v1 (v5 + 4) M74) ∧ (((nf_LI_isStale v1 (v5 + 4) M74) = 0 → (∀ M112 : mm_M, M112 = nn_uf M74 v0 5 (mm_or (nn_rf M74 v0 5) (mm_shl 1 (nf_LI_keyOf v1))) → R M112)) ∧ ((nf_LI_isStale v1 (v5 + 4) M74) ≠ 0 → (∀ M96 : mm_M, M96 = nn_uf M74 v0 2 (mm_w ((nn_rf M74 v0 2) + 1)) → R M96)))))))) ∧ ((mm_and (mm_ushr (nn_rf M33 v0 5) (nf_LI_keyOf v1)) 1) ≠ 0 → (∀ M55 : mm_M, M55 = nn_uf M33 v0 3 (mm_w ((nn_rf M33 v0 3) + 1)) → R M55))))))) : nr_Cost_judge v0 v1 v3 v4 v5 v6 M R := by
  intro n L N C0 C5
  have NN := nn_L_n L N
  show mm_Go (mm_run 2) mc_Cost_judge _ (0, [(0, .inr (.inr v0)), (1, .inr (.inl v1)), (3, .inl v3), (4, .inl v4), (5, .inr (.inr v5)), (6, .inl v6)], [], M)
  refine mm_s1 rfl ?_
  refine mm_s1 rfl ⟨trivial, ?_⟩
  refine np_LI_valueOf (by decide) L N ?_
  show mm_Go (mm_run 2) mc_Cost_judge _ (4, [(0, .inr (.inr v0)), (1, .inr (.inl v1)), (3, .inl v3), (4, .inl v4), (5, .inr (.inr v5)), (6, .inl v6)], [.inl (nf_LI_valueOf v1)], M)
  refine mm_s1 rfl ?_
  show mm_Go (mm_run 2) mc_Cost_judge _ (6, [(0, .inr (.inr v0)), (1, .inr (.inl v1)), (3, .inl v3), (4, .inl v4), (5, .inr (.inr v5)), (6, .inl v6), (7, .inl (nf_LI_valueOf v1))], [], M)
  refine mm_s1 rfl ?_
  refine mm_s1 rfl ⟨trivial, ?_⟩
  refine np_LI_keyOf (by decide) L N ?_
  show mm_Go (mm_run 2) mc_Cost_judge _ (10, [(0, .inr (.inr v0)), (1, .inr (.inl v1)), (3, .inl v3), (4, .inl v4), (5, .inr (.inr v5)), (6, .inl v6), (7, .inl (nf_LI_valueOf v1))], [.inl (nf_LI_keyOf v1)], M)
  refine mm_s1 rfl ?_
  show mm_Go (mm_run 2) mc_Cost_judge _ (12, [(0, .inr (.inr v0)), (1, .inr (.inl v1)), (3, .inl v3), (4, .inl v4), (5, .inr (.inr v5)), (6, .inl v6), (7, .inl (nf_LI_valueOf v1)), (8, .inl (nf_LI_keyOf v1))], [], M)
  refine mm_s1 rfl ?_
  refine mm_s1 rfl ?_
  refine mm_s1 rfl ⟨fun c15 => ?_, fun c15 => ?_⟩
  · show mm_Go (mm_run 2) mc_Cost_judge _ (25, [(0, .inr (.inr v0)), (1, .inr (.inl v1)), (3, .inl v3), (4, .inl v4), (5, .inr (.inr v5)), (6, .inl v6), (7, .inl (nf_LI_valueOf v1)), (8, .inl (nf_LI_keyOf v1))], [], M)
    replace h := h.1 (Or.inl c15)
    exact mm_s1 rfl ⟨rfl, L, N, h⟩
  · show mm_Go (mm_run 2) mc_Cost_judge _ (18, [(0, .inr (.inr v0)), (1, .inr (.inl v1)), (3, .inl v3), (4, .inl v4), (5, .inr (.inr v5)), (6, .inl v6), (7, .inl (nf_LI_valueOf v1)), (8, .inl (nf_LI_keyOf v1))], [], M)
    replace c15 := Int.not_lt.mp c15
    refine mm_s1 rfl ?_
    refine mm_s1 rfl ?_
    refine mm_s1 rfl ⟨fun c22 => ?_, fun c22 => ?_⟩
    · show mm_Go (mm_run 2) mc_Cost_judge _ (26, [(0, .inr (.inr v0)), (1, .inr (.inl v1)), (3, .inl v3), (4, .inl v4), (5, .inr (.inr v5)), (6, .inl v6), (7, .inl (nf_LI_valueOf v1)), (8, .inl (nf_LI_keyOf v1))], [], M)
      refine mm_s1 rfl ?_
      refine mm_s1 rfl ?_
      refine mm_s1 rfl ⟨C0.1, ?_⟩
      show mm_Go (mm_run 2) mc_Cost_judge _ (31, [(0, .inr (.inr v0)), (1, .inr (.inl v1)), (3, .inl v3), (4, .inl v4), (5, .inr (.inr v5)), (6, .inl v6), (7, .inl (nf_LI_valueOf v1)), (8, .inl (nf_LI_keyOf v1))], [.inl (nn_rf M v0 1), .inr (.inr v0)], M)
      refine mm_s1 rfl ?_
      refine mm_s1 rfl ?_
      replace h := h.2 ⟨c15, c22⟩
      refine mm_s1 rfl ⟨C0.1, ?_⟩
      show mm_Go (mm_run 2) mc_Cost_judge _ (36, [(0, .inr (.inr v0)), (1, .inr (.inl v1)), (3, .inl v3), (4, .inl v4), (5, .inr (.inr v5)), (6, .inl v6), (7, .inl (nf_LI_valueOf v1)), (8, .inl (nf_LI_keyOf v1))], [], (nn_uf M v0 1 (mm_w ((nn_rf M v0 1) + 1))))
      have L : nn_L (nn_uf M v0 1 (mm_w ((nn_rf M v0 1) + 1))) := nn_L_up L C0.1 rfl
      have N : (nn_uf M v0 1 (mm_w ((nn_rf M v0 1) + 1))).1 = n := N
      generalize e_M33 : (nn_uf M v0 1 (mm_w ((nn_rf M v0 1) + 1))) = M33 at L N ⊢
      replace h := h _ e_M33.symm
      show mm_Go (mm_run 2) mc_Cost_judge _ (36, [(0, .inr (.inr v0)), (1, .inr (.inl v1)), (3, .inl v3), (4, .inl v4), (5, .inr (.inr v5)), (6, .inl v6), (7, .inl (nf_LI_valueOf v1)), (8, .inl (nf_LI_keyOf v1))], [], M33)
      refine mm_s1 rfl ?_
      refine mm_s1 rfl ⟨C0.1, ?_⟩
      show mm_Go (mm_run 2) mc_Cost_judge _ (40, [(0, .inr (.inr v0)), (1, .inr (.inl v1)), (3, .inl v3), (4, .inl v4), (5, .inr (.inr v5)), (6, .inl v6), (7, .inl (nf_LI_valueOf v1)), (8, .inl (nf_LI_keyOf v1))], [.inl (nn_rf M33 v0 5)], M33)
      refine mm_s1 rfl ?_
      refine mm_s1 rfl ?_
      refine mm_s1 rfl ?_
      refine mm_s1 rfl ?_
      refine mm_s1 rfl ⟨fun c45 => ?_, fun c45 => ?_⟩
      · show mm_Go (mm_run 2) mc_Cost_judge _ (59, [(0, .inr (.inr v0)), (1, .inr (.inl v1)), (3, .inl v3), (4, .inl v4), (5, .inr (.inr v5)), (6, .inl v6), (7, .inl (nf_LI_valueOf v1)), (8, .inl (nf_LI_keyOf v1))], [], M33)
        replace h := h.1 c45
        refine mm_s1 rfl ?_
        refine mm_s1 rfl ?_
        refine mm_s1 rfl ⟨C0.1, ?_⟩
        show mm_Go (mm_run 2) mc_Cost_judge _ (64, [(0, .inr (.inr v0)), (1, .inr (.inl v1)), (3, .inl v3), (4, .inl v4), (5, .inr (.inr v5)), (6, .inl v6), (7, .inl (nf_LI_valueOf v1)), (8, .inl (nf_LI_keyOf v1))], [.inl (nn_rf M33 v0 4), .inr (.inr v0)], M33)
        refine mm_s1 rfl ?_
        refine mm_s1 rfl ?_
        refine mm_s1 rfl ?_
        refine mm_s1 rfl ⟨C5.1, ?_⟩
        refine nn_call (D := 2) (by decide) (h n L N C5) ?_
        intro v M70 q; clear L N h
        obtain ⟨r70, rfl, L, N, h⟩ := q
        show mm_Go (mm_run 2) mc_Cost_judge _ (73, [(0, .inr (.inr v0)), (1, .inr (.inl v1)), (3, .inl v3), (4, .inl v4), (5, .inr (.inr v5)), (6, .inl v6), (7, .inl (nf_LI_valueOf v1)), (8, .inl (nf_LI_keyOf v1))], [.inl r70, .inl (nn_rf M33 v0 4), .inr (.inr v0)], M70)
        refine mm_s1 rfl ?_
        refine mm_s1 rfl ⟨C0.1, ?_⟩
        show mm_Go (mm_run 2) mc_Cost_judge _ (77, [(0, .inr (.inr v0)), (1, .inr (.inl v1)), (3, .inl v3), (4, .inl v4), (5, .inr (.inr v5)), (6, .inl v6), (7, .inl (nf_LI_valueOf v1)), (8, .inl (nf_LI_keyOf v1))], [], (nn_uf M70 v0 4 (mm_w ((nn_rf M33 v0 4) + r70))))
        have L : nn_L (nn_uf M70 v0 4 (mm_w ((nn_rf M33 v0 4) + r70))) := nn_L_up L C0.1 rfl
        have N : (nn_uf M70 v0 4 (mm_w ((nn_rf M33 v0 4) + r70))).1 = n := N
        generalize e_M74 : (nn_uf M70 v0 4 (mm_w ((nn_rf M33 v0 4) + r70))) = M74 at L N ⊢
        replace h := h _ e_M74.symm
        show mm_Go (mm_run 2) mc_Cost_judge _ (77, [(0, .inr (.inr v0)), (1, .inr (.inl v1)), (3, .inl v3), (4, .inl v4), (5, .inr (.inr v5)), (6, .inl v6), (7, .inl (nf_LI_valueOf v1)), (8, .inl (nf_LI_keyOf v1))], [], M74)
        refine mm_s1 rfl ?_
        refine mm_s1 rfl ?_
        refine nn_getr rfl C5.1 (lf_10_1 L N C5) ?_
        obtain ⟨b83, h⟩ := h
        refine mm_s1 rfl ⟨trivial, ?_⟩
        refine np_LI_isStale (by decide) L N (nc_10_1 NN C5) b83 ?_
        show mm_Go (mm_run 2) mc_Cost_judge _ (86, [(0, .inr (.inr v0)), (1, .inr (.inl v1)), (3, .inl v3), (4, .inl v4), (5, .inr (.inr v5)), (6, .inl v6), (7, .inl (nf_LI_valueOf v1)), (8, .inl (nf_LI_keyOf v1))], [.inl (nf_LI_isStale v1 (v5 + 4) M74)], M74)
        refine mm_s1 rfl ⟨fun c86 => ?_, fun c86 => ?_⟩
        · show mm_Go (mm_run 2) mc_Cost_judge _ (102, [(0, .inr (.inr v0)), (1, .inr (.inl v1)), (3, .inl v3), (4, .inl v4), (5, .inr (.inr v5)), (6, .inl v6), (7, .inl (nf_LI_valueOf v1)), (8, .inl (nf_LI_keyOf v1))], [], M74)
          replace h := h.1 c86
          refine mm_s1 rfl ?_
          refine mm_s1 rfl ?_
          refine mm_s1 rfl ⟨C0.1, ?_⟩
          show mm_Go (mm_run 2) mc_Cost_judge _ (107, [(0, .inr (.inr v0)), (1, .inr (.inl v1)), (3, .inl v3), (4, .inl v4), (5, .inr (.inr v5)), (6, .inl v6), (7, .inl (nf_LI_valueOf v1)), (8, .inl (nf_LI_keyOf v1))], [.inl (nn_rf M74 v0 5), .inr (.inr v0)], M74)
          refine mm_s1 rfl ?_
          refine mm_s1 rfl ?_
          refine mm_s1 rfl ?_
          refine mm_s1 rfl ?_
          refine mm_s1 rfl ⟨C0.1, ?_⟩
          show mm_Go (mm_run 2) mc_Cost_judge _ (115, [(0, .inr (.inr v0)), (1, .inr (.inl v1)), (3, .inl v3), (4, .inl v4), (5, .inr (.inr v5)), (6, .inl v6), (7, .inl (nf_LI_valueOf v1)), (8, .inl (nf_LI_keyOf v1))], [], (nn_uf M74 v0 5 (mm_or (nn_rf M74 v0 5) (mm_shl 1 (nf_LI_keyOf v1)))))
          have L : nn_L (nn_uf M74 v0 5 (mm_or (nn_rf M74 v0 5) (mm_shl 1 (nf_LI_keyOf v1)))) := nn_L_up L C0.1 rfl
          have N : (nn_uf M74 v0 5 (mm_or (nn_rf M74 v0 5) (mm_shl 1 (nf_LI_keyOf v1)))).1 = n := N
          generalize e_M112 : (nn_uf M74 v0 5 (mm_or (nn_rf M74 v0 5) (mm_shl 1 (nf_LI_keyOf v1)))) = M112 at L N ⊢
          replace h := h _ e_M112.symm
          show mm_Go (mm_run 2) mc_Cost_judge _ (115, [(0, .inr (.inr v0)), (1, .inr (.inl v1)), (3, .inl v3), (4, .inl v4), (5, .inr (.inr v5)), (6, .inl v6), (7, .inl (nf_LI_valueOf v1)), (8, .inl (nf_LI_keyOf v1))], [], M112)
          exact mm_s1 rfl ⟨rfl, L, N, h⟩
        · show mm_Go (mm_run 2) mc_Cost_judge _ (89, [(0, .inr (.inr v0)), (1, .inr (.inl v1)), (3, .inl v3), (4, .inl v4), (5, .inr (.inr v5)), (6, .inl v6), (7, .inl (nf_LI_valueOf v1)), (8, .inl (nf_LI_keyOf v1))], [], M74)
          replace h := h.2 c86
          refine mm_s1 rfl ?_
          refine mm_s1 rfl ?_
          refine mm_s1 rfl ⟨C0.1, ?_⟩
          show mm_Go (mm_run 2) mc_Cost_judge _ (94, [(0, .inr (.inr v0)), (1, .inr (.inl v1)), (3, .inl v3), (4, .inl v4), (5, .inr (.inr v5)), (6, .inl v6), (7, .inl (nf_LI_valueOf v1)), (8, .inl (nf_LI_keyOf v1))], [.inl (nn_rf M74 v0 2), .inr (.inr v0)], M74)
          refine mm_s1 rfl ?_
          refine mm_s1 rfl ?_
          refine mm_s1 rfl ⟨C0.1, ?_⟩
          show mm_Go (mm_run 2) mc_Cost_judge _ (99, [(0, .inr (.inr v0)), (1, .inr (.inl v1)), (3, .inl v3), (4, .inl v4), (5, .inr (.inr v5)), (6, .inl v6), (7, .inl (nf_LI_valueOf v1)), (8, .inl (nf_LI_keyOf v1))], [], (nn_uf M74 v0 2 (mm_w ((nn_rf M74 v0 2) + 1))))
          have L : nn_L (nn_uf M74 v0 2 (mm_w ((nn_rf M74 v0 2) + 1))) := nn_L_up L C0.1 rfl
          have N : (nn_uf M74 v0 2 (mm_w ((nn_rf M74 v0 2) + 1))).1 = n := N
          generalize e_M96 : (nn_uf M74 v0 2 (mm_w ((nn_rf M74 v0 2) + 1))) = M96 at L N ⊢
          replace h := h _ e_M96.symm
          show mm_Go (mm_run 2) mc_Cost_judge _ (99, [(0, .inr (.inr v0)), (1, .inr (.inl v1)), (3, .inl v3), (4, .inl v4), (5, .inr (.inr v5)), (6, .inl v6), (7, .inl (nf_LI_valueOf v1)), (8, .inl (nf_LI_keyOf v1))], [], M96)
          refine mm_s1 rfl ?_
          show mm_Go (mm_run 2) mc_Cost_judge _ (115, [(0, .inr (.inr v0)), (1, .inr (.inl v1)), (3, .inl v3), (4, .inl v4), (5, .inr (.inr v5)), (6, .inl v6), (7, .inl (nf_LI_valueOf v1)), (8, .inl (nf_LI_keyOf v1))], [], M96)
          exact mm_s1 rfl ⟨rfl, L, N, h⟩
      · show mm_Go (mm_run 2) mc_Cost_judge _ (48, [(0, .inr (.inr v0)), (1, .inr (.inl v1)), (3, .inl v3), (4, .inl v4), (5, .inr (.inr v5)), (6, .inl v6), (7, .inl (nf_LI_valueOf v1)), (8, .inl (nf_LI_keyOf v1))], [], M33)
        replace h := h.2 c45
        refine mm_s1 rfl ?_
        refine mm_s1 rfl ?_
        refine mm_s1 rfl ⟨C0.1, ?_⟩
        show mm_Go (mm_run 2) mc_Cost_judge _ (53, [(0, .inr (.inr v0)), (1, .inr (.inl v1)), (3, .inl v3), (4, .inl v4), (5, .inr (.inr v5)), (6, .inl v6), (7, .inl (nf_LI_valueOf v1)), (8, .inl (nf_LI_keyOf v1))], [.inl (nn_rf M33 v0 3), .inr (.inr v0)], M33)
        refine mm_s1 rfl ?_
        refine mm_s1 rfl ?_
        refine mm_s1 rfl ⟨C0.1, ?_⟩
        show mm_Go (mm_run 2) mc_Cost_judge _ (58, [(0, .inr (.inr v0)), (1, .inr (.inl v1)), (3, .inl v3), (4, .inl v4), (5, .inr (.inr v5)), (6, .inl v6), (7, .inl (nf_LI_valueOf v1)), (8, .inl (nf_LI_keyOf v1))], [], (nn_uf M33 v0 3 (mm_w ((nn_rf M33 v0 3) + 1))))
        have L : nn_L (nn_uf M33 v0 3 (mm_w ((nn_rf M33 v0 3) + 1))) := nn_L_up L C0.1 rfl
        have N : (nn_uf M33 v0 3 (mm_w ((nn_rf M33 v0 3) + 1))).1 = n := N
        generalize e_M55 : (nn_uf M33 v0 3 (mm_w ((nn_rf M33 v0 3) + 1))) = M55 at L N ⊢
        replace h := h _ e_M55.symm
        show mm_Go (mm_run 2) mc_Cost_judge _ (58, [(0, .inr (.inr v0)), (1, .inr (.inl v1)), (3, .inl v3), (4, .inl v4), (5, .inr (.inr v5)), (6, .inl v6), (7, .inl (nf_LI_valueOf v1)), (8, .inl (nf_LI_keyOf v1))], [], M55)
        exact mm_s1 rfl ⟨rfl, L, N, h⟩
    · show mm_Go (mm_run 2) mc_Cost_judge _ (25, [(0, .inr (.inr v0)), (1, .inr (.inl v1)), (3, .inl v3), (4, .inl v4), (5, .inr (.inr v5)), (6, .inl v6), (7, .inl (nf_LI_valueOf v1)), (8, .inl (nf_LI_keyOf v1))], [], M)
      replace c22 := Int.not_le.mp c22
      replace h := h.1 (Or.inr c22)
      exact mm_s1 rfl ⟨rfl, L, N, h⟩
def nr_Index_layDown (v0 : Nat) (v1 : Nat) (M : mm_M) (R : mm_M → Prop) : Prop := ∀ n, nn_L M → M.1 = n → nn_C 5 v0 n → nn_C 10 v1 n → mm_run 3 mi_Index_layDown [.inr (.inr v0), .inr (.inr v1)] M (nw_V n R)
def nk_Index_layDown_4 (v0 : Nat) (v1 : Nat) (v2 : Int) (v3 : Int) (M : mm_M) (R : mm_M → Prop) : Prop := ∀ n, nn_L M → M.1 = n → nn_C 5 v0 n → nn_C 10 v1 n → mm_Go (mm_run 2) mc_Index_layDown (nw_V n R) (4, [(0, .inr (.inr v0)), (1, .inr (.inr v1)), (2, .inl v2), (3, .inl v3)], [], M)
set_option maxRecDepth 20000 in
theorem ng_Index_layDown (v0 : Nat) (v1 : Nat) (M : mm_M) (R : mm_M → Prop) (h : nk_Index_layDown_4 v0 v1 0 0 M R) : nr_Index_layDown v0 v1 M R := by
  intro n L N C0 C1
  have NN := nn_L_n L N
  show mm_Go (mm_run 2) mc_Index_layDown _ (0, [(0, .inr (.inr v0)), (1, .inr (.inr v1))], [], M)
  refine mm_s1 rfl ?_
  refine mm_s1 rfl ?_
  show mm_Go (mm_run 2) mc_Index_layDown _ (2, [(0, .inr (.inr v0)), (1, .inr (.inr v1)), (2, .inl 0)], [], M)
  refine mm_s1 rfl ?_
  refine mm_s1 rfl ?_
  show mm_Go (mm_run 2) mc_Index_layDown _ (4, [(0, .inr (.inr v0)), (1, .inr (.inr v1)), (2, .inl 0), (3, .inl 0)], [], M)
  exact nn_go_ext (nn_xc rfl (nn_xc rfl (nn_xc rfl (nn_xc rfl nn_xn)))) (h n L N C0 C1)
set_option maxRecDepth 20000 in
theorem ng_Index_layDown_4 (v0 : Nat) (v1 : Nat) (v2 : Int) (v3 : Int) (M : mm_M) (R : mm_M → Prop) (h : (((nn_rf M (v0 + 4) 1) ≤ v3 → (∀ M66 : mm_M, M66 = nn_uf M (v0 + 4) 1 v2 → (nr_Table_newId v1 M66 (fun r84 M84 => (nr_Pile_putIn (v0 + 8) 0 (v0 + 4) 0 (nn_rf M66 v1 6) r84 M84 (fun M87 => (∀ M95 : mm_M, M95 = nn_uf M87 (v0 + 4) 1 0 → R M95))))))) ∧ (v3 < (nn_rf M (v0 + 4) 1) → (((0 : Int) ≤ v3 ∧ v3 < ((mm_kd (v0 + 5)).2 : Int)) ∧ ((nc_LI_isStale (nn_ri M (v0 + 5) v3) (v1 + 1) M) ∧ (((nf_LI_isStale (nn_ri M (v0 + 5) v3) (v1 + 1) M) ≠ 0 → nk_Index_layDown_4 v0 v1 v2 (mm_w (v3 + 1)) M R) ∧ ((nf_LI_isStale (nn_ri M (v0 + 5) v3) (v1 + 1) M) = 0 → (((0 : Int) ≤ v3 ∧ v3 < ((mm_kd (v0 + 5)).2 : Int)) ∧ (((0 : Int) ≤ v2 ∧ v2 < ((mm_kd (v0 + 5)).2 : Int)) ∧ (∀ M51 : mm_M, M51 = nn_ui M (v0 + 5) v2 (nn_ri M (v0 + 5) v3) → nk_Index_layDown_4 v0 v1 (mm_w (v2 + 1)) (mm_w (v3 + 1)) M51 R)))))))))) : nk_Index_layDown_4 v0 v1 v2 v3 M R := by
  intro n L N C0 C1
  have NN := nn_L_n L N
  show mm_Go (mm_run 2) mc_Index_layDown _ (4, [(0, .inr (.inr v0)), (1, .inr (.inr v1)), (2, .inl v2), (3, .inl v3)], [], M)
  refine mm_s1 rfl ?_
  refine mm_s1 rfl ?_
  refine nn_getr rfl C0.1 (lf_5_1 L N C0) ?_
  refine mm_s1 rfl ⟨(nc_5_1 NN C0).1, ?_⟩
  show mm_Go (mm_run 2) mc_Index_layDown _ (12, [(0, .inr (.inr v0)), (1, .inr (.inr v1)), (2, .inl v2), (3, .inl v3)], [.inl (nn_rf M (v0 + 4) 1), .inl v3], M)
  refine mm_s1 rfl ⟨fun c12 => ?_, fun c12 => ?_⟩
  · show mm_Go (mm_run 2) mc_Index_layDown _ (61, [(0, .inr (.inr v0)), (1, .inr (.inr v1)), (2, .inl v2), (3, .inl v3)], [], M)
    replace h := h.1 c12
    refine mm_s1 rfl ?_
    refine nn_getr rfl C0.1 (lf_5_1 L N C0) ?_
    refine mm_s1 rfl ?_
    refine mm_s1 rfl ⟨(nc_5_1 NN C0).1, ?_⟩
    show mm_Go (mm_run 2) mc_Index_layDown _ (69, [(0, .inr (.inr v0)), (1, .inr (.inr v1)), (2, .inl v2), (3, .inl v3)], [], (nn_uf M (v0 + 4) 1 v2))
    have L : nn_L (nn_uf M (v0 + 4) 1 v2) := nn_L_up L (nc_5_1 NN C0).1 rfl
    have N : (nn_uf M (v0 + 4) 1 v2).1 = n := N
    generalize e_M66 : (nn_uf M (v0 + 4) 1 v2) = M66 at L N ⊢
    replace h := h _ e_M66.symm
    show mm_Go (mm_run 2) mc_Index_layDown _ (69, [(0, .inr (.inr v0)), (1, .inr (.inr v1)), (2, .inl v2), (3, .inl v3)], [], M66)
    refine mm_s1 rfl ?_
    refine nn_getr rfl C0.1 (lf_5_3 L N C0) ?_
    refine mm_s1 rfl ?_
    refine mm_s1 rfl ?_
    refine nn_getr rfl C0.1 (lf_5_1 L N C0) ?_
    show mm_Go (mm_run 2) mc_Index_layDown _ (78, [(0, .inr (.inr v0)), (1, .inr (.inr v1)), (2, .inl v2), (3, .inl v3)], [.inr (.inr (v0 + 4)), .inl 0, .inr (.inr (v0 + 8))], M66)
    refine mm_s1 rfl ?_
    refine mm_s1 rfl ?_
    refine mm_s1 rfl ⟨C1.1, ?_⟩
    show mm_Go (mm_run 2) mc_Index_layDown _ (83, [(0, .inr (.inr v0)), (1, .inr (.inr v1)), (2, .inl v2), (3, .inl v3)], [.inl (nn_rf M66 v1 6), .inl 0, .inr (.inr (v0 + 4)), .inl 0, .inr (.inr (v0 + 8))], M66)
    refine mm_s1 rfl ?_
    refine mm_s1 rfl ⟨C1.1, ?_⟩
    refine nn_call (D := 1) (by decide) (h n L N C1) ?_
    intro v M84 q; clear L N h
    obtain ⟨r84, rfl, L, N, h⟩ := q
    show mm_Go (mm_run 2) mc_Index_layDown _ (87, [(0, .inr (.inr v0)), (1, .inr (.inr v1)), (2, .inl v2), (3, .inl v3)], [.inl r84, .inl (nn_rf M66 v1 6), .inl 0, .inr (.inr (v0 + 4)), .inl 0, .inr (.inr (v0 + 8))], M84)
    refine mm_s1 rfl ⟨(nc_5_3 NN C0).1, ?_⟩
    refine nn_call (D := 2) (by decide) (h n L N (nc_5_3 NN C0) (nc_5_1 NN C0)) ?_
    intro v M87 q; clear L N h
    obtain ⟨rfl, L, N, h⟩ := q
    show mm_Go (mm_run 2) mc_Index_layDown _ (90, [(0, .inr (.inr v0)), (1, .inr (.inr v1)), (2, .inl v2), (3, .inl v3)], [], M87)
    refine mm_s1 rfl ?_
    refine nn_getr rfl C0.1 (lf_5_1 L N C0) ?_
    refine mm_s1 rfl ?_
    refine mm_s1 rfl ⟨(nc_5_1 NN C0).1, ?_⟩
    show mm_Go (mm_run 2) mc_Index_layDown _ (98, [(0, .inr (.inr v0)), (1, .inr (.inr v1)), (2, .inl v2), (3, .inl v3)], [], (nn_uf M87 (v0 + 4) 1 0))
    have L : nn_L (nn_uf M87 (v0 + 4) 1 0) := nn_L_up L (nc_5_1 NN C0).1 rfl
    have N : (nn_uf M87 (v0 + 4) 1 0).1 = n := N
    generalize e_M95 : (nn_uf M87 (v0 + 4) 1 0) = M95 at L N ⊢
    replace h := h _ e_M95.symm
    show mm_Go (mm_run 2) mc_Index_layDown _ (98, [(0, .inr (.inr v0)), (1, .inr (.inr v1)), (2, .inl v2), (3, .inl v3)], [], M95)
    exact mm_s1 rfl ⟨rfl, L, N, h⟩
  · show mm_Go (mm_run 2) mc_Index_layDown _ (15, [(0, .inr (.inr v0)), (1, .inr (.inr v1)), (2, .inl v2), (3, .inl v3)], [], M)
    replace c12 := Int.not_le.mp c12
    replace h := h.2 c12
    refine mm_s1 rfl ?_
    refine nn_getr rfl C0.1 (lf_5_1 L N C0) ?_
    refine nn_getr rfl (nc_5_1 NN C0).1 (lf_4_0 L N (nc_5_1 NN C0)) ?_
    refine mm_s1 rfl ?_
    obtain ⟨b23, h⟩ := h
    refine mm_s1 rfl ⟨⟨(nc_4_0 NN (nc_5_1 NN C0)).1, b23⟩, ?_⟩
    show mm_Go (mm_run 2) mc_Index_layDown _ (24, [(0, .inr (.inr v0)), (1, .inr (.inr v1)), (2, .inl v2), (3, .inl v3)], [.inr (.inl (nn_ri M (v0 + 5) v3))], M)
    refine mm_s1 rfl ?_
    refine nn_getr rfl C1.1 (lf_10_0 L N C1) ?_
    obtain ⟨b28, h⟩ := h
    refine mm_s1 rfl ⟨trivial, ?_⟩
    refine np_LI_isStale (by decide) L N (nc_10_0 NN C1) b28 ?_
    show mm_Go (mm_run 2) mc_Index_layDown _ (31, [(0, .inr (.inr v0)), (1, .inr (.inr v1)), (2, .inl v2), (3, .inl v3)], [.inl (nf_LI_isStale (nn_ri M (v0 + 5) v3) (v1 + 1) M)], M)
    refine mm_s1 rfl ⟨fun c31 => ?_, fun c31 => ?_⟩
    · show mm_Go (mm_run 2) mc_Index_layDown _ (55, [(0, .inr (.inr v0)), (1, .inr (.inr v1)), (2, .inl v2), (3, .inl v3)], [], M)
      replace h := h.1 c31
      refine mm_s1 rfl ?_
      show mm_Go (mm_run 2) mc_Index_layDown _ (58, [(0, .inr (.inr v0)), (1, .inr (.inr v1)), (2, .inl v2), (3, .inl (mm_w (v3 + 1)))], [], M)
      refine mm_s1 rfl ?_
      show mm_Go (mm_run 2) mc_Index_layDown _ (4, [(0, .inr (.inr v0)), (1, .inr (.inr v1)), (2, .inl v2), (3, .inl (mm_w (v3 + 1)))], [], M)
      exact nn_go_ext (nn_xc rfl (nn_xc rfl (nn_xc rfl (nn_xc rfl nn_xn)))) (h n L N C0 C1)
    · show mm_Go (mm_run 2) mc_Index_layDown _ (34, [(0, .inr (.inr v0)), (1, .inr (.inr v1)), (2, .inl v2), (3, .inl v3)], [], M)
      replace c31 := Decidable.not_not.mp c31
      replace h := h.2 c31
      refine mm_s1 rfl ?_
      refine nn_getr rfl C0.1 (lf_5_1 L N C0) ?_
      refine nn_getr rfl (nc_5_1 NN C0).1 (lf_4_0 L N (nc_5_1 NN C0)) ?_
      refine mm_s1 rfl ?_
      refine mm_s1 rfl ?_
      show mm_Go (mm_run 2) mc_Index_layDown _ (43, [(0, .inr (.inr v0)), (1, .inr (.inr v1)), (2, .inl v2), (3, .inl v3)], [.inr (.inr v0), .inl v2, .inr (.inr (v0 + 5))], M)
      refine nn_getr rfl C0.1 (lf_5_1 L N C0) ?_
      refine nn_getr rfl (nc_5_1 NN C0).1 (lf_4_0 L N (nc_5_1 NN C0)) ?_
      refine mm_s1 rfl ?_
      obtain ⟨b50, h⟩ := h
      refine mm_s1 rfl ⟨⟨(nc_4_0 NN (nc_5_1 NN C0)).1, b50⟩, ?_⟩
      show mm_Go (mm_run 2) mc_Index_layDown _ (51, [(0, .inr (.inr v0)), (1, .inr (.inr v1)), (2, .inl v2), (3, .inl v3)], [.inr (.inl (nn_ri M (v0 + 5) v3)), .inl v2, .inr (.inr (v0 + 5))], M)
      obtain ⟨b51, h⟩ := h
      refine mm_s1 rfl ⟨⟨(nc_4_0 NN (nc_5_1 NN C0)).1, b51⟩, ?_⟩
      show mm_Go (mm_run 2) mc_Index_layDown _ (52, [(0, .inr (.inr v0)), (1, .inr (.inr v1)), (2, .inl v2), (3, .inl v3)], [], (nn_ui M (v0 + 5) v2 (nn_ri M (v0 + 5) v3)))
      have L : nn_L (nn_ui M (v0 + 5) v2 (nn_ri M (v0 + 5) v3)) := nn_L_ua L (nc_4_0 NN (nc_5_1 NN C0)).1 (by decide)
      have N : (nn_ui M (v0 + 5) v2 (nn_ri M (v0 + 5) v3)).1 = n := N
      generalize e_M51 : (nn_ui M (v0 + 5) v2 (nn_ri M (v0 + 5) v3)) = M51 at L N ⊢
      replace h := h _ e_M51.symm
      show mm_Go (mm_run 2) mc_Index_layDown _ (52, [(0, .inr (.inr v0)), (1, .inr (.inr v1)), (2, .inl v2), (3, .inl v3)], [], M51)
      refine mm_s1 rfl ?_
      show mm_Go (mm_run 2) mc_Index_layDown _ (55, [(0, .inr (.inr v0)), (1, .inr (.inr v1)), (2, .inl (mm_w (v2 + 1))), (3, .inl v3)], [], M51)
      refine mm_s1 rfl ?_
      show mm_Go (mm_run 2) mc_Index_layDown _ (58, [(0, .inr (.inr v0)), (1, .inr (.inr v1)), (2, .inl (mm_w (v2 + 1))), (3, .inl (mm_w (v3 + 1)))], [], M51)
      refine mm_s1 rfl ?_
      show mm_Go (mm_run 2) mc_Index_layDown _ (4, [(0, .inr (.inr v0)), (1, .inr (.inr v1)), (2, .inl (mm_w (v2 + 1))), (3, .inl (mm_w (v3 + 1)))], [], M51)
      exact nn_go_ext (nn_xc rfl (nn_xc rfl (nn_xc rfl (nn_xc rfl nn_xn)))) (h n L N C0 C1)
