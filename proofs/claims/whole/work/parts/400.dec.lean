/-! methods walked by program (wip/whole/dec.py) -/
def nr_LI_end (v1 : Int) (M : mm_M) (R : Int → mm_M → Prop) : Prop := ∀ n, nn_L M → M.1 = n → mm_run 1 mi_LI_end [.inr (.inr 1), .inl v1] M (nw_I n R)
set_option maxRecDepth 20000 in
theorem ng_LI_end (v1 : Int) (M : mm_M) (R : Int → mm_M → Prop) (h : (((v1 < 0 ∨ ((nn_rf M 3 1) < v1)) → R (-1) M) ∧ ((0 ≤ v1 ∧ (v1 ≤ (nn_rf M 3 1))) → (∀ M28 : mm_M, M28 = nn_uf M 3 1 v1 → R v1 M28)))) : nr_LI_end v1 M R := by
  intro n L N 
  have NN := nn_L_n L N
  show mm_Go (mm_run 0) mc_LI_end _ (0, [(0, .inr (.inr 1)), (1, .inl v1)], [], M)
  refine mm_s1 rfl ?_
  refine mm_s1 rfl ⟨fun c1 => ?_, fun c1 => ?_⟩
  · show mm_Go (mm_run 0) mc_LI_end _ (18, [(0, .inr (.inr 1)), (1, .inl v1)], [], M)
    refine mm_s1 rfl ?_
    replace h := h.1 (Or.inl c1)
    exact mm_s1 rfl ⟨_, rfl, L, N, h⟩
  · show mm_Go (mm_run 0) mc_LI_end _ (4, [(0, .inr (.inr 1)), (1, .inl v1)], [], M)
    replace c1 := Int.not_lt.mp c1
    refine mm_s1 rfl ?_
    refine mm_s1 rfl ?_
    refine nn_getr rfl (nn_c1 NN).1 (lf_1_0 L N (nn_c1 NN)) ?_
    refine nn_getr rfl (nc_1_0 NN (nn_c1 NN)).1 (lf_9_0 L N (nc_1_0 NN (nn_c1 NN))) ?_
    refine mm_s1 rfl ⟨(nc_9_0 NN (nc_1_0 NN (nn_c1 NN))).1, ?_⟩
    show mm_Go (mm_run 0) mc_LI_end _ (15, [(0, .inr (.inr 1)), (1, .inl v1)], [.inl (nn_rf M 3 1), .inl v1], M)
    refine mm_s1 rfl ⟨fun c15 => ?_, fun c15 => ?_⟩
    · show mm_Go (mm_run 0) mc_LI_end _ (20, [(0, .inr (.inr 1)), (1, .inl v1)], [], M)
      refine mm_s1 rfl ?_
      refine nn_getr rfl (nn_c1 NN).1 (lf_1_0 L N (nn_c1 NN)) ?_
      refine nn_getr rfl (nc_1_0 NN (nn_c1 NN)).1 (lf_9_0 L N (nc_1_0 NN (nn_c1 NN))) ?_
      refine mm_s1 rfl ?_
      replace h := h.2 ⟨c1, c15⟩
      refine mm_s1 rfl ⟨(nc_9_0 NN (nc_1_0 NN (nn_c1 NN))).1, ?_⟩
      show mm_Go (mm_run 0) mc_LI_end _ (31, [(0, .inr (.inr 1)), (1, .inl v1)], [], (nn_uf M 3 1 v1))
      have L : nn_L (nn_uf M 3 1 v1) := nn_L_up L (nc_9_0 NN (nc_1_0 NN (nn_c1 NN))).1 rfl
      have N : (nn_uf M 3 1 v1).1 = n := N
      generalize e_M28 : (nn_uf M 3 1 v1) = M28 at L N ⊢
      replace h := h _ e_M28.symm
      show mm_Go (mm_run 0) mc_LI_end _ (31, [(0, .inr (.inr 1)), (1, .inl v1)], [], M28)
      refine mm_s1 rfl ?_
      exact mm_s1 rfl ⟨_, rfl, L, N, h⟩
    · show mm_Go (mm_run 0) mc_LI_end _ (18, [(0, .inr (.inr 1)), (1, .inl v1)], [], M)
      replace c15 := Int.not_le.mp c15
      refine mm_s1 rfl ?_
      replace h := h.1 (Or.inr c15)
      exact mm_s1 rfl ⟨_, rfl, L, N, h⟩
def nf_LI_columnOf (v0 : Int) (v1 : Int) : Int := mm_and (mm_ushr v0 (mm_w (4 * v1))) 15
set_option maxRecDepth 20000 in
theorem np_LI_columnOf {v0 : Int} {v1 : Int} {M : mm_M} {n d : Nat} {P : mm_P} (hd : 1 ≤ d) (L : nn_L M) (N : M.1 = n)  (h : P (some (.inl (nf_LI_columnOf v0 v1))) M) : mm_run d mi_LI_columnOf [.inl v0, .inl v1] M P := by
  have NN := nn_L_n L N
  unfold nf_LI_columnOf at h
  refine nn_run_le hd ?_
  show mm_Go (mm_run 0) mc_LI_columnOf _ (0, [(0, .inl v0), (1, .inl v1)], [], M)
  refine mm_s1 rfl ?_
  refine mm_s1 rfl ?_
  refine mm_s1 rfl ?_
  refine mm_s1 rfl ?_
  refine mm_s1 rfl ?_
  refine mm_s1 rfl ?_
  refine mm_s1 rfl ?_
  exact mm_s1 rfl h
def nf_LI_fault (v1 : Int) (M : mm_M) : Int := (if v1 ≠ 0 then (if v1 ≠ 1 then (-1) else nn_rf M 2 10) else nn_rf M 2 9)
set_option maxRecDepth 20000 in
theorem np_LI_fault {v1 : Int} {M : mm_M} {n d : Nat} {P : mm_P} (hd : 1 ≤ d) (L : nn_L M) (N : M.1 = n)  (h : P (some (.inl (nf_LI_fault v1 M))) M) : mm_run d mi_LI_fault [.inr (.inr 1), .inl v1] M P := by
  have NN := nn_L_n L N
  unfold nf_LI_fault at h
  refine nn_run_le hd ?_
  show mm_Go (mm_run 0) mc_LI_fault _ (0, [(0, .inr (.inr 1)), (1, .inl v1)], [], M)
  refine mm_s1 rfl ?_
  refine mm_s1 rfl ⟨fun c1 => ?_, fun c1 => ?_⟩
  · show mm_Go (mm_run 0) mc_LI_fault _ (12, [(0, .inr (.inr 1)), (1, .inl v1)], [], M)
    rw [if_pos (show v1 ≠ 0 from c1)] at h
    refine mm_s1 rfl ?_
    refine mm_s1 rfl ?_
    refine mm_s1 rfl ⟨fun c14 => ?_, fun c14 => ?_⟩
    · show mm_Go (mm_run 0) mc_LI_fault _ (27, [(0, .inr (.inr 1)), (1, .inl v1)], [], M)
      rw [if_pos (show v1 ≠ 1 from c14)] at h
      refine mm_s1 rfl ?_
      exact mm_s1 rfl h
    · show mm_Go (mm_run 0) mc_LI_fault _ (17, [(0, .inr (.inr 1)), (1, .inl v1)], [], M)
      rw [if_neg (show ¬ (v1 ≠ 1) from c14)] at h
      replace c14 := Decidable.not_not.mp c14
      refine mm_s1 rfl ?_
      refine nn_getr rfl (nn_c1 NN).1 (lf_1_0 L N (nn_c1 NN)) ?_
      refine mm_s1 rfl ⟨(nc_1_0 NN (nn_c1 NN)).1, ?_⟩
      show mm_Go (mm_run 0) mc_LI_fault _ (24, [(0, .inr (.inr 1)), (1, .inl v1)], [.inl (nn_rf M 2 10)], M)
      refine mm_s1 rfl ?_
      show mm_Go (mm_run 0) mc_LI_fault _ (28, [(0, .inr (.inr 1)), (1, .inl v1)], [.inl (nn_rf M 2 10)], M)
      exact mm_s1 rfl h
  · show mm_Go (mm_run 0) mc_LI_fault _ (4, [(0, .inr (.inr 1)), (1, .inl v1)], [], M)
    rw [if_neg (show ¬ (v1 ≠ 0) from c1)] at h
    replace c1 := Decidable.not_not.mp c1
    refine mm_s1 rfl ?_
    refine nn_getr rfl (nn_c1 NN).1 (lf_1_0 L N (nn_c1 NN)) ?_
    refine mm_s1 rfl ⟨(nc_1_0 NN (nn_c1 NN)).1, ?_⟩
    show mm_Go (mm_run 0) mc_LI_fault _ (11, [(0, .inr (.inr 1)), (1, .inl v1)], [.inl (nn_rf M 2 9)], M)
    exact mm_s1 rfl h
def nr_LI_set (v1 : Int) (v2 : Int) (M : mm_M) (R : Int → mm_M → Prop) : Prop := ∀ n, nn_L M → M.1 = n → mm_run 1 mi_LI_set [.inr (.inr 1), .inl v1, .inl v2] M (nw_Z n R)
set_option maxRecDepth 20000 in
theorem ng_LI_set (v1 : Int) (v2 : Int) (M : mm_M) (R : Int → mm_M → Prop) (h : ((v1 ≠ 0 → (((v1 ≠ 1 ∨ (v2 < 2 ∨ (4 < v2))) → R 0 M) ∧ ((v1 = 1 ∧ (2 ≤ v2 ∧ (v2 ≤ 4))) → (∀ M45 : mm_M, M45 = nn_uf M 2 8 v2 → R 1 M45)))) ∧ (v1 = 0 → ((v2 < 2 → (((v1 ≠ 1 ∨ (v2 < 2 ∨ (4 < v2))) → R 0 M) ∧ ((v1 = 1 ∧ (2 ≤ v2 ∧ (v2 ≤ 4))) → (∀ M45 : mm_M, M45 = nn_uf M 2 8 v2 → R 1 M45)))) ∧ (2 ≤ v2 → ((12 < v2 → (((v1 ≠ 1 ∨ (v2 < 2 ∨ (4 < v2))) → R 0 M) ∧ ((v1 = 1 ∧ (2 ≤ v2 ∧ (v2 ≤ 4))) → (∀ M45 : mm_M, M45 = nn_uf M 2 8 v2 → R 1 M45)))) ∧ (v2 ≤ 12 → (∀ M20 : mm_M, M20 = nn_uf M 2 7 v2 → R 1 M20)))))))) : nr_LI_set v1 v2 M R := by
  intro n L N 
  have NN := nn_L_n L N
  show mm_Go (mm_run 0) mc_LI_set _ (0, [(0, .inr (.inr 1)), (1, .inl v1), (2, .inl v2)], [], M)
  refine mm_s1 rfl ?_
  refine mm_s1 rfl ⟨fun c1 => ?_, fun c1 => ?_⟩
  · show mm_Go (mm_run 0) mc_LI_set _ (25, [(0, .inr (.inr 1)), (1, .inl v1), (2, .inl v2)], [], M)
    replace h := h.1 c1
    refine mm_s1 rfl ?_
    refine mm_s1 rfl ?_
    refine mm_s1 rfl ⟨fun c27 => ?_, fun c27 => ?_⟩
    · show mm_Go (mm_run 0) mc_LI_set _ (50, [(0, .inr (.inr 1)), (1, .inl v1), (2, .inl v2)], [], M)
      refine mm_s1 rfl ?_
      replace h := h.1 (Or.inl c27)
      exact mm_s1 rfl ⟨(Or.inl rfl), _, rfl, (Or.inl rfl), L, N, h⟩
    · show mm_Go (mm_run 0) mc_LI_set _ (30, [(0, .inr (.inr 1)), (1, .inl v1), (2, .inl v2)], [], M)
      replace c27 := Decidable.not_not.mp c27
      refine mm_s1 rfl ?_
      refine mm_s1 rfl ?_
      refine mm_s1 rfl ⟨fun c32 => ?_, fun c32 => ?_⟩
      · show mm_Go (mm_run 0) mc_LI_set _ (50, [(0, .inr (.inr 1)), (1, .inl v1), (2, .inl v2)], [], M)
        refine mm_s1 rfl ?_
        replace h := h.1 (Or.inr (Or.inl c32))
        exact mm_s1 rfl ⟨(Or.inl rfl), _, rfl, (Or.inl rfl), L, N, h⟩
      · show mm_Go (mm_run 0) mc_LI_set _ (35, [(0, .inr (.inr 1)), (1, .inl v1), (2, .inl v2)], [], M)
        replace c32 := Int.not_lt.mp c32
        refine mm_s1 rfl ?_
        refine mm_s1 rfl ?_
        refine mm_s1 rfl ⟨fun c37 => ?_, fun c37 => ?_⟩
        · show mm_Go (mm_run 0) mc_LI_set _ (50, [(0, .inr (.inr 1)), (1, .inl v1), (2, .inl v2)], [], M)
          refine mm_s1 rfl ?_
          replace h := h.1 (Or.inr (Or.inr c37))
          exact mm_s1 rfl ⟨(Or.inl rfl), _, rfl, (Or.inl rfl), L, N, h⟩
        · show mm_Go (mm_run 0) mc_LI_set _ (40, [(0, .inr (.inr 1)), (1, .inl v1), (2, .inl v2)], [], M)
          replace c37 := Int.not_lt.mp c37
          refine mm_s1 rfl ?_
          refine nn_getr rfl (nn_c1 NN).1 (lf_1_0 L N (nn_c1 NN)) ?_
          refine mm_s1 rfl ?_
          replace h := h.2 ⟨c27, ⟨c32, c37⟩⟩
          refine mm_s1 rfl ⟨(nc_1_0 NN (nn_c1 NN)).1, ?_⟩
          show mm_Go (mm_run 0) mc_LI_set _ (48, [(0, .inr (.inr 1)), (1, .inl v1), (2, .inl v2)], [], (nn_uf M 2 8 v2))
          have L : nn_L (nn_uf M 2 8 v2) := nn_L_up L (nc_1_0 NN (nn_c1 NN)).1 rfl
          have N : (nn_uf M 2 8 v2).1 = n := N
          generalize e_M45 : (nn_uf M 2 8 v2) = M45 at L N ⊢
          replace h := h _ e_M45.symm
          show mm_Go (mm_run 0) mc_LI_set _ (48, [(0, .inr (.inr 1)), (1, .inl v1), (2, .inl v2)], [], M45)
          refine mm_s1 rfl ?_
          exact mm_s1 rfl ⟨(Or.inr rfl), _, rfl, (Or.inr rfl), L, N, h⟩
  · show mm_Go (mm_run 0) mc_LI_set _ (4, [(0, .inr (.inr 1)), (1, .inl v1), (2, .inl v2)], [], M)
    replace c1 := Decidable.not_not.mp c1
    replace h := h.2 c1
    refine mm_s1 rfl ?_
    refine mm_s1 rfl ?_
    refine mm_s1 rfl ⟨fun c6 => ?_, fun c6 => ?_⟩
    · show mm_Go (mm_run 0) mc_LI_set _ (25, [(0, .inr (.inr 1)), (1, .inl v1), (2, .inl v2)], [], M)
      replace h := h.1 c6
      refine mm_s1 rfl ?_
      refine mm_s1 rfl ?_
      refine mm_s1 rfl ⟨fun c27 => ?_, fun c27 => ?_⟩
      · show mm_Go (mm_run 0) mc_LI_set _ (50, [(0, .inr (.inr 1)), (1, .inl v1), (2, .inl v2)], [], M)
        refine mm_s1 rfl ?_
        replace h := h.1 (Or.inl c27)
        exact mm_s1 rfl ⟨(Or.inl rfl), _, rfl, (Or.inl rfl), L, N, h⟩
      · show mm_Go (mm_run 0) mc_LI_set _ (30, [(0, .inr (.inr 1)), (1, .inl v1), (2, .inl v2)], [], M)
        replace c27 := Decidable.not_not.mp c27
        refine mm_s1 rfl ?_
        refine mm_s1 rfl ?_
        refine mm_s1 rfl ⟨fun c32 => ?_, fun c32 => ?_⟩
        · show mm_Go (mm_run 0) mc_LI_set _ (50, [(0, .inr (.inr 1)), (1, .inl v1), (2, .inl v2)], [], M)
          refine mm_s1 rfl ?_
          replace h := h.1 (Or.inr (Or.inl c32))
          exact mm_s1 rfl ⟨(Or.inl rfl), _, rfl, (Or.inl rfl), L, N, h⟩
        · show mm_Go (mm_run 0) mc_LI_set _ (35, [(0, .inr (.inr 1)), (1, .inl v1), (2, .inl v2)], [], M)
          replace c32 := Int.not_lt.mp c32
          refine mm_s1 rfl ?_
          refine mm_s1 rfl ?_
          refine mm_s1 rfl ⟨fun c37 => ?_, fun c37 => ?_⟩
          · show mm_Go (mm_run 0) mc_LI_set _ (50, [(0, .inr (.inr 1)), (1, .inl v1), (2, .inl v2)], [], M)
            refine mm_s1 rfl ?_
            replace h := h.1 (Or.inr (Or.inr c37))
            exact mm_s1 rfl ⟨(Or.inl rfl), _, rfl, (Or.inl rfl), L, N, h⟩
          · show mm_Go (mm_run 0) mc_LI_set _ (40, [(0, .inr (.inr 1)), (1, .inl v1), (2, .inl v2)], [], M)
            replace c37 := Int.not_lt.mp c37
            refine mm_s1 rfl ?_
            refine nn_getr rfl (nn_c1 NN).1 (lf_1_0 L N (nn_c1 NN)) ?_
            refine mm_s1 rfl ?_
            replace h := h.2 ⟨c27, ⟨c32, c37⟩⟩
            refine mm_s1 rfl ⟨(nc_1_0 NN (nn_c1 NN)).1, ?_⟩
            show mm_Go (mm_run 0) mc_LI_set _ (48, [(0, .inr (.inr 1)), (1, .inl v1), (2, .inl v2)], [], (nn_uf M 2 8 v2))
            have L : nn_L (nn_uf M 2 8 v2) := nn_L_up L (nc_1_0 NN (nn_c1 NN)).1 rfl
            have N : (nn_uf M 2 8 v2).1 = n := N
            generalize e_M45 : (nn_uf M 2 8 v2) = M45 at L N ⊢
            replace h := h _ e_M45.symm
            show mm_Go (mm_run 0) mc_LI_set _ (48, [(0, .inr (.inr 1)), (1, .inl v1), (2, .inl v2)], [], M45)
            refine mm_s1 rfl ?_
            exact mm_s1 rfl ⟨(Or.inr rfl), _, rfl, (Or.inr rfl), L, N, h⟩
    · show mm_Go (mm_run 0) mc_LI_set _ (9, [(0, .inr (.inr 1)), (1, .inl v1), (2, .inl v2)], [], M)
      replace c6 := Int.not_lt.mp c6
      replace h := h.2 c6
      refine mm_s1 rfl ?_
      refine mm_s1 rfl ?_
      refine mm_s1 rfl ⟨fun c12 => ?_, fun c12 => ?_⟩
      · show mm_Go (mm_run 0) mc_LI_set _ (25, [(0, .inr (.inr 1)), (1, .inl v1), (2, .inl v2)], [], M)
        replace h := h.1 c12
        refine mm_s1 rfl ?_
        refine mm_s1 rfl ?_
        refine mm_s1 rfl ⟨fun c27 => ?_, fun c27 => ?_⟩
        · show mm_Go (mm_run 0) mc_LI_set _ (50, [(0, .inr (.inr 1)), (1, .inl v1), (2, .inl v2)], [], M)
          refine mm_s1 rfl ?_
          replace h := h.1 (Or.inl c27)
          exact mm_s1 rfl ⟨(Or.inl rfl), _, rfl, (Or.inl rfl), L, N, h⟩
        · show mm_Go (mm_run 0) mc_LI_set _ (30, [(0, .inr (.inr 1)), (1, .inl v1), (2, .inl v2)], [], M)
          replace c27 := Decidable.not_not.mp c27
          refine mm_s1 rfl ?_
          refine mm_s1 rfl ?_
          refine mm_s1 rfl ⟨fun c32 => ?_, fun c32 => ?_⟩
          · show mm_Go (mm_run 0) mc_LI_set _ (50, [(0, .inr (.inr 1)), (1, .inl v1), (2, .inl v2)], [], M)
            refine mm_s1 rfl ?_
            replace h := h.1 (Or.inr (Or.inl c32))
            exact mm_s1 rfl ⟨(Or.inl rfl), _, rfl, (Or.inl rfl), L, N, h⟩
          · show mm_Go (mm_run 0) mc_LI_set _ (35, [(0, .inr (.inr 1)), (1, .inl v1), (2, .inl v2)], [], M)
            replace c32 := Int.not_lt.mp c32
            refine mm_s1 rfl ?_
            refine mm_s1 rfl ?_
            refine mm_s1 rfl ⟨fun c37 => ?_, fun c37 => ?_⟩
            · show mm_Go (mm_run 0) mc_LI_set _ (50, [(0, .inr (.inr 1)), (1, .inl v1), (2, .inl v2)], [], M)
              refine mm_s1 rfl ?_
              replace h := h.1 (Or.inr (Or.inr c37))
              exact mm_s1 rfl ⟨(Or.inl rfl), _, rfl, (Or.inl rfl), L, N, h⟩
            · show mm_Go (mm_run 0) mc_LI_set _ (40, [(0, .inr (.inr 1)), (1, .inl v1), (2, .inl v2)], [], M)
              replace c37 := Int.not_lt.mp c37
              refine mm_s1 rfl ?_
              refine nn_getr rfl (nn_c1 NN).1 (lf_1_0 L N (nn_c1 NN)) ?_
              refine mm_s1 rfl ?_
              replace h := h.2 ⟨c27, ⟨c32, c37⟩⟩
              refine mm_s1 rfl ⟨(nc_1_0 NN (nn_c1 NN)).1, ?_⟩
              show mm_Go (mm_run 0) mc_LI_set _ (48, [(0, .inr (.inr 1)), (1, .inl v1), (2, .inl v2)], [], (nn_uf M 2 8 v2))
              have L : nn_L (nn_uf M 2 8 v2) := nn_L_up L (nc_1_0 NN (nn_c1 NN)).1 rfl
              have N : (nn_uf M 2 8 v2).1 = n := N
              generalize e_M45 : (nn_uf M 2 8 v2) = M45 at L N ⊢
              replace h := h _ e_M45.symm
              show mm_Go (mm_run 0) mc_LI_set _ (48, [(0, .inr (.inr 1)), (1, .inl v1), (2, .inl v2)], [], M45)
              refine mm_s1 rfl ?_
              exact mm_s1 rfl ⟨(Or.inr rfl), _, rfl, (Or.inr rfl), L, N, h⟩
      · show mm_Go (mm_run 0) mc_LI_set _ (15, [(0, .inr (.inr 1)), (1, .inl v1), (2, .inl v2)], [], M)
        replace c12 := Int.not_lt.mp c12
        replace h := h.2 c12
        refine mm_s1 rfl ?_
        refine nn_getr rfl (nn_c1 NN).1 (lf_1_0 L N (nn_c1 NN)) ?_
        refine mm_s1 rfl ?_
        refine mm_s1 rfl ⟨(nc_1_0 NN (nn_c1 NN)).1, ?_⟩
        show mm_Go (mm_run 0) mc_LI_set _ (23, [(0, .inr (.inr 1)), (1, .inl v1), (2, .inl v2)], [], (nn_uf M 2 7 v2))
        have L : nn_L (nn_uf M 2 7 v2) := nn_L_up L (nc_1_0 NN (nn_c1 NN)).1 rfl
        have N : (nn_uf M 2 7 v2).1 = n := N
        generalize e_M20 : (nn_uf M 2 7 v2) = M20 at L N ⊢
        replace h := h _ e_M20.symm
        show mm_Go (mm_run 0) mc_LI_set _ (23, [(0, .inr (.inr 1)), (1, .inl v1), (2, .inl v2)], [], M20)
        refine mm_s1 rfl ?_
        exact mm_s1 rfl ⟨(Or.inr rfl), _, rfl, (Or.inr rfl), L, N, h⟩
def nf_LI_isKey (v0 : Int) : Int := (if v0 < 0 then 0 else (if 32 ≤ v0 then 0 else 1))
theorem nz_LI_isKey (v0 : Int) : nf_LI_isKey v0 = 0 ∨ nf_LI_isKey v0 = 1 := by
  unfold nf_LI_isKey
  repeat' split
  all_goals first | exact Or.inl rfl | exact Or.inr rfl
set_option maxRecDepth 20000 in
theorem np_LI_isKey {v0 : Int} {M : mm_M} {n d : Nat} {P : mm_P} (hd : 1 ≤ d) (L : nn_L M) (N : M.1 = n)  (h : P (some (.inl (nf_LI_isKey v0))) M) : mm_run d mi_LI_isKey [.inl v0] M P := by
  have NN := nn_L_n L N
  unfold nf_LI_isKey at h
  refine nn_run_le hd ?_
  show mm_Go (mm_run 0) mc_LI_isKey _ (0, [(0, .inl v0)], [], M)
  refine mm_s1 rfl ?_
  refine mm_s1 rfl ⟨fun c1 => ?_, fun c1 => ?_⟩
  · show mm_Go (mm_run 0) mc_LI_isKey _ (14, [(0, .inl v0)], [], M)
    rw [if_pos (show v0 < 0 from c1)] at h
    refine mm_s1 rfl ?_
    exact mm_s1 rfl ⟨(Or.inl rfl), h⟩
  · show mm_Go (mm_run 0) mc_LI_isKey _ (4, [(0, .inl v0)], [], M)
    rw [if_neg (show ¬ (v0 < 0) from c1)] at h
    replace c1 := Int.not_lt.mp c1
    refine mm_s1 rfl ?_
    refine mm_s1 rfl ?_
    refine mm_s1 rfl ⟨fun c7 => ?_, fun c7 => ?_⟩
    · show mm_Go (mm_run 0) mc_LI_isKey _ (14, [(0, .inl v0)], [], M)
      rw [if_pos (show 32 ≤ v0 from c7)] at h
      refine mm_s1 rfl ?_
      exact mm_s1 rfl ⟨(Or.inl rfl), h⟩
    · show mm_Go (mm_run 0) mc_LI_isKey _ (10, [(0, .inl v0)], [], M)
      rw [if_neg (show ¬ (32 ≤ v0) from c7)] at h
      replace c7 := Int.not_le.mp c7
      refine mm_s1 rfl ?_
      refine mm_s1 rfl ?_
      show mm_Go (mm_run 0) mc_LI_isKey _ (15, [(0, .inl v0)], [.inl 1], M)
      exact mm_s1 rfl ⟨(Or.inr rfl), h⟩
def nf_LI_isNumber (v0 : Int) : Int := (if v0 < 0 then 0 else (if 16 ≤ v0 then 0 else 1))
theorem nz_LI_isNumber (v0 : Int) : nf_LI_isNumber v0 = 0 ∨ nf_LI_isNumber v0 = 1 := by
  unfold nf_LI_isNumber
  repeat' split
  all_goals first | exact Or.inl rfl | exact Or.inr rfl
set_option maxRecDepth 20000 in
theorem np_LI_isNumber {v0 : Int} {M : mm_M} {n d : Nat} {P : mm_P} (hd : 1 ≤ d) (L : nn_L M) (N : M.1 = n)  (h : P (some (.inl (nf_LI_isNumber v0))) M) : mm_run d mi_LI_isNumber [.inl v0] M P := by
  have NN := nn_L_n L N
  unfold nf_LI_isNumber at h
  refine nn_run_le hd ?_
  show mm_Go (mm_run 0) mc_LI_isNumber _ (0, [(0, .inl v0)], [], M)
  refine mm_s1 rfl ?_
  refine mm_s1 rfl ⟨fun c1 => ?_, fun c1 => ?_⟩
  · show mm_Go (mm_run 0) mc_LI_isNumber _ (14, [(0, .inl v0)], [], M)
    rw [if_pos (show v0 < 0 from c1)] at h
    refine mm_s1 rfl ?_
    exact mm_s1 rfl ⟨(Or.inl rfl), h⟩
  · show mm_Go (mm_run 0) mc_LI_isNumber _ (4, [(0, .inl v0)], [], M)
    rw [if_neg (show ¬ (v0 < 0) from c1)] at h
    replace c1 := Int.not_lt.mp c1
    refine mm_s1 rfl ?_
    refine mm_s1 rfl ?_
    refine mm_s1 rfl ⟨fun c7 => ?_, fun c7 => ?_⟩
    · show mm_Go (mm_run 0) mc_LI_isNumber _ (14, [(0, .inl v0)], [], M)
      rw [if_pos (show 16 ≤ v0 from c7)] at h
      refine mm_s1 rfl ?_
      exact mm_s1 rfl ⟨(Or.inl rfl), h⟩
    · show mm_Go (mm_run 0) mc_LI_isNumber _ (10, [(0, .inl v0)], [], M)
      rw [if_neg (show ¬ (16 ≤ v0) from c7)] at h
      replace c7 := Int.not_le.mp c7
      refine mm_s1 rfl ?_
      refine mm_s1 rfl ?_
      show mm_Go (mm_run 0) mc_LI_isNumber _ (15, [(0, .inl v0)], [.inl 1], M)
      exact mm_s1 rfl ⟨(Or.inr rfl), h⟩
def nf_LI_packed (v0 : Int) (v1 : Int) (v2 : Int) (v3 : Int) : Int := mm_or (mm_or (mm_or v0 (mm_shl v1 4)) (mm_shl v2 8)) (mm_shl v3 12)
set_option maxRecDepth 20000 in
theorem np_LI_packed {v0 : Int} {v1 : Int} {v2 : Int} {v3 : Int} {M : mm_M} {n d : Nat} {P : mm_P} (hd : 1 ≤ d) (L : nn_L M) (N : M.1 = n)  (h : P (some (.inl (nf_LI_packed v0 v1 v2 v3))) M) : mm_run d mi_LI_packed [.inl v0, .inl v1, .inl v2, .inl v3] M P := by
  have NN := nn_L_n L N
  unfold nf_LI_packed at h
  refine nn_run_le hd ?_
  show mm_Go (mm_run 0) mc_LI_packed _ (0, [(0, .inl v0), (1, .inl v1), (2, .inl v2), (3, .inl v3)], [], M)
  refine mm_s1 rfl ?_
  refine mm_s1 rfl ?_
  refine mm_s1 rfl ?_
  refine mm_s1 rfl ?_
  refine mm_s1 rfl ?_
  refine mm_s1 rfl ?_
  refine mm_s1 rfl ?_
  refine mm_s1 rfl ?_
  refine mm_s1 rfl ?_
  refine mm_s1 rfl ?_
  refine mm_s1 rfl ?_
  refine mm_s1 rfl ?_
  refine mm_s1 rfl ?_
  exact mm_s1 rfl h
def nf_LI_entryOf (v0 : Int) (v1 : Int) (v2 : Int) : Int := mm_lor (mm_lor (mm_lshl v0 37) (mm_lshl v1 32)) v2
set_option maxRecDepth 20000 in
theorem np_LI_entryOf {v0 : Int} {v1 : Int} {v2 : Int} {M : mm_M} {n d : Nat} {P : mm_P} (hd : 1 ≤ d) (L : nn_L M) (N : M.1 = n)  (h : P (some (.inr (.inl (nf_LI_entryOf v0 v1 v2)))) M) : mm_run d mi_LI_entryOf [.inl v0, .inl v1, .inl v2] M P := by
  have NN := nn_L_n L N
  unfold nf_LI_entryOf at h
  refine nn_run_le hd ?_
  show mm_Go (mm_run 0) mc_LI_entryOf _ (0, [(0, .inl v0), (1, .inl v1), (2, .inl v2)], [], M)
  refine mm_s1 rfl ?_
  refine mm_s1 rfl ?_
  refine mm_s1 rfl ?_
  refine mm_s1 rfl ?_
  refine mm_s1 rfl ?_
  refine mm_s1 rfl ?_
  refine mm_s1 rfl ?_
  refine mm_s1 rfl ?_
  refine mm_s1 rfl ?_
  refine mm_s1 rfl ?_
  refine mm_s1 rfl ?_
  refine mm_s1 rfl ?_
  exact mm_s1 rfl h
def nf_LI_isStale (v0 : Int) (v2 : Nat) (M : mm_M) : Int := (if (mm_and (mm_ushr (nn_rf M v2 2) (mm_and (mm_w (mm_lushr v0 32)) 31)) 1) = 0 then 1 else (if (nn_ri M (v2 + 2) (mm_and (mm_w (mm_lushr v0 32)) 31)) = (mm_w v0) then 0 else 1))
def nc_LI_isStale (v0 : Int) (v2 : Nat) (M : mm_M) : Prop := ((mm_and (mm_ushr (nn_rf M v2 2) (mm_and (mm_w (mm_lushr v0 32)) 31)) 1) ≠ 0 → ((0 : Int) ≤ (mm_and (mm_w (mm_lushr v0 32)) 31) ∧ (mm_and (mm_w (mm_lushr v0 32)) 31) < (32 : Int)))
theorem nz_LI_isStale (v0 : Int) (v2 : Nat) (M : mm_M) : nf_LI_isStale v0 v2 M = 0 ∨ nf_LI_isStale v0 v2 M = 1 := by
  unfold nf_LI_isStale
  repeat' split
  all_goals first | exact Or.inl rfl | exact Or.inr rfl
set_option maxRecDepth 20000 in
theorem np_LI_isStale {v0 : Int} {v2 : Nat} {M : mm_M} {n d : Nat} {P : mm_P} (hd : 1 ≤ d) (L : nn_L M) (N : M.1 = n) (C2 : nn_C 12 v2 n) (b : nc_LI_isStale v0 v2 M) (h : P (some (.inl (nf_LI_isStale v0 v2 M))) M) : mm_run d mi_LI_isStale [.inr (.inl v0), .inr (.inr v2)] M P := by
  have NN := nn_L_n L N
  unfold nc_LI_isStale at b
  unfold nf_LI_isStale at h
  refine nn_run_le hd ?_
  show mm_Go (mm_run 0) mc_LI_isStale _ (0, [(0, .inr (.inl v0)), (2, .inr (.inr v2))], [], M)
  refine mm_s1 rfl ?_
  refine mm_s1 rfl ?_
  refine mm_s1 rfl ?_
  refine mm_s1 rfl ?_
  refine mm_s1 rfl ?_
  refine mm_s1 rfl ?_
  refine mm_s1 rfl ?_
  show mm_Go (mm_run 0) mc_LI_isStale _ (9, [(0, .inr (.inl v0)), (2, .inr (.inr v2)), (3, .inl (mm_and (mm_w (mm_lushr v0 32)) 31))], [], M)
  refine mm_s1 rfl ?_
  refine mm_s1 rfl ⟨C2.1, ?_⟩
  show mm_Go (mm_run 0) mc_LI_isStale _ (13, [(0, .inr (.inl v0)), (2, .inr (.inr v2)), (3, .inl (mm_and (mm_w (mm_lushr v0 32)) 31))], [.inl (nn_rf M v2 2)], M)
  refine mm_s1 rfl ?_
  refine mm_s1 rfl ?_
  refine mm_s1 rfl ?_
  refine mm_s1 rfl ?_
  refine mm_s1 rfl ⟨fun c17 => ?_, fun c17 => ?_⟩
  · show mm_Go (mm_run 0) mc_LI_isStale _ (31, [(0, .inr (.inl v0)), (2, .inr (.inr v2)), (3, .inl (mm_and (mm_w (mm_lushr v0 32)) 31))], [], M)
    rw [if_pos (show (mm_and (mm_ushr (nn_rf M v2 2) (mm_and (mm_w (mm_lushr v0 32)) 31)) 1) = 0 from c17)] at h
    refine mm_s1 rfl ?_
    refine mm_s1 rfl ?_
    show mm_Go (mm_run 0) mc_LI_isStale _ (36, [(0, .inr (.inl v0)), (2, .inr (.inr v2)), (3, .inl (mm_and (mm_w (mm_lushr v0 32)) 31))], [.inl 1], M)
    exact mm_s1 rfl ⟨(Or.inr rfl), h⟩
  · show mm_Go (mm_run 0) mc_LI_isStale _ (20, [(0, .inr (.inl v0)), (2, .inr (.inr v2)), (3, .inl (mm_and (mm_w (mm_lushr v0 32)) 31))], [], M)
    rw [if_neg (show ¬ ((mm_and (mm_ushr (nn_rf M v2 2) (mm_and (mm_w (mm_lushr v0 32)) 31)) 1) = 0) from c17)] at h
    replace b := b c17
    refine mm_s1 rfl ?_
    refine nn_getr rfl C2.1 (lf_12_1 L N C2) ?_
    refine mm_s1 rfl ?_
    have b25 := b
    refine mm_s1 rfl ⟨nn_bd (na_12_1 NN C2) b25, ?_⟩
    show mm_Go (mm_run 0) mc_LI_isStale _ (26, [(0, .inr (.inl v0)), (2, .inr (.inr v2)), (3, .inl (mm_and (mm_w (mm_lushr v0 32)) 31))], [.inl (nn_ri M (v2 + 2) (mm_and (mm_w (mm_lushr v0 32)) 31))], M)
    refine mm_s1 rfl ?_
    refine mm_s1 rfl ?_
    refine mm_s1 rfl ⟨fun c28 => ?_, fun c28 => ?_⟩
    · show mm_Go (mm_run 0) mc_LI_isStale _ (35, [(0, .inr (.inl v0)), (2, .inr (.inr v2)), (3, .inl (mm_and (mm_w (mm_lushr v0 32)) 31))], [], M)
      rw [if_pos (show (nn_ri M (v2 + 2) (mm_and (mm_w (mm_lushr v0 32)) 31)) = (mm_w v0) from c28)] at h
      refine mm_s1 rfl ?_
      exact mm_s1 rfl ⟨(Or.inl rfl), h⟩
    · show mm_Go (mm_run 0) mc_LI_isStale _ (31, [(0, .inr (.inl v0)), (2, .inr (.inr v2)), (3, .inl (mm_and (mm_w (mm_lushr v0 32)) 31))], [], M)
      rw [if_neg (show ¬ ((nn_ri M (v2 + 2) (mm_and (mm_w (mm_lushr v0 32)) 31)) = (mm_w v0)) from c28)] at h
      refine mm_s1 rfl ?_
      refine mm_s1 rfl ?_
      show mm_Go (mm_run 0) mc_LI_isStale _ (36, [(0, .inr (.inl v0)), (2, .inr (.inr v2)), (3, .inl (mm_and (mm_w (mm_lushr v0 32)) 31))], [.inl 1], M)
      exact mm_s1 rfl ⟨(Or.inr rfl), h⟩
def nf_LI_lesser (v0 : Int) (v1 : Int) : Int := (if v0 = (-1) then (if v0 ≠ (-1) then v0 else v1) else (if v1 ≠ (-1) then (if v1 ≤ v0 then v1 else v0) else (if v0 ≠ (-1) then v0 else v1)))
set_option maxRecDepth 20000 in
theorem np_LI_lesser {v0 : Int} {v1 : Int} {M : mm_M} {n d : Nat} {P : mm_P} (hd : 1 ≤ d) (L : nn_L M) (N : M.1 = n)  (h : P (some (.inl (nf_LI_lesser v0 v1))) M) : mm_run d mi_LI_lesser [.inl v0, .inl v1] M P := by
  have NN := nn_L_n L N
  unfold nf_LI_lesser at h
  refine nn_run_le hd ?_
  show mm_Go (mm_run 0) mc_LI_lesser _ (0, [(0, .inl v0), (1, .inl v1)], [], M)
  refine mm_s1 rfl ?_
  refine mm_s1 rfl ?_
  refine mm_s1 rfl ⟨fun c2 => ?_, fun c2 => ?_⟩
  · show mm_Go (mm_run 0) mc_LI_lesser _ (10, [(0, .inl v0), (1, .inl v1)], [], M)
    rw [if_pos (show v0 = (-1) from c2)] at h
    refine mm_s1 rfl ?_
    refine mm_s1 rfl ?_
    refine mm_s1 rfl ⟨fun c12 => ?_, fun c12 => ?_⟩
    · show mm_Go (mm_run 0) mc_LI_lesser _ (19, [(0, .inl v0), (1, .inl v1)], [], M)
      rw [if_pos (show v0 ≠ (-1) from c12)] at h
      refine mm_s1 rfl ?_
      exact mm_s1 rfl h
    · show mm_Go (mm_run 0) mc_LI_lesser _ (15, [(0, .inl v0), (1, .inl v1)], [], M)
      rw [if_neg (show ¬ (v0 ≠ (-1)) from c12)] at h
      replace c12 := Decidable.not_not.mp c12
      refine mm_s1 rfl ?_
      refine mm_s1 rfl ?_
      show mm_Go (mm_run 0) mc_LI_lesser _ (20, [(0, .inl v0), (1, .inl v1)], [.inl v1], M)
      exact mm_s1 rfl h
  · show mm_Go (mm_run 0) mc_LI_lesser _ (5, [(0, .inl v0), (1, .inl v1)], [], M)
    rw [if_neg (show ¬ (v0 = (-1)) from c2)] at h
    refine mm_s1 rfl ?_
    refine mm_s1 rfl ?_
    refine mm_s1 rfl ⟨fun c7 => ?_, fun c7 => ?_⟩
    · show mm_Go (mm_run 0) mc_LI_lesser _ (21, [(0, .inl v0), (1, .inl v1)], [], M)
      rw [if_pos (show v1 ≠ (-1) from c7)] at h
      refine mm_s1 rfl ?_
      refine mm_s1 rfl ?_
      refine mm_s1 rfl ⟨fun c23 => ?_, fun c23 => ?_⟩
      · show mm_Go (mm_run 0) mc_LI_lesser _ (30, [(0, .inl v0), (1, .inl v1)], [], M)
        rw [if_pos (show v1 ≤ v0 from c23)] at h
        refine mm_s1 rfl ?_
        exact mm_s1 rfl h
      · show mm_Go (mm_run 0) mc_LI_lesser _ (26, [(0, .inl v0), (1, .inl v1)], [], M)
        rw [if_neg (show ¬ (v1 ≤ v0) from c23)] at h
        replace c23 := Int.not_le.mp c23
        refine mm_s1 rfl ?_
        refine mm_s1 rfl ?_
        show mm_Go (mm_run 0) mc_LI_lesser _ (31, [(0, .inl v0), (1, .inl v1)], [.inl v0], M)
        exact mm_s1 rfl h
    · show mm_Go (mm_run 0) mc_LI_lesser _ (10, [(0, .inl v0), (1, .inl v1)], [], M)
      rw [if_neg (show ¬ (v1 ≠ (-1)) from c7)] at h
      replace c7 := Decidable.not_not.mp c7
      refine mm_s1 rfl ?_
      refine mm_s1 rfl ?_
      refine mm_s1 rfl ⟨fun c12 => ?_, fun c12 => ?_⟩
      · show mm_Go (mm_run 0) mc_LI_lesser _ (19, [(0, .inl v0), (1, .inl v1)], [], M)
        rw [if_pos (show v0 ≠ (-1) from c12)] at h
        refine mm_s1 rfl ?_
        exact mm_s1 rfl h
      · show mm_Go (mm_run 0) mc_LI_lesser _ (15, [(0, .inl v0), (1, .inl v1)], [], M)
        rw [if_neg (show ¬ (v0 ≠ (-1)) from c12)] at h
        replace c12 := Decidable.not_not.mp c12
        refine mm_s1 rfl ?_
        refine mm_s1 rfl ?_
        show mm_Go (mm_run 0) mc_LI_lesser _ (20, [(0, .inl v0), (1, .inl v1)], [.inl v1], M)
        exact mm_s1 rfl h
def nr_LI_alike (v0 : Nat) (v1 : Int) (v2 : Int) (M : mm_M) (R : Int → mm_M → Prop) : Prop := ∀ n, nn_L M → M.1 = n → nn_C 20 v0 n → mm_run 1 mi_LI_alike [.inr (.inr v0), .inl v1, .inl v2] M (nw_I n R)
def nk_LI_alike_5 (v0 : Nat) (v1 : Int) (v2 : Int) (v3 : Int) (v4 : Int) (M : mm_M) (R : Int → mm_M → Prop) : Prop := ∀ n, nn_L M → M.1 = n → nn_C 20 v0 n → mm_Go (mm_run 0) mc_LI_alike (nw_I n R) (5, [(0, .inr (.inr v0)), (1, .inl v1), (2, .inl v2), (3, .inl v3), (4, .inl v4)], [], M)
set_option maxRecDepth 20000 in
theorem ng_LI_alike (v0 : Nat) (v1 : Int) (v2 : Int) (M : mm_M) (R : Int → mm_M → Prop) (h : nk_LI_alike_5 v0 v1 v2 0 0 M R) : nr_LI_alike v0 v1 v2 M R := by
  intro n L N C0
  have NN := nn_L_n L N
  show mm_Go (mm_run 0) mc_LI_alike _ (0, [(0, .inr (.inr v0)), (1, .inl v1), (2, .inl v2)], [], M)
  refine mm_s1 rfl ?_
  refine mm_s1 rfl ?_
  show mm_Go (mm_run 0) mc_LI_alike _ (2, [(0, .inr (.inr v0)), (1, .inl v1), (2, .inl v2), (3, .inl 0)], [], M)
  refine mm_s1 rfl ?_
  refine mm_s1 rfl ?_
  show mm_Go (mm_run 0) mc_LI_alike _ (5, [(0, .inr (.inr v0)), (1, .inl v1), (2, .inl v2), (3, .inl 0), (4, .inl 0)], [], M)
  exact nn_go_ext (nn_xc rfl (nn_xc rfl (nn_xc rfl (nn_xc rfl (nn_xc rfl nn_xn))))) (h n L N C0)
set_option maxRecDepth 20000 in
theorem ng_LI_alike_5 (v0 : Nat) (v1 : Int) (v2 : Int) (v3 : Int) (v4 : Int) (M : mm_M) (R : Int → mm_M → Prop) (h : ((v1 ≤ v4 → R (-1) M) ∧ (v4 < v1 → ((v4 ≤ 0 → ((1 ≠ v2 → nk_LI_alike_5 v0 v1 v2 1 (mm_w (v4 + 1)) M R) ∧ (1 = v2 → R (mm_w ((mm_w (v4 - v2)) + 1)) M))) ∧ (0 < v4 → (((0 : Int) ≤ v4 ∧ v4 < ((mm_kd v0).2 : Int)) ∧ (((0 : Int) ≤ (mm_w (v4 - 1)) ∧ (mm_w (v4 - 1)) < ((mm_kd v0).2 : Int)) ∧ (((nn_ri M v0 v4) ≠ (nn_ri M v0 (mm_w (v4 - 1))) → ((1 ≠ v2 → nk_LI_alike_5 v0 v1 v2 1 (mm_w (v4 + 1)) M R) ∧ (1 = v2 → R (mm_w ((mm_w (v4 - v2)) + 1)) M))) ∧ ((nn_ri M v0 v4) = (nn_ri M v0 (mm_w (v4 - 1))) → (((mm_w (v3 + 1)) ≠ v2 → nk_LI_alike_5 v0 v1 v2 (mm_w (v3 + 1)) (mm_w (v4 + 1)) M R) ∧ ((mm_w (v3 + 1)) = v2 → R (mm_w ((mm_w (v4 - v2)) + 1)) M))))))))))) : nk_LI_alike_5 v0 v1 v2 v3 v4 M R := by
  intro n L N C0
  have NN := nn_L_n L N
  show mm_Go (mm_run 0) mc_LI_alike _ (5, [(0, .inr (.inr v0)), (1, .inl v1), (2, .inl v2), (3, .inl v3), (4, .inl v4)], [], M)
  refine mm_s1 rfl ?_
  refine mm_s1 rfl ?_
  refine mm_s1 rfl ⟨fun c8 => ?_, fun c8 => ?_⟩
  · show mm_Go (mm_run 0) mc_LI_alike _ (55, [(0, .inr (.inr v0)), (1, .inl v1), (2, .inl v2), (3, .inl v3), (4, .inl v4)], [], M)
    replace h := h.1 c8
    refine mm_s1 rfl ?_
    exact mm_s1 rfl ⟨_, rfl, L, N, h⟩
  · show mm_Go (mm_run 0) mc_LI_alike _ (11, [(0, .inr (.inr v0)), (1, .inl v1), (2, .inl v2), (3, .inl v3), (4, .inl v4)], [], M)
    replace c8 := Int.not_le.mp c8
    replace h := h.2 c8
    refine mm_s1 rfl ?_
    refine mm_s1 rfl ⟨fun c13 => ?_, fun c13 => ?_⟩
    · show mm_Go (mm_run 0) mc_LI_alike _ (35, [(0, .inr (.inr v0)), (1, .inl v1), (2, .inl v2), (3, .inl v3), (4, .inl v4)], [], M)
      replace h := h.1 c13
      refine mm_s1 rfl ?_
      refine mm_s1 rfl ?_
      show mm_Go (mm_run 0) mc_LI_alike _ (37, [(0, .inr (.inr v0)), (1, .inl v1), (2, .inl v2), (3, .inl 1), (4, .inl v4)], [], M)
      refine mm_s1 rfl ?_
      refine mm_s1 rfl ?_
      refine mm_s1 rfl ⟨fun c39 => ?_, fun c39 => ?_⟩
      · show mm_Go (mm_run 0) mc_LI_alike _ (49, [(0, .inr (.inr v0)), (1, .inl v1), (2, .inl v2), (3, .inl 1), (4, .inl v4)], [], M)
        replace h := h.1 c39
        refine mm_s1 rfl ?_
        show mm_Go (mm_run 0) mc_LI_alike _ (52, [(0, .inr (.inr v0)), (1, .inl v1), (2, .inl v2), (3, .inl 1), (4, .inl (mm_w (v4 + 1)))], [], M)
        refine mm_s1 rfl ?_
        show mm_Go (mm_run 0) mc_LI_alike _ (5, [(0, .inr (.inr v0)), (1, .inl v1), (2, .inl v2), (3, .inl 1), (4, .inl (mm_w (v4 + 1)))], [], M)
        exact nn_go_ext (nn_xc rfl (nn_xc rfl (nn_xc rfl (nn_xc rfl (nn_xc rfl nn_xn))))) (h n L N C0)
      · show mm_Go (mm_run 0) mc_LI_alike _ (42, [(0, .inr (.inr v0)), (1, .inl v1), (2, .inl v2), (3, .inl 1), (4, .inl v4)], [], M)
        replace c39 := Decidable.not_not.mp c39
        replace h := h.2 c39
        refine mm_s1 rfl ?_
        refine mm_s1 rfl ?_
        refine mm_s1 rfl ?_
        refine mm_s1 rfl ?_
        refine mm_s1 rfl ?_
        show mm_Go (mm_run 0) mc_LI_alike _ (48, [(0, .inr (.inr v0)), (1, .inl v1), (2, .inl v2), (3, .inl 1), (4, .inl v4)], [.inl (mm_w ((mm_w (v4 - v2)) + 1))], M)
        exact mm_s1 rfl ⟨_, rfl, L, N, h⟩
    · show mm_Go (mm_run 0) mc_LI_alike _ (16, [(0, .inr (.inr v0)), (1, .inl v1), (2, .inl v2), (3, .inl v3), (4, .inl v4)], [], M)
      replace c13 := Int.not_le.mp c13
      replace h := h.2 c13
      refine mm_s1 rfl ?_
      refine mm_s1 rfl ?_
      obtain ⟨b19, h⟩ := h
      refine mm_s1 rfl ⟨⟨C0.1, b19⟩, ?_⟩
      show mm_Go (mm_run 0) mc_LI_alike _ (20, [(0, .inr (.inr v0)), (1, .inl v1), (2, .inl v2), (3, .inl v3), (4, .inl v4)], [.inl (nn_ri M v0 v4)], M)
      refine mm_s1 rfl ?_
      refine mm_s1 rfl ?_
      refine mm_s1 rfl ?_
      refine mm_s1 rfl ?_
      obtain ⟨b25, h⟩ := h
      refine mm_s1 rfl ⟨⟨C0.1, b25⟩, ?_⟩
      show mm_Go (mm_run 0) mc_LI_alike _ (26, [(0, .inr (.inr v0)), (1, .inl v1), (2, .inl v2), (3, .inl v3), (4, .inl v4)], [.inl (nn_ri M v0 (mm_w (v4 - 1))), .inl (nn_ri M v0 v4)], M)
      refine mm_s1 rfl ⟨fun c26 => ?_, fun c26 => ?_⟩
      · show mm_Go (mm_run 0) mc_LI_alike _ (35, [(0, .inr (.inr v0)), (1, .inl v1), (2, .inl v2), (3, .inl v3), (4, .inl v4)], [], M)
        replace h := h.1 c26
        refine mm_s1 rfl ?_
        refine mm_s1 rfl ?_
        show mm_Go (mm_run 0) mc_LI_alike _ (37, [(0, .inr (.inr v0)), (1, .inl v1), (2, .inl v2), (3, .inl 1), (4, .inl v4)], [], M)
        refine mm_s1 rfl ?_
        refine mm_s1 rfl ?_
        refine mm_s1 rfl ⟨fun c39 => ?_, fun c39 => ?_⟩
        · show mm_Go (mm_run 0) mc_LI_alike _ (49, [(0, .inr (.inr v0)), (1, .inl v1), (2, .inl v2), (3, .inl 1), (4, .inl v4)], [], M)
          replace h := h.1 c39
          refine mm_s1 rfl ?_
          show mm_Go (mm_run 0) mc_LI_alike _ (52, [(0, .inr (.inr v0)), (1, .inl v1), (2, .inl v2), (3, .inl 1), (4, .inl (mm_w (v4 + 1)))], [], M)
          refine mm_s1 rfl ?_
          show mm_Go (mm_run 0) mc_LI_alike _ (5, [(0, .inr (.inr v0)), (1, .inl v1), (2, .inl v2), (3, .inl 1), (4, .inl (mm_w (v4 + 1)))], [], M)
          exact nn_go_ext (nn_xc rfl (nn_xc rfl (nn_xc rfl (nn_xc rfl (nn_xc rfl nn_xn))))) (h n L N C0)
        · show mm_Go (mm_run 0) mc_LI_alike _ (42, [(0, .inr (.inr v0)), (1, .inl v1), (2, .inl v2), (3, .inl 1), (4, .inl v4)], [], M)
          replace c39 := Decidable.not_not.mp c39
          replace h := h.2 c39
          refine mm_s1 rfl ?_
          refine mm_s1 rfl ?_
          refine mm_s1 rfl ?_
          refine mm_s1 rfl ?_
          refine mm_s1 rfl ?_
          show mm_Go (mm_run 0) mc_LI_alike _ (48, [(0, .inr (.inr v0)), (1, .inl v1), (2, .inl v2), (3, .inl 1), (4, .inl v4)], [.inl (mm_w ((mm_w (v4 - v2)) + 1))], M)
          exact mm_s1 rfl ⟨_, rfl, L, N, h⟩
      · show mm_Go (mm_run 0) mc_LI_alike _ (29, [(0, .inr (.inr v0)), (1, .inl v1), (2, .inl v2), (3, .inl v3), (4, .inl v4)], [], M)
        replace c26 := Decidable.not_not.mp c26
        replace h := h.2 c26
        refine mm_s1 rfl ?_
        refine mm_s1 rfl ?_
        refine mm_s1 rfl ?_
        refine mm_s1 rfl ?_
        show mm_Go (mm_run 0) mc_LI_alike _ (36, [(0, .inr (.inr v0)), (1, .inl v1), (2, .inl v2), (3, .inl v3), (4, .inl v4)], [.inl (mm_w (v3 + 1))], M)
        refine mm_s1 rfl ?_
        show mm_Go (mm_run 0) mc_LI_alike _ (37, [(0, .inr (.inr v0)), (1, .inl v1), (2, .inl v2), (3, .inl (mm_w (v3 + 1))), (4, .inl v4)], [], M)
        refine mm_s1 rfl ?_
        refine mm_s1 rfl ?_
        refine mm_s1 rfl ⟨fun c39 => ?_, fun c39 => ?_⟩
        · show mm_Go (mm_run 0) mc_LI_alike _ (49, [(0, .inr (.inr v0)), (1, .inl v1), (2, .inl v2), (3, .inl (mm_w (v3 + 1))), (4, .inl v4)], [], M)
          replace h := h.1 c39
          refine mm_s1 rfl ?_
          show mm_Go (mm_run 0) mc_LI_alike _ (52, [(0, .inr (.inr v0)), (1, .inl v1), (2, .inl v2), (3, .inl (mm_w (v3 + 1))), (4, .inl (mm_w (v4 + 1)))], [], M)
          refine mm_s1 rfl ?_
          show mm_Go (mm_run 0) mc_LI_alike _ (5, [(0, .inr (.inr v0)), (1, .inl v1), (2, .inl v2), (3, .inl (mm_w (v3 + 1))), (4, .inl (mm_w (v4 + 1)))], [], M)
          exact nn_go_ext (nn_xc rfl (nn_xc rfl (nn_xc rfl (nn_xc rfl (nn_xc rfl nn_xn))))) (h n L N C0)
        · show mm_Go (mm_run 0) mc_LI_alike _ (42, [(0, .inr (.inr v0)), (1, .inl v1), (2, .inl v2), (3, .inl (mm_w (v3 + 1))), (4, .inl v4)], [], M)
          replace c39 := Decidable.not_not.mp c39
          replace h := h.2 c39
          refine mm_s1 rfl ?_
          refine mm_s1 rfl ?_
          refine mm_s1 rfl ?_
          refine mm_s1 rfl ?_
          refine mm_s1 rfl ?_
          show mm_Go (mm_run 0) mc_LI_alike _ (48, [(0, .inr (.inr v0)), (1, .inl v1), (2, .inl v2), (3, .inl (mm_w (v3 + 1))), (4, .inl v4)], [.inl (mm_w ((mm_w (v4 - v2)) + 1))], M)
          exact mm_s1 rfl ⟨_, rfl, L, N, h⟩
def nr_LI_highest (v0 : Nat) (v1 : Int) (v2 : Int) (M : mm_M) (R : Int → mm_M → Prop) : Prop := ∀ n, nn_L M → M.1 = n → nn_C 20 v0 n → mm_run 1 mi_LI_highest [.inr (.inr v0), .inl v1, .inl v2] M (nw_I n R)
def nk_LI_highest_5 (v0 : Nat) (v1 : Int) (v2 : Int) (v3 : Int) (v4 : Int) (M : mm_M) (R : Int → mm_M → Prop) : Prop := ∀ n, nn_L M → M.1 = n → nn_C 20 v0 n → mm_Go (mm_run 0) mc_LI_highest (nw_I n R) (5, [(0, .inr (.inr v0)), (1, .inl v1), (2, .inl v2), (3, .inl v3), (4, .inl v4)], [], M)
set_option maxRecDepth 20000 in
theorem ng_LI_highest (v0 : Nat) (v1 : Int) (v2 : Int) (M : mm_M) (R : Int → mm_M → Prop) (h : nk_LI_highest_5 v0 v1 v2 (-1) v1 M R) : nr_LI_highest v0 v1 v2 M R := by
  intro n L N C0
  have NN := nn_L_n L N
  show mm_Go (mm_run 0) mc_LI_highest _ (0, [(0, .inr (.inr v0)), (1, .inl v1), (2, .inl v2)], [], M)
  refine mm_s1 rfl ?_
  refine mm_s1 rfl ?_
  show mm_Go (mm_run 0) mc_LI_highest _ (2, [(0, .inr (.inr v0)), (1, .inl v1), (2, .inl v2), (3, .inl (-1))], [], M)
  refine mm_s1 rfl ?_
  refine mm_s1 rfl ?_
  show mm_Go (mm_run 0) mc_LI_highest _ (5, [(0, .inr (.inr v0)), (1, .inl v1), (2, .inl v2), (3, .inl (-1)), (4, .inl v1)], [], M)
  exact nn_go_ext (nn_xc rfl (nn_xc rfl (nn_xc rfl (nn_xc rfl (nn_xc rfl nn_xn))))) (h n L N C0)
set_option maxRecDepth 20000 in
theorem ng_LI_highest_5 (v0 : Nat) (v1 : Int) (v2 : Int) (v3 : Int) (v4 : Int) (M : mm_M) (R : Int → mm_M → Prop) (h : (((mm_w (v1 + v2)) ≤ v4 → R v3 M) ∧ (v4 < (mm_w (v1 + v2)) → (((0 : Int) ≤ v4 ∧ v4 < ((mm_kd v0).2 : Int)) ∧ nk_LI_highest_5 v0 v1 v2 (max v3 (nn_ri M v0 v4)) (mm_w (v4 + 1)) M R)))) : nk_LI_highest_5 v0 v1 v2 v3 v4 M R := by
  intro n L N C0
  have NN := nn_L_n L N
  show mm_Go (mm_run 0) mc_LI_highest _ (5, [(0, .inr (.inr v0)), (1, .inl v1), (2, .inl v2), (3, .inl v3), (4, .inl v4)], [], M)
  refine mm_s1 rfl ?_
  refine mm_s1 rfl ?_
  refine mm_s1 rfl ?_
  refine mm_s1 rfl ?_
  refine mm_s1 rfl ⟨fun c10 => ?_, fun c10 => ?_⟩
  · show mm_Go (mm_run 0) mc_LI_highest _ (28, [(0, .inr (.inr v0)), (1, .inl v1), (2, .inl v2), (3, .inl v3), (4, .inl v4)], [], M)
    replace h := h.1 c10
    refine mm_s1 rfl ?_
    exact mm_s1 rfl ⟨_, rfl, L, N, h⟩
  · show mm_Go (mm_run 0) mc_LI_highest _ (13, [(0, .inr (.inr v0)), (1, .inl v1), (2, .inl v2), (3, .inl v3), (4, .inl v4)], [], M)
    replace c10 := Int.not_le.mp c10
    replace h := h.2 c10
    refine mm_s1 rfl ?_
    refine mm_s1 rfl ?_
    refine mm_s1 rfl ?_
    obtain ⟨b17, h⟩ := h
    refine mm_s1 rfl ⟨⟨C0.1, b17⟩, ?_⟩
    show mm_Go (mm_run 0) mc_LI_highest _ (18, [(0, .inr (.inr v0)), (1, .inl v1), (2, .inl v2), (3, .inl v3), (4, .inl v4)], [.inl (nn_ri M v0 v4), .inl v3], M)
    refine mm_s1 rfl ?_
    refine mm_s1 rfl ?_
    show mm_Go (mm_run 0) mc_LI_highest _ (22, [(0, .inr (.inr v0)), (1, .inl v1), (2, .inl v2), (3, .inl (max v3 (nn_ri M v0 v4))), (4, .inl v4)], [], M)
    refine mm_s1 rfl ?_
    show mm_Go (mm_run 0) mc_LI_highest _ (25, [(0, .inr (.inr v0)), (1, .inl v1), (2, .inl v2), (3, .inl (max v3 (nn_ri M v0 v4))), (4, .inl (mm_w (v4 + 1)))], [], M)
    refine mm_s1 rfl ?_
    show mm_Go (mm_run 0) mc_LI_highest _ (5, [(0, .inr (.inr v0)), (1, .inl v1), (2, .inl v2), (3, .inl (max v3 (nn_ri M v0 v4))), (4, .inl (mm_w (v4 + 1)))], [], M)
    exact nn_go_ext (nn_xc rfl (nn_xc rfl (nn_xc rfl (nn_xc rfl (nn_xc rfl nn_xn))))) (h n L N C0)
def nf_LI_isColumn (v0 : Int) : Int := (if v0 < 0 then 0 else (if 4 ≤ v0 then 0 else 1))
theorem nz_LI_isColumn (v0 : Int) : nf_LI_isColumn v0 = 0 ∨ nf_LI_isColumn v0 = 1 := by
  unfold nf_LI_isColumn
  repeat' split
  all_goals first | exact Or.inl rfl | exact Or.inr rfl
set_option maxRecDepth 20000 in
theorem np_LI_isColumn {v0 : Int} {M : mm_M} {n d : Nat} {P : mm_P} (hd : 1 ≤ d) (L : nn_L M) (N : M.1 = n)  (h : P (some (.inl (nf_LI_isColumn v0))) M) : mm_run d mi_LI_isColumn [.inl v0] M P := by
  have NN := nn_L_n L N
  unfold nf_LI_isColumn at h
  refine nn_run_le hd ?_
  show mm_Go (mm_run 0) mc_LI_isColumn _ (0, [(0, .inl v0)], [], M)
  refine mm_s1 rfl ?_
  refine mm_s1 rfl ⟨fun c1 => ?_, fun c1 => ?_⟩
  · show mm_Go (mm_run 0) mc_LI_isColumn _ (13, [(0, .inl v0)], [], M)
    rw [if_pos (show v0 < 0 from c1)] at h
    refine mm_s1 rfl ?_
    exact mm_s1 rfl ⟨(Or.inl rfl), h⟩
  · show mm_Go (mm_run 0) mc_LI_isColumn _ (4, [(0, .inl v0)], [], M)
    rw [if_neg (show ¬ (v0 < 0) from c1)] at h
    replace c1 := Int.not_lt.mp c1
    refine mm_s1 rfl ?_
    refine mm_s1 rfl ?_
    refine mm_s1 rfl ⟨fun c6 => ?_, fun c6 => ?_⟩
    · show mm_Go (mm_run 0) mc_LI_isColumn _ (13, [(0, .inl v0)], [], M)
      rw [if_pos (show 4 ≤ v0 from c6)] at h
      refine mm_s1 rfl ?_
      exact mm_s1 rfl ⟨(Or.inl rfl), h⟩
    · show mm_Go (mm_run 0) mc_LI_isColumn _ (9, [(0, .inl v0)], [], M)
      rw [if_neg (show ¬ (4 ≤ v0) from c6)] at h
      replace c6 := Int.not_le.mp c6
      refine mm_s1 rfl ?_
      refine mm_s1 rfl ?_
      show mm_Go (mm_run 0) mc_LI_isColumn _ (14, [(0, .inl v0)], [.inl 1], M)
      exact mm_s1 rfl ⟨(Or.inr rfl), h⟩
def nf_LI_isLoad (v0 : Int) : Int := (if v0 < 1 then 0 else (if 20 < v0 then 0 else 1))
theorem nz_LI_isLoad (v0 : Int) : nf_LI_isLoad v0 = 0 ∨ nf_LI_isLoad v0 = 1 := by
  unfold nf_LI_isLoad
  repeat' split
  all_goals first | exact Or.inl rfl | exact Or.inr rfl
set_option maxRecDepth 20000 in
theorem np_LI_isLoad {v0 : Int} {M : mm_M} {n d : Nat} {P : mm_P} (hd : 1 ≤ d) (L : nn_L M) (N : M.1 = n)  (h : P (some (.inl (nf_LI_isLoad v0))) M) : mm_run d mi_LI_isLoad [.inl v0] M P := by
  have NN := nn_L_n L N
  unfold nf_LI_isLoad at h
  refine nn_run_le hd ?_
  show mm_Go (mm_run 0) mc_LI_isLoad _ (0, [(0, .inl v0)], [], M)
  refine mm_s1 rfl ?_
  refine mm_s1 rfl ?_
  refine mm_s1 rfl ⟨fun c2 => ?_, fun c2 => ?_⟩
  · show mm_Go (mm_run 0) mc_LI_isLoad _ (15, [(0, .inl v0)], [], M)
    rw [if_pos (show v0 < 1 from c2)] at h
    refine mm_s1 rfl ?_
    exact mm_s1 rfl ⟨(Or.inl rfl), h⟩
  · show mm_Go (mm_run 0) mc_LI_isLoad _ (5, [(0, .inl v0)], [], M)
    rw [if_neg (show ¬ (v0 < 1) from c2)] at h
    replace c2 := Int.not_lt.mp c2
    refine mm_s1 rfl ?_
    refine mm_s1 rfl ?_
    refine mm_s1 rfl ⟨fun c8 => ?_, fun c8 => ?_⟩
    · show mm_Go (mm_run 0) mc_LI_isLoad _ (15, [(0, .inl v0)], [], M)
      rw [if_pos (show 20 < v0 from c8)] at h
      refine mm_s1 rfl ?_
      exact mm_s1 rfl ⟨(Or.inl rfl), h⟩
    · show mm_Go (mm_run 0) mc_LI_isLoad _ (11, [(0, .inl v0)], [], M)
      rw [if_neg (show ¬ (20 < v0) from c8)] at h
      replace c8 := Int.not_lt.mp c8
      refine mm_s1 rfl ?_
      refine mm_s1 rfl ?_
      show mm_Go (mm_run 0) mc_LI_isLoad _ (16, [(0, .inl v0)], [.inl 1], M)
      exact mm_s1 rfl ⟨(Or.inr rfl), h⟩
def nf_LI_areRuns (v0 : Int) (v1 : Int) (v2 : Int) : Int := (if v0 < 0 then 0 else (if v1 < 2 then 0 else (if v2 ≤ v0 then 0 else (if (mm_w (v2 - v0)) < v1 then 0 else 1))))
theorem nz_LI_areRuns (v0 : Int) (v1 : Int) (v2 : Int) : nf_LI_areRuns v0 v1 v2 = 0 ∨ nf_LI_areRuns v0 v1 v2 = 1 := by
  unfold nf_LI_areRuns
  repeat' split
  all_goals first | exact Or.inl rfl | exact Or.inr rfl
set_option maxRecDepth 20000 in
theorem np_LI_areRuns {v0 : Int} {v1 : Int} {v2 : Int} {M : mm_M} {n d : Nat} {P : mm_P} (hd : 1 ≤ d) (L : nn_L M) (N : M.1 = n)  (h : P (some (.inl (nf_LI_areRuns v0 v1 v2))) M) : mm_run d mi_LI_areRuns [.inl v0, .inl v1, .inl v2] M P := by
  have NN := nn_L_n L N
  unfold nf_LI_areRuns at h
  refine nn_run_le hd ?_
  show mm_Go (mm_run 0) mc_LI_areRuns _ (0, [(0, .inl v0), (1, .inl v1), (2, .inl v2)], [], M)
  refine mm_s1 rfl ?_
  refine mm_s1 rfl ⟨fun c1 => ?_, fun c1 => ?_⟩
  · show mm_Go (mm_run 0) mc_LI_areRuns _ (25, [(0, .inl v0), (1, .inl v1), (2, .inl v2)], [], M)
    rw [if_pos (show v0 < 0 from c1)] at h
    refine mm_s1 rfl ?_
    exact mm_s1 rfl ⟨(Or.inl rfl), h⟩
  · show mm_Go (mm_run 0) mc_LI_areRuns _ (4, [(0, .inl v0), (1, .inl v1), (2, .inl v2)], [], M)
    rw [if_neg (show ¬ (v0 < 0) from c1)] at h
    replace c1 := Int.not_lt.mp c1
    refine mm_s1 rfl ?_
    refine mm_s1 rfl ?_
    refine mm_s1 rfl ⟨fun c6 => ?_, fun c6 => ?_⟩
    · show mm_Go (mm_run 0) mc_LI_areRuns _ (25, [(0, .inl v0), (1, .inl v1), (2, .inl v2)], [], M)
      rw [if_pos (show v1 < 2 from c6)] at h
      refine mm_s1 rfl ?_
      exact mm_s1 rfl ⟨(Or.inl rfl), h⟩
    · show mm_Go (mm_run 0) mc_LI_areRuns _ (9, [(0, .inl v0), (1, .inl v1), (2, .inl v2)], [], M)
      rw [if_neg (show ¬ (v1 < 2) from c6)] at h
      replace c6 := Int.not_lt.mp c6
      refine mm_s1 rfl ?_
      refine mm_s1 rfl ?_
      refine mm_s1 rfl ⟨fun c11 => ?_, fun c11 => ?_⟩
      · show mm_Go (mm_run 0) mc_LI_areRuns _ (25, [(0, .inl v0), (1, .inl v1), (2, .inl v2)], [], M)
        rw [if_pos (show v2 ≤ v0 from c11)] at h
        refine mm_s1 rfl ?_
        exact mm_s1 rfl ⟨(Or.inl rfl), h⟩
      · show mm_Go (mm_run 0) mc_LI_areRuns _ (14, [(0, .inl v0), (1, .inl v1), (2, .inl v2)], [], M)
        rw [if_neg (show ¬ (v2 ≤ v0) from c11)] at h
        replace c11 := Int.not_le.mp c11
        refine mm_s1 rfl ?_
        refine mm_s1 rfl ?_
        refine mm_s1 rfl ?_
        refine mm_s1 rfl ?_
        refine mm_s1 rfl ⟨fun c18 => ?_, fun c18 => ?_⟩
        · show mm_Go (mm_run 0) mc_LI_areRuns _ (25, [(0, .inl v0), (1, .inl v1), (2, .inl v2)], [], M)
          rw [if_pos (show (mm_w (v2 - v0)) < v1 from c18)] at h
          refine mm_s1 rfl ?_
          exact mm_s1 rfl ⟨(Or.inl rfl), h⟩
        · show mm_Go (mm_run 0) mc_LI_areRuns _ (21, [(0, .inl v0), (1, .inl v1), (2, .inl v2)], [], M)
          rw [if_neg (show ¬ ((mm_w (v2 - v0)) < v1) from c18)] at h
          replace c18 := Int.not_lt.mp c18
          refine mm_s1 rfl ?_
          refine mm_s1 rfl ?_
          show mm_Go (mm_run 0) mc_LI_areRuns _ (26, [(0, .inl v0), (1, .inl v1), (2, .inl v2)], [.inl 1], M)
          exact mm_s1 rfl ⟨(Or.inr rfl), h⟩
def nf_LI_valueOf (v0 : Int) : Int := mm_w (mm_lushr v0 37)
set_option maxRecDepth 20000 in
theorem np_LI_valueOf {v0 : Int} {M : mm_M} {n d : Nat} {P : mm_P} (hd : 1 ≤ d) (L : nn_L M) (N : M.1 = n)  (h : P (some (.inl (nf_LI_valueOf v0))) M) : mm_run d mi_LI_valueOf [.inr (.inl v0)] M P := by
  have NN := nn_L_n L N
  unfold nf_LI_valueOf at h
  refine nn_run_le hd ?_
  show mm_Go (mm_run 0) mc_LI_valueOf _ (0, [(0, .inr (.inl v0))], [], M)
  refine mm_s1 rfl ?_
  refine mm_s1 rfl ?_
  refine mm_s1 rfl ?_
  refine mm_s1 rfl ?_
  exact mm_s1 rfl h
def nf_LI_keyOf (v0 : Int) : Int := mm_and (mm_w (mm_lushr v0 32)) 31
set_option maxRecDepth 20000 in
theorem np_LI_keyOf {v0 : Int} {M : mm_M} {n d : Nat} {P : mm_P} (hd : 1 ≤ d) (L : nn_L M) (N : M.1 = n)  (h : P (some (.inl (nf_LI_keyOf v0))) M) : mm_run d mi_LI_keyOf [.inr (.inl v0)] M P := by
  have NN := nn_L_n L N
  unfold nf_LI_keyOf at h
  refine nn_run_le hd ?_
  show mm_Go (mm_run 0) mc_LI_keyOf _ (0, [(0, .inr (.inl v0))], [], M)
  refine mm_s1 rfl ?_
  refine mm_s1 rfl ?_
  refine mm_s1 rfl ?_
  refine mm_s1 rfl ?_
  refine mm_s1 rfl ?_
  refine mm_s1 rfl ?_
  exact mm_s1 rfl h
def nf_LI_answered (v0 : Nat) (v1 : Int) (v2 : Int) (M : mm_M) : Int := (if v2 ≠ (-1) then (if v2 < 0 then (-2) else (if v1 ≤ v2 then (-2) else (if ((mm_kd v0).2 : Int) ≤ v2 then (-2) else nn_ri M v0 v2))) else v1)
def nc_LI_answered (v0 : Nat) (v1 : Int) (v2 : Int) (M : mm_M) : Prop := (v2 ≠ (-1) → (0 ≤ v2 → (v2 < v1 → (v2 < ((mm_kd v0).2 : Int) → ((0 : Int) ≤ v2 ∧ v2 < ((mm_kd v0).2 : Int))))))
set_option maxRecDepth 20000 in
theorem np_LI_answered {v0 : Nat} {v1 : Int} {v2 : Int} {M : mm_M} {n d : Nat} {P : mm_P} (hd : 1 ≤ d) (L : nn_L M) (N : M.1 = n) (C0 : nn_C 20 v0 n) (b : nc_LI_answered v0 v1 v2 M) (h : P (some (.inl (nf_LI_answered v0 v1 v2 M))) M) : mm_run d mi_LI_answered [.inr (.inr v0), .inl v1, .inl v2] M P := by
  have NN := nn_L_n L N
  unfold nc_LI_answered at b
  unfold nf_LI_answered at h
  refine nn_run_le hd ?_
  show mm_Go (mm_run 0) mc_LI_answered _ (0, [(0, .inr (.inr v0)), (1, .inl v1), (2, .inl v2)], [], M)
  refine mm_s1 rfl ?_
  refine mm_s1 rfl ?_
  refine mm_s1 rfl ⟨fun c2 => ?_, fun c2 => ?_⟩
  · show mm_Go (mm_run 0) mc_LI_answered _ (7, [(0, .inr (.inr v0)), (1, .inl v1), (2, .inl v2)], [], M)
    rw [if_pos (show v2 ≠ (-1) from c2)] at h
    replace b := b c2
    refine mm_s1 rfl ?_
    refine mm_s1 rfl ⟨fun c8 => ?_, fun c8 => ?_⟩
    · show mm_Go (mm_run 0) mc_LI_answered _ (28, [(0, .inr (.inr v0)), (1, .inl v1), (2, .inl v2)], [], M)
      rw [if_pos (show v2 < 0 from c8)] at h
      refine mm_s1 rfl ?_
      exact mm_s1 rfl h
    · show mm_Go (mm_run 0) mc_LI_answered _ (11, [(0, .inr (.inr v0)), (1, .inl v1), (2, .inl v2)], [], M)
      rw [if_neg (show ¬ (v2 < 0) from c8)] at h
      replace c8 := Int.not_lt.mp c8
      replace b := b c8
      refine mm_s1 rfl ?_
      refine mm_s1 rfl ?_
      refine mm_s1 rfl ⟨fun c13 => ?_, fun c13 => ?_⟩
      · show mm_Go (mm_run 0) mc_LI_answered _ (28, [(0, .inr (.inr v0)), (1, .inl v1), (2, .inl v2)], [], M)
        rw [if_pos (show v1 ≤ v2 from c13)] at h
        refine mm_s1 rfl ?_
        exact mm_s1 rfl h
      · show mm_Go (mm_run 0) mc_LI_answered _ (16, [(0, .inr (.inr v0)), (1, .inl v1), (2, .inl v2)], [], M)
        rw [if_neg (show ¬ (v1 ≤ v2) from c13)] at h
        replace c13 := Int.not_le.mp c13
        replace b := b c13
        refine mm_s1 rfl ?_
        refine mm_s1 rfl ?_
        refine mm_s1 rfl ⟨nn_ge20 C0.1 (by decide), ?_⟩
        show mm_Go (mm_run 0) mc_LI_answered _ (19, [(0, .inr (.inr v0)), (1, .inl v1), (2, .inl v2)], [.inl ((mm_kd v0).2 : Int), .inl v2], M)
        refine mm_s1 rfl ⟨fun c19 => ?_, fun c19 => ?_⟩
        · show mm_Go (mm_run 0) mc_LI_answered _ (28, [(0, .inr (.inr v0)), (1, .inl v1), (2, .inl v2)], [], M)
          rw [if_pos (show ((mm_kd v0).2 : Int) ≤ v2 from c19)] at h
          refine mm_s1 rfl ?_
          exact mm_s1 rfl h
        · show mm_Go (mm_run 0) mc_LI_answered _ (22, [(0, .inr (.inr v0)), (1, .inl v1), (2, .inl v2)], [], M)
          rw [if_neg (show ¬ (((mm_kd v0).2 : Int) ≤ v2) from c19)] at h
          replace c19 := Int.not_le.mp c19
          replace b := b c19
          refine mm_s1 rfl ?_
          refine mm_s1 rfl ?_
          have b24 := b
          refine mm_s1 rfl ⟨⟨C0.1, b24⟩, ?_⟩
          show mm_Go (mm_run 0) mc_LI_answered _ (25, [(0, .inr (.inr v0)), (1, .inl v1), (2, .inl v2)], [.inl (nn_ri M v0 v2)], M)
          refine mm_s1 rfl ?_
          show mm_Go (mm_run 0) mc_LI_answered _ (30, [(0, .inr (.inr v0)), (1, .inl v1), (2, .inl v2)], [.inl (nn_ri M v0 v2)], M)
          exact mm_s1 rfl h
  · show mm_Go (mm_run 0) mc_LI_answered _ (5, [(0, .inr (.inr v0)), (1, .inl v1), (2, .inl v2)], [], M)
    rw [if_neg (show ¬ (v2 ≠ (-1)) from c2)] at h
    replace c2 := Decidable.not_not.mp c2
    refine mm_s1 rfl ?_
    exact mm_s1 rfl h
def nr_LI_cost (v1 : Int) (M : mm_M) (R : Int → mm_M → Prop) : Prop := ∀ n, nn_L M → M.1 = n → mm_run 1 mi_LI_cost [.inr (.inr 1), .inl v1] M (nw_I n R)
set_option maxRecDepth 20000 in
theorem ng_LI_cost (v1 : Int) (M : mm_M) (R : Int → mm_M → Prop) (h : (((nn_rf M 89 0) ≠ 0 → ((v1 = 0 → R (nn_rf M 89 1) M) ∧ (v1 = 1 → R (nn_rf M 89 2) M) ∧ (v1 = 2 → R (nn_rf M 89 3) M) ∧ (v1 = 3 → R (nn_rf M 89 4) M) ∧ ((v1 < 0 ∨ 3 < v1) → R (-1) M))) ∧ ((nn_rf M 89 0) = 0 → R (-1) M))) : nr_LI_cost v1 M R := by
  intro n L N 
  have NN := nn_L_n L N
  show mm_Go (mm_run 0) mc_LI_cost _ (0, [(0, .inr (.inr 1)), (1, .inl v1)], [], M)
  refine mm_s1 rfl ?_
  refine nn_getr rfl (nn_c1 NN).1 (lf_1_0 L N (nn_c1 NN)) ?_
  refine nn_getr rfl (nc_1_0 NN (nn_c1 NN)).1 (lf_9_4 L N (nc_1_0 NN (nn_c1 NN))) ?_
  refine mm_s1 rfl ?_
  show mm_Go (mm_run 0) mc_LI_cost _ (8, [(0, .inr (.inr 1)), (1, .inl v1), (2, .inr (.inr 89))], [], M)
  refine mm_s1 rfl ?_
  refine mm_s1 rfl ⟨(nc_9_4 NN (nc_1_0 NN (nn_c1 NN))).1, ?_⟩
  show mm_Go (mm_run 0) mc_LI_cost _ (12, [(0, .inr (.inr 1)), (1, .inl v1), (2, .inr (.inr 89))], [.inl (nn_rf M 89 0)], M)
  refine mm_s1 rfl ⟨fun c12 => ?_, fun c12 => ?_⟩
  · show mm_Go (mm_run 0) mc_LI_cost _ (17, [(0, .inr (.inr 1)), (1, .inl v1), (2, .inr (.inr 89))], [], M)
    replace h := h.1 c12
    refine mm_s1 rfl ?_
    refine nn_sw rfl (by decide) (fun k hk hx => ?_) (fun c18 => ?_)
    · match k, hk, hx with
      | 0, _, hx =>
        have c18 : v1 = 0 := hx.trans (by decide)
        replace h := h.1 c18
        show mm_Go (mm_run 0) mc_LI_cost _ (48, [(0, .inr (.inr 1)), (1, .inl v1), (2, .inr (.inr 89))], [], M)
        refine mm_s1 rfl ?_
        refine mm_s1 rfl ⟨(nc_9_4 NN (nc_1_0 NN (nn_c1 NN))).1, ?_⟩
        show mm_Go (mm_run 0) mc_LI_cost _ (52, [(0, .inr (.inr 1)), (1, .inl v1), (2, .inr (.inr 89))], [.inl (nn_rf M 89 1)], M)
        exact mm_s1 rfl ⟨_, rfl, L, N, h⟩
      | 1, _, hx =>
        have c18 : v1 = 1 := hx.trans (by decide)
        replace h := h.2.1 c18
        show mm_Go (mm_run 0) mc_LI_cost _ (53, [(0, .inr (.inr 1)), (1, .inl v1), (2, .inr (.inr 89))], [], M)
        refine mm_s1 rfl ?_
        refine mm_s1 rfl ⟨(nc_9_4 NN (nc_1_0 NN (nn_c1 NN))).1, ?_⟩
        show mm_Go (mm_run 0) mc_LI_cost _ (57, [(0, .inr (.inr 1)), (1, .inl v1), (2, .inr (.inr 89))], [.inl (nn_rf M 89 2)], M)
        exact mm_s1 rfl ⟨_, rfl, L, N, h⟩
      | 2, _, hx =>
        have c18 : v1 = 2 := hx.trans (by decide)
        replace h := h.2.2.1 c18
        show mm_Go (mm_run 0) mc_LI_cost _ (58, [(0, .inr (.inr 1)), (1, .inl v1), (2, .inr (.inr 89))], [], M)
        refine mm_s1 rfl ?_
        refine mm_s1 rfl ⟨(nc_9_4 NN (nc_1_0 NN (nn_c1 NN))).1, ?_⟩
        show mm_Go (mm_run 0) mc_LI_cost _ (62, [(0, .inr (.inr 1)), (1, .inl v1), (2, .inr (.inr 89))], [.inl (nn_rf M 89 3)], M)
        exact mm_s1 rfl ⟨_, rfl, L, N, h⟩
      | 3, _, hx =>
        have c18 : v1 = 3 := hx.trans (by decide)
        replace h := h.2.2.2.1 c18
        show mm_Go (mm_run 0) mc_LI_cost _ (63, [(0, .inr (.inr 1)), (1, .inl v1), (2, .inr (.inr 89))], [], M)
        refine mm_s1 rfl ?_
        refine mm_s1 rfl ⟨(nc_9_4 NN (nc_1_0 NN (nn_c1 NN))).1, ?_⟩
        show mm_Go (mm_run 0) mc_LI_cost _ (67, [(0, .inr (.inr 1)), (1, .inl v1), (2, .inr (.inr 89))], [.inl (nn_rf M 89 4)], M)
        exact mm_s1 rfl ⟨_, rfl, L, N, h⟩
      | k + 4, hk, _ => exact absurd hk (by show ¬ (k + 4 < 4); omega)
    · replace h := h.2.2.2.2 c18
      show mm_Go (mm_run 0) mc_LI_cost _ (68, [(0, .inr (.inr 1)), (1, .inl v1), (2, .inr (.inr 89))], [], M)
      refine mm_s1 rfl ?_
      exact mm_s1 rfl ⟨_, rfl, L, N, h⟩
  · show mm_Go (mm_run 0) mc_LI_cost _ (15, [(0, .inr (.inr 1)), (1, .inl v1), (2, .inr (.inr 89))], [], M)
    replace c12 := Decidable.not_not.mp c12
    replace h := h.2 c12
    refine mm_s1 rfl ?_
    exact mm_s1 rfl ⟨_, rfl, L, N, h⟩
def nr_LI_isAmong (v0 : Nat) (v1 : Int) (v2 : Int) (M : mm_M) (R : Int → mm_M → Prop) : Prop := ∀ n, nn_L M → M.1 = n → nn_C 20 v0 n → mm_run 1 mi_LI_isAmong [.inr (.inr v0), .inl v1, .inl v2] M (nw_Z n R)
def nk_LI_isAmong_2 (v0 : Nat) (v1 : Int) (v2 : Int) (v3 : Int) (M : mm_M) (R : Int → mm_M → Prop) : Prop := ∀ n, nn_L M → M.1 = n → nn_C 20 v0 n → mm_Go (mm_run 0) mc_LI_isAmong (nw_Z n R) (2, [(0, .inr (.inr v0)), (1, .inl v1), (2, .inl v2), (3, .inl v3)], [], M)
set_option maxRecDepth 20000 in
theorem ng_LI_isAmong (v0 : Nat) (v1 : Int) (v2 : Int) (M : mm_M) (R : Int → mm_M → Prop) (h : nk_LI_isAmong_2 v0 v1 v2 0 M R) : nr_LI_isAmong v0 v1 v2 M R := by
  intro n L N C0
  have NN := nn_L_n L N
  show mm_Go (mm_run 0) mc_LI_isAmong _ (0, [(0, .inr (.inr v0)), (1, .inl v1), (2, .inl v2)], [], M)
  refine mm_s1 rfl ?_
  refine mm_s1 rfl ?_
  show mm_Go (mm_run 0) mc_LI_isAmong _ (2, [(0, .inr (.inr v0)), (1, .inl v1), (2, .inl v2), (3, .inl 0)], [], M)
  exact nn_go_ext (nn_xc rfl (nn_xc rfl (nn_xc rfl (nn_xc rfl nn_xn)))) (h n L N C0)
set_option maxRecDepth 20000 in
theorem ng_LI_isAmong_2 (v0 : Nat) (v1 : Int) (v2 : Int) (v3 : Int) (M : mm_M) (R : Int → mm_M → Prop) (h : ((v1 ≤ v3 → R 0 M) ∧ (v3 < v1 → (((0 : Int) ≤ v3 ∧ v3 < ((mm_kd v0).2 : Int)) ∧ (((nn_ri M v0 v3) ≠ v2 → nk_LI_isAmong_2 v0 v1 v2 (mm_w (v3 + 1)) M R) ∧ ((nn_ri M v0 v3) = v2 → R 1 M)))))) : nk_LI_isAmong_2 v0 v1 v2 v3 M R := by
  intro n L N C0
  have NN := nn_L_n L N
  show mm_Go (mm_run 0) mc_LI_isAmong _ (2, [(0, .inr (.inr v0)), (1, .inl v1), (2, .inl v2), (3, .inl v3)], [], M)
  refine mm_s1 rfl ?_
  refine mm_s1 rfl ?_
  refine mm_s1 rfl ⟨fun c4 => ?_, fun c4 => ?_⟩
  · show mm_Go (mm_run 0) mc_LI_isAmong _ (22, [(0, .inr (.inr v0)), (1, .inl v1), (2, .inl v2), (3, .inl v3)], [], M)
    replace h := h.1 c4
    refine mm_s1 rfl ?_
    exact mm_s1 rfl ⟨(Or.inl rfl), _, rfl, (Or.inl rfl), L, N, h⟩
  · show mm_Go (mm_run 0) mc_LI_isAmong _ (7, [(0, .inr (.inr v0)), (1, .inl v1), (2, .inl v2), (3, .inl v3)], [], M)
    replace c4 := Int.not_le.mp c4
    replace h := h.2 c4
    refine mm_s1 rfl ?_
    refine mm_s1 rfl ?_
    obtain ⟨b9, h⟩ := h
    refine mm_s1 rfl ⟨⟨C0.1, b9⟩, ?_⟩
    show mm_Go (mm_run 0) mc_LI_isAmong _ (10, [(0, .inr (.inr v0)), (1, .inl v1), (2, .inl v2), (3, .inl v3)], [.inl (nn_ri M v0 v3)], M)
    refine mm_s1 rfl ?_
    refine mm_s1 rfl ⟨fun c11 => ?_, fun c11 => ?_⟩
    · show mm_Go (mm_run 0) mc_LI_isAmong _ (16, [(0, .inr (.inr v0)), (1, .inl v1), (2, .inl v2), (3, .inl v3)], [], M)
      replace h := h.1 c11
      refine mm_s1 rfl ?_
      show mm_Go (mm_run 0) mc_LI_isAmong _ (19, [(0, .inr (.inr v0)), (1, .inl v1), (2, .inl v2), (3, .inl (mm_w (v3 + 1)))], [], M)
      refine mm_s1 rfl ?_
      show mm_Go (mm_run 0) mc_LI_isAmong _ (2, [(0, .inr (.inr v0)), (1, .inl v1), (2, .inl v2), (3, .inl (mm_w (v3 + 1)))], [], M)
      exact nn_go_ext (nn_xc rfl (nn_xc rfl (nn_xc rfl (nn_xc rfl nn_xn)))) (h n L N C0)
    · show mm_Go (mm_run 0) mc_LI_isAmong _ (14, [(0, .inr (.inr v0)), (1, .inl v1), (2, .inl v2), (3, .inl v3)], [], M)
      replace c11 := Decidable.not_not.mp c11
      replace h := h.2 c11
      refine mm_s1 rfl ?_
      exact mm_s1 rfl ⟨(Or.inr rfl), _, rfl, (Or.inr rfl), L, N, h⟩
def nf_LI_stampOf (v0 : Int) : Int := mm_w v0
set_option maxRecDepth 20000 in
theorem np_LI_stampOf {v0 : Int} {M : mm_M} {n d : Nat} {P : mm_P} (hd : 1 ≤ d) (L : nn_L M) (N : M.1 = n)  (h : P (some (.inl (nf_LI_stampOf v0))) M) : mm_run d mi_LI_stampOf [.inr (.inl v0)] M P := by
  have NN := nn_L_n L N
  unfold nf_LI_stampOf at h
  refine nn_run_le hd ?_
  show mm_Go (mm_run 0) mc_LI_stampOf _ (0, [(0, .inr (.inl v0))], [], M)
  refine mm_s1 rfl ?_
  refine mm_s1 rfl ?_
  exact mm_s1 rfl h
def nf_LI_why (v1 : Int) (v2 : Int) (M : mm_M) : Int := (if v1 < 0 then (-1) else (if 2 < v1 then (-1) else (if v2 < 0 then (-1) else (if v2 ≤ 1 then nn_ri M 90 (mm_w ((mm_w (2 * v1)) + v2)) else (-1)))))
def nc_LI_why (v1 : Int) (v2 : Int) (M : mm_M) : Prop := (0 ≤ v1 → (v1 ≤ 2 → (0 ≤ v2 → (v2 ≤ 1 → ((0 : Int) ≤ (mm_w ((mm_w (2 * v1)) + v2)) ∧ (mm_w ((mm_w (2 * v1)) + v2)) < (6 : Int))))))
set_option maxRecDepth 20000 in
theorem np_LI_why {v1 : Int} {v2 : Int} {M : mm_M} {n d : Nat} {P : mm_P} (hd : 1 ≤ d) (L : nn_L M) (N : M.1 = n)  (b : nc_LI_why v1 v2 M) (h : P (some (.inl (nf_LI_why v1 v2 M))) M) : mm_run d mi_LI_why [.inr (.inr 1), .inl v1, .inl v2] M P := by
  have NN := nn_L_n L N
  unfold nc_LI_why at b
  unfold nf_LI_why at h
  refine nn_run_le hd ?_
  show mm_Go (mm_run 0) mc_LI_why _ (0, [(0, .inr (.inr 1)), (1, .inl v1), (2, .inl v2)], [], M)
  refine mm_s1 rfl ?_
  refine mm_s1 rfl ⟨fun c1 => ?_, fun c1 => ?_⟩
  · show mm_Go (mm_run 0) mc_LI_why _ (18, [(0, .inr (.inr 1)), (1, .inl v1), (2, .inl v2)], [], M)
    rw [if_pos (show v1 < 0 from c1)] at h
    refine mm_s1 rfl ?_
    exact mm_s1 rfl h
  · show mm_Go (mm_run 0) mc_LI_why _ (4, [(0, .inr (.inr 1)), (1, .inl v1), (2, .inl v2)], [], M)
    rw [if_neg (show ¬ (v1 < 0) from c1)] at h
    replace c1 := Int.not_lt.mp c1
    replace b := b c1
    refine mm_s1 rfl ?_
    refine mm_s1 rfl ?_
    refine mm_s1 rfl ⟨fun c6 => ?_, fun c6 => ?_⟩
    · show mm_Go (mm_run 0) mc_LI_why _ (18, [(0, .inr (.inr 1)), (1, .inl v1), (2, .inl v2)], [], M)
      rw [if_pos (show 2 < v1 from c6)] at h
      refine mm_s1 rfl ?_
      exact mm_s1 rfl h
    · show mm_Go (mm_run 0) mc_LI_why _ (9, [(0, .inr (.inr 1)), (1, .inl v1), (2, .inl v2)], [], M)
      rw [if_neg (show ¬ (2 < v1) from c6)] at h
      replace c6 := Int.not_lt.mp c6
      replace b := b c6
      refine mm_s1 rfl ?_
      refine mm_s1 rfl ⟨fun c10 => ?_, fun c10 => ?_⟩
      · show mm_Go (mm_run 0) mc_LI_why _ (18, [(0, .inr (.inr 1)), (1, .inl v1), (2, .inl v2)], [], M)
        rw [if_pos (show v2 < 0 from c10)] at h
        refine mm_s1 rfl ?_
        exact mm_s1 rfl h
      · show mm_Go (mm_run 0) mc_LI_why _ (13, [(0, .inr (.inr 1)), (1, .inl v1), (2, .inl v2)], [], M)
        rw [if_neg (show ¬ (v2 < 0) from c10)] at h
        replace c10 := Int.not_lt.mp c10
        replace b := b c10
        refine mm_s1 rfl ?_
        refine mm_s1 rfl ?_
        refine mm_s1 rfl ⟨fun c15 => ?_, fun c15 => ?_⟩
        · show mm_Go (mm_run 0) mc_LI_why _ (20, [(0, .inr (.inr 1)), (1, .inl v1), (2, .inl v2)], [], M)
          rw [if_pos (show v2 ≤ 1 from c15)] at h
          replace b := b c15
          refine mm_s1 rfl ?_
          refine nn_getr rfl (nn_c1 NN).1 (lf_1_0 L N (nn_c1 NN)) ?_
          refine nn_getr rfl (nc_1_0 NN (nn_c1 NN)).1 (lf_9_5 L N (nc_1_0 NN (nn_c1 NN))) ?_
          refine mm_s1 rfl ?_
          refine mm_s1 rfl ?_
          refine mm_s1 rfl ?_
          refine mm_s1 rfl ?_
          refine mm_s1 rfl ?_
          have b32 := b
          refine mm_s1 rfl ⟨nn_bd (na_9_5 NN (nc_1_0 NN (nn_c1 NN))) b32, ?_⟩
          show mm_Go (mm_run 0) mc_LI_why _ (33, [(0, .inr (.inr 1)), (1, .inl v1), (2, .inl v2)], [.inl (nn_ri M 90 (mm_w ((mm_w (2 * v1)) + v2)))], M)
          exact mm_s1 rfl h
        · show mm_Go (mm_run 0) mc_LI_why _ (18, [(0, .inr (.inr 1)), (1, .inl v1), (2, .inl v2)], [], M)
          rw [if_neg (show ¬ (v2 ≤ 1) from c15)] at h
          replace c15 := Int.not_le.mp c15
          refine mm_s1 rfl ?_
          exact mm_s1 rfl h
def nr_Cost_copy (v0 : Nat) (v1 : Nat) (M : mm_M) (R : mm_M → Prop) : Prop := ∀ n, nn_L M → M.1 = n → nn_C 2 v0 n → nn_C 2 v1 n → mm_run 1 mi_Cost_copy [.inr (.inr v0), .inr (.inr v1)] M (nw_V n R)
set_option maxRecDepth 20000 in
theorem ng_Cost_copy (v0 : Nat) (v1 : Nat) (M : mm_M) (R : mm_M → Prop) (h : (((nn_rf M v1 0) = 0 ∨ (nn_rf M v1 0) = 1) ∧ (∀ M5 : mm_M, M5 = nn_uf M v0 0 (nn_rf M v1 0) → (∀ M13 : mm_M, M13 = nn_uf M5 v0 1 (nn_rf M5 v1 1) → (∀ M21 : mm_M, M21 = nn_uf M13 v0 2 (nn_rf M13 v1 2) → (∀ M29 : mm_M, M29 = nn_uf M21 v0 3 (nn_rf M21 v1 3) → (∀ M37 : mm_M, M37 = nn_uf M29 v0 4 (nn_rf M29 v1 4) → R M37))))))) : nr_Cost_copy v0 v1 M R := by
  intro n L N C0 C1
  have NN := nn_L_n L N
  show mm_Go (mm_run 0) mc_Cost_copy _ (0, [(0, .inr (.inr v0)), (1, .inr (.inr v1))], [], M)
  refine mm_s1 rfl ?_
  refine mm_s1 rfl ?_
  refine mm_s1 rfl ⟨C1.1, ?_⟩
  show mm_Go (mm_run 0) mc_Cost_copy _ (5, [(0, .inr (.inr v0)), (1, .inr (.inr v1))], [.inl (nn_rf M v1 0), .inr (.inr v0)], M)
  obtain ⟨b5, h⟩ := h
  refine mm_s1 rfl ⟨⟨C0.1, b5⟩, ?_⟩
  show mm_Go (mm_run 0) mc_Cost_copy _ (8, [(0, .inr (.inr v0)), (1, .inr (.inr v1))], [], (nn_uf M v0 0 (nn_rf M v1 0)))
  have L : nn_L (nn_uf M v0 0 (nn_rf M v1 0)) := nn_L_up L C0.1 rfl
  have N : (nn_uf M v0 0 (nn_rf M v1 0)).1 = n := N
  generalize e_M5 : (nn_uf M v0 0 (nn_rf M v1 0)) = M5 at L N ⊢
  replace h := h _ e_M5.symm
  show mm_Go (mm_run 0) mc_Cost_copy _ (8, [(0, .inr (.inr v0)), (1, .inr (.inr v1))], [], M5)
  refine mm_s1 rfl ?_
  refine mm_s1 rfl ?_
  refine mm_s1 rfl ⟨C1.1, ?_⟩
  show mm_Go (mm_run 0) mc_Cost_copy _ (13, [(0, .inr (.inr v0)), (1, .inr (.inr v1))], [.inl (nn_rf M5 v1 1), .inr (.inr v0)], M5)
  refine mm_s1 rfl ⟨C0.1, ?_⟩
  show mm_Go (mm_run 0) mc_Cost_copy _ (16, [(0, .inr (.inr v0)), (1, .inr (.inr v1))], [], (nn_uf M5 v0 1 (nn_rf M5 v1 1)))
  have L : nn_L (nn_uf M5 v0 1 (nn_rf M5 v1 1)) := nn_L_up L C0.1 rfl
  have N : (nn_uf M5 v0 1 (nn_rf M5 v1 1)).1 = n := N
  generalize e_M13 : (nn_uf M5 v0 1 (nn_rf M5 v1 1)) = M13 at L N ⊢
  replace h := h _ e_M13.symm
  show mm_Go (mm_run 0) mc_Cost_copy _ (16, [(0, .inr (.inr v0)), (1, .inr (.inr v1))], [], M13)
  refine mm_s1 rfl ?_
  refine mm_s1 rfl ?_
  refine mm_s1 rfl ⟨C1.1, ?_⟩
  show mm_Go (mm_run 0) mc_Cost_copy _ (21, [(0, .inr (.inr v0)), (1, .inr (.inr v1))], [.inl (nn_rf M13 v1 2), .inr (.inr v0)], M13)
  refine mm_s1 rfl ⟨C0.1, ?_⟩
  show mm_Go (mm_run 0) mc_Cost_copy _ (24, [(0, .inr (.inr v0)), (1, .inr (.inr v1))], [], (nn_uf M13 v0 2 (nn_rf M13 v1 2)))
  have L : nn_L (nn_uf M13 v0 2 (nn_rf M13 v1 2)) := nn_L_up L C0.1 rfl
  have N : (nn_uf M13 v0 2 (nn_rf M13 v1 2)).1 = n := N
  generalize e_M21 : (nn_uf M13 v0 2 (nn_rf M13 v1 2)) = M21 at L N ⊢
  replace h := h _ e_M21.symm
  show mm_Go (mm_run 0) mc_Cost_copy _ (24, [(0, .inr (.inr v0)), (1, .inr (.inr v1))], [], M21)
  refine mm_s1 rfl ?_
  refine mm_s1 rfl ?_
  refine mm_s1 rfl ⟨C1.1, ?_⟩
  show mm_Go (mm_run 0) mc_Cost_copy _ (29, [(0, .inr (.inr v0)), (1, .inr (.inr v1))], [.inl (nn_rf M21 v1 3), .inr (.inr v0)], M21)
  refine mm_s1 rfl ⟨C0.1, ?_⟩
  show mm_Go (mm_run 0) mc_Cost_copy _ (32, [(0, .inr (.inr v0)), (1, .inr (.inr v1))], [], (nn_uf M21 v0 3 (nn_rf M21 v1 3)))
  have L : nn_L (nn_uf M21 v0 3 (nn_rf M21 v1 3)) := nn_L_up L C0.1 rfl
  have N : (nn_uf M21 v0 3 (nn_rf M21 v1 3)).1 = n := N
  generalize e_M29 : (nn_uf M21 v0 3 (nn_rf M21 v1 3)) = M29 at L N ⊢
  replace h := h _ e_M29.symm
  show mm_Go (mm_run 0) mc_Cost_copy _ (32, [(0, .inr (.inr v0)), (1, .inr (.inr v1))], [], M29)
  refine mm_s1 rfl ?_
  refine mm_s1 rfl ?_
  refine mm_s1 rfl ⟨C1.1, ?_⟩
  show mm_Go (mm_run 0) mc_Cost_copy _ (37, [(0, .inr (.inr v0)), (1, .inr (.inr v1))], [.inl (nn_rf M29 v1 4), .inr (.inr v0)], M29)
  refine mm_s1 rfl ⟨C0.1, ?_⟩
  show mm_Go (mm_run 0) mc_Cost_copy _ (40, [(0, .inr (.inr v0)), (1, .inr (.inr v1))], [], (nn_uf M29 v0 4 (nn_rf M29 v1 4)))
  have L : nn_L (nn_uf M29 v0 4 (nn_rf M29 v1 4)) := nn_L_up L C0.1 rfl
  have N : (nn_uf M29 v0 4 (nn_rf M29 v1 4)).1 = n := N
  generalize e_M37 : (nn_uf M29 v0 4 (nn_rf M29 v1 4)) = M37 at L N ⊢
  replace h := h _ e_M37.symm
  show mm_Go (mm_run 0) mc_Cost_copy _ (40, [(0, .inr (.inr v0)), (1, .inr (.inr v1))], [], M37)
  exact mm_s1 rfl ⟨rfl, L, N, h⟩
def nr_Cursor_begin (v0 : Nat) (v1 : Nat) (v2 : Int) (M : mm_M) (R : mm_M → Prop) : Prop := ∀ n, nn_L M → M.1 = n → nn_C 3 v0 n → nn_C 20 v1 n → mm_run 1 mi_Cursor_begin [.inr (.inr v0), .inr (.inr v1), .inl v2] M (nw_V n R)
set_option maxRecDepth 20000 in
theorem ng_Cursor_begin (v0 : Nat) (v1 : Nat) (v2 : Int) (M : mm_M) (R : mm_M → Prop) (h : (∀ M2 : mm_M, M2 = nn_uf M v0 2 1 → (∀ M7 : mm_M, M7 = nn_uf M2 v0 3 v2 → (∀ M12 : mm_M, M12 = nn_uf M7 v0 4 0 → (∀ M17 : mm_M, M17 = nn_uf M12 v0 5 0 → (((0 : Int) ≤ 0 ∧ (0 : Int) ≤ 0 ∧ (0 : Int) ≤ v2 ∧ (0 : Int) + v2 ≤ ((mm_kd v1).2 : Int) ∧ (0 : Int) + v2 ≤ 32) ∧ (∀ M28 : mm_M, M28 = mm_cp M17 v1 0 (v0 + 1) 0 v2 → R M28))))))) : nr_Cursor_begin v0 v1 v2 M R := by
  intro n L N C0 C1
  have NN := nn_L_n L N
  show mm_Go (mm_run 0) mc_Cursor_begin _ (0, [(0, .inr (.inr v0)), (1, .inr (.inr v1)), (2, .inl v2)], [], M)
  refine mm_s1 rfl ?_
  refine mm_s1 rfl ?_
  refine mm_s1 rfl ⟨⟨C0.1, (Or.inr rfl)⟩, ?_⟩
  show mm_Go (mm_run 0) mc_Cursor_begin _ (5, [(0, .inr (.inr v0)), (1, .inr (.inr v1)), (2, .inl v2)], [], (nn_uf M v0 2 1))
  have L : nn_L (nn_uf M v0 2 1) := nn_L_up L C0.1 rfl
  have N : (nn_uf M v0 2 1).1 = n := N
  generalize e_M2 : (nn_uf M v0 2 1) = M2 at L N ⊢
  replace h := h _ e_M2.symm
  show mm_Go (mm_run 0) mc_Cursor_begin _ (5, [(0, .inr (.inr v0)), (1, .inr (.inr v1)), (2, .inl v2)], [], M2)
  refine mm_s1 rfl ?_
  refine mm_s1 rfl ?_
  refine mm_s1 rfl ⟨C0.1, ?_⟩
  show mm_Go (mm_run 0) mc_Cursor_begin _ (10, [(0, .inr (.inr v0)), (1, .inr (.inr v1)), (2, .inl v2)], [], (nn_uf M2 v0 3 v2))
  have L : nn_L (nn_uf M2 v0 3 v2) := nn_L_up L C0.1 rfl
  have N : (nn_uf M2 v0 3 v2).1 = n := N
  generalize e_M7 : (nn_uf M2 v0 3 v2) = M7 at L N ⊢
  replace h := h _ e_M7.symm
  show mm_Go (mm_run 0) mc_Cursor_begin _ (10, [(0, .inr (.inr v0)), (1, .inr (.inr v1)), (2, .inl v2)], [], M7)
  refine mm_s1 rfl ?_
  refine mm_s1 rfl ?_
  refine mm_s1 rfl ⟨C0.1, ?_⟩
  show mm_Go (mm_run 0) mc_Cursor_begin _ (15, [(0, .inr (.inr v0)), (1, .inr (.inr v1)), (2, .inl v2)], [], (nn_uf M7 v0 4 0))
  have L : nn_L (nn_uf M7 v0 4 0) := nn_L_up L C0.1 rfl
  have N : (nn_uf M7 v0 4 0).1 = n := N
  generalize e_M12 : (nn_uf M7 v0 4 0) = M12 at L N ⊢
  replace h := h _ e_M12.symm
  show mm_Go (mm_run 0) mc_Cursor_begin _ (15, [(0, .inr (.inr v0)), (1, .inr (.inr v1)), (2, .inl v2)], [], M12)
  refine mm_s1 rfl ?_
  refine mm_s1 rfl ?_
  refine mm_s1 rfl ⟨C0.1, ?_⟩
  show mm_Go (mm_run 0) mc_Cursor_begin _ (20, [(0, .inr (.inr v0)), (1, .inr (.inr v1)), (2, .inl v2)], [], (nn_uf M12 v0 5 0))
  have L : nn_L (nn_uf M12 v0 5 0) := nn_L_up L C0.1 rfl
  have N : (nn_uf M12 v0 5 0).1 = n := N
  generalize e_M17 : (nn_uf M12 v0 5 0) = M17 at L N ⊢
  replace h := h _ e_M17.symm
  show mm_Go (mm_run 0) mc_Cursor_begin _ (20, [(0, .inr (.inr v0)), (1, .inr (.inr v1)), (2, .inl v2)], [], M17)
  refine mm_s1 rfl ?_
  refine mm_s1 rfl ?_
  refine mm_s1 rfl ?_
  refine nn_getr rfl C0.1 (lf_3_0 L N C0) ?_
  refine mm_s1 rfl ?_
  show mm_Go (mm_run 0) mc_Cursor_begin _ (27, [(0, .inr (.inr v0)), (1, .inr (.inr v1)), (2, .inl v2)], [.inl 0, .inr (.inr (v0 + 1)), .inl 0, .inr (.inr v1)], M17)
  refine mm_s1 rfl ?_
  obtain ⟨b28, h⟩ := h
  refine mm_s1 rfl ⟨nn_ac C1.1 (nc_3_0 NN C0).1 (by decide) rfl (congrArg (fun q : Nat × Nat => ((q.2 : Nat) : Int)) (na_3_0 NN C0)) b28, ?_⟩
  show mm_Go (mm_run 0) mc_Cursor_begin _ (31, [(0, .inr (.inr v0)), (1, .inr (.inr v1)), (2, .inl v2)], [], (mm_cp M17 v1 0 (v0 + 1) 0 v2))
  have L : nn_L (mm_cp M17 v1 0 (v0 + 1) 0 v2) := nn_L_cp L (nc_3_0 NN C0).1 (by decide)
  have N : (mm_cp M17 v1 0 (v0 + 1) 0 v2).1 = n := N
  generalize e_M28 : (mm_cp M17 v1 0 (v0 + 1) 0 v2) = M28 at L N ⊢
  replace h := h _ e_M28.symm
  show mm_Go (mm_run 0) mc_Cursor_begin _ (31, [(0, .inr (.inr v0)), (1, .inr (.inr v1)), (2, .inl v2)], [], M28)
  exact mm_s1 rfl ⟨rfl, L, N, h⟩
def nr_Cursor_hold (v0 : Nat) (v1 : Nat) (v2 : Int) (M : mm_M) (R : mm_M → Prop) : Prop := ∀ n, nn_L M → M.1 = n → nn_C 3 v0 n → nn_C 20 v1 n → mm_run 1 mi_Cursor_hold [.inr (.inr v0), .inr (.inr v1), .inl v2] M (nw_V n R)
set_option maxRecDepth 20000 in
theorem ng_Cursor_hold (v0 : Nat) (v1 : Nat) (v2 : Int) (M : mm_M) (R : mm_M → Prop) (h : (∀ x3_14 : Int, x3_14 = min v2 (mm_w (48 - (nn_rf M v0 5))) → (((0 : Int) ≤ 0 ∧ (0 : Int) ≤ (nn_rf M v0 5) ∧ (0 : Int) ≤ x3_14 ∧ (0 : Int) + x3_14 ≤ ((mm_kd v1).2 : Int) ∧ ((nn_rf M v0 5) : Int) + x3_14 ≤ 48) ∧ (∀ M26 : mm_M, M26 = mm_cp M v1 0 (v0 + 2) (nn_rf M v0 5) x3_14 → (∀ M36 : mm_M, M36 = nn_uf M26 v0 5 (mm_w ((nn_rf M26 v0 5) + x3_14)) → R M36))))) : nr_Cursor_hold v0 v1 v2 M R := by
  intro n L N C0 C1
  have NN := nn_L_n L N
  show mm_Go (mm_run 0) mc_Cursor_hold _ (0, [(0, .inr (.inr v0)), (1, .inr (.inr v1)), (2, .inl v2)], [], M)
  refine mm_s1 rfl ?_
  refine mm_s1 rfl ?_
  refine nn_getr rfl C0.1 (lf_3_1 L N C0) ?_
  refine nn_alen rfl (na_3_1 NN C0) (by decide) ?_
  show mm_Go (mm_run 0) mc_Cursor_hold _ (6, [(0, .inr (.inr v0)), (1, .inr (.inr v1)), (2, .inl v2)], [.inl 48, .inl v2], M)
  refine mm_s1 rfl ?_
  refine mm_s1 rfl ⟨C0.1, ?_⟩
  show mm_Go (mm_run 0) mc_Cursor_hold _ (10, [(0, .inr (.inr v0)), (1, .inr (.inr v1)), (2, .inl v2)], [.inl (nn_rf M v0 5), .inl 48, .inl v2], M)
  refine mm_s1 rfl ?_
  refine mm_s1 rfl ?_
  refine mm_s1 rfl ?_
  show mm_Go (mm_run 0) mc_Cursor_hold _ (15, [(0, .inr (.inr v0)), (1, .inr (.inr v1)), (2, .inl v2), (3, .inl (min v2 (mm_w (48 - (nn_rf M v0 5)))))], [], M)
  generalize e_x3_14 : (min v2 (mm_w (48 - (nn_rf M v0 5)))) = x3_14
  replace h := h _ e_x3_14.symm
  show mm_Go (mm_run 0) mc_Cursor_hold _ (15, [(0, .inr (.inr v0)), (1, .inr (.inr v1)), (2, .inl v2), (3, .inl x3_14)], [], M)
  refine mm_s1 rfl ?_
  refine mm_s1 rfl ?_
  refine mm_s1 rfl ?_
  refine nn_getr rfl C0.1 (lf_3_1 L N C0) ?_
  refine mm_s1 rfl ?_
  show mm_Go (mm_run 0) mc_Cursor_hold _ (22, [(0, .inr (.inr v0)), (1, .inr (.inr v1)), (2, .inl v2), (3, .inl x3_14)], [.inr (.inr v0), .inr (.inr (v0 + 2)), .inl 0, .inr (.inr v1)], M)
  refine mm_s1 rfl ⟨C0.1, ?_⟩
  show mm_Go (mm_run 0) mc_Cursor_hold _ (25, [(0, .inr (.inr v0)), (1, .inr (.inr v1)), (2, .inl v2), (3, .inl x3_14)], [.inl (nn_rf M v0 5), .inr (.inr (v0 + 2)), .inl 0, .inr (.inr v1)], M)
  refine mm_s1 rfl ?_
  obtain ⟨b26, h⟩ := h
  refine mm_s1 rfl ⟨nn_ac C1.1 (nc_3_1 NN C0).1 (by decide) rfl (congrArg (fun q : Nat × Nat => ((q.2 : Nat) : Int)) (na_3_1 NN C0)) b26, ?_⟩
  show mm_Go (mm_run 0) mc_Cursor_hold _ (29, [(0, .inr (.inr v0)), (1, .inr (.inr v1)), (2, .inl v2), (3, .inl x3_14)], [], (mm_cp M v1 0 (v0 + 2) (nn_rf M v0 5) x3_14))
  have L : nn_L (mm_cp M v1 0 (v0 + 2) (nn_rf M v0 5) x3_14) := nn_L_cp L (nc_3_1 NN C0).1 (by decide)
  have N : (mm_cp M v1 0 (v0 + 2) (nn_rf M v0 5) x3_14).1 = n := N
  generalize e_M26 : (mm_cp M v1 0 (v0 + 2) (nn_rf M v0 5) x3_14) = M26 at L N ⊢
  replace h := h _ e_M26.symm
  show mm_Go (mm_run 0) mc_Cursor_hold _ (29, [(0, .inr (.inr v0)), (1, .inr (.inr v1)), (2, .inl v2), (3, .inl x3_14)], [], M26)
  refine mm_s1 rfl ?_
  refine mm_s1 rfl ?_
  refine mm_s1 rfl ⟨C0.1, ?_⟩
  show mm_Go (mm_run 0) mc_Cursor_hold _ (34, [(0, .inr (.inr v0)), (1, .inr (.inr v1)), (2, .inl v2), (3, .inl x3_14)], [.inl (nn_rf M26 v0 5), .inr (.inr v0)], M26)
  refine mm_s1 rfl ?_
  refine mm_s1 rfl ?_
  refine mm_s1 rfl ⟨C0.1, ?_⟩
  show mm_Go (mm_run 0) mc_Cursor_hold _ (39, [(0, .inr (.inr v0)), (1, .inr (.inr v1)), (2, .inl v2), (3, .inl x3_14)], [], (nn_uf M26 v0 5 (mm_w ((nn_rf M26 v0 5) + x3_14))))
  have L : nn_L (nn_uf M26 v0 5 (mm_w ((nn_rf M26 v0 5) + x3_14))) := nn_L_up L C0.1 rfl
  have N : (nn_uf M26 v0 5 (mm_w ((nn_rf M26 v0 5) + x3_14))).1 = n := N
  generalize e_M36 : (nn_uf M26 v0 5 (mm_w ((nn_rf M26 v0 5) + x3_14))) = M36 at L N ⊢
  replace h := h _ e_M36.symm
  show mm_Go (mm_run 0) mc_Cursor_hold _ (39, [(0, .inr (.inr v0)), (1, .inr (.inr v1)), (2, .inl v2), (3, .inl x3_14)], [], M36)
  exact mm_s1 rfl ⟨rfl, L, N, h⟩
def nr_Cursor_copy (v0 : Nat) (v1 : Nat) (M : mm_M) (R : mm_M → Prop) : Prop := ∀ n, nn_L M → M.1 = n → nn_C 3 v0 n → nn_C 3 v1 n → mm_run 1 mi_Cursor_copy [.inr (.inr v0), .inr (.inr v1)] M (nw_V n R)
set_option maxRecDepth 20000 in
theorem ng_Cursor_copy (v0 : Nat) (v1 : Nat) (M : mm_M) (R : mm_M → Prop) (h : (((nn_rf M v1 2) = 0 ∨ (nn_rf M v1 2) = 1) ∧ (∀ M5 : mm_M, M5 = nn_uf M v0 2 (nn_rf M v1 2) → (∀ M13 : mm_M, M13 = nn_uf M5 v0 3 (nn_rf M5 v1 3) → (∀ M21 : mm_M, M21 = nn_uf M13 v0 4 (nn_rf M13 v1 4) → (∀ M29 : mm_M, M29 = nn_uf M21 v0 5 (nn_rf M21 v1 5) → (((0 : Int) ≤ 0 ∧ (0 : Int) ≤ 0 ∧ (0 : Int) ≤ (nn_rf M29 v0 3) ∧ (0 : Int) + (nn_rf M29 v0 3) ≤ 32 ∧ (0 : Int) + (nn_rf M29 v0 3) ≤ 32) ∧ (∀ M46 : mm_M, M46 = mm_cp M29 (v1 + 1) 0 (v0 + 1) 0 (nn_rf M29 v0 3) → (((0 : Int) ≤ 0 ∧ (0 : Int) ≤ 0 ∧ (0 : Int) ≤ (nn_rf M46 v0 5) ∧ (0 : Int) + (nn_rf M46 v0 5) ≤ 48 ∧ (0 : Int) + (nn_rf M46 v0 5) ≤ 48) ∧ (∀ M63 : mm_M, M63 = mm_cp M46 (v1 + 2) 0 (v0 + 2) 0 (nn_rf M46 v0 5) → R M63)))))))))) : nr_Cursor_copy v0 v1 M R := by
  intro n L N C0 C1
  have NN := nn_L_n L N
  show mm_Go (mm_run 0) mc_Cursor_copy _ (0, [(0, .inr (.inr v0)), (1, .inr (.inr v1))], [], M)
  refine mm_s1 rfl ?_
  refine mm_s1 rfl ?_
  refine mm_s1 rfl ⟨C1.1, ?_⟩
  show mm_Go (mm_run 0) mc_Cursor_copy _ (5, [(0, .inr (.inr v0)), (1, .inr (.inr v1))], [.inl (nn_rf M v1 2), .inr (.inr v0)], M)
  obtain ⟨b5, h⟩ := h
  refine mm_s1 rfl ⟨⟨C0.1, b5⟩, ?_⟩
  show mm_Go (mm_run 0) mc_Cursor_copy _ (8, [(0, .inr (.inr v0)), (1, .inr (.inr v1))], [], (nn_uf M v0 2 (nn_rf M v1 2)))
  have L : nn_L (nn_uf M v0 2 (nn_rf M v1 2)) := nn_L_up L C0.1 rfl
  have N : (nn_uf M v0 2 (nn_rf M v1 2)).1 = n := N
  generalize e_M5 : (nn_uf M v0 2 (nn_rf M v1 2)) = M5 at L N ⊢
  replace h := h _ e_M5.symm
  show mm_Go (mm_run 0) mc_Cursor_copy _ (8, [(0, .inr (.inr v0)), (1, .inr (.inr v1))], [], M5)
  refine mm_s1 rfl ?_
  refine mm_s1 rfl ?_
  refine mm_s1 rfl ⟨C1.1, ?_⟩
  show mm_Go (mm_run 0) mc_Cursor_copy _ (13, [(0, .inr (.inr v0)), (1, .inr (.inr v1))], [.inl (nn_rf M5 v1 3), .inr (.inr v0)], M5)
  refine mm_s1 rfl ⟨C0.1, ?_⟩
  show mm_Go (mm_run 0) mc_Cursor_copy _ (16, [(0, .inr (.inr v0)), (1, .inr (.inr v1))], [], (nn_uf M5 v0 3 (nn_rf M5 v1 3)))
  have L : nn_L (nn_uf M5 v0 3 (nn_rf M5 v1 3)) := nn_L_up L C0.1 rfl
  have N : (nn_uf M5 v0 3 (nn_rf M5 v1 3)).1 = n := N
  generalize e_M13 : (nn_uf M5 v0 3 (nn_rf M5 v1 3)) = M13 at L N ⊢
  replace h := h _ e_M13.symm
  show mm_Go (mm_run 0) mc_Cursor_copy _ (16, [(0, .inr (.inr v0)), (1, .inr (.inr v1))], [], M13)
  refine mm_s1 rfl ?_
  refine mm_s1 rfl ?_
  refine mm_s1 rfl ⟨C1.1, ?_⟩
  show mm_Go (mm_run 0) mc_Cursor_copy _ (21, [(0, .inr (.inr v0)), (1, .inr (.inr v1))], [.inl (nn_rf M13 v1 4), .inr (.inr v0)], M13)
  refine mm_s1 rfl ⟨C0.1, ?_⟩
  show mm_Go (mm_run 0) mc_Cursor_copy _ (24, [(0, .inr (.inr v0)), (1, .inr (.inr v1))], [], (nn_uf M13 v0 4 (nn_rf M13 v1 4)))
  have L : nn_L (nn_uf M13 v0 4 (nn_rf M13 v1 4)) := nn_L_up L C0.1 rfl
  have N : (nn_uf M13 v0 4 (nn_rf M13 v1 4)).1 = n := N
  generalize e_M21 : (nn_uf M13 v0 4 (nn_rf M13 v1 4)) = M21 at L N ⊢
  replace h := h _ e_M21.symm
  show mm_Go (mm_run 0) mc_Cursor_copy _ (24, [(0, .inr (.inr v0)), (1, .inr (.inr v1))], [], M21)
  refine mm_s1 rfl ?_
  refine mm_s1 rfl ?_
  refine mm_s1 rfl ⟨C1.1, ?_⟩
  show mm_Go (mm_run 0) mc_Cursor_copy _ (29, [(0, .inr (.inr v0)), (1, .inr (.inr v1))], [.inl (nn_rf M21 v1 5), .inr (.inr v0)], M21)
  refine mm_s1 rfl ⟨C0.1, ?_⟩
  show mm_Go (mm_run 0) mc_Cursor_copy _ (32, [(0, .inr (.inr v0)), (1, .inr (.inr v1))], [], (nn_uf M21 v0 5 (nn_rf M21 v1 5)))
  have L : nn_L (nn_uf M21 v0 5 (nn_rf M21 v1 5)) := nn_L_up L C0.1 rfl
  have N : (nn_uf M21 v0 5 (nn_rf M21 v1 5)).1 = n := N
  generalize e_M29 : (nn_uf M21 v0 5 (nn_rf M21 v1 5)) = M29 at L N ⊢
  replace h := h _ e_M29.symm
  show mm_Go (mm_run 0) mc_Cursor_copy _ (32, [(0, .inr (.inr v0)), (1, .inr (.inr v1))], [], M29)
  refine mm_s1 rfl ?_
  refine nn_getr rfl C1.1 (lf_3_0 L N C1) ?_
  refine mm_s1 rfl ?_
  refine mm_s1 rfl ?_
  refine nn_getr rfl C0.1 (lf_3_0 L N C0) ?_
  show mm_Go (mm_run 0) mc_Cursor_copy _ (41, [(0, .inr (.inr v0)), (1, .inr (.inr v1))], [.inr (.inr (v0 + 1)), .inl 0, .inr (.inr (v1 + 1))], M29)
  refine mm_s1 rfl ?_
  refine mm_s1 rfl ?_
  refine mm_s1 rfl ⟨C0.1, ?_⟩
  show mm_Go (mm_run 0) mc_Cursor_copy _ (46, [(0, .inr (.inr v0)), (1, .inr (.inr v1))], [.inl (nn_rf M29 v0 3), .inl 0, .inr (.inr (v0 + 1)), .inl 0, .inr (.inr (v1 + 1))], M29)
  obtain ⟨b46, h⟩ := h
  refine mm_s1 rfl ⟨nn_ac (nc_3_0 NN C1).1 (nc_3_0 NN C0).1 (by decide) (congrArg (fun q : Nat × Nat => ((q.2 : Nat) : Int)) (na_3_0 NN C1)) (congrArg (fun q : Nat × Nat => ((q.2 : Nat) : Int)) (na_3_0 NN C0)) b46, ?_⟩
  show mm_Go (mm_run 0) mc_Cursor_copy _ (49, [(0, .inr (.inr v0)), (1, .inr (.inr v1))], [], (mm_cp M29 (v1 + 1) 0 (v0 + 1) 0 (nn_rf M29 v0 3)))
  have L : nn_L (mm_cp M29 (v1 + 1) 0 (v0 + 1) 0 (nn_rf M29 v0 3)) := nn_L_cp L (nc_3_0 NN C0).1 (by decide)
  have N : (mm_cp M29 (v1 + 1) 0 (v0 + 1) 0 (nn_rf M29 v0 3)).1 = n := N
  generalize e_M46 : (mm_cp M29 (v1 + 1) 0 (v0 + 1) 0 (nn_rf M29 v0 3)) = M46 at L N ⊢
  replace h := h _ e_M46.symm
  show mm_Go (mm_run 0) mc_Cursor_copy _ (49, [(0, .inr (.inr v0)), (1, .inr (.inr v1))], [], M46)
  refine mm_s1 rfl ?_
  refine nn_getr rfl C1.1 (lf_3_1 L N C1) ?_
  refine mm_s1 rfl ?_
  refine mm_s1 rfl ?_
  refine nn_getr rfl C0.1 (lf_3_1 L N C0) ?_
  show mm_Go (mm_run 0) mc_Cursor_copy _ (58, [(0, .inr (.inr v0)), (1, .inr (.inr v1))], [.inr (.inr (v0 + 2)), .inl 0, .inr (.inr (v1 + 2))], M46)
  refine mm_s1 rfl ?_
  refine mm_s1 rfl ?_
  refine mm_s1 rfl ⟨C0.1, ?_⟩
  show mm_Go (mm_run 0) mc_Cursor_copy _ (63, [(0, .inr (.inr v0)), (1, .inr (.inr v1))], [.inl (nn_rf M46 v0 5), .inl 0, .inr (.inr (v0 + 2)), .inl 0, .inr (.inr (v1 + 2))], M46)
  obtain ⟨b63, h⟩ := h
  refine mm_s1 rfl ⟨nn_ac (nc_3_1 NN C1).1 (nc_3_1 NN C0).1 (by decide) (congrArg (fun q : Nat × Nat => ((q.2 : Nat) : Int)) (na_3_1 NN C1)) (congrArg (fun q : Nat × Nat => ((q.2 : Nat) : Int)) (na_3_1 NN C0)) b63, ?_⟩
  show mm_Go (mm_run 0) mc_Cursor_copy _ (66, [(0, .inr (.inr v0)), (1, .inr (.inr v1))], [], (mm_cp M46 (v1 + 2) 0 (v0 + 2) 0 (nn_rf M46 v0 5)))
  have L : nn_L (mm_cp M46 (v1 + 2) 0 (v0 + 2) 0 (nn_rf M46 v0 5)) := nn_L_cp L (nc_3_1 NN C0).1 (by decide)
  have N : (mm_cp M46 (v1 + 2) 0 (v0 + 2) 0 (nn_rf M46 v0 5)).1 = n := N
  generalize e_M63 : (mm_cp M46 (v1 + 2) 0 (v0 + 2) 0 (nn_rf M46 v0 5)) = M63 at L N ⊢
  replace h := h _ e_M63.symm
  show mm_Go (mm_run 0) mc_Cursor_copy _ (66, [(0, .inr (.inr v0)), (1, .inr (.inr v1))], [], M63)
  exact mm_s1 rfl ⟨rfl, L, N, h⟩
def nr_Entries_add (v0 : Nat) (v1 : Int) (M : mm_M) (R : mm_M → Prop) : Prop := ∀ n, nn_L M → M.1 = n → nn_C 4 v0 n → mm_run 1 mi_Entries_add [.inr (.inr v0), .inr (.inl v1)] M (nw_V n R)
def nk_Entries_add_18 (v0 : Nat) (v1 : Int) (v3 : Int) (M : mm_M) (R : mm_M → Prop) : Prop := ∀ n, nn_L M → M.1 = n → nn_C 4 v0 n → mm_Go (mm_run 0) mc_Entries_add (nw_V n R) (18, [(0, .inr (.inr v0)), (1, .inr (.inl v1)), (3, .inl v3)], [], M)
set_option maxRecDepth 20000 in
theorem ng_Entries_add (v0 : Nat) (v1 : Int) (M : mm_M) (R : mm_M → Prop) (h : (((nn_rf M v0 1) < ((mm_kd (v0 + 1)).2 : Int) → nk_Entries_add_18 v0 v1 (nn_rf M v0 1) M R) ∧ (((mm_kd (v0 + 1)).2 : Int) ≤ (nn_rf M v0 1) → R M))) : nr_Entries_add v0 v1 M R := by
  intro n L N C0
  have NN := nn_L_n L N
  show mm_Go (mm_run 0) mc_Entries_add _ (0, [(0, .inr (.inr v0)), (1, .inr (.inl v1))], [], M)
  refine mm_s1 rfl ?_
  refine mm_s1 rfl ⟨C0.1, ?_⟩
  show mm_Go (mm_run 0) mc_Entries_add _ (4, [(0, .inr (.inr v0)), (1, .inr (.inl v1))], [.inl (nn_rf M v0 1)], M)
  refine mm_s1 rfl ?_
  refine nn_getr rfl C0.1 (lf_4_0 L N C0) ?_
  refine mm_s1 rfl ⟨nn_ge20 (nc_4_0 NN C0).1 (by decide), ?_⟩
  show mm_Go (mm_run 0) mc_Entries_add _ (9, [(0, .inr (.inr v0)), (1, .inr (.inl v1))], [.inl ((mm_kd (v0 + 1)).2 : Int), .inl (nn_rf M v0 1)], M)
  refine mm_s1 rfl ⟨fun c9 => ?_, fun c9 => ?_⟩
  · show mm_Go (mm_run 0) mc_Entries_add _ (13, [(0, .inr (.inr v0)), (1, .inr (.inl v1))], [], M)
    replace h := h.1 c9
    refine mm_s1 rfl ?_
    refine mm_s1 rfl ⟨C0.1, ?_⟩
    show mm_Go (mm_run 0) mc_Entries_add _ (17, [(0, .inr (.inr v0)), (1, .inr (.inl v1))], [.inl (nn_rf M v0 1)], M)
    refine mm_s1 rfl ?_
    show mm_Go (mm_run 0) mc_Entries_add _ (18, [(0, .inr (.inr v0)), (1, .inr (.inl v1)), (3, .inl (nn_rf M v0 1))], [], M)
    exact nn_go_ext (nn_xc rfl (nn_xc rfl (nn_xc rfl nn_xn))) (h n L N C0)
  · show mm_Go (mm_run 0) mc_Entries_add _ (12, [(0, .inr (.inr v0)), (1, .inr (.inl v1))], [], M)
    replace c9 := Int.not_lt.mp c9
    replace h := h.2 c9
    exact mm_s1 rfl ⟨rfl, L, N, h⟩
set_option maxRecDepth 20000 in
theorem ng_Entries_add_18 (v0 : Nat) (v1 : Int) (v3 : Int) (M : mm_M) (R : mm_M → Prop) (h : (((v3 ≤ 0) → ((0 : Int) ≤ v3 ∧ v3 < ((mm_kd (v0 + 1)).2 : Int))) ∧ ((0 < v3) → ((0 : Int) ≤ (mm_w (v3 - 1)) ∧ (mm_w (v3 - 1)) < ((mm_kd (v0 + 1)).2 : Int))) ∧ ((0 < v3) ∧ ((mm_lcmp (nn_ri M (v0 + 1) (mm_w (v3 - 1))) v1) ≤ 0) → ((0 : Int) ≤ v3 ∧ v3 < ((mm_kd (v0 + 1)).2 : Int))) ∧ ((0 < v3) ∧ (0 < (mm_lcmp (nn_ri M (v0 + 1) (mm_w (v3 - 1))) v1)) → ((0 : Int) ≤ (mm_w (v3 - 1)) ∧ (mm_w (v3 - 1)) < ((mm_kd (v0 + 1)).2 : Int))) ∧ ((0 < v3) ∧ (0 < (mm_lcmp (nn_ri M (v0 + 1) (mm_w (v3 - 1))) v1)) → ((0 : Int) ≤ v3 ∧ v3 < ((mm_kd (v0 + 1)).2 : Int))) ∧ ((v3 ≤ 0 ∨ ((mm_lcmp (nn_ri M (v0 + 1) (mm_w (v3 - 1))) v1) ≤ 0)) → (∀ M61 : mm_M, M61 = nn_ui M (v0 + 1) v3 v1 → (∀ M69 : mm_M, M69 = nn_uf M61 v0 1 (mm_w ((nn_rf M61 v0 1) + 1)) → R M69))) ∧ ((0 < v3 ∧ (0 < (mm_lcmp (nn_ri M (v0 + 1) (mm_w (v3 - 1))) v1))) → (∀ M48 : mm_M, M48 = nn_ui M (v0 + 1) v3 (nn_ri M (v0 + 1) (mm_w (v3 - 1))) → nk_Entries_add_18 v0 v1 (mm_w (v3 + (-1))) M48 R)))) : nk_Entries_add_18 v0 v1 v3 M R := by
  intro n L N C0
  have NN := nn_L_n L N
  show mm_Go (mm_run 0) mc_Entries_add _ (18, [(0, .inr (.inr v0)), (1, .inr (.inl v1)), (3, .inl v3)], [], M)
  refine mm_s1 rfl ?_
  refine mm_s1 rfl ⟨fun c19 => ?_, fun c19 => ?_⟩
  · show mm_Go (mm_run 0) mc_Entries_add _ (55, [(0, .inr (.inr v0)), (1, .inr (.inl v1)), (3, .inl v3)], [], M)
    refine mm_s1 rfl ?_
    refine nn_getr rfl C0.1 (lf_4_0 L N C0) ?_
    refine mm_s1 rfl ?_
    refine mm_s1 rfl ?_
    have b61 := h.1 c19
    replace h := h.2.2.2.2.2.1 (Or.inl c19)
    refine mm_s1 rfl ⟨⟨(nc_4_0 NN C0).1, b61⟩, ?_⟩
    show mm_Go (mm_run 0) mc_Entries_add _ (62, [(0, .inr (.inr v0)), (1, .inr (.inl v1)), (3, .inl v3)], [], (nn_ui M (v0 + 1) v3 v1))
    have L : nn_L (nn_ui M (v0 + 1) v3 v1) := nn_L_ua L (nc_4_0 NN C0).1 (by decide)
    have N : (nn_ui M (v0 + 1) v3 v1).1 = n := N
    generalize e_M61 : (nn_ui M (v0 + 1) v3 v1) = M61 at L N ⊢
    replace h := h _ e_M61.symm
    show mm_Go (mm_run 0) mc_Entries_add _ (62, [(0, .inr (.inr v0)), (1, .inr (.inl v1)), (3, .inl v3)], [], M61)
    refine mm_s1 rfl ?_
    refine mm_s1 rfl ?_
    refine mm_s1 rfl ⟨C0.1, ?_⟩
    show mm_Go (mm_run 0) mc_Entries_add _ (67, [(0, .inr (.inr v0)), (1, .inr (.inl v1)), (3, .inl v3)], [.inl (nn_rf M61 v0 1), .inr (.inr v0)], M61)
    refine mm_s1 rfl ?_
    refine mm_s1 rfl ?_
    refine mm_s1 rfl ⟨C0.1, ?_⟩
    show mm_Go (mm_run 0) mc_Entries_add _ (72, [(0, .inr (.inr v0)), (1, .inr (.inl v1)), (3, .inl v3)], [], (nn_uf M61 v0 1 (mm_w ((nn_rf M61 v0 1) + 1))))
    have L : nn_L (nn_uf M61 v0 1 (mm_w ((nn_rf M61 v0 1) + 1))) := nn_L_up L C0.1 rfl
    have N : (nn_uf M61 v0 1 (mm_w ((nn_rf M61 v0 1) + 1))).1 = n := N
    generalize e_M69 : (nn_uf M61 v0 1 (mm_w ((nn_rf M61 v0 1) + 1))) = M69 at L N ⊢
    replace h := h _ e_M69.symm
    show mm_Go (mm_run 0) mc_Entries_add _ (72, [(0, .inr (.inr v0)), (1, .inr (.inl v1)), (3, .inl v3)], [], M69)
    exact mm_s1 rfl ⟨rfl, L, N, h⟩
  · show mm_Go (mm_run 0) mc_Entries_add _ (22, [(0, .inr (.inr v0)), (1, .inr (.inl v1)), (3, .inl v3)], [], M)
    replace c19 := Int.not_le.mp c19
    refine mm_s1 rfl ?_
    refine nn_getr rfl C0.1 (lf_4_0 L N C0) ?_
    refine mm_s1 rfl ?_
    refine mm_s1 rfl ?_
    refine mm_s1 rfl ?_
    show mm_Go (mm_run 0) mc_Entries_add _ (29, [(0, .inr (.inr v0)), (1, .inr (.inl v1)), (3, .inl v3)], [.inl (mm_w (v3 - 1)), .inr (.inr (v0 + 1))], M)
    have b29 := h.2.1 c19
    refine mm_s1 rfl ⟨⟨(nc_4_0 NN C0).1, b29⟩, ?_⟩
    show mm_Go (mm_run 0) mc_Entries_add _ (30, [(0, .inr (.inr v0)), (1, .inr (.inl v1)), (3, .inl v3)], [.inr (.inl (nn_ri M (v0 + 1) (mm_w (v3 - 1))))], M)
    refine mm_s1 rfl ?_
    refine mm_s1 rfl ?_
    refine mm_s1 rfl ⟨fun c32 => ?_, fun c32 => ?_⟩
    · show mm_Go (mm_run 0) mc_Entries_add _ (55, [(0, .inr (.inr v0)), (1, .inr (.inl v1)), (3, .inl v3)], [], M)
      refine mm_s1 rfl ?_
      refine nn_getr rfl C0.1 (lf_4_0 L N C0) ?_
      refine mm_s1 rfl ?_
      refine mm_s1 rfl ?_
      have b61 := h.2.2.1 ⟨c19, c32⟩
      replace h := h.2.2.2.2.2.1 (Or.inr c32)
      refine mm_s1 rfl ⟨⟨(nc_4_0 NN C0).1, b61⟩, ?_⟩
      show mm_Go (mm_run 0) mc_Entries_add _ (62, [(0, .inr (.inr v0)), (1, .inr (.inl v1)), (3, .inl v3)], [], (nn_ui M (v0 + 1) v3 v1))
      have L : nn_L (nn_ui M (v0 + 1) v3 v1) := nn_L_ua L (nc_4_0 NN C0).1 (by decide)
      have N : (nn_ui M (v0 + 1) v3 v1).1 = n := N
      generalize e_M61 : (nn_ui M (v0 + 1) v3 v1) = M61 at L N ⊢
      replace h := h _ e_M61.symm
      show mm_Go (mm_run 0) mc_Entries_add _ (62, [(0, .inr (.inr v0)), (1, .inr (.inl v1)), (3, .inl v3)], [], M61)
      refine mm_s1 rfl ?_
      refine mm_s1 rfl ?_
      refine mm_s1 rfl ⟨C0.1, ?_⟩
      show mm_Go (mm_run 0) mc_Entries_add _ (67, [(0, .inr (.inr v0)), (1, .inr (.inl v1)), (3, .inl v3)], [.inl (nn_rf M61 v0 1), .inr (.inr v0)], M61)
      refine mm_s1 rfl ?_
      refine mm_s1 rfl ?_
      refine mm_s1 rfl ⟨C0.1, ?_⟩
      show mm_Go (mm_run 0) mc_Entries_add _ (72, [(0, .inr (.inr v0)), (1, .inr (.inl v1)), (3, .inl v3)], [], (nn_uf M61 v0 1 (mm_w ((nn_rf M61 v0 1) + 1))))
      have L : nn_L (nn_uf M61 v0 1 (mm_w ((nn_rf M61 v0 1) + 1))) := nn_L_up L C0.1 rfl
      have N : (nn_uf M61 v0 1 (mm_w ((nn_rf M61 v0 1) + 1))).1 = n := N
      generalize e_M69 : (nn_uf M61 v0 1 (mm_w ((nn_rf M61 v0 1) + 1))) = M69 at L N ⊢
      replace h := h _ e_M69.symm
      show mm_Go (mm_run 0) mc_Entries_add _ (72, [(0, .inr (.inr v0)), (1, .inr (.inl v1)), (3, .inl v3)], [], M69)
      exact mm_s1 rfl ⟨rfl, L, N, h⟩
    · show mm_Go (mm_run 0) mc_Entries_add _ (35, [(0, .inr (.inr v0)), (1, .inr (.inl v1)), (3, .inl v3)], [], M)
      replace c32 := Int.not_le.mp c32
      refine mm_s1 rfl ?_
      refine nn_getr rfl C0.1 (lf_4_0 L N C0) ?_
      refine mm_s1 rfl ?_
      refine mm_s1 rfl ?_
      refine nn_getr rfl C0.1 (lf_4_0 L N C0) ?_
      show mm_Go (mm_run 0) mc_Entries_add _ (44, [(0, .inr (.inr v0)), (1, .inr (.inl v1)), (3, .inl v3)], [.inr (.inr (v0 + 1)), .inl v3, .inr (.inr (v0 + 1))], M)
      refine mm_s1 rfl ?_
      refine mm_s1 rfl ?_
      refine mm_s1 rfl ?_
      have b47 := h.2.2.2.1 ⟨c19, c32⟩
      refine mm_s1 rfl ⟨⟨(nc_4_0 NN C0).1, b47⟩, ?_⟩
      show mm_Go (mm_run 0) mc_Entries_add _ (48, [(0, .inr (.inr v0)), (1, .inr (.inl v1)), (3, .inl v3)], [.inr (.inl (nn_ri M (v0 + 1) (mm_w (v3 - 1)))), .inl v3, .inr (.inr (v0 + 1))], M)
      have b48 := h.2.2.2.2.1 ⟨c19, c32⟩
      replace h := h.2.2.2.2.2.2 ⟨c19, c32⟩
      refine mm_s1 rfl ⟨⟨(nc_4_0 NN C0).1, b48⟩, ?_⟩
      show mm_Go (mm_run 0) mc_Entries_add _ (49, [(0, .inr (.inr v0)), (1, .inr (.inl v1)), (3, .inl v3)], [], (nn_ui M (v0 + 1) v3 (nn_ri M (v0 + 1) (mm_w (v3 - 1)))))
      have L : nn_L (nn_ui M (v0 + 1) v3 (nn_ri M (v0 + 1) (mm_w (v3 - 1)))) := nn_L_ua L (nc_4_0 NN C0).1 (by decide)
      have N : (nn_ui M (v0 + 1) v3 (nn_ri M (v0 + 1) (mm_w (v3 - 1)))).1 = n := N
      generalize e_M48 : (nn_ui M (v0 + 1) v3 (nn_ri M (v0 + 1) (mm_w (v3 - 1)))) = M48 at L N ⊢
      replace h := h _ e_M48.symm
      show mm_Go (mm_run 0) mc_Entries_add _ (49, [(0, .inr (.inr v0)), (1, .inr (.inl v1)), (3, .inl v3)], [], M48)
      refine mm_s1 rfl ?_
      show mm_Go (mm_run 0) mc_Entries_add _ (52, [(0, .inr (.inr v0)), (1, .inr (.inl v1)), (3, .inl (mm_w (v3 + (-1))))], [], M48)
      refine mm_s1 rfl ?_
      show mm_Go (mm_run 0) mc_Entries_add _ (18, [(0, .inr (.inr v0)), (1, .inr (.inl v1)), (3, .inl (mm_w (v3 + (-1))))], [], M48)
      exact nn_go_ext (nn_xc rfl (nn_xc rfl (nn_xc rfl nn_xn))) (h n L N C0)
def nr_Entries_copy (v0 : Nat) (v1 : Nat) (M : mm_M) (R : mm_M → Prop) : Prop := ∀ n, nn_L M → M.1 = n → nn_C 4 v0 n → nn_C 4 v1 n → mm_run 1 mi_Entries_copy [.inr (.inr v0), .inr (.inr v1)] M (nw_V n R)
set_option maxRecDepth 20000 in
theorem ng_Entries_copy (v0 : Nat) (v1 : Nat) (M : mm_M) (R : mm_M → Prop) (h : (∀ M13 : mm_M, M13 = nn_uf M v0 1 (min (nn_rf M v1 1) ((mm_kd (v0 + 1)).2 : Int)) → (((0 : Int) ≤ 0 ∧ (0 : Int) ≤ 0 ∧ (0 : Int) ≤ (nn_rf M13 v0 1) ∧ (0 : Int) + (nn_rf M13 v0 1) ≤ ((mm_kd (v1 + 1)).2 : Int) ∧ (0 : Int) + (nn_rf M13 v0 1) ≤ ((mm_kd (v0 + 1)).2 : Int)) ∧ (∀ M30 : mm_M, M30 = mm_cp M13 (v1 + 1) 0 (v0 + 1) 0 (nn_rf M13 v0 1) → R M30)))) : nr_Entries_copy v0 v1 M R := by
  intro n L N C0 C1
  have NN := nn_L_n L N
  show mm_Go (mm_run 0) mc_Entries_copy _ (0, [(0, .inr (.inr v0)), (1, .inr (.inr v1))], [], M)
  refine mm_s1 rfl ?_
  refine mm_s1 rfl ?_
  refine mm_s1 rfl ⟨C1.1, ?_⟩
  show mm_Go (mm_run 0) mc_Entries_copy _ (5, [(0, .inr (.inr v0)), (1, .inr (.inr v1))], [.inl (nn_rf M v1 1), .inr (.inr v0)], M)
  refine mm_s1 rfl ?_
  refine nn_getr rfl C0.1 (lf_4_0 L N C0) ?_
  refine mm_s1 rfl ⟨nn_ge20 (nc_4_0 NN C0).1 (by decide), ?_⟩
  show mm_Go (mm_run 0) mc_Entries_copy _ (10, [(0, .inr (.inr v0)), (1, .inr (.inr v1))], [.inl ((mm_kd (v0 + 1)).2 : Int), .inl (nn_rf M v1 1), .inr (.inr v0)], M)
  refine mm_s1 rfl ?_
  refine mm_s1 rfl ⟨C0.1, ?_⟩
  show mm_Go (mm_run 0) mc_Entries_copy _ (16, [(0, .inr (.inr v0)), (1, .inr (.inr v1))], [], (nn_uf M v0 1 (min (nn_rf M v1 1) ((mm_kd (v0 + 1)).2 : Int))))
  have L : nn_L (nn_uf M v0 1 (min (nn_rf M v1 1) ((mm_kd (v0 + 1)).2 : Int))) := nn_L_up L C0.1 rfl
  have N : (nn_uf M v0 1 (min (nn_rf M v1 1) ((mm_kd (v0 + 1)).2 : Int))).1 = n := N
  generalize e_M13 : (nn_uf M v0 1 (min (nn_rf M v1 1) ((mm_kd (v0 + 1)).2 : Int))) = M13 at L N ⊢
  replace h := h _ e_M13.symm
  show mm_Go (mm_run 0) mc_Entries_copy _ (16, [(0, .inr (.inr v0)), (1, .inr (.inr v1))], [], M13)
  refine mm_s1 rfl ?_
  refine nn_getr rfl C1.1 (lf_4_0 L N C1) ?_
  refine mm_s1 rfl ?_
  refine mm_s1 rfl ?_
  refine nn_getr rfl C0.1 (lf_4_0 L N C0) ?_
  show mm_Go (mm_run 0) mc_Entries_copy _ (25, [(0, .inr (.inr v0)), (1, .inr (.inr v1))], [.inr (.inr (v0 + 1)), .inl 0, .inr (.inr (v1 + 1))], M13)
  refine mm_s1 rfl ?_
  refine mm_s1 rfl ?_
  refine mm_s1 rfl ⟨C0.1, ?_⟩
  show mm_Go (mm_run 0) mc_Entries_copy _ (30, [(0, .inr (.inr v0)), (1, .inr (.inr v1))], [.inl (nn_rf M13 v0 1), .inl 0, .inr (.inr (v0 + 1)), .inl 0, .inr (.inr (v1 + 1))], M13)
  obtain ⟨b30, h⟩ := h
  refine mm_s1 rfl ⟨nn_ac (nc_4_0 NN C1).1 (nc_4_0 NN C0).1 (by decide) rfl rfl b30, ?_⟩
  show mm_Go (mm_run 0) mc_Entries_copy _ (33, [(0, .inr (.inr v0)), (1, .inr (.inr v1))], [], (mm_cp M13 (v1 + 1) 0 (v0 + 1) 0 (nn_rf M13 v0 1)))
  have L : nn_L (mm_cp M13 (v1 + 1) 0 (v0 + 1) 0 (nn_rf M13 v0 1)) := nn_L_cp L (nc_4_0 NN C0).1 (by decide)
  have N : (mm_cp M13 (v1 + 1) 0 (v0 + 1) 0 (nn_rf M13 v0 1)).1 = n := N
  generalize e_M30 : (mm_cp M13 (v1 + 1) 0 (v0 + 1) 0 (nn_rf M13 v0 1)) = M30 at L N ⊢
  replace h := h _ e_M30.symm
  show mm_Go (mm_run 0) mc_Entries_copy _ (33, [(0, .inr (.inr v0)), (1, .inr (.inr v1))], [], M30)
  exact mm_s1 rfl ⟨rfl, L, N, h⟩
def nr_Index_another (v0 : Nat) (v1 : Int) (v2 : Int) (M : mm_M) (R : Int → mm_M → Prop) : Prop := ∀ n, nn_L M → M.1 = n → nn_C 5 v0 n → mm_run 1 mi_Index_another [.inr (.inr v0), .inl v1, .inl v2] M (nw_I n R)
def nk_Index_another_2 (v0 : Nat) (v1 : Int) (v2 : Int) (v3 : Int) (M : mm_M) (R : Int → mm_M → Prop) : Prop := ∀ n, nn_L M → M.1 = n → nn_C 5 v0 n → mm_Go (mm_run 0) mc_Index_another (nw_I n R) (2, [(0, .inr (.inr v0)), (1, .inl v1), (2, .inl v2), (3, .inl v3)], [], M)
set_option maxRecDepth 20000 in
theorem ng_Index_another (v0 : Nat) (v1 : Int) (v2 : Int) (M : mm_M) (R : Int → mm_M → Prop) (h : nk_Index_another_2 v0 v1 v2 0 M R) : nr_Index_another v0 v1 v2 M R := by
  intro n L N C0
  have NN := nn_L_n L N
  show mm_Go (mm_run 0) mc_Index_another _ (0, [(0, .inr (.inr v0)), (1, .inl v1), (2, .inl v2)], [], M)
  refine mm_s1 rfl ?_
  refine mm_s1 rfl ?_
  show mm_Go (mm_run 0) mc_Index_another _ (2, [(0, .inr (.inr v0)), (1, .inl v1), (2, .inl v2), (3, .inl 0)], [], M)
  exact nn_go_ext (nn_xc rfl (nn_xc rfl (nn_xc rfl (nn_xc rfl nn_xn)))) (h n L N C0)
set_option maxRecDepth 20000 in
theorem ng_Index_another_2 (v0 : Nat) (v1 : Int) (v2 : Int) (v3 : Int) (M : mm_M) (R : Int → mm_M → Prop) (h : ((32 ≤ v3 → R (-1) M) ∧ (v3 < 32 → (((v3 ≠ v2) → ((0 : Int) ≤ v3 ∧ v3 < (32 : Int))) ∧ ((v3 = v2 ∨ ((nn_ri M (v0 + 14) v3) ≠ v1)) → nk_Index_another_2 v0 v1 v2 (mm_w (v3 + 1)) M R) ∧ ((v3 ≠ v2 ∧ ((nn_ri M (v0 + 14) v3) = v1)) → R v3 M))))) : nk_Index_another_2 v0 v1 v2 v3 M R := by
  intro n L N C0
  have NN := nn_L_n L N
  show mm_Go (mm_run 0) mc_Index_another _ (2, [(0, .inr (.inr v0)), (1, .inl v1), (2, .inl v2), (3, .inl v3)], [], M)
  refine mm_s1 rfl ?_
  refine mm_s1 rfl ?_
  refine mm_s1 rfl ⟨fun c5 => ?_, fun c5 => ?_⟩
  · show mm_Go (mm_run 0) mc_Index_another _ (31, [(0, .inr (.inr v0)), (1, .inl v1), (2, .inl v2), (3, .inl v3)], [], M)
    replace h := h.1 c5
    refine mm_s1 rfl ?_
    exact mm_s1 rfl ⟨_, rfl, L, N, h⟩
  · show mm_Go (mm_run 0) mc_Index_another _ (8, [(0, .inr (.inr v0)), (1, .inl v1), (2, .inl v2), (3, .inl v3)], [], M)
    replace c5 := Int.not_le.mp c5
    replace h := h.2 c5
    refine mm_s1 rfl ?_
    refine mm_s1 rfl ?_
    refine mm_s1 rfl ⟨fun c10 => ?_, fun c10 => ?_⟩
    · show mm_Go (mm_run 0) mc_Index_another _ (25, [(0, .inr (.inr v0)), (1, .inl v1), (2, .inl v2), (3, .inl v3)], [], M)
      refine mm_s1 rfl ?_
      show mm_Go (mm_run 0) mc_Index_another _ (28, [(0, .inr (.inr v0)), (1, .inl v1), (2, .inl v2), (3, .inl (mm_w (v3 + 1)))], [], M)
      refine mm_s1 rfl ?_
      show mm_Go (mm_run 0) mc_Index_another _ (2, [(0, .inr (.inr v0)), (1, .inl v1), (2, .inl v2), (3, .inl (mm_w (v3 + 1)))], [], M)
      replace h := h.2.1 (Or.inl c10)
      exact nn_go_ext (nn_xc rfl (nn_xc rfl (nn_xc rfl (nn_xc rfl nn_xn)))) (h n L N C0)
    · show mm_Go (mm_run 0) mc_Index_another _ (13, [(0, .inr (.inr v0)), (1, .inl v1), (2, .inl v2), (3, .inl v3)], [], M)
      refine mm_s1 rfl ?_
      refine nn_getr rfl C0.1 (lf_5_4 L N C0) ?_
      refine mm_s1 rfl ?_
      have b18 := h.1 c10
      refine mm_s1 rfl ⟨nn_bd (na_5_4 NN C0) b18, ?_⟩
      show mm_Go (mm_run 0) mc_Index_another _ (19, [(0, .inr (.inr v0)), (1, .inl v1), (2, .inl v2), (3, .inl v3)], [.inl (nn_ri M (v0 + 14) v3)], M)
      refine mm_s1 rfl ?_
      refine mm_s1 rfl ⟨fun c20 => ?_, fun c20 => ?_⟩
      · show mm_Go (mm_run 0) mc_Index_another _ (25, [(0, .inr (.inr v0)), (1, .inl v1), (2, .inl v2), (3, .inl v3)], [], M)
        refine mm_s1 rfl ?_
        show mm_Go (mm_run 0) mc_Index_another _ (28, [(0, .inr (.inr v0)), (1, .inl v1), (2, .inl v2), (3, .inl (mm_w (v3 + 1)))], [], M)
        refine mm_s1 rfl ?_
        show mm_Go (mm_run 0) mc_Index_another _ (2, [(0, .inr (.inr v0)), (1, .inl v1), (2, .inl v2), (3, .inl (mm_w (v3 + 1)))], [], M)
        replace h := h.2.1 (Or.inr c20)
        exact nn_go_ext (nn_xc rfl (nn_xc rfl (nn_xc rfl (nn_xc rfl nn_xn)))) (h n L N C0)
      · show mm_Go (mm_run 0) mc_Index_another _ (23, [(0, .inr (.inr v0)), (1, .inl v1), (2, .inl v2), (3, .inl v3)], [], M)
        replace c20 := Decidable.not_not.mp c20
        refine mm_s1 rfl ?_
        replace h := h.2.2 ⟨c10, c20⟩
        exact mm_s1 rfl ⟨_, rfl, L, N, h⟩
def nf_Index_hasFrom (v0 : Nat) (v1 : Int) (v2 : Int) (v3 : Int) (M : mm_M) : Int := (if (nn_ri M (v0 + 14) v1) = (-1) then 0 else (if (nn_ri M (v0 + 14) v1) < v2 then 0 else (if v3 < (nn_ri M (v0 + 14) v1) then 0 else 1)))
def nc_Index_hasFrom (v0 : Nat) (v1 : Int) (v2 : Int) (v3 : Int) (M : mm_M) : Prop := (((0 : Int) ≤ v1 ∧ v1 < (32 : Int)) ∧ ((nn_ri M (v0 + 14) v1) ≠ (-1) → (((0 : Int) ≤ v1 ∧ v1 < (32 : Int)) ∧ (v2 ≤ (nn_ri M (v0 + 14) v1) → ((0 : Int) ≤ v1 ∧ v1 < (32 : Int))))))
theorem nz_Index_hasFrom (v0 : Nat) (v1 : Int) (v2 : Int) (v3 : Int) (M : mm_M) : nf_Index_hasFrom v0 v1 v2 v3 M = 0 ∨ nf_Index_hasFrom v0 v1 v2 v3 M = 1 := by
  unfold nf_Index_hasFrom
  repeat' split
  all_goals first | exact Or.inl rfl | exact Or.inr rfl
set_option maxRecDepth 20000 in
theorem np_Index_hasFrom {v0 : Nat} {v1 : Int} {v2 : Int} {v3 : Int} {M : mm_M} {n d : Nat} {P : mm_P} (hd : 1 ≤ d) (L : nn_L M) (N : M.1 = n) (C0 : nn_C 5 v0 n) (b : nc_Index_hasFrom v0 v1 v2 v3 M) (h : P (some (.inl (nf_Index_hasFrom v0 v1 v2 v3 M))) M) : mm_run d mi_Index_hasFrom [.inr (.inr v0), .inl v1, .inl v2, .inl v3] M P := by
  have NN := nn_L_n L N
  unfold nc_Index_hasFrom at b
  unfold nf_Index_hasFrom at h
  refine nn_run_le hd ?_
  show mm_Go (mm_run 0) mc_Index_hasFrom _ (0, [(0, .inr (.inr v0)), (1, .inl v1), (2, .inl v2), (3, .inl v3)], [], M)
  refine mm_s1 rfl ?_
  refine nn_getr rfl C0.1 (lf_5_4 L N C0) ?_
  refine mm_s1 rfl ?_
  obtain ⟨b5, b⟩ := b
  refine mm_s1 rfl ⟨nn_bd (na_5_4 NN C0) b5, ?_⟩
  show mm_Go (mm_run 0) mc_Index_hasFrom _ (6, [(0, .inr (.inr v0)), (1, .inl v1), (2, .inl v2), (3, .inl v3)], [.inl (nn_ri M (v0 + 14) v1)], M)
  refine mm_s1 rfl ?_
  refine mm_s1 rfl ⟨fun c7 => ?_, fun c7 => ?_⟩
  · show mm_Go (mm_run 0) mc_Index_hasFrom _ (34, [(0, .inr (.inr v0)), (1, .inl v1), (2, .inl v2), (3, .inl v3)], [], M)
    rw [if_pos (show (nn_ri M (v0 + 14) v1) = (-1) from c7)] at h
    refine mm_s1 rfl ?_
    exact mm_s1 rfl ⟨(Or.inl rfl), h⟩
  · show mm_Go (mm_run 0) mc_Index_hasFrom _ (10, [(0, .inr (.inr v0)), (1, .inl v1), (2, .inl v2), (3, .inl v3)], [], M)
    rw [if_neg (show ¬ ((nn_ri M (v0 + 14) v1) = (-1)) from c7)] at h
    replace b := b c7
    refine mm_s1 rfl ?_
    refine nn_getr rfl C0.1 (lf_5_4 L N C0) ?_
    refine mm_s1 rfl ?_
    obtain ⟨b15, b⟩ := b
    refine mm_s1 rfl ⟨nn_bd (na_5_4 NN C0) b15, ?_⟩
    show mm_Go (mm_run 0) mc_Index_hasFrom _ (16, [(0, .inr (.inr v0)), (1, .inl v1), (2, .inl v2), (3, .inl v3)], [.inl (nn_ri M (v0 + 14) v1)], M)
    refine mm_s1 rfl ?_
    refine mm_s1 rfl ⟨fun c17 => ?_, fun c17 => ?_⟩
    · show mm_Go (mm_run 0) mc_Index_hasFrom _ (34, [(0, .inr (.inr v0)), (1, .inl v1), (2, .inl v2), (3, .inl v3)], [], M)
      rw [if_pos (show (nn_ri M (v0 + 14) v1) < v2 from c17)] at h
      refine mm_s1 rfl ?_
      exact mm_s1 rfl ⟨(Or.inl rfl), h⟩
    · show mm_Go (mm_run 0) mc_Index_hasFrom _ (20, [(0, .inr (.inr v0)), (1, .inl v1), (2, .inl v2), (3, .inl v3)], [], M)
      rw [if_neg (show ¬ ((nn_ri M (v0 + 14) v1) < v2) from c17)] at h
      replace c17 := Int.not_lt.mp c17
      replace b := b c17
      refine mm_s1 rfl ?_
      refine nn_getr rfl C0.1 (lf_5_4 L N C0) ?_
      refine mm_s1 rfl ?_
      have b25 := b
      refine mm_s1 rfl ⟨nn_bd (na_5_4 NN C0) b25, ?_⟩
      show mm_Go (mm_run 0) mc_Index_hasFrom _ (26, [(0, .inr (.inr v0)), (1, .inl v1), (2, .inl v2), (3, .inl v3)], [.inl (nn_ri M (v0 + 14) v1)], M)
      refine mm_s1 rfl ?_
      refine mm_s1 rfl ⟨fun c27 => ?_, fun c27 => ?_⟩
      · show mm_Go (mm_run 0) mc_Index_hasFrom _ (34, [(0, .inr (.inr v0)), (1, .inl v1), (2, .inl v2), (3, .inl v3)], [], M)
        rw [if_pos (show v3 < (nn_ri M (v0 + 14) v1) from c27)] at h
        refine mm_s1 rfl ?_
        exact mm_s1 rfl ⟨(Or.inl rfl), h⟩
      · show mm_Go (mm_run 0) mc_Index_hasFrom _ (30, [(0, .inr (.inr v0)), (1, .inl v1), (2, .inl v2), (3, .inl v3)], [], M)
        rw [if_neg (show ¬ (v3 < (nn_ri M (v0 + 14) v1)) from c27)] at h
        replace c27 := Int.not_lt.mp c27
        refine mm_s1 rfl ?_
        refine mm_s1 rfl ?_
        show mm_Go (mm_run 0) mc_Index_hasFrom _ (35, [(0, .inr (.inr v0)), (1, .inl v1), (2, .inl v2), (3, .inl v3)], [.inl 1], M)
        exact mm_s1 rfl ⟨(Or.inr rfl), h⟩
def nr_Index_nearest (v0 : Nat) (v1 : Int) (M : mm_M) (R : Int → mm_M → Prop) : Prop := ∀ n, nn_L M → M.1 = n → nn_C 5 v0 n → mm_run 1 mi_Index_nearest [.inr (.inr v0), .inl v1] M (nw_I n R)
def nk_Index_nearest_7 (v0 : Nat) (v1 : Int) (v2 : Int) (v3 : Int) (v5 : Int) (M : mm_M) (R : Int → mm_M → Prop) : Prop := ∀ n, nn_L M → M.1 = n → nn_C 5 v0 n → mm_Go (mm_run 0) mc_Index_nearest (nw_I n R) (7, [(0, .inr (.inr v0)), (1, .inl v1), (2, .inl v2), (3, .inr (.inl v3)), (5, .inl v5)], [], M)
set_option maxRecDepth 20000 in
theorem ng_Index_nearest (v0 : Nat) (v1 : Int) (M : mm_M) (R : Int → mm_M → Prop) (h : nk_Index_nearest_7 v0 v1 (-1) 0 0 M R) : nr_Index_nearest v0 v1 M R := by
  intro n L N C0
  have NN := nn_L_n L N
  show mm_Go (mm_run 0) mc_Index_nearest _ (0, [(0, .inr (.inr v0)), (1, .inl v1)], [], M)
  refine mm_s1 rfl ?_
  refine mm_s1 rfl ?_
  show mm_Go (mm_run 0) mc_Index_nearest _ (2, [(0, .inr (.inr v0)), (1, .inl v1), (2, .inl (-1))], [], M)
  refine mm_s1 rfl ?_
  refine mm_s1 rfl ?_
  show mm_Go (mm_run 0) mc_Index_nearest _ (4, [(0, .inr (.inr v0)), (1, .inl v1), (2, .inl (-1)), (3, .inr (.inl 0))], [], M)
  refine mm_s1 rfl ?_
  refine mm_s1 rfl ?_
  show mm_Go (mm_run 0) mc_Index_nearest _ (7, [(0, .inr (.inr v0)), (1, .inl v1), (2, .inl (-1)), (3, .inr (.inl 0)), (5, .inl 0)], [], M)
  exact nn_go_ext (nn_xc rfl (nn_xc rfl (nn_xc rfl (nn_xc rfl (nn_xc rfl nn_xn))))) (h n L N C0)
set_option maxRecDepth 20000 in
theorem ng_Index_nearest_7 (v0 : Nat) (v1 : Int) (v2 : Int) (v3 : Int) (v5 : Int) (M : mm_M) (R : Int → mm_M → Prop) (h : ((32 ≤ v5 → R v2 M) ∧ (v5 < 32 → (((0 : Int) ≤ v5 ∧ v5 < (32 : Int)) ∧ (∀ x6_28 : Int, x6_28 = (if 0 < (mm_w64 ((nn_ri M (v0 + 14) v5) - v1)) then (mm_w64 ((nn_ri M (v0 + 14) v5) - v1)) else mm_w64 (-(mm_w64 ((nn_ri M (v0 + 14) v5) - v1)))) → (((v2 = (-1)) → ((0 : Int) ≤ v5 ∧ v5 < (32 : Int))) ∧ ((v2 ≠ (-1)) ∧ ((mm_lcmp x6_28 v3) < 0) → ((0 : Int) ≤ v5 ∧ v5 < (32 : Int))) ∧ ((v2 ≠ (-1)) ∧ (0 ≤ (mm_lcmp x6_28 v3)) ∧ ((mm_lcmp x6_28 v3) ≠ 0) → ((0 : Int) ≤ v5 ∧ v5 < (32 : Int))) ∧ ((v2 ≠ (-1)) ∧ (0 ≤ (mm_lcmp x6_28 v3)) ∧ ((mm_lcmp x6_28 v3) = 0) → ((0 : Int) ≤ v5 ∧ v5 < (32 : Int))) ∧ ((v2 ≠ (-1)) ∧ (0 ≤ (mm_lcmp x6_28 v3)) ∧ ((mm_lcmp x6_28 v3) = 0) → ((0 : Int) ≤ v2 ∧ v2 < (32 : Int))) ∧ ((v2 ≠ (-1)) ∧ (0 ≤ (mm_lcmp x6_28 v3)) ∧ ((mm_lcmp x6_28 v3) = 0) ∧ ((nn_ri M (v0 + 14) v2) ≤ (nn_ri M (v0 + 14) v5)) → ((0 : Int) ≤ v5 ∧ v5 < (32 : Int))) ∧ ((v2 ≠ (-1)) ∧ (0 ≤ (mm_lcmp x6_28 v3)) ∧ ((mm_lcmp x6_28 v3) = 0) ∧ ((nn_ri M (v0 + 14) v5) < (nn_ri M (v0 + 14) v2)) → ((0 : Int) ≤ v5 ∧ v5 < (32 : Int))) ∧ (((v2 = (-1) ∧ ((nn_ri M (v0 + 14) v5) = (-1))) ∨ (v2 ≠ (-1) ∧ (((mm_lcmp x6_28 v3) < 0 ∧ ((nn_ri M (v0 + 14) v5) = (-1))) ∨ (0 ≤ (mm_lcmp x6_28 v3) ∧ ((mm_lcmp x6_28 v3) ≠ 0 ∨ ((nn_ri M (v0 + 14) v2) ≤ (nn_ri M (v0 + 14) v5) ∨ ((nn_ri M (v0 + 14) v5) = (-1)))))))) → nk_Index_nearest_7 v0 v1 v2 v3 (mm_w (v5 + 1)) M R) ∧ (((v2 = (-1) ∧ ((nn_ri M (v0 + 14) v5) ≠ (-1))) ∨ (v2 ≠ (-1) ∧ (((mm_lcmp x6_28 v3) < 0 ∧ ((nn_ri M (v0 + 14) v5) ≠ (-1))) ∨ (0 ≤ (mm_lcmp x6_28 v3) ∧ ((mm_lcmp x6_28 v3) = 0 ∧ ((nn_ri M (v0 + 14) v5) < (nn_ri M (v0 + 14) v2) ∧ ((nn_ri M (v0 + 14) v5) ≠ (-1)))))))) → nk_Index_nearest_7 v0 v1 v5 x6_28 (mm_w (v5 + 1)) M R))))))) : nk_Index_nearest_7 v0 v1 v2 v3 v5 M R := by
  intro n L N C0
  have NN := nn_L_n L N
  show mm_Go (mm_run 0) mc_Index_nearest _ (7, [(0, .inr (.inr v0)), (1, .inl v1), (2, .inl v2), (3, .inr (.inl v3)), (5, .inl v5)], [], M)
  refine mm_s1 rfl ?_
  refine mm_s1 rfl ?_
  refine mm_s1 rfl ⟨fun c11 => ?_, fun c11 => ?_⟩
  · show mm_Go (mm_run 0) mc_Index_nearest _ (100, [(0, .inr (.inr v0)), (1, .inl v1), (2, .inl v2), (3, .inr (.inl v3)), (5, .inl v5)], [], M)
    replace h := h.1 c11
    refine mm_s1 rfl ?_
    exact mm_s1 rfl ⟨_, rfl, L, N, h⟩
  · show mm_Go (mm_run 0) mc_Index_nearest _ (14, [(0, .inr (.inr v0)), (1, .inl v1), (2, .inl v2), (3, .inr (.inl v3)), (5, .inl v5)], [], M)
    replace c11 := Int.not_le.mp c11
    replace h := h.2 c11
    refine mm_s1 rfl ?_
    refine nn_getr rfl C0.1 (lf_5_4 L N C0) ?_
    refine mm_s1 rfl ?_
    obtain ⟨b20, h⟩ := h
    refine mm_s1 rfl ⟨nn_bd (na_5_4 NN C0) b20, ?_⟩
    show mm_Go (mm_run 0) mc_Index_nearest _ (21, [(0, .inr (.inr v0)), (1, .inl v1), (2, .inl v2), (3, .inr (.inl v3)), (5, .inl v5)], [.inl (nn_ri M (v0 + 14) v5)], M)
    refine mm_s1 rfl ?_
    refine mm_s1 rfl ?_
    refine mm_s1 rfl ?_
    refine mm_s1 rfl ?_
    refine mm_s1 rfl ?_
    show mm_Go (mm_run 0) mc_Index_nearest _ (28, [(0, .inr (.inr v0)), (1, .inl v1), (2, .inl v2), (3, .inr (.inl v3)), (5, .inl v5)], [.inr (.inl (if 0 < (mm_w64 ((nn_ri M (v0 + 14) v5) - v1)) then (mm_w64 ((nn_ri M (v0 + 14) v5) - v1)) else mm_w64 (-(mm_w64 ((nn_ri M (v0 + 14) v5) - v1)))))], M)
    refine mm_s1 rfl ?_
    show mm_Go (mm_run 0) mc_Index_nearest _ (30, [(0, .inr (.inr v0)), (1, .inl v1), (2, .inl v2), (3, .inr (.inl v3)), (5, .inl v5), (6, .inr (.inl (if 0 < (mm_w64 ((nn_ri M (v0 + 14) v5) - v1)) then (mm_w64 ((nn_ri M (v0 + 14) v5) - v1)) else mm_w64 (-(mm_w64 ((nn_ri M (v0 + 14) v5) - v1))))))], [], M)
    generalize e_x6_28 : (if 0 < (mm_w64 ((nn_ri M (v0 + 14) v5) - v1)) then (mm_w64 ((nn_ri M (v0 + 14) v5) - v1)) else mm_w64 (-(mm_w64 ((nn_ri M (v0 + 14) v5) - v1)))) = x6_28
    replace h := h _ e_x6_28.symm
    show mm_Go (mm_run 0) mc_Index_nearest _ (30, [(0, .inr (.inr v0)), (1, .inl v1), (2, .inl v2), (3, .inr (.inl v3)), (5, .inl v5), (6, .inr (.inl x6_28))], [], M)
    refine mm_s1 rfl ?_
    refine mm_s1 rfl ?_
    refine mm_s1 rfl ⟨fun c32 => ?_, fun c32 => ?_⟩
    · show mm_Go (mm_run 0) mc_Index_nearest _ (65, [(0, .inr (.inr v0)), (1, .inl v1), (2, .inl v2), (3, .inr (.inl v3)), (5, .inl v5), (6, .inr (.inl x6_28))], [], M)
      refine mm_s1 rfl ?_
      refine mm_s1 rfl ?_
      show mm_Go (mm_run 0) mc_Index_nearest _ (70, [(0, .inr (.inr v0)), (1, .inl v1), (2, .inl v2), (3, .inr (.inl v3)), (5, .inl v5), (6, .inr (.inl x6_28))], [.inl 1], M)
      refine mm_s1 rfl ?_
      show mm_Go (mm_run 0) mc_Index_nearest _ (72, [(0, .inr (.inr v0)), (1, .inl v1), (2, .inl v2), (3, .inr (.inl v3)), (5, .inl v5), (6, .inr (.inl x6_28)), (8, .inl 1)], [], M)
      refine mm_s1 rfl ?_
      refine nn_getr rfl C0.1 (lf_5_4 L N C0) ?_
      refine mm_s1 rfl ?_
      have b78 := h.1 c32
      refine mm_s1 rfl ⟨nn_bd (na_5_4 NN C0) b78, ?_⟩
      show mm_Go (mm_run 0) mc_Index_nearest _ (79, [(0, .inr (.inr v0)), (1, .inl v1), (2, .inl v2), (3, .inr (.inl v3)), (5, .inl v5), (6, .inr (.inl x6_28)), (8, .inl 1)], [.inl (nn_ri M (v0 + 14) v5)], M)
      refine mm_s1 rfl ?_
      refine mm_s1 rfl ⟨fun c80 => ?_, fun c80 => ?_⟩
      · show mm_Go (mm_run 0) mc_Index_nearest _ (94, [(0, .inr (.inr v0)), (1, .inl v1), (2, .inl v2), (3, .inr (.inl v3)), (5, .inl v5), (6, .inr (.inl x6_28)), (8, .inl 1)], [], M)
        refine mm_s1 rfl ?_
        show mm_Go (mm_run 0) mc_Index_nearest _ (97, [(0, .inr (.inr v0)), (1, .inl v1), (2, .inl v2), (3, .inr (.inl v3)), (5, .inl (mm_w (v5 + 1))), (6, .inr (.inl x6_28)), (8, .inl 1)], [], M)
        refine mm_s1 rfl ?_
        show mm_Go (mm_run 0) mc_Index_nearest _ (7, [(0, .inr (.inr v0)), (1, .inl v1), (2, .inl v2), (3, .inr (.inl v3)), (5, .inl (mm_w (v5 + 1))), (6, .inr (.inl x6_28)), (8, .inl 1)], [], M)
        replace h := h.2.2.2.2.2.2.2.1 (Or.inl ⟨c32, c80⟩)
        exact nn_go_ext (nn_xc rfl (nn_xc rfl (nn_xc rfl (nn_xc rfl (nn_xc rfl nn_xn))))) (h n L N C0)
      · show mm_Go (mm_run 0) mc_Index_nearest _ (83, [(0, .inr (.inr v0)), (1, .inl v1), (2, .inl v2), (3, .inr (.inl v3)), (5, .inl v5), (6, .inr (.inl x6_28)), (8, .inl 1)], [], M)
        refine mm_s1 rfl ?_
        refine mm_s1 rfl ⟨fun c => absurd c (show ¬ ((1 : Int) = 0) by decide), fun _ => ?_⟩
        show mm_Go (mm_run 0) mc_Index_nearest _ (88, [(0, .inr (.inr v0)), (1, .inl v1), (2, .inl v2), (3, .inr (.inl v3)), (5, .inl v5), (6, .inr (.inl x6_28)), (8, .inl 1)], [], M)
        refine mm_s1 rfl ?_
        refine mm_s1 rfl ?_
        show mm_Go (mm_run 0) mc_Index_nearest _ (91, [(0, .inr (.inr v0)), (1, .inl v1), (2, .inl v5), (3, .inr (.inl v3)), (5, .inl v5), (6, .inr (.inl x6_28)), (8, .inl 1)], [], M)
        refine mm_s1 rfl ?_
        refine mm_s1 rfl ?_
        show mm_Go (mm_run 0) mc_Index_nearest _ (94, [(0, .inr (.inr v0)), (1, .inl v1), (2, .inl v5), (3, .inr (.inl x6_28)), (5, .inl v5), (6, .inr (.inl x6_28)), (8, .inl 1)], [], M)
        refine mm_s1 rfl ?_
        show mm_Go (mm_run 0) mc_Index_nearest _ (97, [(0, .inr (.inr v0)), (1, .inl v1), (2, .inl v5), (3, .inr (.inl x6_28)), (5, .inl (mm_w (v5 + 1))), (6, .inr (.inl x6_28)), (8, .inl 1)], [], M)
        refine mm_s1 rfl ?_
        show mm_Go (mm_run 0) mc_Index_nearest _ (7, [(0, .inr (.inr v0)), (1, .inl v1), (2, .inl v5), (3, .inr (.inl x6_28)), (5, .inl (mm_w (v5 + 1))), (6, .inr (.inl x6_28)), (8, .inl 1)], [], M)
        replace h := h.2.2.2.2.2.2.2.2 (Or.inl ⟨c32, c80⟩)
        exact nn_go_ext (nn_xc rfl (nn_xc rfl (nn_xc rfl (nn_xc rfl (nn_xc rfl nn_xn))))) (h n L N C0)
    · show mm_Go (mm_run 0) mc_Index_nearest _ (35, [(0, .inr (.inr v0)), (1, .inl v1), (2, .inl v2), (3, .inr (.inl v3)), (5, .inl v5), (6, .inr (.inl x6_28))], [], M)
      refine mm_s1 rfl ?_
      refine mm_s1 rfl ?_
      refine mm_s1 rfl ?_
      refine mm_s1 rfl ⟨fun c39 => ?_, fun c39 => ?_⟩
      · show mm_Go (mm_run 0) mc_Index_nearest _ (65, [(0, .inr (.inr v0)), (1, .inl v1), (2, .inl v2), (3, .inr (.inl v3)), (5, .inl v5), (6, .inr (.inl x6_28))], [], M)
        refine mm_s1 rfl ?_
        refine mm_s1 rfl ?_
        show mm_Go (mm_run 0) mc_Index_nearest _ (70, [(0, .inr (.inr v0)), (1, .inl v1), (2, .inl v2), (3, .inr (.inl v3)), (5, .inl v5), (6, .inr (.inl x6_28))], [.inl 1], M)
        refine mm_s1 rfl ?_
        show mm_Go (mm_run 0) mc_Index_nearest _ (72, [(0, .inr (.inr v0)), (1, .inl v1), (2, .inl v2), (3, .inr (.inl v3)), (5, .inl v5), (6, .inr (.inl x6_28)), (8, .inl 1)], [], M)
        refine mm_s1 rfl ?_
        refine nn_getr rfl C0.1 (lf_5_4 L N C0) ?_
        refine mm_s1 rfl ?_
        have b78 := h.2.1 ⟨c32, c39⟩
        refine mm_s1 rfl ⟨nn_bd (na_5_4 NN C0) b78, ?_⟩
        show mm_Go (mm_run 0) mc_Index_nearest _ (79, [(0, .inr (.inr v0)), (1, .inl v1), (2, .inl v2), (3, .inr (.inl v3)), (5, .inl v5), (6, .inr (.inl x6_28)), (8, .inl 1)], [.inl (nn_ri M (v0 + 14) v5)], M)
        refine mm_s1 rfl ?_
        refine mm_s1 rfl ⟨fun c80 => ?_, fun c80 => ?_⟩
        · show mm_Go (mm_run 0) mc_Index_nearest _ (94, [(0, .inr (.inr v0)), (1, .inl v1), (2, .inl v2), (3, .inr (.inl v3)), (5, .inl v5), (6, .inr (.inl x6_28)), (8, .inl 1)], [], M)
          refine mm_s1 rfl ?_
          show mm_Go (mm_run 0) mc_Index_nearest _ (97, [(0, .inr (.inr v0)), (1, .inl v1), (2, .inl v2), (3, .inr (.inl v3)), (5, .inl (mm_w (v5 + 1))), (6, .inr (.inl x6_28)), (8, .inl 1)], [], M)
          refine mm_s1 rfl ?_
          show mm_Go (mm_run 0) mc_Index_nearest _ (7, [(0, .inr (.inr v0)), (1, .inl v1), (2, .inl v2), (3, .inr (.inl v3)), (5, .inl (mm_w (v5 + 1))), (6, .inr (.inl x6_28)), (8, .inl 1)], [], M)
          replace h := h.2.2.2.2.2.2.2.1 (Or.inr ⟨c32, (Or.inl ⟨c39, c80⟩)⟩)
          exact nn_go_ext (nn_xc rfl (nn_xc rfl (nn_xc rfl (nn_xc rfl (nn_xc rfl nn_xn))))) (h n L N C0)
        · show mm_Go (mm_run 0) mc_Index_nearest _ (83, [(0, .inr (.inr v0)), (1, .inl v1), (2, .inl v2), (3, .inr (.inl v3)), (5, .inl v5), (6, .inr (.inl x6_28)), (8, .inl 1)], [], M)
          refine mm_s1 rfl ?_
          refine mm_s1 rfl ⟨fun c => absurd c (show ¬ ((1 : Int) = 0) by decide), fun _ => ?_⟩
          show mm_Go (mm_run 0) mc_Index_nearest _ (88, [(0, .inr (.inr v0)), (1, .inl v1), (2, .inl v2), (3, .inr (.inl v3)), (5, .inl v5), (6, .inr (.inl x6_28)), (8, .inl 1)], [], M)
          refine mm_s1 rfl ?_
          refine mm_s1 rfl ?_
          show mm_Go (mm_run 0) mc_Index_nearest _ (91, [(0, .inr (.inr v0)), (1, .inl v1), (2, .inl v5), (3, .inr (.inl v3)), (5, .inl v5), (6, .inr (.inl x6_28)), (8, .inl 1)], [], M)
          refine mm_s1 rfl ?_
          refine mm_s1 rfl ?_
          show mm_Go (mm_run 0) mc_Index_nearest _ (94, [(0, .inr (.inr v0)), (1, .inl v1), (2, .inl v5), (3, .inr (.inl x6_28)), (5, .inl v5), (6, .inr (.inl x6_28)), (8, .inl 1)], [], M)
          refine mm_s1 rfl ?_
          show mm_Go (mm_run 0) mc_Index_nearest _ (97, [(0, .inr (.inr v0)), (1, .inl v1), (2, .inl v5), (3, .inr (.inl x6_28)), (5, .inl (mm_w (v5 + 1))), (6, .inr (.inl x6_28)), (8, .inl 1)], [], M)
          refine mm_s1 rfl ?_
          show mm_Go (mm_run 0) mc_Index_nearest _ (7, [(0, .inr (.inr v0)), (1, .inl v1), (2, .inl v5), (3, .inr (.inl x6_28)), (5, .inl (mm_w (v5 + 1))), (6, .inr (.inl x6_28)), (8, .inl 1)], [], M)
          replace h := h.2.2.2.2.2.2.2.2 (Or.inr ⟨c32, (Or.inl ⟨c39, c80⟩)⟩)
          exact nn_go_ext (nn_xc rfl (nn_xc rfl (nn_xc rfl (nn_xc rfl (nn_xc rfl nn_xn))))) (h n L N C0)
      · show mm_Go (mm_run 0) mc_Index_nearest _ (42, [(0, .inr (.inr v0)), (1, .inl v1), (2, .inl v2), (3, .inr (.inl v3)), (5, .inl v5), (6, .inr (.inl x6_28))], [], M)
        replace c39 := Int.not_lt.mp c39
        refine mm_s1 rfl ?_
        refine mm_s1 rfl ?_
        refine mm_s1 rfl ?_
        refine mm_s1 rfl ⟨fun c46 => ?_, fun c46 => ?_⟩
        · show mm_Go (mm_run 0) mc_Index_nearest _ (69, [(0, .inr (.inr v0)), (1, .inl v1), (2, .inl v2), (3, .inr (.inl v3)), (5, .inl v5), (6, .inr (.inl x6_28))], [], M)
          refine mm_s1 rfl ?_
          refine mm_s1 rfl ?_
          show mm_Go (mm_run 0) mc_Index_nearest _ (72, [(0, .inr (.inr v0)), (1, .inl v1), (2, .inl v2), (3, .inr (.inl v3)), (5, .inl v5), (6, .inr (.inl x6_28)), (8, .inl 0)], [], M)
          refine mm_s1 rfl ?_
          refine nn_getr rfl C0.1 (lf_5_4 L N C0) ?_
          refine mm_s1 rfl ?_
          have b78 := h.2.2.1 ⟨c32, c39, c46⟩
          refine mm_s1 rfl ⟨nn_bd (na_5_4 NN C0) b78, ?_⟩
          show mm_Go (mm_run 0) mc_Index_nearest _ (79, [(0, .inr (.inr v0)), (1, .inl v1), (2, .inl v2), (3, .inr (.inl v3)), (5, .inl v5), (6, .inr (.inl x6_28)), (8, .inl 0)], [.inl (nn_ri M (v0 + 14) v5)], M)
          refine mm_s1 rfl ?_
          refine mm_s1 rfl ⟨fun c80 => ?_, fun c80 => ?_⟩
          · show mm_Go (mm_run 0) mc_Index_nearest _ (94, [(0, .inr (.inr v0)), (1, .inl v1), (2, .inl v2), (3, .inr (.inl v3)), (5, .inl v5), (6, .inr (.inl x6_28)), (8, .inl 0)], [], M)
            refine mm_s1 rfl ?_
            show mm_Go (mm_run 0) mc_Index_nearest _ (97, [(0, .inr (.inr v0)), (1, .inl v1), (2, .inl v2), (3, .inr (.inl v3)), (5, .inl (mm_w (v5 + 1))), (6, .inr (.inl x6_28)), (8, .inl 0)], [], M)
            refine mm_s1 rfl ?_
            show mm_Go (mm_run 0) mc_Index_nearest _ (7, [(0, .inr (.inr v0)), (1, .inl v1), (2, .inl v2), (3, .inr (.inl v3)), (5, .inl (mm_w (v5 + 1))), (6, .inr (.inl x6_28)), (8, .inl 0)], [], M)
            replace h := h.2.2.2.2.2.2.2.1 (Or.inr ⟨c32, (Or.inr ⟨c39, (Or.inl c46)⟩)⟩)
            exact nn_go_ext (nn_xc rfl (nn_xc rfl (nn_xc rfl (nn_xc rfl (nn_xc rfl nn_xn))))) (h n L N C0)
          · show mm_Go (mm_run 0) mc_Index_nearest _ (83, [(0, .inr (.inr v0)), (1, .inl v1), (2, .inl v2), (3, .inr (.inl v3)), (5, .inl v5), (6, .inr (.inl x6_28)), (8, .inl 0)], [], M)
            refine mm_s1 rfl ?_
            refine mm_s1 rfl ⟨fun _ => ?_, fun c => absurd (show (0 : Int) = 0 by decide) c⟩
            show mm_Go (mm_run 0) mc_Index_nearest _ (94, [(0, .inr (.inr v0)), (1, .inl v1), (2, .inl v2), (3, .inr (.inl v3)), (5, .inl v5), (6, .inr (.inl x6_28)), (8, .inl 0)], [], M)
            refine mm_s1 rfl ?_
            show mm_Go (mm_run 0) mc_Index_nearest _ (97, [(0, .inr (.inr v0)), (1, .inl v1), (2, .inl v2), (3, .inr (.inl v3)), (5, .inl (mm_w (v5 + 1))), (6, .inr (.inl x6_28)), (8, .inl 0)], [], M)
            refine mm_s1 rfl ?_
            show mm_Go (mm_run 0) mc_Index_nearest _ (7, [(0, .inr (.inr v0)), (1, .inl v1), (2, .inl v2), (3, .inr (.inl v3)), (5, .inl (mm_w (v5 + 1))), (6, .inr (.inl x6_28)), (8, .inl 0)], [], M)
            replace h := h.2.2.2.2.2.2.2.1 (Or.inr ⟨c32, (Or.inr ⟨c39, (Or.inl c46)⟩)⟩)
            exact nn_go_ext (nn_xc rfl (nn_xc rfl (nn_xc rfl (nn_xc rfl (nn_xc rfl nn_xn))))) (h n L N C0)
        · show mm_Go (mm_run 0) mc_Index_nearest _ (49, [(0, .inr (.inr v0)), (1, .inl v1), (2, .inl v2), (3, .inr (.inl v3)), (5, .inl v5), (6, .inr (.inl x6_28))], [], M)
          replace c46 := Decidable.not_not.mp c46
          refine mm_s1 rfl ?_
          refine nn_getr rfl C0.1 (lf_5_4 L N C0) ?_
          refine mm_s1 rfl ?_
          have b55 := h.2.2.2.1 ⟨c32, c39, c46⟩
          refine mm_s1 rfl ⟨nn_bd (na_5_4 NN C0) b55, ?_⟩
          show mm_Go (mm_run 0) mc_Index_nearest _ (56, [(0, .inr (.inr v0)), (1, .inl v1), (2, .inl v2), (3, .inr (.inl v3)), (5, .inl v5), (6, .inr (.inl x6_28))], [.inl (nn_ri M (v0 + 14) v5)], M)
          refine mm_s1 rfl ?_
          refine nn_getr rfl C0.1 (lf_5_4 L N C0) ?_
          refine mm_s1 rfl ?_
          have b61 := h.2.2.2.2.1 ⟨c32, c39, c46⟩
          refine mm_s1 rfl ⟨nn_bd (na_5_4 NN C0) b61, ?_⟩
          show mm_Go (mm_run 0) mc_Index_nearest _ (62, [(0, .inr (.inr v0)), (1, .inl v1), (2, .inl v2), (3, .inr (.inl v3)), (5, .inl v5), (6, .inr (.inl x6_28))], [.inl (nn_ri M (v0 + 14) v2), .inl (nn_ri M (v0 + 14) v5)], M)
          refine mm_s1 rfl ⟨fun c62 => ?_, fun c62 => ?_⟩
          · show mm_Go (mm_run 0) mc_Index_nearest _ (69, [(0, .inr (.inr v0)), (1, .inl v1), (2, .inl v2), (3, .inr (.inl v3)), (5, .inl v5), (6, .inr (.inl x6_28))], [], M)
            refine mm_s1 rfl ?_
            refine mm_s1 rfl ?_
            show mm_Go (mm_run 0) mc_Index_nearest _ (72, [(0, .inr (.inr v0)), (1, .inl v1), (2, .inl v2), (3, .inr (.inl v3)), (5, .inl v5), (6, .inr (.inl x6_28)), (8, .inl 0)], [], M)
            refine mm_s1 rfl ?_
            refine nn_getr rfl C0.1 (lf_5_4 L N C0) ?_
            refine mm_s1 rfl ?_
            have b78 := h.2.2.2.2.2.1 ⟨c32, c39, c46, c62⟩
            refine mm_s1 rfl ⟨nn_bd (na_5_4 NN C0) b78, ?_⟩
            show mm_Go (mm_run 0) mc_Index_nearest _ (79, [(0, .inr (.inr v0)), (1, .inl v1), (2, .inl v2), (3, .inr (.inl v3)), (5, .inl v5), (6, .inr (.inl x6_28)), (8, .inl 0)], [.inl (nn_ri M (v0 + 14) v5)], M)
            refine mm_s1 rfl ?_
            refine mm_s1 rfl ⟨fun c80 => ?_, fun c80 => ?_⟩
            · show mm_Go (mm_run 0) mc_Index_nearest _ (94, [(0, .inr (.inr v0)), (1, .inl v1), (2, .inl v2), (3, .inr (.inl v3)), (5, .inl v5), (6, .inr (.inl x6_28)), (8, .inl 0)], [], M)
              refine mm_s1 rfl ?_
              show mm_Go (mm_run 0) mc_Index_nearest _ (97, [(0, .inr (.inr v0)), (1, .inl v1), (2, .inl v2), (3, .inr (.inl v3)), (5, .inl (mm_w (v5 + 1))), (6, .inr (.inl x6_28)), (8, .inl 0)], [], M)
              refine mm_s1 rfl ?_
              show mm_Go (mm_run 0) mc_Index_nearest _ (7, [(0, .inr (.inr v0)), (1, .inl v1), (2, .inl v2), (3, .inr (.inl v3)), (5, .inl (mm_w (v5 + 1))), (6, .inr (.inl x6_28)), (8, .inl 0)], [], M)
              replace h := h.2.2.2.2.2.2.2.1 (Or.inr ⟨c32, (Or.inr ⟨c39, (Or.inr (Or.inl c62))⟩)⟩)
              exact nn_go_ext (nn_xc rfl (nn_xc rfl (nn_xc rfl (nn_xc rfl (nn_xc rfl nn_xn))))) (h n L N C0)
            · show mm_Go (mm_run 0) mc_Index_nearest _ (83, [(0, .inr (.inr v0)), (1, .inl v1), (2, .inl v2), (3, .inr (.inl v3)), (5, .inl v5), (6, .inr (.inl x6_28)), (8, .inl 0)], [], M)
              refine mm_s1 rfl ?_
              refine mm_s1 rfl ⟨fun _ => ?_, fun c => absurd (show (0 : Int) = 0 by decide) c⟩
              show mm_Go (mm_run 0) mc_Index_nearest _ (94, [(0, .inr (.inr v0)), (1, .inl v1), (2, .inl v2), (3, .inr (.inl v3)), (5, .inl v5), (6, .inr (.inl x6_28)), (8, .inl 0)], [], M)
              refine mm_s1 rfl ?_
              show mm_Go (mm_run 0) mc_Index_nearest _ (97, [(0, .inr (.inr v0)), (1, .inl v1), (2, .inl v2), (3, .inr (.inl v3)), (5, .inl (mm_w (v5 + 1))), (6, .inr (.inl x6_28)), (8, .inl 0)], [], M)
              refine mm_s1 rfl ?_
              show mm_Go (mm_run 0) mc_Index_nearest _ (7, [(0, .inr (.inr v0)), (1, .inl v1), (2, .inl v2), (3, .inr (.inl v3)), (5, .inl (mm_w (v5 + 1))), (6, .inr (.inl x6_28)), (8, .inl 0)], [], M)
              replace h := h.2.2.2.2.2.2.2.1 (Or.inr ⟨c32, (Or.inr ⟨c39, (Or.inr (Or.inl c62))⟩)⟩)
              exact nn_go_ext (nn_xc rfl (nn_xc rfl (nn_xc rfl (nn_xc rfl (nn_xc rfl nn_xn))))) (h n L N C0)
          · show mm_Go (mm_run 0) mc_Index_nearest _ (65, [(0, .inr (.inr v0)), (1, .inl v1), (2, .inl v2), (3, .inr (.inl v3)), (5, .inl v5), (6, .inr (.inl x6_28))], [], M)
            replace c62 := Int.not_le.mp c62
            refine mm_s1 rfl ?_
            refine mm_s1 rfl ?_
            show mm_Go (mm_run 0) mc_Index_nearest _ (70, [(0, .inr (.inr v0)), (1, .inl v1), (2, .inl v2), (3, .inr (.inl v3)), (5, .inl v5), (6, .inr (.inl x6_28))], [.inl 1], M)
            refine mm_s1 rfl ?_
            show mm_Go (mm_run 0) mc_Index_nearest _ (72, [(0, .inr (.inr v0)), (1, .inl v1), (2, .inl v2), (3, .inr (.inl v3)), (5, .inl v5), (6, .inr (.inl x6_28)), (8, .inl 1)], [], M)
            refine mm_s1 rfl ?_
            refine nn_getr rfl C0.1 (lf_5_4 L N C0) ?_
            refine mm_s1 rfl ?_
            have b78 := h.2.2.2.2.2.2.1 ⟨c32, c39, c46, c62⟩
            refine mm_s1 rfl ⟨nn_bd (na_5_4 NN C0) b78, ?_⟩
            show mm_Go (mm_run 0) mc_Index_nearest _ (79, [(0, .inr (.inr v0)), (1, .inl v1), (2, .inl v2), (3, .inr (.inl v3)), (5, .inl v5), (6, .inr (.inl x6_28)), (8, .inl 1)], [.inl (nn_ri M (v0 + 14) v5)], M)
            refine mm_s1 rfl ?_
            refine mm_s1 rfl ⟨fun c80 => ?_, fun c80 => ?_⟩
            · show mm_Go (mm_run 0) mc_Index_nearest _ (94, [(0, .inr (.inr v0)), (1, .inl v1), (2, .inl v2), (3, .inr (.inl v3)), (5, .inl v5), (6, .inr (.inl x6_28)), (8, .inl 1)], [], M)
              refine mm_s1 rfl ?_
              show mm_Go (mm_run 0) mc_Index_nearest _ (97, [(0, .inr (.inr v0)), (1, .inl v1), (2, .inl v2), (3, .inr (.inl v3)), (5, .inl (mm_w (v5 + 1))), (6, .inr (.inl x6_28)), (8, .inl 1)], [], M)
              refine mm_s1 rfl ?_
              show mm_Go (mm_run 0) mc_Index_nearest _ (7, [(0, .inr (.inr v0)), (1, .inl v1), (2, .inl v2), (3, .inr (.inl v3)), (5, .inl (mm_w (v5 + 1))), (6, .inr (.inl x6_28)), (8, .inl 1)], [], M)
              replace h := h.2.2.2.2.2.2.2.1 (Or.inr ⟨c32, (Or.inr ⟨c39, (Or.inr (Or.inr c80))⟩)⟩)
              exact nn_go_ext (nn_xc rfl (nn_xc rfl (nn_xc rfl (nn_xc rfl (nn_xc rfl nn_xn))))) (h n L N C0)
            · show mm_Go (mm_run 0) mc_Index_nearest _ (83, [(0, .inr (.inr v0)), (1, .inl v1), (2, .inl v2), (3, .inr (.inl v3)), (5, .inl v5), (6, .inr (.inl x6_28)), (8, .inl 1)], [], M)
              refine mm_s1 rfl ?_
              refine mm_s1 rfl ⟨fun c => absurd c (show ¬ ((1 : Int) = 0) by decide), fun _ => ?_⟩
              show mm_Go (mm_run 0) mc_Index_nearest _ (88, [(0, .inr (.inr v0)), (1, .inl v1), (2, .inl v2), (3, .inr (.inl v3)), (5, .inl v5), (6, .inr (.inl x6_28)), (8, .inl 1)], [], M)
              refine mm_s1 rfl ?_
              refine mm_s1 rfl ?_
              show mm_Go (mm_run 0) mc_Index_nearest _ (91, [(0, .inr (.inr v0)), (1, .inl v1), (2, .inl v5), (3, .inr (.inl v3)), (5, .inl v5), (6, .inr (.inl x6_28)), (8, .inl 1)], [], M)
              refine mm_s1 rfl ?_
              refine mm_s1 rfl ?_
              show mm_Go (mm_run 0) mc_Index_nearest _ (94, [(0, .inr (.inr v0)), (1, .inl v1), (2, .inl v5), (3, .inr (.inl x6_28)), (5, .inl v5), (6, .inr (.inl x6_28)), (8, .inl 1)], [], M)
              refine mm_s1 rfl ?_
              show mm_Go (mm_run 0) mc_Index_nearest _ (97, [(0, .inr (.inr v0)), (1, .inl v1), (2, .inl v5), (3, .inr (.inl x6_28)), (5, .inl (mm_w (v5 + 1))), (6, .inr (.inl x6_28)), (8, .inl 1)], [], M)
              refine mm_s1 rfl ?_
              show mm_Go (mm_run 0) mc_Index_nearest _ (7, [(0, .inr (.inr v0)), (1, .inl v1), (2, .inl v5), (3, .inr (.inl x6_28)), (5, .inl (mm_w (v5 + 1))), (6, .inr (.inl x6_28)), (8, .inl 1)], [], M)
              replace h := h.2.2.2.2.2.2.2.2 (Or.inr ⟨c32, (Or.inr ⟨c39, ⟨c46, ⟨c62, c80⟩⟩⟩)⟩)
              exact nn_go_ext (nn_xc rfl (nn_xc rfl (nn_xc rfl (nn_xc rfl (nn_xc rfl nn_xn))))) (h n L N C0)
