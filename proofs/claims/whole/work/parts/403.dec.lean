/-! methods walked by program (wip/whole/dec.py) -/
def nf_M_head (v0 : Int) (v1 : Int) : Int := mm_w ((mm_w (v0 + 143)) + (mm_w (3 * v1)))
set_option maxRecDepth 20000 in
theorem np_M_head {v0 : Int} {v1 : Int} {M : mm_M} {n d : Nat} {P : mm_P} (hd : 1 ≤ d) (L : nn_L M) (N : M.1 = n)  (h : P (some (.inl (nf_M_head v0 v1))) M) : mm_run d mi_M_head [.inl v0, .inl v1] M P := by
  have NN := nn_L_n L N
  unfold nf_M_head at h
  refine nn_run_le hd ?_
  show mm_Go (mm_run 0) mc_M_head _ (0, [(0, .inl v0), (1, .inl v1)], [], M)
  refine mm_s1 rfl ?_
  refine mm_s1 rfl ?_
  refine mm_s1 rfl ?_
  refine mm_s1 rfl ?_
  refine mm_s1 rfl ?_
  refine mm_s1 rfl ?_
  refine mm_s1 rfl ?_
  exact mm_s1 rfl h
def nr_M_number (v1 : Int) (M : mm_M) (R : Int → mm_M → Prop) : Prop := ∀ n, nn_L M → M.1 = n → mm_run 1 mi_M_number [.inr (.inr 407), .inl v1] M (nw_I n R)
set_option maxRecDepth 20000 in
theorem ng_M_number (v1 : Int) (M : mm_M) (R : Int → mm_M → Prop) (h : (((0 : Int) ≤ (mm_w (v1 + 8)) ∧ (mm_w (v1 + 8)) < (32844 : Int)) ∧ (((0 : Int) ≤ (mm_w (v1 + 8)) ∧ (mm_w (v1 + 8)) < (32844 : Int)) ∧ (∀ M12 : mm_M, M12 = nn_ui M 408 (mm_w (v1 + 8)) (mm_w ((nn_ri M 408 (mm_w (v1 + 8))) + 1)) → (((0 : Int) ≤ (mm_w (v1 + 8)) ∧ (mm_w (v1 + 8)) < (32844 : Int)) ∧ R (nn_ri M12 408 (mm_w (v1 + 8))) M12))))) : nr_M_number v1 M R := by
  intro n L N 
  have NN := nn_L_n L N
  show mm_Go (mm_run 0) mc_M_number _ (0, [(0, .inr (.inr 407)), (1, .inl v1)], [], M)
  refine mm_s1 rfl ?_
  refine nn_getr rfl (nn_c407 NN).1 (lf_13_0 L N (nn_c407 NN)) ?_
  refine mm_s1 rfl ?_
  refine mm_s1 rfl ?_
  refine mm_s1 rfl ?_
  show mm_Go (mm_run 0) mc_M_number _ (8, [(0, .inr (.inr 407)), (1, .inl v1)], [.inl (mm_w (v1 + 8)), .inr (.inr 408)], M)
  refine mm_s1 rfl ?_
  obtain ⟨b9, h⟩ := h
  refine mm_s1 rfl ⟨nn_bd (na_13_0 NN (nn_c407 NN)) b9, ?_⟩
  show mm_Go (mm_run 0) mc_M_number _ (10, [(0, .inr (.inr 407)), (1, .inl v1)], [.inl (nn_ri M 408 (mm_w (v1 + 8))), .inl (mm_w (v1 + 8)), .inr (.inr 408)], M)
  refine mm_s1 rfl ?_
  refine mm_s1 rfl ?_
  obtain ⟨b12, h⟩ := h
  refine mm_s1 rfl ⟨nn_bd (na_13_0 NN (nn_c407 NN)) b12, ?_⟩
  show mm_Go (mm_run 0) mc_M_number _ (13, [(0, .inr (.inr 407)), (1, .inl v1)], [], (nn_ui M 408 (mm_w (v1 + 8)) (mm_w ((nn_ri M 408 (mm_w (v1 + 8))) + 1))))
  have L : nn_L (nn_ui M 408 (mm_w (v1 + 8)) (mm_w ((nn_ri M 408 (mm_w (v1 + 8))) + 1))) := nn_L_ua L (congrArg Prod.fst (na_13_0 NN (nn_c407 NN))) (by decide)
  have N : (nn_ui M 408 (mm_w (v1 + 8)) (mm_w ((nn_ri M 408 (mm_w (v1 + 8))) + 1))).1 = n := N
  generalize e_M12 : (nn_ui M 408 (mm_w (v1 + 8)) (mm_w ((nn_ri M 408 (mm_w (v1 + 8))) + 1))) = M12 at L N ⊢
  replace h := h _ e_M12.symm
  show mm_Go (mm_run 0) mc_M_number _ (13, [(0, .inr (.inr 407)), (1, .inl v1)], [], M12)
  refine mm_s1 rfl ?_
  refine nn_getr rfl (nn_c407 NN).1 (lf_13_0 L N (nn_c407 NN)) ?_
  refine mm_s1 rfl ?_
  refine mm_s1 rfl ?_
  refine mm_s1 rfl ?_
  show mm_Go (mm_run 0) mc_M_number _ (21, [(0, .inr (.inr 407)), (1, .inl v1)], [.inl (mm_w (v1 + 8)), .inr (.inr 408)], M12)
  obtain ⟨b21, h⟩ := h
  refine mm_s1 rfl ⟨nn_bd (na_13_0 NN (nn_c407 NN)) b21, ?_⟩
  show mm_Go (mm_run 0) mc_M_number _ (22, [(0, .inr (.inr 407)), (1, .inl v1)], [.inl (nn_ri M12 408 (mm_w (v1 + 8)))], M12)
  exact mm_s1 rfl ⟨_, rfl, L, N, h⟩
def nr_M_draws (v1 : Int) (M : mm_M) (R : Int → mm_M → Prop) : Prop := ∀ n, nn_L M → M.1 = n → mm_run 1 mi_M_draws [.inr (.inr 407), .inl v1] M (nw_I n R)
set_option maxRecDepth 20000 in
theorem ng_M_draws (v1 : Int) (M : mm_M) (R : Int → mm_M → Prop) (h : (∀ M12 : mm_M, M12 = nn_uf M 407 2 (mm_w ((mm_w ((nn_rf M 407 2) * 1103515245)) + 12345)) → (((0 : Int) ≤ (mm_ushr (nn_rf M12 407 2) 16) ∧ (0 : Int) < v1) ∧ R ((mm_ushr (nn_rf M12 407 2) 16) % v1) M12))) : nr_M_draws v1 M R := by
  intro n L N 
  have NN := nn_L_n L N
  show mm_Go (mm_run 0) mc_M_draws _ (0, [(0, .inr (.inr 407)), (1, .inl v1)], [], M)
  refine mm_s1 rfl ?_
  refine mm_s1 rfl ?_
  refine mm_s1 rfl ⟨(nn_c407 NN).1, ?_⟩
  show mm_Go (mm_run 0) mc_M_draws _ (5, [(0, .inr (.inr 407)), (1, .inl v1)], [.inl (nn_rf M 407 2), .inr (.inr 407)], M)
  refine mm_s1 rfl ?_
  refine mm_s1 rfl ?_
  refine mm_s1 rfl ?_
  refine mm_s1 rfl ?_
  refine mm_s1 rfl ⟨(nn_c407 NN).1, ?_⟩
  show mm_Go (mm_run 0) mc_M_draws _ (15, [(0, .inr (.inr 407)), (1, .inl v1)], [], (nn_uf M 407 2 (mm_w ((mm_w ((nn_rf M 407 2) * 1103515245)) + 12345))))
  have L : nn_L (nn_uf M 407 2 (mm_w ((mm_w ((nn_rf M 407 2) * 1103515245)) + 12345))) := nn_L_up L (nn_c407 NN).1 rfl
  have N : (nn_uf M 407 2 (mm_w ((mm_w ((nn_rf M 407 2) * 1103515245)) + 12345))).1 = n := N
  generalize e_M12 : (nn_uf M 407 2 (mm_w ((mm_w ((nn_rf M 407 2) * 1103515245)) + 12345))) = M12 at L N ⊢
  replace h := h _ e_M12.symm
  show mm_Go (mm_run 0) mc_M_draws _ (15, [(0, .inr (.inr 407)), (1, .inl v1)], [], M12)
  refine mm_s1 rfl ?_
  refine mm_s1 rfl ⟨(nn_c407 NN).1, ?_⟩
  show mm_Go (mm_run 0) mc_M_draws _ (19, [(0, .inr (.inr 407)), (1, .inl v1)], [.inl (nn_rf M12 407 2)], M12)
  refine mm_s1 rfl ?_
  refine mm_s1 rfl ?_
  refine mm_s1 rfl ?_
  obtain ⟨b23, h⟩ := h
  refine mm_s1 rfl ⟨b23, ?_⟩
  exact mm_s1 rfl ⟨_, rfl, L, N, h⟩
def nf_M_cursorAt (v0 : Int) (v1 : Int) : Int := mm_w ((mm_w (v0 + 5204)) + (mm_w (90 * v1)))
set_option maxRecDepth 20000 in
theorem np_M_cursorAt {v0 : Int} {v1 : Int} {M : mm_M} {n d : Nat} {P : mm_P} (hd : 1 ≤ d) (L : nn_L M) (N : M.1 = n)  (h : P (some (.inl (nf_M_cursorAt v0 v1))) M) : mm_run d mi_M_cursorAt [.inl v0, .inl v1] M P := by
  have NN := nn_L_n L N
  unfold nf_M_cursorAt at h
  refine nn_run_le hd ?_
  show mm_Go (mm_run 0) mc_M_cursorAt _ (0, [(0, .inl v0), (1, .inl v1)], [], M)
  refine mm_s1 rfl ?_
  refine mm_s1 rfl ?_
  refine mm_s1 rfl ?_
  refine mm_s1 rfl ?_
  refine mm_s1 rfl ?_
  refine mm_s1 rfl ?_
  refine mm_s1 rfl ?_
  exact mm_s1 rfl h
def nr_M_inMemory (v1 : Int) (M : mm_M) (R : Int → mm_M → Prop) : Prop := ∀ n, nn_L M → M.1 = n → mm_run 1 mi_M_inMemory [.inr (.inr 407), .inl v1] M (nw_I n R)
def nk_M_inMemory_4 (v1 : Int) (v2 : Int) (v3 : Int) (M : mm_M) (R : Int → mm_M → Prop) : Prop := ∀ n, nn_L M → M.1 = n → mm_Go (mm_run 0) mc_M_inMemory (nw_I n R) (4, [(0, .inr (.inr 407)), (1, .inl v1), (2, .inl v2), (3, .inl v3)], [], M)
set_option maxRecDepth 20000 in
theorem ng_M_inMemory (v1 : Int) (M : mm_M) (R : Int → mm_M → Prop) (h : nk_M_inMemory_4 v1 0 0 M R) : nr_M_inMemory v1 M R := by
  intro n L N 
  have NN := nn_L_n L N
  show mm_Go (mm_run 0) mc_M_inMemory _ (0, [(0, .inr (.inr 407)), (1, .inl v1)], [], M)
  refine mm_s1 rfl ?_
  refine mm_s1 rfl ?_
  show mm_Go (mm_run 0) mc_M_inMemory _ (2, [(0, .inr (.inr 407)), (1, .inl v1), (2, .inl 0)], [], M)
  refine mm_s1 rfl ?_
  refine mm_s1 rfl ?_
  show mm_Go (mm_run 0) mc_M_inMemory _ (4, [(0, .inr (.inr 407)), (1, .inl v1), (2, .inl 0), (3, .inl 0)], [], M)
  exact nn_go_ext (nn_xc rfl (nn_xc rfl (nn_xc rfl (nn_xc rfl nn_xn)))) (h n L N)
set_option maxRecDepth 20000 in
theorem ng_M_inMemory_4 (v1 : Int) (v2 : Int) (v3 : Int) (M : mm_M) (R : Int → mm_M → Prop) (h : ((32 ≤ v3 → R v2 M) ∧ (v3 < 32 → (((0 : Int) ≤ (mm_w ((mm_w (v1 + 24)) + v3)) ∧ (mm_w ((mm_w (v1 + 24)) + v3)) < (32844 : Int)) ∧ (((nn_ri M 408 (mm_w ((mm_w (v1 + 24)) + v3))) ≤ 0 → nk_M_inMemory_4 v1 (mm_w (v2 + 0)) (mm_w (v3 + 1)) M R) ∧ (0 < (nn_ri M 408 (mm_w ((mm_w (v1 + 24)) + v3))) → nk_M_inMemory_4 v1 (mm_w (v2 + 1)) (mm_w (v3 + 1)) M R)))))) : nk_M_inMemory_4 v1 v2 v3 M R := by
  intro n L N 
  have NN := nn_L_n L N
  show mm_Go (mm_run 0) mc_M_inMemory _ (4, [(0, .inr (.inr 407)), (1, .inl v1), (2, .inl v2), (3, .inl v3)], [], M)
  refine mm_s1 rfl ?_
  refine mm_s1 rfl ?_
  refine mm_s1 rfl ⟨fun c7 => ?_, fun c7 => ?_⟩
  · show mm_Go (mm_run 0) mc_M_inMemory _ (38, [(0, .inr (.inr 407)), (1, .inl v1), (2, .inl v2), (3, .inl v3)], [], M)
    replace h := h.1 c7
    refine mm_s1 rfl ?_
    exact mm_s1 rfl ⟨_, rfl, L, N, h⟩
  · show mm_Go (mm_run 0) mc_M_inMemory _ (10, [(0, .inr (.inr 407)), (1, .inl v1), (2, .inl v2), (3, .inl v3)], [], M)
    replace c7 := Int.not_le.mp c7
    replace h := h.2 c7
    refine mm_s1 rfl ?_
    refine mm_s1 rfl ?_
    refine nn_getr rfl (nn_c407 NN).1 (lf_13_0 L N (nn_c407 NN)) ?_
    refine mm_s1 rfl ?_
    refine mm_s1 rfl ?_
    show mm_Go (mm_run 0) mc_M_inMemory _ (18, [(0, .inr (.inr 407)), (1, .inl v1), (2, .inl v2), (3, .inl v3)], [.inl 24, .inl v1, .inr (.inr 408), .inl v2], M)
    refine mm_s1 rfl ?_
    refine mm_s1 rfl ?_
    refine mm_s1 rfl ?_
    obtain ⟨b21, h⟩ := h
    refine mm_s1 rfl ⟨nn_bd (na_13_0 NN (nn_c407 NN)) b21, ?_⟩
    show mm_Go (mm_run 0) mc_M_inMemory _ (22, [(0, .inr (.inr 407)), (1, .inl v1), (2, .inl v2), (3, .inl v3)], [.inl (nn_ri M 408 (mm_w ((mm_w (v1 + 24)) + v3))), .inl v2], M)
    refine mm_s1 rfl ⟨fun c22 => ?_, fun c22 => ?_⟩
    · show mm_Go (mm_run 0) mc_M_inMemory _ (29, [(0, .inr (.inr 407)), (1, .inl v1), (2, .inl v2), (3, .inl v3)], [.inl v2], M)
      replace h := h.1 c22
      refine mm_s1 rfl ?_
      refine mm_s1 rfl ?_
      refine mm_s1 rfl ?_
      show mm_Go (mm_run 0) mc_M_inMemory _ (32, [(0, .inr (.inr 407)), (1, .inl v1), (2, .inl (mm_w (v2 + 0))), (3, .inl v3)], [], M)
      refine mm_s1 rfl ?_
      show mm_Go (mm_run 0) mc_M_inMemory _ (35, [(0, .inr (.inr 407)), (1, .inl v1), (2, .inl (mm_w (v2 + 0))), (3, .inl (mm_w (v3 + 1)))], [], M)
      refine mm_s1 rfl ?_
      show mm_Go (mm_run 0) mc_M_inMemory _ (4, [(0, .inr (.inr 407)), (1, .inl v1), (2, .inl (mm_w (v2 + 0))), (3, .inl (mm_w (v3 + 1)))], [], M)
      exact nn_go_ext (nn_xc rfl (nn_xc rfl (nn_xc rfl (nn_xc rfl nn_xn)))) (h n L N)
    · show mm_Go (mm_run 0) mc_M_inMemory _ (25, [(0, .inr (.inr 407)), (1, .inl v1), (2, .inl v2), (3, .inl v3)], [.inl v2], M)
      replace c22 := Int.not_le.mp c22
      replace h := h.2 c22
      refine mm_s1 rfl ?_
      refine mm_s1 rfl ?_
      show mm_Go (mm_run 0) mc_M_inMemory _ (30, [(0, .inr (.inr 407)), (1, .inl v1), (2, .inl v2), (3, .inl v3)], [.inl 1, .inl v2], M)
      refine mm_s1 rfl ?_
      refine mm_s1 rfl ?_
      show mm_Go (mm_run 0) mc_M_inMemory _ (32, [(0, .inr (.inr 407)), (1, .inl v1), (2, .inl (mm_w (v2 + 1))), (3, .inl v3)], [], M)
      refine mm_s1 rfl ?_
      show mm_Go (mm_run 0) mc_M_inMemory _ (35, [(0, .inr (.inr 407)), (1, .inl v1), (2, .inl (mm_w (v2 + 1))), (3, .inl (mm_w (v3 + 1)))], [], M)
      refine mm_s1 rfl ?_
      show mm_Go (mm_run 0) mc_M_inMemory _ (4, [(0, .inr (.inr 407)), (1, .inl v1), (2, .inl (mm_w (v2 + 1))), (3, .inl (mm_w (v3 + 1)))], [], M)
      exact nn_go_ext (nn_xc rfl (nn_xc rfl (nn_xc rfl (nn_xc rfl nn_xn)))) (h n L N)
def nr_M_copies (v1 : Int) (v2 : Int) (M : mm_M) (R : mm_M → Prop) : Prop := ∀ n, nn_L M → M.1 = n → mm_run 1 mi_M_copies [.inr (.inr 407), .inl v1, .inl v2] M (nw_V n R)
def nk_M_copies_2 (v1 : Int) (v2 : Int) (v3 : Int) (M : mm_M) (R : mm_M → Prop) : Prop := ∀ n, nn_L M → M.1 = n → mm_Go (mm_run 0) mc_M_copies (nw_V n R) (2, [(0, .inr (.inr 407)), (1, .inl v1), (2, .inl v2), (3, .inl v3)], [], M)
set_option maxRecDepth 20000 in
theorem ng_M_copies (v1 : Int) (v2 : Int) (M : mm_M) (R : mm_M → Prop) (h : nk_M_copies_2 v1 v2 0 M R) : nr_M_copies v1 v2 M R := by
  intro n L N 
  have NN := nn_L_n L N
  show mm_Go (mm_run 0) mc_M_copies _ (0, [(0, .inr (.inr 407)), (1, .inl v1), (2, .inl v2)], [], M)
  refine mm_s1 rfl ?_
  refine mm_s1 rfl ?_
  show mm_Go (mm_run 0) mc_M_copies _ (2, [(0, .inr (.inr 407)), (1, .inl v1), (2, .inl v2), (3, .inl 0)], [], M)
  exact nn_go_ext (nn_xc rfl (nn_xc rfl (nn_xc rfl (nn_xc rfl nn_xn)))) (h n L N)
set_option maxRecDepth 20000 in
theorem ng_M_copies_2 (v1 : Int) (v2 : Int) (v3 : Int) (M : mm_M) (R : mm_M → Prop) (h : ((5474 ≤ v3 → R M) ∧ (v3 < 5474 → (((0 : Int) ≤ (mm_w (v1 + v3)) ∧ (mm_w (v1 + v3)) < (32844 : Int)) ∧ (((0 : Int) ≤ (mm_w (v2 + v3)) ∧ (mm_w (v2 + v3)) < (32844 : Int)) ∧ (∀ M24 : mm_M, M24 = nn_ui M 408 (mm_w (v2 + v3)) (nn_ri M 408 (mm_w (v1 + v3))) → nk_M_copies_2 v1 v2 (mm_w (v3 + 1)) M24 R)))))) : nk_M_copies_2 v1 v2 v3 M R := by
  intro n L N 
  have NN := nn_L_n L N
  show mm_Go (mm_run 0) mc_M_copies _ (2, [(0, .inr (.inr 407)), (1, .inl v1), (2, .inl v2), (3, .inl v3)], [], M)
  refine mm_s1 rfl ?_
  refine mm_s1 rfl ?_
  refine mm_s1 rfl ⟨fun c6 => ?_, fun c6 => ?_⟩
  · show mm_Go (mm_run 0) mc_M_copies _ (31, [(0, .inr (.inr 407)), (1, .inl v1), (2, .inl v2), (3, .inl v3)], [], M)
    replace h := h.1 c6
    exact mm_s1 rfl ⟨rfl, L, N, h⟩
  · show mm_Go (mm_run 0) mc_M_copies _ (9, [(0, .inr (.inr 407)), (1, .inl v1), (2, .inl v2), (3, .inl v3)], [], M)
    replace c6 := Int.not_le.mp c6
    replace h := h.2 c6
    refine mm_s1 rfl ?_
    refine nn_getr rfl (nn_c407 NN).1 (lf_13_0 L N (nn_c407 NN)) ?_
    refine mm_s1 rfl ?_
    refine mm_s1 rfl ?_
    refine mm_s1 rfl ?_
    show mm_Go (mm_run 0) mc_M_copies _ (16, [(0, .inr (.inr 407)), (1, .inl v1), (2, .inl v2), (3, .inl v3)], [.inl (mm_w (v2 + v3)), .inr (.inr 408)], M)
    refine mm_s1 rfl ?_
    refine nn_getr rfl (nn_c407 NN).1 (lf_13_0 L N (nn_c407 NN)) ?_
    refine mm_s1 rfl ?_
    refine mm_s1 rfl ?_
    refine mm_s1 rfl ?_
    show mm_Go (mm_run 0) mc_M_copies _ (23, [(0, .inr (.inr 407)), (1, .inl v1), (2, .inl v2), (3, .inl v3)], [.inl (mm_w (v1 + v3)), .inr (.inr 408), .inl (mm_w (v2 + v3)), .inr (.inr 408)], M)
    obtain ⟨b23, h⟩ := h
    refine mm_s1 rfl ⟨nn_bd (na_13_0 NN (nn_c407 NN)) b23, ?_⟩
    show mm_Go (mm_run 0) mc_M_copies _ (24, [(0, .inr (.inr 407)), (1, .inl v1), (2, .inl v2), (3, .inl v3)], [.inl (nn_ri M 408 (mm_w (v1 + v3))), .inl (mm_w (v2 + v3)), .inr (.inr 408)], M)
    obtain ⟨b24, h⟩ := h
    refine mm_s1 rfl ⟨nn_bd (na_13_0 NN (nn_c407 NN)) b24, ?_⟩
    show mm_Go (mm_run 0) mc_M_copies _ (25, [(0, .inr (.inr 407)), (1, .inl v1), (2, .inl v2), (3, .inl v3)], [], (nn_ui M 408 (mm_w (v2 + v3)) (nn_ri M 408 (mm_w (v1 + v3)))))
    have L : nn_L (nn_ui M 408 (mm_w (v2 + v3)) (nn_ri M 408 (mm_w (v1 + v3)))) := nn_L_ua L (congrArg Prod.fst (na_13_0 NN (nn_c407 NN))) (by decide)
    have N : (nn_ui M 408 (mm_w (v2 + v3)) (nn_ri M 408 (mm_w (v1 + v3)))).1 = n := N
    generalize e_M24 : (nn_ui M 408 (mm_w (v2 + v3)) (nn_ri M 408 (mm_w (v1 + v3)))) = M24 at L N ⊢
    replace h := h _ e_M24.symm
    show mm_Go (mm_run 0) mc_M_copies _ (25, [(0, .inr (.inr 407)), (1, .inl v1), (2, .inl v2), (3, .inl v3)], [], M24)
    refine mm_s1 rfl ?_
    show mm_Go (mm_run 0) mc_M_copies _ (28, [(0, .inr (.inr 407)), (1, .inl v1), (2, .inl v2), (3, .inl (mm_w (v3 + 1)))], [], M24)
    refine mm_s1 rfl ?_
    show mm_Go (mm_run 0) mc_M_copies _ (2, [(0, .inr (.inr 407)), (1, .inl v1), (2, .inl v2), (3, .inl (mm_w (v3 + 1)))], [], M24)
    exact nn_go_ext (nn_xc rfl (nn_xc rfl (nn_xc rfl (nn_xc rfl nn_xn)))) (h n L N)
def nf_Integer_bitCount (v0 : Int) : Int := mm_and (mm_w ((mm_w ((mm_and (mm_w ((mm_w ((mm_and (mm_w (v0 - (mm_and (mm_ushr v0 1) 1431655765))) 858993459) + (mm_and (mm_ushr (mm_w (v0 - (mm_and (mm_ushr v0 1) 1431655765))) 2) 858993459))) + (mm_ushr (mm_w ((mm_and (mm_w (v0 - (mm_and (mm_ushr v0 1) 1431655765))) 858993459) + (mm_and (mm_ushr (mm_w (v0 - (mm_and (mm_ushr v0 1) 1431655765))) 2) 858993459))) 4))) 252645135) + (mm_ushr (mm_and (mm_w ((mm_w ((mm_and (mm_w (v0 - (mm_and (mm_ushr v0 1) 1431655765))) 858993459) + (mm_and (mm_ushr (mm_w (v0 - (mm_and (mm_ushr v0 1) 1431655765))) 2) 858993459))) + (mm_ushr (mm_w ((mm_and (mm_w (v0 - (mm_and (mm_ushr v0 1) 1431655765))) 858993459) + (mm_and (mm_ushr (mm_w (v0 - (mm_and (mm_ushr v0 1) 1431655765))) 2) 858993459))) 4))) 252645135) 8))) + (mm_ushr (mm_w ((mm_and (mm_w ((mm_w ((mm_and (mm_w (v0 - (mm_and (mm_ushr v0 1) 1431655765))) 858993459) + (mm_and (mm_ushr (mm_w (v0 - (mm_and (mm_ushr v0 1) 1431655765))) 2) 858993459))) + (mm_ushr (mm_w ((mm_and (mm_w (v0 - (mm_and (mm_ushr v0 1) 1431655765))) 858993459) + (mm_and (mm_ushr (mm_w (v0 - (mm_and (mm_ushr v0 1) 1431655765))) 2) 858993459))) 4))) 252645135) + (mm_ushr (mm_and (mm_w ((mm_w ((mm_and (mm_w (v0 - (mm_and (mm_ushr v0 1) 1431655765))) 858993459) + (mm_and (mm_ushr (mm_w (v0 - (mm_and (mm_ushr v0 1) 1431655765))) 2) 858993459))) + (mm_ushr (mm_w ((mm_and (mm_w (v0 - (mm_and (mm_ushr v0 1) 1431655765))) 858993459) + (mm_and (mm_ushr (mm_w (v0 - (mm_and (mm_ushr v0 1) 1431655765))) 2) 858993459))) 4))) 252645135) 8))) 16))) 63
set_option maxRecDepth 20000 in
theorem np_Integer_bitCount {v0 : Int} {M : mm_M} {n d : Nat} {P : mm_P} (hd : 1 ≤ d) (L : nn_L M) (N : M.1 = n)  (h : P (some (.inl (nf_Integer_bitCount v0))) M) : mm_run d mi_Integer_bitCount [.inl v0] M P := by
  have NN := nn_L_n L N
  unfold nf_Integer_bitCount at h
  refine nn_run_le hd ?_
  show mm_Go (mm_run 0) mc_Integer_bitCount _ (0, [(0, .inl v0)], [], M)
  refine mm_s1 rfl ?_
  refine mm_s1 rfl ?_
  refine mm_s1 rfl ?_
  refine mm_s1 rfl ?_
  refine mm_s1 rfl ?_
  refine mm_s1 rfl ?_
  refine mm_s1 rfl ?_
  refine mm_s1 rfl ?_
  show mm_Go (mm_run 0) mc_Integer_bitCount _ (10, [(0, .inl (mm_w (v0 - (mm_and (mm_ushr v0 1) 1431655765))))], [], M)
  refine mm_s1 rfl ?_
  refine mm_s1 rfl ?_
  refine mm_s1 rfl ?_
  refine mm_s1 rfl ?_
  refine mm_s1 rfl ?_
  refine mm_s1 rfl ?_
  refine mm_s1 rfl ?_
  refine mm_s1 rfl ?_
  refine mm_s1 rfl ?_
  refine mm_s1 rfl ?_
  show mm_Go (mm_run 0) mc_Integer_bitCount _ (24, [(0, .inl (mm_w ((mm_and (mm_w (v0 - (mm_and (mm_ushr v0 1) 1431655765))) 858993459) + (mm_and (mm_ushr (mm_w (v0 - (mm_and (mm_ushr v0 1) 1431655765))) 2) 858993459))))], [], M)
  refine mm_s1 rfl ?_
  refine mm_s1 rfl ?_
  refine mm_s1 rfl ?_
  refine mm_s1 rfl ?_
  refine mm_s1 rfl ?_
  refine mm_s1 rfl ?_
  refine mm_s1 rfl ?_
  refine mm_s1 rfl ?_
  show mm_Go (mm_run 0) mc_Integer_bitCount _ (34, [(0, .inl (mm_and (mm_w ((mm_w ((mm_and (mm_w (v0 - (mm_and (mm_ushr v0 1) 1431655765))) 858993459) + (mm_and (mm_ushr (mm_w (v0 - (mm_and (mm_ushr v0 1) 1431655765))) 2) 858993459))) + (mm_ushr (mm_w ((mm_and (mm_w (v0 - (mm_and (mm_ushr v0 1) 1431655765))) 858993459) + (mm_and (mm_ushr (mm_w (v0 - (mm_and (mm_ushr v0 1) 1431655765))) 2) 858993459))) 4))) 252645135))], [], M)
  refine mm_s1 rfl ?_
  refine mm_s1 rfl ?_
  refine mm_s1 rfl ?_
  refine mm_s1 rfl ?_
  refine mm_s1 rfl ?_
  refine mm_s1 rfl ?_
  show mm_Go (mm_run 0) mc_Integer_bitCount _ (41, [(0, .inl (mm_w ((mm_and (mm_w ((mm_w ((mm_and (mm_w (v0 - (mm_and (mm_ushr v0 1) 1431655765))) 858993459) + (mm_and (mm_ushr (mm_w (v0 - (mm_and (mm_ushr v0 1) 1431655765))) 2) 858993459))) + (mm_ushr (mm_w ((mm_and (mm_w (v0 - (mm_and (mm_ushr v0 1) 1431655765))) 858993459) + (mm_and (mm_ushr (mm_w (v0 - (mm_and (mm_ushr v0 1) 1431655765))) 2) 858993459))) 4))) 252645135) + (mm_ushr (mm_and (mm_w ((mm_w ((mm_and (mm_w (v0 - (mm_and (mm_ushr v0 1) 1431655765))) 858993459) + (mm_and (mm_ushr (mm_w (v0 - (mm_and (mm_ushr v0 1) 1431655765))) 2) 858993459))) + (mm_ushr (mm_w ((mm_and (mm_w (v0 - (mm_and (mm_ushr v0 1) 1431655765))) 858993459) + (mm_and (mm_ushr (mm_w (v0 - (mm_and (mm_ushr v0 1) 1431655765))) 2) 858993459))) 4))) 252645135) 8))))], [], M)
  refine mm_s1 rfl ?_
  refine mm_s1 rfl ?_
  refine mm_s1 rfl ?_
  refine mm_s1 rfl ?_
  refine mm_s1 rfl ?_
  refine mm_s1 rfl ?_
  show mm_Go (mm_run 0) mc_Integer_bitCount _ (48, [(0, .inl (mm_w ((mm_w ((mm_and (mm_w ((mm_w ((mm_and (mm_w (v0 - (mm_and (mm_ushr v0 1) 1431655765))) 858993459) + (mm_and (mm_ushr (mm_w (v0 - (mm_and (mm_ushr v0 1) 1431655765))) 2) 858993459))) + (mm_ushr (mm_w ((mm_and (mm_w (v0 - (mm_and (mm_ushr v0 1) 1431655765))) 858993459) + (mm_and (mm_ushr (mm_w (v0 - (mm_and (mm_ushr v0 1) 1431655765))) 2) 858993459))) 4))) 252645135) + (mm_ushr (mm_and (mm_w ((mm_w ((mm_and (mm_w (v0 - (mm_and (mm_ushr v0 1) 1431655765))) 858993459) + (mm_and (mm_ushr (mm_w (v0 - (mm_and (mm_ushr v0 1) 1431655765))) 2) 858993459))) + (mm_ushr (mm_w ((mm_and (mm_w (v0 - (mm_and (mm_ushr v0 1) 1431655765))) 858993459) + (mm_and (mm_ushr (mm_w (v0 - (mm_and (mm_ushr v0 1) 1431655765))) 2) 858993459))) 4))) 252645135) 8))) + (mm_ushr (mm_w ((mm_and (mm_w ((mm_w ((mm_and (mm_w (v0 - (mm_and (mm_ushr v0 1) 1431655765))) 858993459) + (mm_and (mm_ushr (mm_w (v0 - (mm_and (mm_ushr v0 1) 1431655765))) 2) 858993459))) + (mm_ushr (mm_w ((mm_and (mm_w (v0 - (mm_and (mm_ushr v0 1) 1431655765))) 858993459) + (mm_and (mm_ushr (mm_w (v0 - (mm_and (mm_ushr v0 1) 1431655765))) 2) 858993459))) 4))) 252645135) + (mm_ushr (mm_and (mm_w ((mm_w ((mm_and (mm_w (v0 - (mm_and (mm_ushr v0 1) 1431655765))) 858993459) + (mm_and (mm_ushr (mm_w (v0 - (mm_and (mm_ushr v0 1) 1431655765))) 2) 858993459))) + (mm_ushr (mm_w ((mm_and (mm_w (v0 - (mm_and (mm_ushr v0 1) 1431655765))) 858993459) + (mm_and (mm_ushr (mm_w (v0 - (mm_and (mm_ushr v0 1) 1431655765))) 2) 858993459))) 4))) 252645135) 8))) 16))))], [], M)
  refine mm_s1 rfl ?_
  refine mm_s1 rfl ?_
  refine mm_s1 rfl ?_
  exact mm_s1 rfl h
def nr_LI_feed (v1 : Int) (v2 : Int) (v3 : Int) (v4 : Int) (v5 : Int) (M : mm_M) (R : Int → mm_M → Prop) : Prop := ∀ n, nn_L M → M.1 = n → mm_run 2 mi_LI_feed [.inr (.inr 1), .inl v1, .inl v2, .inl v3, .inl v4, .inl v5] M (nw_I n R)
set_option maxRecDepth 20000 in
theorem ng_LI_feed (v1 : Int) (v2 : Int) (v3 : Int) (v4 : Int) (v5 : Int) (M : mm_M) (R : Int → mm_M → Prop) (h : (((mm_w ((nn_rf M 3 1) + 20)) ≤ 200 → (nr_Tape_add 3 v1 M (fun M28 => (nr_Tape_add 3 v2 M28 (fun M34 => (nr_Tape_add 3 v3 M34 (fun M40 => (nr_Tape_add 3 v4 M40 (fun M47 => (nr_Tape_add 3 v5 M47 (fun M54 => R (nn_rf M54 3 1) M54))))))))))) ∧ (200 < (mm_w ((nn_rf M 3 1) + 20)) → R (-1) M))) : nr_LI_feed v1 v2 v3 v4 v5 M R := by
  intro n L N 
  have NN := nn_L_n L N
  show mm_Go (mm_run 1) mc_LI_feed _ (0, [(0, .inr (.inr 1)), (1, .inl v1), (2, .inl v2), (3, .inl v3), (4, .inl v4), (5, .inl v5)], [], M)
  refine mm_s1 rfl ?_
  refine nn_getr rfl (nn_c1 NN).1 (lf_1_0 L N (nn_c1 NN)) ?_
  refine nn_getr rfl (nc_1_0 NN (nn_c1 NN)).1 (lf_9_0 L N (nc_1_0 NN (nn_c1 NN))) ?_
  refine mm_s1 rfl ?_
  show mm_Go (mm_run 1) mc_LI_feed _ (9, [(0, .inr (.inr 1)), (1, .inl v1), (2, .inl v2), (3, .inl v3), (4, .inl v4), (5, .inl v5), (6, .inr (.inr 3))], [], M)
  refine mm_s1 rfl ?_
  refine mm_s1 rfl ⟨(nc_9_0 NN (nc_1_0 NN (nn_c1 NN))).1, ?_⟩
  show mm_Go (mm_run 1) mc_LI_feed _ (14, [(0, .inr (.inr 1)), (1, .inl v1), (2, .inl v2), (3, .inl v3), (4, .inl v4), (5, .inl v5), (6, .inr (.inr 3))], [.inl (nn_rf M 3 1)], M)
  refine mm_s1 rfl ?_
  refine mm_s1 rfl ?_
  refine mm_s1 rfl ?_
  refine mm_s1 rfl ⟨fun c20 => ?_, fun c20 => ?_⟩
  · show mm_Go (mm_run 1) mc_LI_feed _ (25, [(0, .inr (.inr 1)), (1, .inl v1), (2, .inl v2), (3, .inl v3), (4, .inl v4), (5, .inl v5), (6, .inr (.inr 3))], [], M)
    replace h := h.1 c20
    refine mm_s1 rfl ?_
    refine mm_s1 rfl ?_
    refine mm_s1 rfl ⟨(nc_9_0 NN (nc_1_0 NN (nn_c1 NN))).1, ?_⟩
    refine nn_call (D := 1) (by decide) (h n L N (nc_9_0 NN (nc_1_0 NN (nn_c1 NN)))) ?_
    intro v M28 q; clear L N h
    obtain ⟨rfl, L, N, h⟩ := q
    show mm_Go (mm_run 1) mc_LI_feed _ (31, [(0, .inr (.inr 1)), (1, .inl v1), (2, .inl v2), (3, .inl v3), (4, .inl v4), (5, .inl v5), (6, .inr (.inr 3))], [], M28)
    refine mm_s1 rfl ?_
    refine mm_s1 rfl ?_
    refine mm_s1 rfl ⟨(nc_9_0 NN (nc_1_0 NN (nn_c1 NN))).1, ?_⟩
    refine nn_call (D := 1) (by decide) (h n L N (nc_9_0 NN (nc_1_0 NN (nn_c1 NN)))) ?_
    intro v M34 q; clear L N h
    obtain ⟨rfl, L, N, h⟩ := q
    show mm_Go (mm_run 1) mc_LI_feed _ (37, [(0, .inr (.inr 1)), (1, .inl v1), (2, .inl v2), (3, .inl v3), (4, .inl v4), (5, .inl v5), (6, .inr (.inr 3))], [], M34)
    refine mm_s1 rfl ?_
    refine mm_s1 rfl ?_
    refine mm_s1 rfl ⟨(nc_9_0 NN (nc_1_0 NN (nn_c1 NN))).1, ?_⟩
    refine nn_call (D := 1) (by decide) (h n L N (nc_9_0 NN (nc_1_0 NN (nn_c1 NN)))) ?_
    intro v M40 q; clear L N h
    obtain ⟨rfl, L, N, h⟩ := q
    show mm_Go (mm_run 1) mc_LI_feed _ (43, [(0, .inr (.inr 1)), (1, .inl v1), (2, .inl v2), (3, .inl v3), (4, .inl v4), (5, .inl v5), (6, .inr (.inr 3))], [], M40)
    refine mm_s1 rfl ?_
    refine mm_s1 rfl ?_
    refine mm_s1 rfl ⟨(nc_9_0 NN (nc_1_0 NN (nn_c1 NN))).1, ?_⟩
    refine nn_call (D := 1) (by decide) (h n L N (nc_9_0 NN (nc_1_0 NN (nn_c1 NN)))) ?_
    intro v M47 q; clear L N h
    obtain ⟨rfl, L, N, h⟩ := q
    show mm_Go (mm_run 1) mc_LI_feed _ (50, [(0, .inr (.inr 1)), (1, .inl v1), (2, .inl v2), (3, .inl v3), (4, .inl v4), (5, .inl v5), (6, .inr (.inr 3))], [], M47)
    refine mm_s1 rfl ?_
    refine mm_s1 rfl ?_
    refine mm_s1 rfl ⟨(nc_9_0 NN (nc_1_0 NN (nn_c1 NN))).1, ?_⟩
    refine nn_call (D := 1) (by decide) (h n L N (nc_9_0 NN (nc_1_0 NN (nn_c1 NN)))) ?_
    intro v M54 q; clear L N h
    obtain ⟨rfl, L, N, h⟩ := q
    show mm_Go (mm_run 1) mc_LI_feed _ (57, [(0, .inr (.inr 1)), (1, .inl v1), (2, .inl v2), (3, .inl v3), (4, .inl v4), (5, .inl v5), (6, .inr (.inr 3))], [], M54)
    refine mm_s1 rfl ?_
    refine mm_s1 rfl ⟨(nc_9_0 NN (nc_1_0 NN (nn_c1 NN))).1, ?_⟩
    show mm_Go (mm_run 1) mc_LI_feed _ (62, [(0, .inr (.inr 1)), (1, .inl v1), (2, .inl v2), (3, .inl v3), (4, .inl v4), (5, .inl v5), (6, .inr (.inr 3))], [.inl (nn_rf M54 3 1)], M54)
    exact mm_s1 rfl ⟨_, rfl, L, N, h⟩
  · show mm_Go (mm_run 1) mc_LI_feed _ (23, [(0, .inr (.inr 1)), (1, .inl v1), (2, .inl v2), (3, .inl v3), (4, .inl v4), (5, .inl v5), (6, .inr (.inr 3))], [], M)
    replace c20 := Int.not_le.mp c20
    replace h := h.2 c20
    refine mm_s1 rfl ?_
    exact mm_s1 rfl ⟨_, rfl, L, N, h⟩
def nr_LI_mend (v1 : Int) (v2 : Int) (M : mm_M) (R : Int → mm_M → Prop) : Prop := ∀ n, nn_L M → M.1 = n → mm_run 2 mi_LI_mend [.inr (.inr 1), .inl v1, .inl v2] M (nw_Z n R)
set_option maxRecDepth 20000 in
theorem ng_LI_mend (v1 : Int) (v2 : Int) (M : mm_M) (R : Int → mm_M → Prop) (h : (nr_Store_find 2 v1 M (fun r5 M5 => ((r5 ≠ 0 → ((v2 = 0 ∨ v2 = 1) ∧ (∀ M17 : mm_M, M17 = nn_uf M5 r5 7 v2 → R 1 M17))) ∧ (r5 = 0 → R 0 M5))))) : nr_LI_mend v1 v2 M R := by
  intro n L N 
  have NN := nn_L_n L N
  show mm_Go (mm_run 1) mc_LI_mend _ (0, [(0, .inr (.inr 1)), (1, .inl v1), (2, .inl v2)], [], M)
  refine mm_s1 rfl ?_
  refine nn_getr rfl (nn_c1 NN).1 (lf_1_0 L N (nn_c1 NN)) ?_
  refine mm_s1 rfl ?_
  refine mm_s1 rfl ⟨(nc_1_0 NN (nn_c1 NN)).1, ?_⟩
  refine nn_call (D := 1) (by decide) (h n L N (nc_1_0 NN (nn_c1 NN))) ?_
  intro v M5 q; clear L N h
  obtain ⟨r5, rfl, q5, L, N, h⟩ := q
  show mm_Go (mm_run 1) mc_LI_mend _ (8, [(0, .inr (.inr 1)), (1, .inl v1), (2, .inl v2)], [.inr (.inr r5)], M5)
  refine mm_s1 rfl ?_
  show mm_Go (mm_run 1) mc_LI_mend _ (9, [(0, .inr (.inr 1)), (1, .inl v1), (2, .inl v2), (3, .inr (.inr r5))], [], M5)
  refine mm_s1 rfl ?_
  refine mm_s1 rfl ⟨fun c10 => ?_, fun c10 => ?_⟩
  · show mm_Go (mm_run 1) mc_LI_mend _ (15, [(0, .inr (.inr 1)), (1, .inl v1), (2, .inl v2), (3, .inr (.inr r5))], [], M5)
    replace h := h.1 c10
    refine mm_s1 rfl ?_
    refine mm_s1 rfl ?_
    obtain ⟨b17, h⟩ := h
    refine mm_s1 rfl ⟨⟨(Or.resolve_left q5 c10).1, b17⟩, ?_⟩
    show mm_Go (mm_run 1) mc_LI_mend _ (20, [(0, .inr (.inr 1)), (1, .inl v1), (2, .inl v2), (3, .inr (.inr r5))], [], (nn_uf M5 r5 7 v2))
    have L : nn_L (nn_uf M5 r5 7 v2) := nn_L_up L (Or.resolve_left q5 c10).1 rfl
    have N : (nn_uf M5 r5 7 v2).1 = n := N
    generalize e_M17 : (nn_uf M5 r5 7 v2) = M17 at L N ⊢
    replace h := h _ e_M17.symm
    show mm_Go (mm_run 1) mc_LI_mend _ (20, [(0, .inr (.inr 1)), (1, .inl v1), (2, .inl v2), (3, .inr (.inr r5))], [], M17)
    refine mm_s1 rfl ?_
    exact mm_s1 rfl ⟨(Or.inr rfl), _, rfl, (Or.inr rfl), L, N, h⟩
  · show mm_Go (mm_run 1) mc_LI_mend _ (13, [(0, .inr (.inr 1)), (1, .inl v1), (2, .inl v2), (3, .inr (.inr r5))], [], M5)
    replace c10 := Decidable.not_not.mp c10
    replace h := h.2 c10
    refine mm_s1 rfl ?_
    exact mm_s1 rfl ⟨(Or.inl rfl), _, rfl, (Or.inl rfl), L, N, h⟩
def nr_LI_drop (v1 : Int) (M : mm_M) (R : Int → mm_M → Prop) : Prop := ∀ n, nn_L M → M.1 = n → mm_run 2 mi_LI_drop [.inr (.inr 1), .inl v1] M (nw_Z n R)
set_option maxRecDepth 20000 in
theorem ng_LI_drop (v1 : Int) (M : mm_M) (R : Int → mm_M → Prop) (h : (nr_Store_find 2 v1 M (fun r5 M5 => ((r5 ≠ 0 → (∀ M17 : mm_M, M17 = nn_uf M5 r5 5 0 → R 1 M17)) ∧ (r5 = 0 → R 0 M5))))) : nr_LI_drop v1 M R := by
  intro n L N 
  have NN := nn_L_n L N
  show mm_Go (mm_run 1) mc_LI_drop _ (0, [(0, .inr (.inr 1)), (1, .inl v1)], [], M)
  refine mm_s1 rfl ?_
  refine nn_getr rfl (nn_c1 NN).1 (lf_1_0 L N (nn_c1 NN)) ?_
  refine mm_s1 rfl ?_
  refine mm_s1 rfl ⟨(nc_1_0 NN (nn_c1 NN)).1, ?_⟩
  refine nn_call (D := 1) (by decide) (h n L N (nc_1_0 NN (nn_c1 NN))) ?_
  intro v M5 q; clear L N h
  obtain ⟨r5, rfl, q5, L, N, h⟩ := q
  show mm_Go (mm_run 1) mc_LI_drop _ (8, [(0, .inr (.inr 1)), (1, .inl v1)], [.inr (.inr r5)], M5)
  refine mm_s1 rfl ?_
  show mm_Go (mm_run 1) mc_LI_drop _ (9, [(0, .inr (.inr 1)), (1, .inl v1), (2, .inr (.inr r5))], [], M5)
  refine mm_s1 rfl ?_
  refine mm_s1 rfl ⟨fun c10 => ?_, fun c10 => ?_⟩
  · show mm_Go (mm_run 1) mc_LI_drop _ (15, [(0, .inr (.inr 1)), (1, .inl v1), (2, .inr (.inr r5))], [], M5)
    replace h := h.1 c10
    refine mm_s1 rfl ?_
    refine mm_s1 rfl ?_
    refine mm_s1 rfl ⟨(Or.resolve_left q5 c10).1, ?_⟩
    show mm_Go (mm_run 1) mc_LI_drop _ (20, [(0, .inr (.inr 1)), (1, .inl v1), (2, .inr (.inr r5))], [], (nn_uf M5 r5 5 0))
    have L : nn_L (nn_uf M5 r5 5 0) := nn_L_up L (Or.resolve_left q5 c10).1 rfl
    have N : (nn_uf M5 r5 5 0).1 = n := N
    generalize e_M17 : (nn_uf M5 r5 5 0) = M17 at L N ⊢
    replace h := h _ e_M17.symm
    show mm_Go (mm_run 1) mc_LI_drop _ (20, [(0, .inr (.inr 1)), (1, .inl v1), (2, .inr (.inr r5))], [], M17)
    refine mm_s1 rfl ?_
    exact mm_s1 rfl ⟨(Or.inr rfl), _, rfl, (Or.inr rfl), L, N, h⟩
  · show mm_Go (mm_run 1) mc_LI_drop _ (13, [(0, .inr (.inr 1)), (1, .inl v1), (2, .inr (.inr r5))], [], M5)
    replace c10 := Decidable.not_not.mp c10
    replace h := h.2 c10
    refine mm_s1 rfl ?_
    exact mm_s1 rfl ⟨(Or.inl rfl), _, rfl, (Or.inl rfl), L, N, h⟩
def nr_LI_both (v1 : Int) (v2 : Int) (v3 : Int) (v4 : Int) (v5 : Int) (M : mm_M) (R : Int → mm_M → Prop) : Prop := ∀ n, nn_L M → M.1 = n → mm_run 2 mi_LI_both [.inr (.inr 1), .inl v1, .inl v2, .inl v3, .inl v4, .inl v5] M (nw_I n R)
def nk_LI_both_39 (v2 : Int) (v4 : Int) (v5 : Int) (v6 : Nat) (v7 : Nat) (v8 : Int) (v9 : Int) (M : mm_M) (R : Int → mm_M → Prop) : Prop := ∀ n, nn_L M → M.1 = n → nn_C 5 v6 n → nn_C 5 v7 n → mm_Go (mm_run 1) mc_LI_both (nw_I n R) (39, [(0, .inr (.inr 1)), (2, .inl v2), (4, .inl v4), (5, .inl v5), (6, .inr (.inr v6)), (7, .inr (.inr v7)), (8, .inl v8), (9, .inl v9)], [], M)
set_option maxRecDepth 20000 in
theorem ng_LI_both (v1 : Int) (v2 : Int) (v3 : Int) (v4 : Int) (v5 : Int) (M : mm_M) (R : Int → mm_M → Prop) (h : (nr_Store_findBuilt 2 v1 M (fun r5 M5 => (nr_Store_findBuilt 2 v3 M5 (fun r15 M15 => (((r5 = 0 ∨ (r15 = 0)) → R (-2) M15) ∧ ((r5 ≠ 0 ∧ (r15 ≠ 0)) → nk_LI_both_39 v2 v4 v5 r5 r15 0 0 M15 R))))))) : nr_LI_both v1 v2 v3 v4 v5 M R := by
  intro n L N 
  have NN := nn_L_n L N
  show mm_Go (mm_run 1) mc_LI_both _ (0, [(0, .inr (.inr 1)), (1, .inl v1), (2, .inl v2), (3, .inl v3), (4, .inl v4), (5, .inl v5)], [], M)
  refine mm_s1 rfl ?_
  refine nn_getr rfl (nn_c1 NN).1 (lf_1_0 L N (nn_c1 NN)) ?_
  refine mm_s1 rfl ?_
  refine mm_s1 rfl ⟨(nc_1_0 NN (nn_c1 NN)).1, ?_⟩
  refine nn_call (D := 1) (by decide) (h n L N (nc_1_0 NN (nn_c1 NN))) ?_
  intro v M5 q; clear L N h
  obtain ⟨r5, rfl, q5, L, N, h⟩ := q
  show mm_Go (mm_run 1) mc_LI_both _ (8, [(0, .inr (.inr 1)), (1, .inl v1), (2, .inl v2), (3, .inl v3), (4, .inl v4), (5, .inl v5)], [.inr (.inr r5)], M5)
  refine mm_s1 rfl ?_
  show mm_Go (mm_run 1) mc_LI_both _ (10, [(0, .inr (.inr 1)), (1, .inl v1), (2, .inl v2), (3, .inl v3), (4, .inl v4), (5, .inl v5), (6, .inr (.inr r5))], [], M5)
  refine mm_s1 rfl ?_
  refine nn_getr rfl (nn_c1 NN).1 (lf_1_0 L N (nn_c1 NN)) ?_
  refine mm_s1 rfl ?_
  refine mm_s1 rfl ⟨(nc_1_0 NN (nn_c1 NN)).1, ?_⟩
  refine nn_call (D := 1) (by decide) (h n L N (nc_1_0 NN (nn_c1 NN))) ?_
  intro v M15 q; clear L N h
  obtain ⟨r15, rfl, q15, L, N, h⟩ := q
  show mm_Go (mm_run 1) mc_LI_both _ (18, [(0, .inr (.inr 1)), (1, .inl v1), (2, .inl v2), (3, .inl v3), (4, .inl v4), (5, .inl v5), (6, .inr (.inr r5))], [.inr (.inr r15)], M15)
  refine mm_s1 rfl ?_
  show mm_Go (mm_run 1) mc_LI_both _ (20, [(0, .inr (.inr 1)), (1, .inl v1), (2, .inl v2), (3, .inl v3), (4, .inl v4), (5, .inl v5), (6, .inr (.inr r5)), (7, .inr (.inr r15))], [], M15)
  refine mm_s1 rfl ?_
  refine mm_s1 rfl ⟨fun c22 => ?_, fun c22 => ?_⟩
  · show mm_Go (mm_run 1) mc_LI_both _ (30, [(0, .inr (.inr 1)), (1, .inl v1), (2, .inl v2), (3, .inl v3), (4, .inl v4), (5, .inl v5), (6, .inr (.inr r5)), (7, .inr (.inr r15))], [], M15)
    refine mm_s1 rfl ?_
    replace h := h.1 (Or.inl c22)
    exact mm_s1 rfl ⟨_, rfl, L, N, h⟩
  · show mm_Go (mm_run 1) mc_LI_both _ (25, [(0, .inr (.inr 1)), (1, .inl v1), (2, .inl v2), (3, .inl v3), (4, .inl v4), (5, .inl v5), (6, .inr (.inr r5)), (7, .inr (.inr r15))], [], M15)
    refine mm_s1 rfl ?_
    refine mm_s1 rfl ⟨fun c27 => ?_, fun c27 => ?_⟩
    · show mm_Go (mm_run 1) mc_LI_both _ (33, [(0, .inr (.inr 1)), (1, .inl v1), (2, .inl v2), (3, .inl v3), (4, .inl v4), (5, .inl v5), (6, .inr (.inr r5)), (7, .inr (.inr r15))], [], M15)
      refine mm_s1 rfl ?_
      refine mm_s1 rfl ?_
      show mm_Go (mm_run 1) mc_LI_both _ (36, [(0, .inr (.inr 1)), (1, .inl v1), (2, .inl v2), (3, .inl v3), (4, .inl v4), (5, .inl v5), (6, .inr (.inr r5)), (7, .inr (.inr r15)), (8, .inl 0)], [], M15)
      refine mm_s1 rfl ?_
      refine mm_s1 rfl ?_
      show mm_Go (mm_run 1) mc_LI_both _ (39, [(0, .inr (.inr 1)), (1, .inl v1), (2, .inl v2), (3, .inl v3), (4, .inl v4), (5, .inl v5), (6, .inr (.inr r5)), (7, .inr (.inr r15)), (8, .inl 0), (9, .inl 0)], [], M15)
      replace h := h.2 ⟨c22, c27⟩
      exact nn_go_ext (nn_xc rfl (nn_xc rfl (nn_xc rfl (nn_xc rfl (nn_xc rfl (nn_xc rfl (nn_xc rfl (nn_xc rfl nn_xn)))))))) (h n L N (Or.resolve_left q5 c22) (Or.resolve_left q15 c27))
    · show mm_Go (mm_run 1) mc_LI_both _ (30, [(0, .inr (.inr 1)), (1, .inl v1), (2, .inl v2), (3, .inl v3), (4, .inl v4), (5, .inl v5), (6, .inr (.inr r5)), (7, .inr (.inr r15))], [], M15)
      replace c27 := Decidable.not_not.mp c27
      refine mm_s1 rfl ?_
      replace h := h.1 (Or.inr c27)
      exact mm_s1 rfl ⟨_, rfl, L, N, h⟩
set_option maxRecDepth 20000 in
theorem ng_LI_both_39 (v2 : Int) (v4 : Int) (v5 : Int) (v6 : Nat) (v7 : Nat) (v8 : Int) (v9 : Int) (M : mm_M) (R : Int → mm_M → Prop) (h : ((32 ≤ v9 → ((nc_LI_answered 91 v8 v5 M) ∧ R (nf_LI_answered 91 v8 v5 M) M)) ∧ (v9 < 32 → ((nc_Index_hasFrom v6 v9 v2 v2 M) ∧ ((((nf_Index_hasFrom v6 v9 v2 v2 M) ≠ 0) → (nc_Index_hasFrom v7 v9 v4 v4 M)) ∧ (((nf_Index_hasFrom v6 v9 v2 v2 M) ≠ 0) ∧ ((nf_Index_hasFrom v7 v9 v4 v4 M) ≠ 0) → ((0 : Int) ≤ v8 ∧ v8 < (32 : Int))) ∧ (((nf_Index_hasFrom v6 v9 v2 v2 M) = 0 ∨ ((nf_Index_hasFrom v7 v9 v4 v4 M) = 0)) → nk_LI_both_39 v2 v4 v5 v6 v7 v8 (mm_w (v9 + 1)) M R) ∧ (((nf_Index_hasFrom v6 v9 v2 v2 M) ≠ 0 ∧ ((nf_Index_hasFrom v7 v9 v4 v4 M) ≠ 0)) → (∀ M83 : mm_M, M83 = nn_ui M 91 v8 v9 → nk_LI_both_39 v2 v4 v5 v6 v7 (mm_w (v8 + 1)) (mm_w (v9 + 1)) M83 R))))))) : nk_LI_both_39 v2 v4 v5 v6 v7 v8 v9 M R := by
  intro n L N C6 C7
  have NN := nn_L_n L N
  show mm_Go (mm_run 1) mc_LI_both _ (39, [(0, .inr (.inr 1)), (2, .inl v2), (4, .inl v4), (5, .inl v5), (6, .inr (.inr v6)), (7, .inr (.inr v7)), (8, .inl v8), (9, .inl v9)], [], M)
  refine mm_s1 rfl ?_
  refine mm_s1 rfl ?_
  refine mm_s1 rfl ⟨fun c43 => ?_, fun c43 => ?_⟩
  · show mm_Go (mm_run 1) mc_LI_both _ (93, [(0, .inr (.inr 1)), (2, .inl v2), (4, .inl v4), (5, .inl v5), (6, .inr (.inr v6)), (7, .inr (.inr v7)), (8, .inl v8), (9, .inl v9)], [], M)
    replace h := h.1 c43
    refine mm_s1 rfl ?_
    refine nn_getr rfl (nn_c1 NN).1 (lf_1_0 L N (nn_c1 NN)) ?_
    refine nn_getr rfl (nc_1_0 NN (nn_c1 NN)).1 (lf_9_6 L N (nc_1_0 NN (nn_c1 NN))) ?_
    refine mm_s1 rfl ?_
    refine mm_s1 rfl ?_
    show mm_Go (mm_run 1) mc_LI_both _ (104, [(0, .inr (.inr 1)), (2, .inl v2), (4, .inl v4), (5, .inl v5), (6, .inr (.inr v6)), (7, .inr (.inr v7)), (8, .inl v8), (9, .inl v9)], [.inl v5, .inl v8, .inr (.inr 91)], M)
    obtain ⟨b104, h⟩ := h
    refine mm_s1 rfl ⟨trivial, ?_⟩
    refine np_LI_answered (by decide) L N (nc_9_6 NN (nc_1_0 NN (nn_c1 NN))) b104 ?_
    show mm_Go (mm_run 1) mc_LI_both _ (107, [(0, .inr (.inr 1)), (2, .inl v2), (4, .inl v4), (5, .inl v5), (6, .inr (.inr v6)), (7, .inr (.inr v7)), (8, .inl v8), (9, .inl v9)], [.inl (nf_LI_answered 91 v8 v5 M)], M)
    exact mm_s1 rfl ⟨_, rfl, L, N, h⟩
  · show mm_Go (mm_run 1) mc_LI_both _ (46, [(0, .inr (.inr 1)), (2, .inl v2), (4, .inl v4), (5, .inl v5), (6, .inr (.inr v6)), (7, .inr (.inr v7)), (8, .inl v8), (9, .inl v9)], [], M)
    replace c43 := Int.not_le.mp c43
    replace h := h.2 c43
    refine mm_s1 rfl ?_
    refine mm_s1 rfl ?_
    refine mm_s1 rfl ?_
    refine mm_s1 rfl ?_
    obtain ⟨b52, h⟩ := h
    refine mm_s1 rfl ⟨C6.1, ?_⟩
    refine np_Index_hasFrom (by decide) L N C6 b52 ?_
    show mm_Go (mm_run 1) mc_LI_both _ (55, [(0, .inr (.inr 1)), (2, .inl v2), (4, .inl v4), (5, .inl v5), (6, .inr (.inr v6)), (7, .inr (.inr v7)), (8, .inl v8), (9, .inl v9)], [.inl (nf_Index_hasFrom v6 v9 v2 v2 M)], M)
    refine mm_s1 rfl ⟨fun c55 => ?_, fun c55 => ?_⟩
    · show mm_Go (mm_run 1) mc_LI_both _ (87, [(0, .inr (.inr 1)), (2, .inl v2), (4, .inl v4), (5, .inl v5), (6, .inr (.inr v6)), (7, .inr (.inr v7)), (8, .inl v8), (9, .inl v9)], [], M)
      refine mm_s1 rfl ?_
      show mm_Go (mm_run 1) mc_LI_both _ (90, [(0, .inr (.inr 1)), (2, .inl v2), (4, .inl v4), (5, .inl v5), (6, .inr (.inr v6)), (7, .inr (.inr v7)), (8, .inl v8), (9, .inl (mm_w (v9 + 1)))], [], M)
      refine mm_s1 rfl ?_
      show mm_Go (mm_run 1) mc_LI_both _ (39, [(0, .inr (.inr 1)), (2, .inl v2), (4, .inl v4), (5, .inl v5), (6, .inr (.inr v6)), (7, .inr (.inr v7)), (8, .inl v8), (9, .inl (mm_w (v9 + 1)))], [], M)
      replace h := h.2.2.1 (Or.inl c55)
      exact nn_go_ext (nn_xc rfl (nn_xc rfl (nn_xc rfl (nn_xc rfl (nn_xc rfl (nn_xc rfl (nn_xc rfl (nn_xc rfl nn_xn)))))))) (h n L N C6 C7)
    · show mm_Go (mm_run 1) mc_LI_both _ (58, [(0, .inr (.inr 1)), (2, .inl v2), (4, .inl v4), (5, .inl v5), (6, .inr (.inr v6)), (7, .inr (.inr v7)), (8, .inl v8), (9, .inl v9)], [], M)
      refine mm_s1 rfl ?_
      refine mm_s1 rfl ?_
      refine mm_s1 rfl ?_
      refine mm_s1 rfl ?_
      have b66 := h.1 c55
      refine mm_s1 rfl ⟨C7.1, ?_⟩
      refine np_Index_hasFrom (by decide) L N C7 b66 ?_
      show mm_Go (mm_run 1) mc_LI_both _ (69, [(0, .inr (.inr 1)), (2, .inl v2), (4, .inl v4), (5, .inl v5), (6, .inr (.inr v6)), (7, .inr (.inr v7)), (8, .inl v8), (9, .inl v9)], [.inl (nf_Index_hasFrom v7 v9 v4 v4 M)], M)
      refine mm_s1 rfl ⟨fun c69 => ?_, fun c69 => ?_⟩
      · show mm_Go (mm_run 1) mc_LI_both _ (87, [(0, .inr (.inr 1)), (2, .inl v2), (4, .inl v4), (5, .inl v5), (6, .inr (.inr v6)), (7, .inr (.inr v7)), (8, .inl v8), (9, .inl v9)], [], M)
        refine mm_s1 rfl ?_
        show mm_Go (mm_run 1) mc_LI_both _ (90, [(0, .inr (.inr 1)), (2, .inl v2), (4, .inl v4), (5, .inl v5), (6, .inr (.inr v6)), (7, .inr (.inr v7)), (8, .inl v8), (9, .inl (mm_w (v9 + 1)))], [], M)
        refine mm_s1 rfl ?_
        show mm_Go (mm_run 1) mc_LI_both _ (39, [(0, .inr (.inr 1)), (2, .inl v2), (4, .inl v4), (5, .inl v5), (6, .inr (.inr v6)), (7, .inr (.inr v7)), (8, .inl v8), (9, .inl (mm_w (v9 + 1)))], [], M)
        replace h := h.2.2.1 (Or.inr c69)
        exact nn_go_ext (nn_xc rfl (nn_xc rfl (nn_xc rfl (nn_xc rfl (nn_xc rfl (nn_xc rfl (nn_xc rfl (nn_xc rfl nn_xn)))))))) (h n L N C6 C7)
      · show mm_Go (mm_run 1) mc_LI_both _ (72, [(0, .inr (.inr 1)), (2, .inl v2), (4, .inl v4), (5, .inl v5), (6, .inr (.inr v6)), (7, .inr (.inr v7)), (8, .inl v8), (9, .inl v9)], [], M)
        refine mm_s1 rfl ?_
        refine nn_getr rfl (nn_c1 NN).1 (lf_1_0 L N (nn_c1 NN)) ?_
        refine nn_getr rfl (nc_1_0 NN (nn_c1 NN)).1 (lf_9_6 L N (nc_1_0 NN (nn_c1 NN))) ?_
        refine mm_s1 rfl ?_
        refine mm_s1 rfl ?_
        show mm_Go (mm_run 1) mc_LI_both _ (83, [(0, .inr (.inr 1)), (2, .inl v2), (4, .inl v4), (5, .inl v5), (6, .inr (.inr v6)), (7, .inr (.inr v7)), (8, .inl v8), (9, .inl v9)], [.inl v9, .inl v8, .inr (.inr 91)], M)
        have b83 := h.2.1 ⟨c55, c69⟩
        replace h := h.2.2.2 ⟨c55, c69⟩
        refine mm_s1 rfl ⟨nn_bd (na_9_6 NN (nc_1_0 NN (nn_c1 NN))) b83, ?_⟩
        show mm_Go (mm_run 1) mc_LI_both _ (84, [(0, .inr (.inr 1)), (2, .inl v2), (4, .inl v4), (5, .inl v5), (6, .inr (.inr v6)), (7, .inr (.inr v7)), (8, .inl v8), (9, .inl v9)], [], (nn_ui M 91 v8 v9))
        have L : nn_L (nn_ui M 91 v8 v9) := nn_L_ua L (congrArg Prod.fst (na_9_6 NN (nc_1_0 NN (nn_c1 NN)))) (by decide)
        have N : (nn_ui M 91 v8 v9).1 = n := N
        generalize e_M83 : (nn_ui M 91 v8 v9) = M83 at L N ⊢
        replace h := h _ e_M83.symm
        show mm_Go (mm_run 1) mc_LI_both _ (84, [(0, .inr (.inr 1)), (2, .inl v2), (4, .inl v4), (5, .inl v5), (6, .inr (.inr v6)), (7, .inr (.inr v7)), (8, .inl v8), (9, .inl v9)], [], M83)
        refine mm_s1 rfl ?_
        show mm_Go (mm_run 1) mc_LI_both _ (87, [(0, .inr (.inr 1)), (2, .inl v2), (4, .inl v4), (5, .inl v5), (6, .inr (.inr v6)), (7, .inr (.inr v7)), (8, .inl (mm_w (v8 + 1))), (9, .inl v9)], [], M83)
        refine mm_s1 rfl ?_
        show mm_Go (mm_run 1) mc_LI_both _ (90, [(0, .inr (.inr 1)), (2, .inl v2), (4, .inl v4), (5, .inl v5), (6, .inr (.inr v6)), (7, .inr (.inr v7)), (8, .inl (mm_w (v8 + 1))), (9, .inl (mm_w (v9 + 1)))], [], M83)
        refine mm_s1 rfl ?_
        show mm_Go (mm_run 1) mc_LI_both _ (39, [(0, .inr (.inr 1)), (2, .inl v2), (4, .inl v4), (5, .inl v5), (6, .inr (.inr v6)), (7, .inr (.inr v7)), (8, .inl (mm_w (v8 + 1))), (9, .inl (mm_w (v9 + 1)))], [], M83)
        exact nn_go_ext (nn_xc rfl (nn_xc rfl (nn_xc rfl (nn_xc rfl (nn_xc rfl (nn_xc rfl (nn_xc rfl (nn_xc rfl nn_xn)))))))) (h n L N C6 C7)
def nr_LI_sum (v1 : Int) (v2 : Int) (v3 : Int) (v4 : Int) (M : mm_M) (R : Int → mm_M → Prop) : Prop := ∀ n, nn_L M → M.1 = n → mm_run 2 mi_LI_sum [.inr (.inr 1), .inl v1, .inl v2, .inl v3, .inl v4] M (nw_I n R)
def nk_LI_sum_31 (v2 : Int) (v3 : Int) (v4 : Int) (v5 : Nat) (v6 : Int) (v7 : Int) (M : mm_M) (R : Int → mm_M → Prop) : Prop := ∀ n, nn_L M → M.1 = n → nn_C 5 v5 n → mm_Go (mm_run 1) mc_LI_sum (nw_I n R) (31, [(0, .inr (.inr 1)), (2, .inl v2), (3, .inl v3), (4, .inl v4), (5, .inr (.inr v5)), (6, .inl v6), (7, .inl v7)], [], M)
set_option maxRecDepth 20000 in
theorem ng_LI_sum (v1 : Int) (v2 : Int) (v3 : Int) (v4 : Int) (M : mm_M) (R : Int → mm_M → Prop) (h : (nr_Store_findBuilt 2 v1 M (fun r5 M5 => (((r5 = 0 ∨ ((nf_LI_isColumn v4) = 0)) → R (-1) M5) ∧ ((r5 ≠ 0 ∧ ((nf_LI_isColumn v4) ≠ 0)) → nk_LI_sum_31 v2 v3 v4 r5 0 0 M5 R))))) : nr_LI_sum v1 v2 v3 v4 M R := by
  intro n L N 
  have NN := nn_L_n L N
  show mm_Go (mm_run 1) mc_LI_sum _ (0, [(0, .inr (.inr 1)), (1, .inl v1), (2, .inl v2), (3, .inl v3), (4, .inl v4)], [], M)
  refine mm_s1 rfl ?_
  refine nn_getr rfl (nn_c1 NN).1 (lf_1_0 L N (nn_c1 NN)) ?_
  refine mm_s1 rfl ?_
  refine mm_s1 rfl ⟨(nc_1_0 NN (nn_c1 NN)).1, ?_⟩
  refine nn_call (D := 1) (by decide) (h n L N (nc_1_0 NN (nn_c1 NN))) ?_
  intro v M5 q; clear L N h
  obtain ⟨r5, rfl, q5, L, N, h⟩ := q
  show mm_Go (mm_run 1) mc_LI_sum _ (8, [(0, .inr (.inr 1)), (1, .inl v1), (2, .inl v2), (3, .inl v3), (4, .inl v4)], [.inr (.inr r5)], M5)
  refine mm_s1 rfl ?_
  show mm_Go (mm_run 1) mc_LI_sum _ (10, [(0, .inr (.inr 1)), (1, .inl v1), (2, .inl v2), (3, .inl v3), (4, .inl v4), (5, .inr (.inr r5))], [], M5)
  refine mm_s1 rfl ?_
  refine mm_s1 rfl ⟨fun c12 => ?_, fun c12 => ?_⟩
  · show mm_Go (mm_run 1) mc_LI_sum _ (23, [(0, .inr (.inr 1)), (1, .inl v1), (2, .inl v2), (3, .inl v3), (4, .inl v4), (5, .inr (.inr r5))], [], M5)
    refine mm_s1 rfl ?_
    replace h := h.1 (Or.inl c12)
    exact mm_s1 rfl ⟨_, rfl, L, N, h⟩
  · show mm_Go (mm_run 1) mc_LI_sum _ (15, [(0, .inr (.inr 1)), (1, .inl v1), (2, .inl v2), (3, .inl v3), (4, .inl v4), (5, .inr (.inr r5))], [], M5)
    refine mm_s1 rfl ?_
    refine mm_s1 rfl ⟨trivial, ?_⟩
    refine np_LI_isColumn (by decide) L N ?_
    show mm_Go (mm_run 1) mc_LI_sum _ (20, [(0, .inr (.inr 1)), (1, .inl v1), (2, .inl v2), (3, .inl v3), (4, .inl v4), (5, .inr (.inr r5))], [.inl (nf_LI_isColumn v4)], M5)
    refine mm_s1 rfl ⟨fun c20 => ?_, fun c20 => ?_⟩
    · show mm_Go (mm_run 1) mc_LI_sum _ (25, [(0, .inr (.inr 1)), (1, .inl v1), (2, .inl v2), (3, .inl v3), (4, .inl v4), (5, .inr (.inr r5))], [], M5)
      refine mm_s1 rfl ?_
      refine mm_s1 rfl ?_
      show mm_Go (mm_run 1) mc_LI_sum _ (28, [(0, .inr (.inr 1)), (1, .inl v1), (2, .inl v2), (3, .inl v3), (4, .inl v4), (5, .inr (.inr r5)), (6, .inl 0)], [], M5)
      refine mm_s1 rfl ?_
      refine mm_s1 rfl ?_
      show mm_Go (mm_run 1) mc_LI_sum _ (31, [(0, .inr (.inr 1)), (1, .inl v1), (2, .inl v2), (3, .inl v3), (4, .inl v4), (5, .inr (.inr r5)), (6, .inl 0), (7, .inl 0)], [], M5)
      replace h := h.2 ⟨c12, c20⟩
      exact nn_go_ext (nn_xc rfl (nn_xc rfl (nn_xc rfl (nn_xc rfl (nn_xc rfl (nn_xc rfl (nn_xc rfl nn_xn))))))) (h n L N (Or.resolve_left q5 c12))
    · show mm_Go (mm_run 1) mc_LI_sum _ (23, [(0, .inr (.inr 1)), (1, .inl v1), (2, .inl v2), (3, .inl v3), (4, .inl v4), (5, .inr (.inr r5))], [], M5)
      replace c20 := Decidable.not_not.mp c20
      refine mm_s1 rfl ?_
      replace h := h.1 (Or.inr c20)
      exact mm_s1 rfl ⟨_, rfl, L, N, h⟩
set_option maxRecDepth 20000 in
theorem ng_LI_sum_31 (v2 : Int) (v3 : Int) (v4 : Int) (v5 : Nat) (v6 : Int) (v7 : Int) (M : mm_M) (R : Int → mm_M → Prop) (h : ((32 ≤ v7 → R v6 M) ∧ (v7 < 32 → ((nc_Index_hasFrom v5 v7 v2 v3 M) ∧ (((nf_Index_hasFrom v5 v7 v2 v3 M) = 0 → nk_LI_sum_31 v2 v3 v4 v5 v6 (mm_w (v7 + 1)) M R) ∧ ((nf_Index_hasFrom v5 v7 v2 v3 M) ≠ 0 → (((0 : Int) ≤ v7 ∧ v7 < (32 : Int)) ∧ (∀ x6_74 : Int, x6_74 = mm_w (v6 + (nf_LI_columnOf (nn_ri M 10 v7) v4)) → nk_LI_sum_31 v2 v3 v4 v5 x6_74 (mm_w (v7 + 1)) M R)))))))) : nk_LI_sum_31 v2 v3 v4 v5 v6 v7 M R := by
  intro n L N C5
  have NN := nn_L_n L N
  show mm_Go (mm_run 1) mc_LI_sum _ (31, [(0, .inr (.inr 1)), (2, .inl v2), (3, .inl v3), (4, .inl v4), (5, .inr (.inr v5)), (6, .inl v6), (7, .inl v7)], [], M)
  refine mm_s1 rfl ?_
  refine mm_s1 rfl ?_
  refine mm_s1 rfl ⟨fun c35 => ?_, fun c35 => ?_⟩
  · show mm_Go (mm_run 1) mc_LI_sum _ (82, [(0, .inr (.inr 1)), (2, .inl v2), (3, .inl v3), (4, .inl v4), (5, .inr (.inr v5)), (6, .inl v6), (7, .inl v7)], [], M)
    replace h := h.1 c35
    refine mm_s1 rfl ?_
    exact mm_s1 rfl ⟨_, rfl, L, N, h⟩
  · show mm_Go (mm_run 1) mc_LI_sum _ (38, [(0, .inr (.inr 1)), (2, .inl v2), (3, .inl v3), (4, .inl v4), (5, .inr (.inr v5)), (6, .inl v6), (7, .inl v7)], [], M)
    replace c35 := Int.not_le.mp c35
    replace h := h.2 c35
    refine mm_s1 rfl ?_
    refine mm_s1 rfl ?_
    refine mm_s1 rfl ?_
    refine mm_s1 rfl ?_
    obtain ⟨b44, h⟩ := h
    refine mm_s1 rfl ⟨C5.1, ?_⟩
    refine np_Index_hasFrom (by decide) L N C5 b44 ?_
    show mm_Go (mm_run 1) mc_LI_sum _ (47, [(0, .inr (.inr 1)), (2, .inl v2), (3, .inl v3), (4, .inl v4), (5, .inr (.inr v5)), (6, .inl v6), (7, .inl v7)], [.inl (nf_Index_hasFrom v5 v7 v2 v3 M)], M)
    refine mm_s1 rfl ⟨fun c47 => ?_, fun c47 => ?_⟩
    · show mm_Go (mm_run 1) mc_LI_sum _ (76, [(0, .inr (.inr 1)), (2, .inl v2), (3, .inl v3), (4, .inl v4), (5, .inr (.inr v5)), (6, .inl v6), (7, .inl v7)], [], M)
      replace h := h.1 c47
      refine mm_s1 rfl ?_
      show mm_Go (mm_run 1) mc_LI_sum _ (79, [(0, .inr (.inr 1)), (2, .inl v2), (3, .inl v3), (4, .inl v4), (5, .inr (.inr v5)), (6, .inl v6), (7, .inl (mm_w (v7 + 1)))], [], M)
      refine mm_s1 rfl ?_
      show mm_Go (mm_run 1) mc_LI_sum _ (31, [(0, .inr (.inr 1)), (2, .inl v2), (3, .inl v3), (4, .inl v4), (5, .inr (.inr v5)), (6, .inl v6), (7, .inl (mm_w (v7 + 1)))], [], M)
      exact nn_go_ext (nn_xc rfl (nn_xc rfl (nn_xc rfl (nn_xc rfl (nn_xc rfl (nn_xc rfl (nn_xc rfl nn_xn))))))) (h n L N C5)
    · show mm_Go (mm_run 1) mc_LI_sum _ (50, [(0, .inr (.inr 1)), (2, .inl v2), (3, .inl v3), (4, .inl v4), (5, .inr (.inr v5)), (6, .inl v6), (7, .inl v7)], [], M)
      replace h := h.2 c47
      refine mm_s1 rfl ?_
      refine mm_s1 rfl ?_
      refine nn_getr rfl (nn_c1 NN).1 (lf_1_0 L N (nn_c1 NN)) ?_
      refine nn_getr rfl (nc_1_0 NN (nn_c1 NN)).1 (lf_9_1 L N (nc_1_0 NN (nn_c1 NN))) ?_
      refine nn_getr rfl (nc_9_1 NN (nc_1_0 NN (nn_c1 NN))).1 (lf_10_1 L N (nc_9_1 NN (nc_1_0 NN (nn_c1 NN)))) ?_
      show mm_Go (mm_run 1) mc_LI_sum _ (62, [(0, .inr (.inr 1)), (2, .inl v2), (3, .inl v3), (4, .inl v4), (5, .inr (.inr v5)), (6, .inl v6), (7, .inl v7)], [.inr (.inr 9), .inl v6], M)
      refine nn_getr rfl (nc_10_1 NN (nc_9_1 NN (nc_1_0 NN (nn_c1 NN)))).1 (lf_12_0 L N (nc_10_1 NN (nc_9_1 NN (nc_1_0 NN (nn_c1 NN))))) ?_
      refine mm_s1 rfl ?_
      obtain ⟨b67, h⟩ := h
      refine mm_s1 rfl ⟨nn_bd (na_12_0 NN (nc_10_1 NN (nc_9_1 NN (nc_1_0 NN (nn_c1 NN))))) b67, ?_⟩
      show mm_Go (mm_run 1) mc_LI_sum _ (68, [(0, .inr (.inr 1)), (2, .inl v2), (3, .inl v3), (4, .inl v4), (5, .inr (.inr v5)), (6, .inl v6), (7, .inl v7)], [.inl (nn_ri M 10 v7), .inl v6], M)
      refine mm_s1 rfl ?_
      refine mm_s1 rfl ⟨trivial, ?_⟩
      refine np_LI_columnOf (by decide) L N ?_
      show mm_Go (mm_run 1) mc_LI_sum _ (73, [(0, .inr (.inr 1)), (2, .inl v2), (3, .inl v3), (4, .inl v4), (5, .inr (.inr v5)), (6, .inl v6), (7, .inl v7)], [.inl (nf_LI_columnOf (nn_ri M 10 v7) v4), .inl v6], M)
      refine mm_s1 rfl ?_
      refine mm_s1 rfl ?_
      show mm_Go (mm_run 1) mc_LI_sum _ (76, [(0, .inr (.inr 1)), (2, .inl v2), (3, .inl v3), (4, .inl v4), (5, .inr (.inr v5)), (6, .inl (mm_w (v6 + (nf_LI_columnOf (nn_ri M 10 v7) v4)))), (7, .inl v7)], [], M)
      generalize e_x6_74 : (mm_w (v6 + (nf_LI_columnOf (nn_ri M 10 v7) v4))) = x6_74
      replace h := h _ e_x6_74.symm
      show mm_Go (mm_run 1) mc_LI_sum _ (76, [(0, .inr (.inr 1)), (2, .inl v2), (3, .inl v3), (4, .inl v4), (5, .inr (.inr v5)), (6, .inl x6_74), (7, .inl v7)], [], M)
      refine mm_s1 rfl ?_
      show mm_Go (mm_run 1) mc_LI_sum _ (79, [(0, .inr (.inr 1)), (2, .inl v2), (3, .inl v3), (4, .inl v4), (5, .inr (.inr v5)), (6, .inl x6_74), (7, .inl (mm_w (v7 + 1)))], [], M)
      refine mm_s1 rfl ?_
      show mm_Go (mm_run 1) mc_LI_sum _ (31, [(0, .inr (.inr 1)), (2, .inl v2), (3, .inl v3), (4, .inl v4), (5, .inr (.inr v5)), (6, .inl x6_74), (7, .inl (mm_w (v7 + 1)))], [], M)
      exact nn_go_ext (nn_xc rfl (nn_xc rfl (nn_xc rfl (nn_xc rfl (nn_xc rfl (nn_xc rfl (nn_xc rfl nn_xn))))))) (h n L N C5)
def nr_LI_near (v1 : Int) (v2 : Int) (M : mm_M) (R : Int → mm_M → Prop) : Prop := ∀ n, nn_L M → M.1 = n → mm_run 2 mi_LI_near [.inr (.inr 1), .inl v1, .inl v2] M (nw_I n R)
set_option maxRecDepth 20000 in
theorem ng_LI_near (v1 : Int) (v2 : Int) (M : mm_M) (R : Int → mm_M → Prop) (h : (nr_Store_findBuilt 2 v1 M (fun r5 M5 => ((r5 ≠ 0 → (nr_Index_nearest r5 v2 M5 (fun r19 M19 => R r19 M19))) ∧ (r5 = 0 → R (-1) M5))))) : nr_LI_near v1 v2 M R := by
  intro n L N 
  have NN := nn_L_n L N
  show mm_Go (mm_run 1) mc_LI_near _ (0, [(0, .inr (.inr 1)), (1, .inl v1), (2, .inl v2)], [], M)
  refine mm_s1 rfl ?_
  refine nn_getr rfl (nn_c1 NN).1 (lf_1_0 L N (nn_c1 NN)) ?_
  refine mm_s1 rfl ?_
  refine mm_s1 rfl ⟨(nc_1_0 NN (nn_c1 NN)).1, ?_⟩
  refine nn_call (D := 1) (by decide) (h n L N (nc_1_0 NN (nn_c1 NN))) ?_
  intro v M5 q; clear L N h
  obtain ⟨r5, rfl, q5, L, N, h⟩ := q
  show mm_Go (mm_run 1) mc_LI_near _ (8, [(0, .inr (.inr 1)), (1, .inl v1), (2, .inl v2)], [.inr (.inr r5)], M5)
  refine mm_s1 rfl ?_
  show mm_Go (mm_run 1) mc_LI_near _ (9, [(0, .inr (.inr 1)), (1, .inl v1), (2, .inl v2), (3, .inr (.inr r5))], [], M5)
  refine mm_s1 rfl ?_
  refine mm_s1 rfl ⟨fun c10 => ?_, fun c10 => ?_⟩
  · show mm_Go (mm_run 1) mc_LI_near _ (17, [(0, .inr (.inr 1)), (1, .inl v1), (2, .inl v2), (3, .inr (.inr r5))], [], M5)
    replace h := h.1 c10
    refine mm_s1 rfl ?_
    refine mm_s1 rfl ?_
    refine mm_s1 rfl ⟨(Or.resolve_left q5 c10).1, ?_⟩
    refine nn_call (D := 1) (by decide) (h n L N (Or.resolve_left q5 c10)) ?_
    intro v M19 q; clear L N h
    obtain ⟨r19, rfl, L, N, h⟩ := q
    show mm_Go (mm_run 1) mc_LI_near _ (22, [(0, .inr (.inr 1)), (1, .inl v1), (2, .inl v2), (3, .inr (.inr r5))], [.inl r19], M19)
    exact mm_s1 rfl ⟨_, rfl, L, N, h⟩
  · show mm_Go (mm_run 1) mc_LI_near _ (13, [(0, .inr (.inr 1)), (1, .inl v1), (2, .inl v2), (3, .inr (.inr r5))], [], M5)
    replace c10 := Decidable.not_not.mp c10
    replace h := h.2 c10
    refine mm_s1 rfl ?_
    refine mm_s1 rfl ?_
    show mm_Go (mm_run 1) mc_LI_near _ (22, [(0, .inr (.inr 1)), (1, .inl v1), (2, .inl v2), (3, .inr (.inr r5))], [.inl (-1)], M5)
    exact mm_s1 rfl ⟨_, rfl, L, N, h⟩
def nr_LI_next (v1 : Int) (M : mm_M) (R : Int → mm_M → Prop) : Prop := ∀ n, nn_L M → M.1 = n → mm_run 2 mi_LI_next [.inr (.inr 1), .inl v1] M (nw_I n R)
set_option maxRecDepth 20000 in
theorem ng_LI_next (v1 : Int) (M : mm_M) (R : Int → mm_M → Prop) (h : (nr_Store_findCursor 2 v1 M (fun r5 M5 => (((r5 = 0 ∨ ((nn_rf M5 r5 3) ≤ (nn_rf M5 r5 4))) → R (-1) M5) ∧ ((r5 ≠ 0 ∧ ((nn_rf M5 r5 4) < (nn_rf M5 r5 3))) → (∀ M33 : mm_M, M33 = nn_uf M5 r5 4 (mm_w ((nn_rf M5 r5 4) + 1)) → (((0 : Int) ≤ (mm_w ((nn_rf M33 r5 4) - 1)) ∧ (mm_w ((nn_rf M33 r5 4) - 1)) < (32 : Int)) ∧ R (nn_ri M33 (r5 + 1) (mm_w ((nn_rf M33 r5 4) - 1))) M33))))))) : nr_LI_next v1 M R := by
  intro n L N 
  have NN := nn_L_n L N
  show mm_Go (mm_run 1) mc_LI_next _ (0, [(0, .inr (.inr 1)), (1, .inl v1)], [], M)
  refine mm_s1 rfl ?_
  refine nn_getr rfl (nn_c1 NN).1 (lf_1_0 L N (nn_c1 NN)) ?_
  refine mm_s1 rfl ?_
  refine mm_s1 rfl ⟨(nc_1_0 NN (nn_c1 NN)).1, ?_⟩
  refine nn_call (D := 1) (by decide) (h n L N (nc_1_0 NN (nn_c1 NN))) ?_
  intro v M5 q; clear L N h
  obtain ⟨r5, rfl, q5, L, N, h⟩ := q
  show mm_Go (mm_run 1) mc_LI_next _ (8, [(0, .inr (.inr 1)), (1, .inl v1)], [.inr (.inr r5)], M5)
  refine mm_s1 rfl ?_
  show mm_Go (mm_run 1) mc_LI_next _ (9, [(0, .inr (.inr 1)), (1, .inl v1), (2, .inr (.inr r5))], [], M5)
  refine mm_s1 rfl ?_
  refine mm_s1 rfl ⟨fun c10 => ?_, fun c10 => ?_⟩
  · show mm_Go (mm_run 1) mc_LI_next _ (24, [(0, .inr (.inr 1)), (1, .inl v1), (2, .inr (.inr r5))], [], M5)
    refine mm_s1 rfl ?_
    replace h := h.1 (Or.inl c10)
    exact mm_s1 rfl ⟨_, rfl, L, N, h⟩
  · show mm_Go (mm_run 1) mc_LI_next _ (13, [(0, .inr (.inr 1)), (1, .inl v1), (2, .inr (.inr r5))], [], M5)
    refine mm_s1 rfl ?_
    refine mm_s1 rfl ⟨(Or.resolve_left q5 c10).1, ?_⟩
    show mm_Go (mm_run 1) mc_LI_next _ (17, [(0, .inr (.inr 1)), (1, .inl v1), (2, .inr (.inr r5))], [.inl (nn_rf M5 r5 4)], M5)
    refine mm_s1 rfl ?_
    refine mm_s1 rfl ⟨(Or.resolve_left q5 c10).1, ?_⟩
    show mm_Go (mm_run 1) mc_LI_next _ (21, [(0, .inr (.inr 1)), (1, .inl v1), (2, .inr (.inr r5))], [.inl (nn_rf M5 r5 3), .inl (nn_rf M5 r5 4)], M5)
    refine mm_s1 rfl ⟨fun c21 => ?_, fun c21 => ?_⟩
    · show mm_Go (mm_run 1) mc_LI_next _ (26, [(0, .inr (.inr 1)), (1, .inl v1), (2, .inr (.inr r5))], [], M5)
      refine mm_s1 rfl ?_
      refine mm_s1 rfl ?_
      refine mm_s1 rfl ⟨(Or.resolve_left q5 c10).1, ?_⟩
      show mm_Go (mm_run 1) mc_LI_next _ (31, [(0, .inr (.inr 1)), (1, .inl v1), (2, .inr (.inr r5))], [.inl (nn_rf M5 r5 4), .inr (.inr r5)], M5)
      refine mm_s1 rfl ?_
      refine mm_s1 rfl ?_
      replace h := h.2 ⟨c10, c21⟩
      refine mm_s1 rfl ⟨(Or.resolve_left q5 c10).1, ?_⟩
      show mm_Go (mm_run 1) mc_LI_next _ (36, [(0, .inr (.inr 1)), (1, .inl v1), (2, .inr (.inr r5))], [], (nn_uf M5 r5 4 (mm_w ((nn_rf M5 r5 4) + 1))))
      have L : nn_L (nn_uf M5 r5 4 (mm_w ((nn_rf M5 r5 4) + 1))) := nn_L_up L (Or.resolve_left q5 c10).1 rfl
      have N : (nn_uf M5 r5 4 (mm_w ((nn_rf M5 r5 4) + 1))).1 = n := N
      generalize e_M33 : (nn_uf M5 r5 4 (mm_w ((nn_rf M5 r5 4) + 1))) = M33 at L N ⊢
      replace h := h _ e_M33.symm
      show mm_Go (mm_run 1) mc_LI_next _ (36, [(0, .inr (.inr 1)), (1, .inl v1), (2, .inr (.inr r5))], [], M33)
      refine mm_s1 rfl ?_
      refine nn_getr rfl (Or.resolve_left q5 c10).1 (lf_3_0 L N (Or.resolve_left q5 c10)) ?_
      refine mm_s1 rfl ?_
      refine mm_s1 rfl ⟨(Or.resolve_left q5 c10).1, ?_⟩
      show mm_Go (mm_run 1) mc_LI_next _ (44, [(0, .inr (.inr 1)), (1, .inl v1), (2, .inr (.inr r5))], [.inl (nn_rf M33 r5 4), .inr (.inr (r5 + 1))], M33)
      refine mm_s1 rfl ?_
      refine mm_s1 rfl ?_
      obtain ⟨b46, h⟩ := h
      refine mm_s1 rfl ⟨nn_bd (na_3_0 NN (Or.resolve_left q5 c10)) b46, ?_⟩
      show mm_Go (mm_run 1) mc_LI_next _ (47, [(0, .inr (.inr 1)), (1, .inl v1), (2, .inr (.inr r5))], [.inl (nn_ri M33 (r5 + 1) (mm_w ((nn_rf M33 r5 4) - 1)))], M33)
      exact mm_s1 rfl ⟨_, rfl, L, N, h⟩
    · show mm_Go (mm_run 1) mc_LI_next _ (24, [(0, .inr (.inr 1)), (1, .inl v1), (2, .inr (.inr r5))], [], M5)
      replace c21 := Int.not_lt.mp c21
      refine mm_s1 rfl ?_
      replace h := h.1 (Or.inr c21)
      exact mm_s1 rfl ⟨_, rfl, L, N, h⟩
def nr_LI_close (v1 : Int) (M : mm_M) (R : Int → mm_M → Prop) : Prop := ∀ n, nn_L M → M.1 = n → mm_run 2 mi_LI_close [.inr (.inr 1), .inl v1] M (nw_I n R)
set_option maxRecDepth 20000 in
theorem ng_LI_close (v1 : Int) (M : mm_M) (R : Int → mm_M → Prop) (h : (nr_Store_findCursor 2 v1 M (fun r5 M5 => ((r5 ≠ 0 → (∀ M17 : mm_M, M17 = nn_uf M5 r5 2 0 → R (mm_w ((nn_rf M17 r5 3) - (nn_rf M17 r5 4))) M17)) ∧ (r5 = 0 → R (-1) M5))))) : nr_LI_close v1 M R := by
  intro n L N 
  have NN := nn_L_n L N
  show mm_Go (mm_run 1) mc_LI_close _ (0, [(0, .inr (.inr 1)), (1, .inl v1)], [], M)
  refine mm_s1 rfl ?_
  refine nn_getr rfl (nn_c1 NN).1 (lf_1_0 L N (nn_c1 NN)) ?_
  refine mm_s1 rfl ?_
  refine mm_s1 rfl ⟨(nc_1_0 NN (nn_c1 NN)).1, ?_⟩
  refine nn_call (D := 1) (by decide) (h n L N (nc_1_0 NN (nn_c1 NN))) ?_
  intro v M5 q; clear L N h
  obtain ⟨r5, rfl, q5, L, N, h⟩ := q
  show mm_Go (mm_run 1) mc_LI_close _ (8, [(0, .inr (.inr 1)), (1, .inl v1)], [.inr (.inr r5)], M5)
  refine mm_s1 rfl ?_
  show mm_Go (mm_run 1) mc_LI_close _ (9, [(0, .inr (.inr 1)), (1, .inl v1), (2, .inr (.inr r5))], [], M5)
  refine mm_s1 rfl ?_
  refine mm_s1 rfl ⟨fun c10 => ?_, fun c10 => ?_⟩
  · show mm_Go (mm_run 1) mc_LI_close _ (15, [(0, .inr (.inr 1)), (1, .inl v1), (2, .inr (.inr r5))], [], M5)
    replace h := h.1 c10
    refine mm_s1 rfl ?_
    refine mm_s1 rfl ?_
    refine mm_s1 rfl ⟨⟨(Or.resolve_left q5 c10).1, (Or.inl rfl)⟩, ?_⟩
    show mm_Go (mm_run 1) mc_LI_close _ (20, [(0, .inr (.inr 1)), (1, .inl v1), (2, .inr (.inr r5))], [], (nn_uf M5 r5 2 0))
    have L : nn_L (nn_uf M5 r5 2 0) := nn_L_up L (Or.resolve_left q5 c10).1 rfl
    have N : (nn_uf M5 r5 2 0).1 = n := N
    generalize e_M17 : (nn_uf M5 r5 2 0) = M17 at L N ⊢
    replace h := h _ e_M17.symm
    show mm_Go (mm_run 1) mc_LI_close _ (20, [(0, .inr (.inr 1)), (1, .inl v1), (2, .inr (.inr r5))], [], M17)
    refine mm_s1 rfl ?_
    refine mm_s1 rfl ⟨(Or.resolve_left q5 c10).1, ?_⟩
    show mm_Go (mm_run 1) mc_LI_close _ (24, [(0, .inr (.inr 1)), (1, .inl v1), (2, .inr (.inr r5))], [.inl (nn_rf M17 r5 3)], M17)
    refine mm_s1 rfl ?_
    refine mm_s1 rfl ⟨(Or.resolve_left q5 c10).1, ?_⟩
    show mm_Go (mm_run 1) mc_LI_close _ (28, [(0, .inr (.inr 1)), (1, .inl v1), (2, .inr (.inr r5))], [.inl (nn_rf M17 r5 4), .inl (nn_rf M17 r5 3)], M17)
    refine mm_s1 rfl ?_
    exact mm_s1 rfl ⟨_, rfl, L, N, h⟩
  · show mm_Go (mm_run 1) mc_LI_close _ (13, [(0, .inr (.inr 1)), (1, .inl v1), (2, .inr (.inr r5))], [], M5)
    replace c10 := Decidable.not_not.mp c10
    replace h := h.2 c10
    refine mm_s1 rfl ?_
    exact mm_s1 rfl ⟨_, rfl, L, N, h⟩
def nf_Index_size (v0 : Nat) (M : mm_M) : Int := mm_w ((nn_rf M (v0 + 4) 1) + (nf_Pile_size (v0 + 8) M))
def nc_Index_size (v0 : Nat) (M : mm_M) : Prop := (nc_Pile_size (v0 + 8) M)
set_option maxRecDepth 20000 in
theorem np_Index_size {v0 : Nat} {M : mm_M} {n d : Nat} {P : mm_P} (hd : 2 ≤ d) (L : nn_L M) (N : M.1 = n) (C0 : nn_C 5 v0 n) (b : nc_Index_size v0 M) (h : P (some (.inl (nf_Index_size v0 M))) M) : mm_run d mi_Index_size [.inr (.inr v0)] M P := by
  have NN := nn_L_n L N
  unfold nc_Index_size at b
  unfold nf_Index_size at h
  refine nn_run_le hd ?_
  show mm_Go (mm_run 1) mc_Index_size _ (0, [(0, .inr (.inr v0))], [], M)
  refine mm_s1 rfl ?_
  refine nn_getr rfl C0.1 (lf_5_1 L N C0) ?_
  refine mm_s1 rfl ⟨(nc_5_1 NN C0).1, ?_⟩
  show mm_Go (mm_run 1) mc_Index_size _ (7, [(0, .inr (.inr v0))], [.inl (nn_rf M (v0 + 4) 1)], M)
  refine mm_s1 rfl ?_
  refine nn_getr rfl C0.1 (lf_5_3 L N C0) ?_
  have b11 := b
  refine mm_s1 rfl ⟨(nc_5_3 NN C0).1, ?_⟩
  refine np_Pile_size (by decide) L N (nc_5_3 NN C0) b11 ?_
  show mm_Go (mm_run 1) mc_Index_size _ (14, [(0, .inr (.inr v0))], [.inl (nf_Pile_size (v0 + 8) M), .inl (nn_rf M (v0 + 4) 1)], M)
  refine mm_s1 rfl ?_
  exact mm_s1 rfl h
def nr_Index_keepAside (v0 : Nat) (v1 : Int) (v2 : Nat) (M : mm_M) (R : mm_M → Prop) : Prop := ∀ n, nn_L M → M.1 = n → nn_C 5 v0 n → nn_C 12 v2 n → mm_run 2 mi_Index_keepAside [.inr (.inr v0), .inl v1, .inr (.inr v2)] M (nw_V n R)
set_option maxRecDepth 20000 in
theorem ng_Index_keepAside (v0 : Nat) (v1 : Int) (v2 : Nat) (M : mm_M) (R : mm_M → Prop) (h : (((0 : Int) ≤ v1 ∧ v1 < (32 : Int)) ∧ (((nn_ri M (v0 + 14) v1) = (-1) → R M) ∧ ((nn_ri M (v0 + 14) v1) ≠ (-1) → (((0 : Int) ≤ v1 ∧ v1 < (32 : Int)) ∧ (((0 : Int) ≤ v1 ∧ v1 < (32 : Int)) ∧ (nr_Entries_add (v0 + 6) (nf_LI_entryOf (nn_ri M (v0 + 14) v1) v1 (nn_ri M (v2 + 2) v1)) M (fun M30 => R M30)))))))) : nr_Index_keepAside v0 v1 v2 M R := by
  intro n L N C0 C2
  have NN := nn_L_n L N
  show mm_Go (mm_run 1) mc_Index_keepAside _ (0, [(0, .inr (.inr v0)), (1, .inl v1), (2, .inr (.inr v2))], [], M)
  refine mm_s1 rfl ?_
  refine nn_getr rfl C0.1 (lf_5_4 L N C0) ?_
  refine mm_s1 rfl ?_
  obtain ⟨b5, h⟩ := h
  refine mm_s1 rfl ⟨nn_bd (na_5_4 NN C0) b5, ?_⟩
  show mm_Go (mm_run 1) mc_Index_keepAside _ (6, [(0, .inr (.inr v0)), (1, .inl v1), (2, .inr (.inr v2))], [.inl (nn_ri M (v0 + 14) v1)], M)
  refine mm_s1 rfl ?_
  refine mm_s1 rfl ⟨fun c7 => ?_, fun c7 => ?_⟩
  · show mm_Go (mm_run 1) mc_Index_keepAside _ (33, [(0, .inr (.inr v0)), (1, .inl v1), (2, .inr (.inr v2))], [], M)
    replace h := h.1 c7
    exact mm_s1 rfl ⟨rfl, L, N, h⟩
  · show mm_Go (mm_run 1) mc_Index_keepAside _ (10, [(0, .inr (.inr v0)), (1, .inl v1), (2, .inr (.inr v2))], [], M)
    replace h := h.2 c7
    refine mm_s1 rfl ?_
    refine nn_getr rfl C0.1 (lf_5_2 L N C0) ?_
    refine mm_s1 rfl ?_
    refine nn_getr rfl C0.1 (lf_5_4 L N C0) ?_
    refine mm_s1 rfl ?_
    show mm_Go (mm_run 1) mc_Index_keepAside _ (19, [(0, .inr (.inr v0)), (1, .inl v1), (2, .inr (.inr v2))], [.inl v1, .inr (.inr (v0 + 14)), .inr (.inr (v0 + 6))], M)
    obtain ⟨b19, h⟩ := h
    refine mm_s1 rfl ⟨nn_bd (na_5_4 NN C0) b19, ?_⟩
    show mm_Go (mm_run 1) mc_Index_keepAside _ (20, [(0, .inr (.inr v0)), (1, .inl v1), (2, .inr (.inr v2))], [.inl (nn_ri M (v0 + 14) v1), .inr (.inr (v0 + 6))], M)
    refine mm_s1 rfl ?_
    refine mm_s1 rfl ?_
    refine nn_getr rfl C2.1 (lf_12_1 L N C2) ?_
    refine mm_s1 rfl ?_
    obtain ⟨b26, h⟩ := h
    refine mm_s1 rfl ⟨nn_bd (na_12_1 NN C2) b26, ?_⟩
    show mm_Go (mm_run 1) mc_Index_keepAside _ (27, [(0, .inr (.inr v0)), (1, .inl v1), (2, .inr (.inr v2))], [.inl (nn_ri M (v2 + 2) v1), .inl v1, .inl (nn_ri M (v0 + 14) v1), .inr (.inr (v0 + 6))], M)
    refine mm_s1 rfl ⟨trivial, ?_⟩
    refine np_LI_entryOf (by decide) L N ?_
    show mm_Go (mm_run 1) mc_Index_keepAside _ (30, [(0, .inr (.inr v0)), (1, .inl v1), (2, .inr (.inr v2))], [.inr (.inl (nf_LI_entryOf (nn_ri M (v0 + 14) v1) v1 (nn_ri M (v2 + 2) v1))), .inr (.inr (v0 + 6))], M)
    refine mm_s1 rfl ⟨(nc_5_2 NN C0).1, ?_⟩
    refine nn_call (D := 1) (by decide) (h n L N (nc_5_2 NN C0)) ?_
    intro v M30 q; clear L N h
    obtain ⟨rfl, L, N, h⟩ := q
    show mm_Go (mm_run 1) mc_Index_keepAside _ (33, [(0, .inr (.inr v0)), (1, .inl v1), (2, .inr (.inr v2))], [], M30)
    exact mm_s1 rfl ⟨rfl, L, N, h⟩
def nr_Index_clash (v0 : Nat) (M : mm_M) (R : Int → mm_M → Prop) : Prop := ∀ n, nn_L M → M.1 = n → nn_C 5 v0 n → mm_run 2 mi_Index_clash [.inr (.inr v0)] M (nw_I n R)
def nk_Index_clash_4 (v0 : Nat) (v1 : Int) (v2 : Int) (M : mm_M) (R : Int → mm_M → Prop) : Prop := ∀ n, nn_L M → M.1 = n → nn_C 5 v0 n → mm_Go (mm_run 1) mc_Index_clash (nw_I n R) (4, [(0, .inr (.inr v0)), (1, .inl v1), (2, .inl v2)], [], M)
set_option maxRecDepth 20000 in
theorem ng_Index_clash (v0 : Nat) (M : mm_M) (R : Int → mm_M → Prop) (h : nk_Index_clash_4 v0 (-1) 0 M R) : nr_Index_clash v0 M R := by
  intro n L N C0
  have NN := nn_L_n L N
  show mm_Go (mm_run 1) mc_Index_clash _ (0, [(0, .inr (.inr v0))], [], M)
  refine mm_s1 rfl ?_
  refine mm_s1 rfl ?_
  show mm_Go (mm_run 1) mc_Index_clash _ (2, [(0, .inr (.inr v0)), (1, .inl (-1))], [], M)
  refine mm_s1 rfl ?_
  refine mm_s1 rfl ?_
  show mm_Go (mm_run 1) mc_Index_clash _ (4, [(0, .inr (.inr v0)), (1, .inl (-1)), (2, .inl 0)], [], M)
  exact nn_go_ext (nn_xc rfl (nn_xc rfl (nn_xc rfl nn_xn))) (h n L N C0)
set_option maxRecDepth 20000 in
theorem ng_Index_clash_4 (v0 : Nat) (v1 : Int) (v2 : Int) (M : mm_M) (R : Int → mm_M → Prop) (h : ((32 ≤ v2 → R v1 M) ∧ (v2 < 32 → (((0 : Int) ≤ v2 ∧ v2 < (32 : Int)) ∧ ((((nn_ri M (v0 + 14) v2) = (-1) ∨ (v1 ≠ (-1) ∧ (v1 ≤ (nn_ri M (v0 + 14) v2)))) → nk_Index_clash_4 v0 v1 (mm_w (v2 + 1)) M R) ∧ (((nn_ri M (v0 + 14) v2) ≠ (-1) ∧ (v1 = (-1) ∨ ((nn_ri M (v0 + 14) v2) < v1))) → (nr_Index_another v0 (nn_ri M (v0 + 14) v2) v2 M (fun r35 M35 => ((r35 = (-1) → nk_Index_clash_4 v0 v1 (mm_w (v2 + 1)) M35 R) ∧ (r35 ≠ (-1) → nk_Index_clash_4 v0 (nn_ri M (v0 + 14) v2) (mm_w (v2 + 1)) M35 R)))))))))) : nk_Index_clash_4 v0 v1 v2 M R := by
  intro n L N C0
  have NN := nn_L_n L N
  show mm_Go (mm_run 1) mc_Index_clash _ (4, [(0, .inr (.inr v0)), (1, .inl v1), (2, .inl v2)], [], M)
  refine mm_s1 rfl ?_
  refine mm_s1 rfl ?_
  refine mm_s1 rfl ⟨fun c7 => ?_, fun c7 => ?_⟩
  · show mm_Go (mm_run 1) mc_Index_clash _ (50, [(0, .inr (.inr v0)), (1, .inl v1), (2, .inl v2)], [], M)
    replace h := h.1 c7
    refine mm_s1 rfl ?_
    exact mm_s1 rfl ⟨_, rfl, L, N, h⟩
  · show mm_Go (mm_run 1) mc_Index_clash _ (10, [(0, .inr (.inr v0)), (1, .inl v1), (2, .inl v2)], [], M)
    replace c7 := Int.not_le.mp c7
    replace h := h.2 c7
    refine mm_s1 rfl ?_
    refine nn_getr rfl C0.1 (lf_5_4 L N C0) ?_
    refine mm_s1 rfl ?_
    obtain ⟨b15, h⟩ := h
    refine mm_s1 rfl ⟨nn_bd (na_5_4 NN C0) b15, ?_⟩
    show mm_Go (mm_run 1) mc_Index_clash _ (16, [(0, .inr (.inr v0)), (1, .inl v1), (2, .inl v2)], [.inl (nn_ri M (v0 + 14) v2)], M)
    refine mm_s1 rfl ?_
    show mm_Go (mm_run 1) mc_Index_clash _ (17, [(0, .inr (.inr v0)), (1, .inl v1), (2, .inl v2), (3, .inl (nn_ri M (v0 + 14) v2))], [], M)
    refine mm_s1 rfl ?_
    refine mm_s1 rfl ?_
    refine mm_s1 rfl ⟨fun c19 => ?_, fun c19 => ?_⟩
    · show mm_Go (mm_run 1) mc_Index_clash _ (44, [(0, .inr (.inr v0)), (1, .inl v1), (2, .inl v2), (3, .inl (nn_ri M (v0 + 14) v2))], [], M)
      refine mm_s1 rfl ?_
      show mm_Go (mm_run 1) mc_Index_clash _ (47, [(0, .inr (.inr v0)), (1, .inl v1), (2, .inl (mm_w (v2 + 1))), (3, .inl (nn_ri M (v0 + 14) v2))], [], M)
      refine mm_s1 rfl ?_
      show mm_Go (mm_run 1) mc_Index_clash _ (4, [(0, .inr (.inr v0)), (1, .inl v1), (2, .inl (mm_w (v2 + 1))), (3, .inl (nn_ri M (v0 + 14) v2))], [], M)
      replace h := h.1 (Or.inl c19)
      exact nn_go_ext (nn_xc rfl (nn_xc rfl (nn_xc rfl nn_xn))) (h n L N C0)
    · show mm_Go (mm_run 1) mc_Index_clash _ (22, [(0, .inr (.inr v0)), (1, .inl v1), (2, .inl v2), (3, .inl (nn_ri M (v0 + 14) v2))], [], M)
      refine mm_s1 rfl ?_
      refine mm_s1 rfl ?_
      refine mm_s1 rfl ⟨fun c24 => ?_, fun c24 => ?_⟩
      · show mm_Go (mm_run 1) mc_Index_clash _ (32, [(0, .inr (.inr v0)), (1, .inl v1), (2, .inl v2), (3, .inl (nn_ri M (v0 + 14) v2))], [], M)
        refine mm_s1 rfl ?_
        refine mm_s1 rfl ?_
        refine mm_s1 rfl ?_
        replace h := h.2 ⟨c19, (Or.inl c24)⟩
        refine mm_s1 rfl ⟨C0.1, ?_⟩
        refine nn_call (D := 1) (by decide) (h n L N C0) ?_
        intro v M35 q; clear L N h
        obtain ⟨r35, rfl, L, N, h⟩ := q
        show mm_Go (mm_run 1) mc_Index_clash _ (38, [(0, .inr (.inr v0)), (1, .inl v1), (2, .inl v2), (3, .inl (nn_ri M (v0 + 14) v2))], [.inl r35], M35)
        refine mm_s1 rfl ?_
        refine mm_s1 rfl ⟨fun c39 => ?_, fun c39 => ?_⟩
        · show mm_Go (mm_run 1) mc_Index_clash _ (44, [(0, .inr (.inr v0)), (1, .inl v1), (2, .inl v2), (3, .inl (nn_ri M (v0 + 14) v2))], [], M35)
          replace h := h.1 c39
          refine mm_s1 rfl ?_
          show mm_Go (mm_run 1) mc_Index_clash _ (47, [(0, .inr (.inr v0)), (1, .inl v1), (2, .inl (mm_w (v2 + 1))), (3, .inl (nn_ri M (v0 + 14) v2))], [], M35)
          refine mm_s1 rfl ?_
          show mm_Go (mm_run 1) mc_Index_clash _ (4, [(0, .inr (.inr v0)), (1, .inl v1), (2, .inl (mm_w (v2 + 1))), (3, .inl (nn_ri M (v0 + 14) v2))], [], M35)
          exact nn_go_ext (nn_xc rfl (nn_xc rfl (nn_xc rfl nn_xn))) (h n L N C0)
        · show mm_Go (mm_run 1) mc_Index_clash _ (42, [(0, .inr (.inr v0)), (1, .inl v1), (2, .inl v2), (3, .inl (nn_ri M (v0 + 14) v2))], [], M35)
          replace h := h.2 c39
          refine mm_s1 rfl ?_
          refine mm_s1 rfl ?_
          show mm_Go (mm_run 1) mc_Index_clash _ (44, [(0, .inr (.inr v0)), (1, .inl (nn_ri M (v0 + 14) v2)), (2, .inl v2), (3, .inl (nn_ri M (v0 + 14) v2))], [], M35)
          refine mm_s1 rfl ?_
          show mm_Go (mm_run 1) mc_Index_clash _ (47, [(0, .inr (.inr v0)), (1, .inl (nn_ri M (v0 + 14) v2)), (2, .inl (mm_w (v2 + 1))), (3, .inl (nn_ri M (v0 + 14) v2))], [], M35)
          refine mm_s1 rfl ?_
          show mm_Go (mm_run 1) mc_Index_clash _ (4, [(0, .inr (.inr v0)), (1, .inl (nn_ri M (v0 + 14) v2)), (2, .inl (mm_w (v2 + 1))), (3, .inl (nn_ri M (v0 + 14) v2))], [], M35)
          exact nn_go_ext (nn_xc rfl (nn_xc rfl (nn_xc rfl nn_xn))) (h n L N C0)
      · show mm_Go (mm_run 1) mc_Index_clash _ (27, [(0, .inr (.inr v0)), (1, .inl v1), (2, .inl v2), (3, .inl (nn_ri M (v0 + 14) v2))], [], M)
        refine mm_s1 rfl ?_
        refine mm_s1 rfl ?_
        refine mm_s1 rfl ⟨fun c29 => ?_, fun c29 => ?_⟩
        · show mm_Go (mm_run 1) mc_Index_clash _ (44, [(0, .inr (.inr v0)), (1, .inl v1), (2, .inl v2), (3, .inl (nn_ri M (v0 + 14) v2))], [], M)
          refine mm_s1 rfl ?_
          show mm_Go (mm_run 1) mc_Index_clash _ (47, [(0, .inr (.inr v0)), (1, .inl v1), (2, .inl (mm_w (v2 + 1))), (3, .inl (nn_ri M (v0 + 14) v2))], [], M)
          refine mm_s1 rfl ?_
          show mm_Go (mm_run 1) mc_Index_clash _ (4, [(0, .inr (.inr v0)), (1, .inl v1), (2, .inl (mm_w (v2 + 1))), (3, .inl (nn_ri M (v0 + 14) v2))], [], M)
          replace h := h.1 (Or.inr ⟨c24, c29⟩)
          exact nn_go_ext (nn_xc rfl (nn_xc rfl (nn_xc rfl nn_xn))) (h n L N C0)
        · show mm_Go (mm_run 1) mc_Index_clash _ (32, [(0, .inr (.inr v0)), (1, .inl v1), (2, .inl v2), (3, .inl (nn_ri M (v0 + 14) v2))], [], M)
          replace c29 := Int.not_le.mp c29
          refine mm_s1 rfl ?_
          refine mm_s1 rfl ?_
          refine mm_s1 rfl ?_
          replace h := h.2 ⟨c19, (Or.inr c29)⟩
          refine mm_s1 rfl ⟨C0.1, ?_⟩
          refine nn_call (D := 1) (by decide) (h n L N C0) ?_
          intro v M35 q; clear L N h
          obtain ⟨r35, rfl, L, N, h⟩ := q
          show mm_Go (mm_run 1) mc_Index_clash _ (38, [(0, .inr (.inr v0)), (1, .inl v1), (2, .inl v2), (3, .inl (nn_ri M (v0 + 14) v2))], [.inl r35], M35)
          refine mm_s1 rfl ?_
          refine mm_s1 rfl ⟨fun c39 => ?_, fun c39 => ?_⟩
          · show mm_Go (mm_run 1) mc_Index_clash _ (44, [(0, .inr (.inr v0)), (1, .inl v1), (2, .inl v2), (3, .inl (nn_ri M (v0 + 14) v2))], [], M35)
            replace h := h.1 c39
            refine mm_s1 rfl ?_
            show mm_Go (mm_run 1) mc_Index_clash _ (47, [(0, .inr (.inr v0)), (1, .inl v1), (2, .inl (mm_w (v2 + 1))), (3, .inl (nn_ri M (v0 + 14) v2))], [], M35)
            refine mm_s1 rfl ?_
            show mm_Go (mm_run 1) mc_Index_clash _ (4, [(0, .inr (.inr v0)), (1, .inl v1), (2, .inl (mm_w (v2 + 1))), (3, .inl (nn_ri M (v0 + 14) v2))], [], M35)
            exact nn_go_ext (nn_xc rfl (nn_xc rfl (nn_xc rfl nn_xn))) (h n L N C0)
          · show mm_Go (mm_run 1) mc_Index_clash _ (42, [(0, .inr (.inr v0)), (1, .inl v1), (2, .inl v2), (3, .inl (nn_ri M (v0 + 14) v2))], [], M35)
            replace h := h.2 c39
            refine mm_s1 rfl ?_
            refine mm_s1 rfl ?_
            show mm_Go (mm_run 1) mc_Index_clash _ (44, [(0, .inr (.inr v0)), (1, .inl (nn_ri M (v0 + 14) v2)), (2, .inl v2), (3, .inl (nn_ri M (v0 + 14) v2))], [], M35)
            refine mm_s1 rfl ?_
            show mm_Go (mm_run 1) mc_Index_clash _ (47, [(0, .inr (.inr v0)), (1, .inl (nn_ri M (v0 + 14) v2)), (2, .inl (mm_w (v2 + 1))), (3, .inl (nn_ri M (v0 + 14) v2))], [], M35)
            refine mm_s1 rfl ?_
            show mm_Go (mm_run 1) mc_Index_clash _ (4, [(0, .inr (.inr v0)), (1, .inl (nn_ri M (v0 + 14) v2)), (2, .inl (mm_w (v2 + 1))), (3, .inl (nn_ri M (v0 + 14) v2))], [], M35)
            exact nn_go_ext (nn_xc rfl (nn_xc rfl (nn_xc rfl nn_xn))) (h n L N C0)
def nr_Index_toldOfValues (v0 : Nat) (v1 : Int) (M : mm_M) (R : Int → mm_M → Prop) : Prop := ∀ n, nn_L M → M.1 = n → nn_C 5 v0 n → mm_run 2 mi_Index_toldOfValues [.inr (.inr v0), .inl v1] M (nw_I n R)
def nk_Index_toldOfValues_39 (v0 : Nat) (v1 : Int) (v2 : Int) (v3 : Int) (v4 : Int) (M : mm_M) (R : Int → mm_M → Prop) : Prop := ∀ n, nn_L M → M.1 = n → nn_C 5 v0 n → mm_Go (mm_run 1) mc_Index_toldOfValues (nw_I n R) (39, [(0, .inr (.inr v0)), (1, .inl v1), (2, .inl v2), (3, .inl v3), (4, .inl v4)], [], M)
def nk_Index_toldOfValues_8 (v0 : Nat) (v2 : Int) (M : mm_M) (R : Int → mm_M → Prop) : Prop := ∀ n, nn_L M → M.1 = n → nn_C 5 v0 n → mm_Go (mm_run 1) mc_Index_toldOfValues (nw_I n R) (8, [(0, .inr (.inr v0)), (2, .inl v2)], [], M)
set_option maxRecDepth 20000 in
theorem ng_Index_toldOfValues (v0 : Nat) (v1 : Int) (M : mm_M) (R : Int → mm_M → Prop) (h : ((v1 ≠ 10 → nk_Index_toldOfValues_39 v0 v1 (-1) 0 0 M R) ∧ (v1 = 10 → nk_Index_toldOfValues_8 v0 0 M R))) : nr_Index_toldOfValues v0 v1 M R := by
  intro n L N C0
  have NN := nn_L_n L N
  show mm_Go (mm_run 1) mc_Index_toldOfValues _ (0, [(0, .inr (.inr v0)), (1, .inl v1)], [], M)
  refine mm_s1 rfl ?_
  refine mm_s1 rfl ?_
  refine mm_s1 rfl ⟨fun c3 => ?_, fun c3 => ?_⟩
  · show mm_Go (mm_run 1) mc_Index_toldOfValues _ (32, [(0, .inr (.inr v0)), (1, .inl v1)], [], M)
    replace h := h.1 c3
    refine mm_s1 rfl ?_
    refine mm_s1 rfl ?_
    show mm_Go (mm_run 1) mc_Index_toldOfValues _ (34, [(0, .inr (.inr v0)), (1, .inl v1), (2, .inl (-1))], [], M)
    refine mm_s1 rfl ?_
    refine mm_s1 rfl ?_
    show mm_Go (mm_run 1) mc_Index_toldOfValues _ (36, [(0, .inr (.inr v0)), (1, .inl v1), (2, .inl (-1)), (3, .inl 0)], [], M)
    refine mm_s1 rfl ?_
    refine mm_s1 rfl ?_
    show mm_Go (mm_run 1) mc_Index_toldOfValues _ (39, [(0, .inr (.inr v0)), (1, .inl v1), (2, .inl (-1)), (3, .inl 0), (4, .inl 0)], [], M)
    exact nn_go_ext (nn_xc rfl (nn_xc rfl (nn_xc rfl (nn_xc rfl (nn_xc rfl nn_xn))))) (h n L N C0)
  · show mm_Go (mm_run 1) mc_Index_toldOfValues _ (6, [(0, .inr (.inr v0)), (1, .inl v1)], [], M)
    replace c3 := Decidable.not_not.mp c3
    replace h := h.2 c3
    refine mm_s1 rfl ?_
    refine mm_s1 rfl ?_
    show mm_Go (mm_run 1) mc_Index_toldOfValues _ (8, [(0, .inr (.inr v0)), (1, .inl v1), (2, .inl 0)], [], M)
    exact nn_go_ext (nn_xc rfl (nn_xc rfl nn_xn)) (h n L N C0)
set_option maxRecDepth 20000 in
theorem ng_Index_toldOfValues_39 (v0 : Nat) (v1 : Int) (v2 : Int) (v3 : Int) (v4 : Int) (M : mm_M) (R : Int → mm_M → Prop) (h : ((32 ≤ v4 → ((v1 ≠ 11 → R v3 M) ∧ (v1 = 11 → R v2 M))) ∧ (v4 < 32 → (((0 : Int) ≤ v4 ∧ v4 < (32 : Int)) ∧ (((nn_ri M (v0 + 14) v4) ≠ (-1) → (((0 : Int) ≤ v4 ∧ v4 < (32 : Int)) ∧ (nr_Index_havers v0 (nn_ri M (v0 + 14) v4) M (fun r69 M69 => (((v3 < r69) → ((0 : Int) ≤ v4 ∧ v4 < (32 : Int))) ∧ ((r69 ≤ v3) ∧ (r69 = v3) ∧ (0 < r69) → ((0 : Int) ≤ v4 ∧ v4 < (32 : Int))) ∧ ((r69 ≤ v3) ∧ (r69 = v3) ∧ (0 < r69) ∧ ((nn_ri M69 (v0 + 14) v4) < v2) → ((0 : Int) ≤ v4 ∧ v4 < (32 : Int))) ∧ ((v3 < r69 ∨ (r69 = v3 ∧ (0 < r69 ∧ ((nn_ri M69 (v0 + 14) v4) < v2)))) → nk_Index_toldOfValues_39 v0 v1 (nn_ri M69 (v0 + 14) v4) r69 (mm_w (v4 + 1)) M69 R) ∧ ((r69 ≤ v3 ∧ (r69 ≠ v3 ∨ (r69 ≤ 0 ∨ (v2 ≤ (nn_ri M69 (v0 + 14) v4))))) → nk_Index_toldOfValues_39 v0 v1 v2 v3 (mm_w (v4 + 1)) M69 R)))))) ∧ ((nn_ri M (v0 + 14) v4) = (-1) → (((v3 < 0) → ((0 : Int) ≤ v4 ∧ v4 < (32 : Int))) ∧ ((v3 < 0) → nk_Index_toldOfValues_39 v0 v1 (nn_ri M (v0 + 14) v4) 0 (mm_w (v4 + 1)) M R) ∧ ((0 ≤ v3) → nk_Index_toldOfValues_39 v0 v1 v2 v3 (mm_w (v4 + 1)) M R)))))))) : nk_Index_toldOfValues_39 v0 v1 v2 v3 v4 M R := by
  intro n L N C0
  have NN := nn_L_n L N
  show mm_Go (mm_run 1) mc_Index_toldOfValues _ (39, [(0, .inr (.inr v0)), (1, .inl v1), (2, .inl v2), (3, .inl v3), (4, .inl v4)], [], M)
  refine mm_s1 rfl ?_
  refine mm_s1 rfl ?_
  refine mm_s1 rfl ⟨fun c43 => ?_, fun c43 => ?_⟩
  · show mm_Go (mm_run 1) mc_Index_toldOfValues _ (119, [(0, .inr (.inr v0)), (1, .inl v1), (2, .inl v2), (3, .inl v3), (4, .inl v4)], [], M)
    replace h := h.1 c43
    refine mm_s1 rfl ?_
    refine mm_s1 rfl ?_
    refine mm_s1 rfl ⟨fun c122 => ?_, fun c122 => ?_⟩
    · show mm_Go (mm_run 1) mc_Index_toldOfValues _ (129, [(0, .inr (.inr v0)), (1, .inl v1), (2, .inl v2), (3, .inl v3), (4, .inl v4)], [], M)
      replace h := h.1 c122
      refine mm_s1 rfl ?_
      exact mm_s1 rfl ⟨_, rfl, L, N, h⟩
    · show mm_Go (mm_run 1) mc_Index_toldOfValues _ (125, [(0, .inr (.inr v0)), (1, .inl v1), (2, .inl v2), (3, .inl v3), (4, .inl v4)], [], M)
      replace c122 := Decidable.not_not.mp c122
      replace h := h.2 c122
      refine mm_s1 rfl ?_
      refine mm_s1 rfl ?_
      show mm_Go (mm_run 1) mc_Index_toldOfValues _ (130, [(0, .inr (.inr v0)), (1, .inl v1), (2, .inl v2), (3, .inl v3), (4, .inl v4)], [.inl v2], M)
      exact mm_s1 rfl ⟨_, rfl, L, N, h⟩
  · show mm_Go (mm_run 1) mc_Index_toldOfValues _ (46, [(0, .inr (.inr v0)), (1, .inl v1), (2, .inl v2), (3, .inl v3), (4, .inl v4)], [], M)
    replace c43 := Int.not_le.mp c43
    replace h := h.2 c43
    refine mm_s1 rfl ?_
    refine nn_getr rfl C0.1 (lf_5_4 L N C0) ?_
    refine mm_s1 rfl ?_
    obtain ⟨b52, h⟩ := h
    refine mm_s1 rfl ⟨nn_bd (na_5_4 NN C0) b52, ?_⟩
    show mm_Go (mm_run 1) mc_Index_toldOfValues _ (53, [(0, .inr (.inr v0)), (1, .inl v1), (2, .inl v2), (3, .inl v3), (4, .inl v4)], [.inl (nn_ri M (v0 + 14) v4)], M)
    refine mm_s1 rfl ?_
    refine mm_s1 rfl ⟨fun c54 => ?_, fun c54 => ?_⟩
    · show mm_Go (mm_run 1) mc_Index_toldOfValues _ (61, [(0, .inr (.inr v0)), (1, .inl v1), (2, .inl v2), (3, .inl v3), (4, .inl v4)], [], M)
      replace h := h.1 c54
      refine mm_s1 rfl ?_
      refine mm_s1 rfl ?_
      refine nn_getr rfl C0.1 (lf_5_4 L N C0) ?_
      refine mm_s1 rfl ?_
      obtain ⟨b68, h⟩ := h
      refine mm_s1 rfl ⟨nn_bd (na_5_4 NN C0) b68, ?_⟩
      show mm_Go (mm_run 1) mc_Index_toldOfValues _ (69, [(0, .inr (.inr v0)), (1, .inl v1), (2, .inl v2), (3, .inl v3), (4, .inl v4)], [.inl (nn_ri M (v0 + 14) v4), .inr (.inr v0)], M)
      refine mm_s1 rfl ⟨C0.1, ?_⟩
      refine nn_call (D := 1) (by decide) (h n L N C0) ?_
      intro v M69 q; clear L N h
      obtain ⟨r69, rfl, L, N, h⟩ := q
      show mm_Go (mm_run 1) mc_Index_toldOfValues _ (72, [(0, .inr (.inr v0)), (1, .inl v1), (2, .inl v2), (3, .inl v3), (4, .inl v4)], [.inl r69], M69)
      refine mm_s1 rfl ?_
      show mm_Go (mm_run 1) mc_Index_toldOfValues _ (74, [(0, .inr (.inr v0)), (1, .inl v1), (2, .inl v2), (3, .inl v3), (4, .inl v4), (5, .inl r69)], [], M69)
      refine mm_s1 rfl ?_
      refine mm_s1 rfl ?_
      refine mm_s1 rfl ⟨fun c77 => ?_, fun c77 => ?_⟩
      · show mm_Go (mm_run 1) mc_Index_toldOfValues _ (102, [(0, .inr (.inr v0)), (1, .inl v1), (2, .inl v2), (3, .inl v3), (4, .inl v4), (5, .inl r69)], [], M69)
        refine mm_s1 rfl ?_
        refine mm_s1 rfl ?_
        show mm_Go (mm_run 1) mc_Index_toldOfValues _ (105, [(0, .inr (.inr v0)), (1, .inl v1), (2, .inl v2), (3, .inl r69), (4, .inl v4), (5, .inl r69)], [], M69)
        refine mm_s1 rfl ?_
        refine nn_getr rfl C0.1 (lf_5_4 L N C0) ?_
        refine mm_s1 rfl ?_
        have b111 := h.1 c77
        refine mm_s1 rfl ⟨nn_bd (na_5_4 NN C0) b111, ?_⟩
        show mm_Go (mm_run 1) mc_Index_toldOfValues _ (112, [(0, .inr (.inr v0)), (1, .inl v1), (2, .inl v2), (3, .inl r69), (4, .inl v4), (5, .inl r69)], [.inl (nn_ri M69 (v0 + 14) v4)], M69)
        refine mm_s1 rfl ?_
        show mm_Go (mm_run 1) mc_Index_toldOfValues _ (113, [(0, .inr (.inr v0)), (1, .inl v1), (2, .inl (nn_ri M69 (v0 + 14) v4)), (3, .inl r69), (4, .inl v4), (5, .inl r69)], [], M69)
        refine mm_s1 rfl ?_
        show mm_Go (mm_run 1) mc_Index_toldOfValues _ (116, [(0, .inr (.inr v0)), (1, .inl v1), (2, .inl (nn_ri M69 (v0 + 14) v4)), (3, .inl r69), (4, .inl (mm_w (v4 + 1))), (5, .inl r69)], [], M69)
        refine mm_s1 rfl ?_
        show mm_Go (mm_run 1) mc_Index_toldOfValues _ (39, [(0, .inr (.inr v0)), (1, .inl v1), (2, .inl (nn_ri M69 (v0 + 14) v4)), (3, .inl r69), (4, .inl (mm_w (v4 + 1))), (5, .inl r69)], [], M69)
        replace h := h.2.2.2.1 (Or.inl c77)
        exact nn_go_ext (nn_xc rfl (nn_xc rfl (nn_xc rfl (nn_xc rfl (nn_xc rfl nn_xn))))) (h n L N C0)
      · show mm_Go (mm_run 1) mc_Index_toldOfValues _ (80, [(0, .inr (.inr v0)), (1, .inl v1), (2, .inl v2), (3, .inl v3), (4, .inl v4), (5, .inl r69)], [], M69)
        replace c77 := Int.not_lt.mp c77
        refine mm_s1 rfl ?_
        refine mm_s1 rfl ?_
        refine mm_s1 rfl ⟨fun c83 => ?_, fun c83 => ?_⟩
        · show mm_Go (mm_run 1) mc_Index_toldOfValues _ (113, [(0, .inr (.inr v0)), (1, .inl v1), (2, .inl v2), (3, .inl v3), (4, .inl v4), (5, .inl r69)], [], M69)
          refine mm_s1 rfl ?_
          show mm_Go (mm_run 1) mc_Index_toldOfValues _ (116, [(0, .inr (.inr v0)), (1, .inl v1), (2, .inl v2), (3, .inl v3), (4, .inl (mm_w (v4 + 1))), (5, .inl r69)], [], M69)
          refine mm_s1 rfl ?_
          show mm_Go (mm_run 1) mc_Index_toldOfValues _ (39, [(0, .inr (.inr v0)), (1, .inl v1), (2, .inl v2), (3, .inl v3), (4, .inl (mm_w (v4 + 1))), (5, .inl r69)], [], M69)
          replace h := h.2.2.2.2 ⟨c77, (Or.inl c83)⟩
          exact nn_go_ext (nn_xc rfl (nn_xc rfl (nn_xc rfl (nn_xc rfl (nn_xc rfl nn_xn))))) (h n L N C0)
        · show mm_Go (mm_run 1) mc_Index_toldOfValues _ (86, [(0, .inr (.inr v0)), (1, .inl v1), (2, .inl v2), (3, .inl v3), (4, .inl v4), (5, .inl r69)], [], M69)
          replace c83 := Decidable.not_not.mp c83
          refine mm_s1 rfl ?_
          refine mm_s1 rfl ⟨fun c88 => ?_, fun c88 => ?_⟩
          · show mm_Go (mm_run 1) mc_Index_toldOfValues _ (113, [(0, .inr (.inr v0)), (1, .inl v1), (2, .inl v2), (3, .inl v3), (4, .inl v4), (5, .inl r69)], [], M69)
            refine mm_s1 rfl ?_
            show mm_Go (mm_run 1) mc_Index_toldOfValues _ (116, [(0, .inr (.inr v0)), (1, .inl v1), (2, .inl v2), (3, .inl v3), (4, .inl (mm_w (v4 + 1))), (5, .inl r69)], [], M69)
            refine mm_s1 rfl ?_
            show mm_Go (mm_run 1) mc_Index_toldOfValues _ (39, [(0, .inr (.inr v0)), (1, .inl v1), (2, .inl v2), (3, .inl v3), (4, .inl (mm_w (v4 + 1))), (5, .inl r69)], [], M69)
            replace h := h.2.2.2.2 ⟨c77, (Or.inr (Or.inl c88))⟩
            exact nn_go_ext (nn_xc rfl (nn_xc rfl (nn_xc rfl (nn_xc rfl (nn_xc rfl nn_xn))))) (h n L N C0)
          · show mm_Go (mm_run 1) mc_Index_toldOfValues _ (91, [(0, .inr (.inr v0)), (1, .inl v1), (2, .inl v2), (3, .inl v3), (4, .inl v4), (5, .inl r69)], [], M69)
            replace c88 := Int.not_le.mp c88
            refine mm_s1 rfl ?_
            refine nn_getr rfl C0.1 (lf_5_4 L N C0) ?_
            refine mm_s1 rfl ?_
            have b97 := h.2.1 ⟨c77, c83, c88⟩
            refine mm_s1 rfl ⟨nn_bd (na_5_4 NN C0) b97, ?_⟩
            show mm_Go (mm_run 1) mc_Index_toldOfValues _ (98, [(0, .inr (.inr v0)), (1, .inl v1), (2, .inl v2), (3, .inl v3), (4, .inl v4), (5, .inl r69)], [.inl (nn_ri M69 (v0 + 14) v4)], M69)
            refine mm_s1 rfl ?_
            refine mm_s1 rfl ⟨fun c99 => ?_, fun c99 => ?_⟩
            · show mm_Go (mm_run 1) mc_Index_toldOfValues _ (113, [(0, .inr (.inr v0)), (1, .inl v1), (2, .inl v2), (3, .inl v3), (4, .inl v4), (5, .inl r69)], [], M69)
              refine mm_s1 rfl ?_
              show mm_Go (mm_run 1) mc_Index_toldOfValues _ (116, [(0, .inr (.inr v0)), (1, .inl v1), (2, .inl v2), (3, .inl v3), (4, .inl (mm_w (v4 + 1))), (5, .inl r69)], [], M69)
              refine mm_s1 rfl ?_
              show mm_Go (mm_run 1) mc_Index_toldOfValues _ (39, [(0, .inr (.inr v0)), (1, .inl v1), (2, .inl v2), (3, .inl v3), (4, .inl (mm_w (v4 + 1))), (5, .inl r69)], [], M69)
              replace h := h.2.2.2.2 ⟨c77, (Or.inr (Or.inr c99))⟩
              exact nn_go_ext (nn_xc rfl (nn_xc rfl (nn_xc rfl (nn_xc rfl (nn_xc rfl nn_xn))))) (h n L N C0)
            · show mm_Go (mm_run 1) mc_Index_toldOfValues _ (102, [(0, .inr (.inr v0)), (1, .inl v1), (2, .inl v2), (3, .inl v3), (4, .inl v4), (5, .inl r69)], [], M69)
              replace c99 := Int.not_le.mp c99
              refine mm_s1 rfl ?_
              refine mm_s1 rfl ?_
              show mm_Go (mm_run 1) mc_Index_toldOfValues _ (105, [(0, .inr (.inr v0)), (1, .inl v1), (2, .inl v2), (3, .inl r69), (4, .inl v4), (5, .inl r69)], [], M69)
              refine mm_s1 rfl ?_
              refine nn_getr rfl C0.1 (lf_5_4 L N C0) ?_
              refine mm_s1 rfl ?_
              have b111 := h.2.2.1 ⟨c77, c83, c88, c99⟩
              refine mm_s1 rfl ⟨nn_bd (na_5_4 NN C0) b111, ?_⟩
              show mm_Go (mm_run 1) mc_Index_toldOfValues _ (112, [(0, .inr (.inr v0)), (1, .inl v1), (2, .inl v2), (3, .inl r69), (4, .inl v4), (5, .inl r69)], [.inl (nn_ri M69 (v0 + 14) v4)], M69)
              refine mm_s1 rfl ?_
              show mm_Go (mm_run 1) mc_Index_toldOfValues _ (113, [(0, .inr (.inr v0)), (1, .inl v1), (2, .inl (nn_ri M69 (v0 + 14) v4)), (3, .inl r69), (4, .inl v4), (5, .inl r69)], [], M69)
              refine mm_s1 rfl ?_
              show mm_Go (mm_run 1) mc_Index_toldOfValues _ (116, [(0, .inr (.inr v0)), (1, .inl v1), (2, .inl (nn_ri M69 (v0 + 14) v4)), (3, .inl r69), (4, .inl (mm_w (v4 + 1))), (5, .inl r69)], [], M69)
              refine mm_s1 rfl ?_
              show mm_Go (mm_run 1) mc_Index_toldOfValues _ (39, [(0, .inr (.inr v0)), (1, .inl v1), (2, .inl (nn_ri M69 (v0 + 14) v4)), (3, .inl r69), (4, .inl (mm_w (v4 + 1))), (5, .inl r69)], [], M69)
              replace h := h.2.2.2.1 (Or.inr ⟨c83, ⟨c88, c99⟩⟩)
              exact nn_go_ext (nn_xc rfl (nn_xc rfl (nn_xc rfl (nn_xc rfl (nn_xc rfl nn_xn))))) (h n L N C0)
    · show mm_Go (mm_run 1) mc_Index_toldOfValues _ (57, [(0, .inr (.inr v0)), (1, .inl v1), (2, .inl v2), (3, .inl v3), (4, .inl v4)], [], M)
      replace c54 := Decidable.not_not.mp c54
      replace h := h.2 c54
      refine mm_s1 rfl ?_
      refine mm_s1 rfl ?_
      show mm_Go (mm_run 1) mc_Index_toldOfValues _ (72, [(0, .inr (.inr v0)), (1, .inl v1), (2, .inl v2), (3, .inl v3), (4, .inl v4)], [.inl 0], M)
      refine mm_s1 rfl ?_
      show mm_Go (mm_run 1) mc_Index_toldOfValues _ (74, [(0, .inr (.inr v0)), (1, .inl v1), (2, .inl v2), (3, .inl v3), (4, .inl v4), (5, .inl 0)], [], M)
      refine mm_s1 rfl ?_
      refine mm_s1 rfl ?_
      refine mm_s1 rfl ⟨fun c77 => ?_, fun c77 => ?_⟩
      · show mm_Go (mm_run 1) mc_Index_toldOfValues _ (102, [(0, .inr (.inr v0)), (1, .inl v1), (2, .inl v2), (3, .inl v3), (4, .inl v4), (5, .inl 0)], [], M)
        refine mm_s1 rfl ?_
        refine mm_s1 rfl ?_
        show mm_Go (mm_run 1) mc_Index_toldOfValues _ (105, [(0, .inr (.inr v0)), (1, .inl v1), (2, .inl v2), (3, .inl 0), (4, .inl v4), (5, .inl 0)], [], M)
        refine mm_s1 rfl ?_
        refine nn_getr rfl C0.1 (lf_5_4 L N C0) ?_
        refine mm_s1 rfl ?_
        have b111 := h.1 c77
        refine mm_s1 rfl ⟨nn_bd (na_5_4 NN C0) b111, ?_⟩
        show mm_Go (mm_run 1) mc_Index_toldOfValues _ (112, [(0, .inr (.inr v0)), (1, .inl v1), (2, .inl v2), (3, .inl 0), (4, .inl v4), (5, .inl 0)], [.inl (nn_ri M (v0 + 14) v4)], M)
        refine mm_s1 rfl ?_
        show mm_Go (mm_run 1) mc_Index_toldOfValues _ (113, [(0, .inr (.inr v0)), (1, .inl v1), (2, .inl (nn_ri M (v0 + 14) v4)), (3, .inl 0), (4, .inl v4), (5, .inl 0)], [], M)
        refine mm_s1 rfl ?_
        show mm_Go (mm_run 1) mc_Index_toldOfValues _ (116, [(0, .inr (.inr v0)), (1, .inl v1), (2, .inl (nn_ri M (v0 + 14) v4)), (3, .inl 0), (4, .inl (mm_w (v4 + 1))), (5, .inl 0)], [], M)
        refine mm_s1 rfl ?_
        show mm_Go (mm_run 1) mc_Index_toldOfValues _ (39, [(0, .inr (.inr v0)), (1, .inl v1), (2, .inl (nn_ri M (v0 + 14) v4)), (3, .inl 0), (4, .inl (mm_w (v4 + 1))), (5, .inl 0)], [], M)
        replace h := h.2.1 c77
        exact nn_go_ext (nn_xc rfl (nn_xc rfl (nn_xc rfl (nn_xc rfl (nn_xc rfl nn_xn))))) (h n L N C0)
      · show mm_Go (mm_run 1) mc_Index_toldOfValues _ (80, [(0, .inr (.inr v0)), (1, .inl v1), (2, .inl v2), (3, .inl v3), (4, .inl v4), (5, .inl 0)], [], M)
        replace c77 := Int.not_lt.mp c77
        refine mm_s1 rfl ?_
        refine mm_s1 rfl ?_
        refine mm_s1 rfl ⟨fun c83 => ?_, fun c83 => ?_⟩
        · show mm_Go (mm_run 1) mc_Index_toldOfValues _ (113, [(0, .inr (.inr v0)), (1, .inl v1), (2, .inl v2), (3, .inl v3), (4, .inl v4), (5, .inl 0)], [], M)
          refine mm_s1 rfl ?_
          show mm_Go (mm_run 1) mc_Index_toldOfValues _ (116, [(0, .inr (.inr v0)), (1, .inl v1), (2, .inl v2), (3, .inl v3), (4, .inl (mm_w (v4 + 1))), (5, .inl 0)], [], M)
          refine mm_s1 rfl ?_
          show mm_Go (mm_run 1) mc_Index_toldOfValues _ (39, [(0, .inr (.inr v0)), (1, .inl v1), (2, .inl v2), (3, .inl v3), (4, .inl (mm_w (v4 + 1))), (5, .inl 0)], [], M)
          replace h := h.2.2 c77
          exact nn_go_ext (nn_xc rfl (nn_xc rfl (nn_xc rfl (nn_xc rfl (nn_xc rfl nn_xn))))) (h n L N C0)
        · show mm_Go (mm_run 1) mc_Index_toldOfValues _ (86, [(0, .inr (.inr v0)), (1, .inl v1), (2, .inl v2), (3, .inl v3), (4, .inl v4), (5, .inl 0)], [], M)
          replace c83 := Decidable.not_not.mp c83
          refine mm_s1 rfl ?_
          refine mm_s1 rfl ⟨fun _ => ?_, fun c => absurd (show (0 : Int) ≤ 0 by decide) c⟩
          show mm_Go (mm_run 1) mc_Index_toldOfValues _ (113, [(0, .inr (.inr v0)), (1, .inl v1), (2, .inl v2), (3, .inl v3), (4, .inl v4), (5, .inl 0)], [], M)
          refine mm_s1 rfl ?_
          show mm_Go (mm_run 1) mc_Index_toldOfValues _ (116, [(0, .inr (.inr v0)), (1, .inl v1), (2, .inl v2), (3, .inl v3), (4, .inl (mm_w (v4 + 1))), (5, .inl 0)], [], M)
          refine mm_s1 rfl ?_
          show mm_Go (mm_run 1) mc_Index_toldOfValues _ (39, [(0, .inr (.inr v0)), (1, .inl v1), (2, .inl v2), (3, .inl v3), (4, .inl (mm_w (v4 + 1))), (5, .inl 0)], [], M)
          replace h := h.2.2 c77
          exact nn_go_ext (nn_xc rfl (nn_xc rfl (nn_xc rfl (nn_xc rfl (nn_xc rfl nn_xn))))) (h n L N C0)
set_option maxRecDepth 20000 in
theorem ng_Index_toldOfValues_8 (v0 : Nat) (v2 : Int) (M : mm_M) (R : Int → mm_M → Prop) (h : ((32 ≤ v2 → R v2 M) ∧ (v2 < 32 → (nr_Index_another v0 v2 (-1) M (fun r17 M17 => ((r17 = (-1) → R v2 M17) ∧ (r17 ≠ (-1) → nk_Index_toldOfValues_8 v0 (mm_w (v2 + 1)) M17 R))))))) : nk_Index_toldOfValues_8 v0 v2 M R := by
  intro n L N C0
  have NN := nn_L_n L N
  show mm_Go (mm_run 1) mc_Index_toldOfValues _ (8, [(0, .inr (.inr v0)), (2, .inl v2)], [], M)
  refine mm_s1 rfl ?_
  refine mm_s1 rfl ?_
  refine mm_s1 rfl ⟨fun c11 => ?_, fun c11 => ?_⟩
  · show mm_Go (mm_run 1) mc_Index_toldOfValues _ (30, [(0, .inr (.inr v0)), (2, .inl v2)], [], M)
    replace h := h.1 c11
    refine mm_s1 rfl ?_
    exact mm_s1 rfl ⟨_, rfl, L, N, h⟩
  · show mm_Go (mm_run 1) mc_Index_toldOfValues _ (14, [(0, .inr (.inr v0)), (2, .inl v2)], [], M)
    replace c11 := Int.not_le.mp c11
    replace h := h.2 c11
    refine mm_s1 rfl ?_
    refine mm_s1 rfl ?_
    refine mm_s1 rfl ?_
    refine mm_s1 rfl ⟨C0.1, ?_⟩
    refine nn_call (D := 1) (by decide) (h n L N C0) ?_
    intro v M17 q; clear L N h
    obtain ⟨r17, rfl, L, N, h⟩ := q
    show mm_Go (mm_run 1) mc_Index_toldOfValues _ (20, [(0, .inr (.inr v0)), (2, .inl v2)], [.inl r17], M17)
    refine mm_s1 rfl ?_
    refine mm_s1 rfl ⟨fun c21 => ?_, fun c21 => ?_⟩
    · show mm_Go (mm_run 1) mc_Index_toldOfValues _ (30, [(0, .inr (.inr v0)), (2, .inl v2)], [], M17)
      replace h := h.1 c21
      refine mm_s1 rfl ?_
      exact mm_s1 rfl ⟨_, rfl, L, N, h⟩
    · show mm_Go (mm_run 1) mc_Index_toldOfValues _ (24, [(0, .inr (.inr v0)), (2, .inl v2)], [], M17)
      replace h := h.2 c21
      refine mm_s1 rfl ?_
      show mm_Go (mm_run 1) mc_Index_toldOfValues _ (27, [(0, .inr (.inr v0)), (2, .inl (mm_w (v2 + 1)))], [], M17)
      refine mm_s1 rfl ?_
      show mm_Go (mm_run 1) mc_Index_toldOfValues _ (8, [(0, .inr (.inr v0)), (2, .inl (mm_w (v2 + 1)))], [], M17)
      exact nn_go_ext (nn_xc rfl (nn_xc rfl nn_xn)) (h n L N C0)
def nr_Pile_putIn (v0 : Nat) (v1 : Int) (v2 : Nat) (v3 : Int) (v4 : Int) (v5 : Int) (M : mm_M) (R : mm_M → Prop) : Prop := ∀ n, nn_L M → M.1 = n → nn_C 6 v0 n → nn_C 4 v2 n → mm_run 2 mi_Pile_putIn [.inr (.inr v0), .inl v1, .inr (.inr v2), .inl v3, .inl v4, .inl v5] M (nw_V n R)
def nk_Pile_putIn_91 (v0 : Nat) (v1 : Int) (v3 : Int) (v4 : Int) (v5 : Int) (v6 : Int) (v9 : Int) (M : mm_M) (R : mm_M → Prop) : Prop := ∀ n, nn_L M → M.1 = n → nn_C 6 v0 n → mm_Go (mm_run 1) mc_Pile_putIn (nw_V n R) (91, [(0, .inr (.inr v0)), (1, .inl v1), (3, .inl v3), (4, .inl v4), (5, .inl v5), (6, .inl v6), (9, .inl v9)], [], M)
def nk_Pile_putIn_157 (v0 : Nat) (v1 : Int) (v3 : Int) (v4 : Int) (v5 : Int) (v6 : Int) (v9 : Int) (M : mm_M) (R : mm_M → Prop) : Prop := ∀ n, nn_L M → M.1 = n → nn_C 6 v0 n → mm_Go (mm_run 1) mc_Pile_putIn (nw_V n R) (157, [(0, .inr (.inr v0)), (1, .inl v1), (3, .inl v3), (4, .inl v4), (5, .inl v5), (6, .inl v6), (9, .inl v9)], [], M)
set_option maxRecDepth 20000 in
theorem ng_Pile_putIn (v0 : Nat) (v1 : Int) (v2 : Nat) (v3 : Int) (v4 : Int) (v5 : Int) (M : mm_M) (R : mm_M → Prop) (h : ((nc_Pile_size v0 M) ∧ ((((nn_rf M v2 1) ≠ 0) ∧ ((nn_rf M v0 5) < 24) ∧ ((mm_w ((nf_Pile_size v0 M) + (nn_rf M v2 1))) ≤ 144) → ((0 : Int) ≤ v1 ∧ v1 < (25 : Int))) ∧ (((nn_rf M v2 1) ≠ 0) ∧ ((nn_rf M v0 5) < 24) ∧ ((mm_w ((nf_Pile_size v0 M) + (nn_rf M v2 1))) ≤ 144) → ((0 : Int) ≤ (nn_ri M (v0 + 2) v1) ∧ (0 : Int) ≤ (mm_w ((nn_ri M (v0 + 2) v1) + (nn_rf M v2 1))) ∧ (0 : Int) ≤ (mm_w ((nf_Pile_size v0 M) - (nn_ri M (v0 + 2) v1))) ∧ ((nn_ri M (v0 + 2) v1) : Int) + (mm_w ((nf_Pile_size v0 M) - (nn_ri M (v0 + 2) v1))) ≤ 144 ∧ ((mm_w ((nn_ri M (v0 + 2) v1) + (nn_rf M v2 1))) : Int) + (mm_w ((nf_Pile_size v0 M) - (nn_ri M (v0 + 2) v1))) ≤ 144)) ∧ (((nn_rf M v2 1) = 0 ∨ (24 ≤ (nn_rf M v0 5) ∨ (144 < (mm_w ((nf_Pile_size v0 M) + (nn_rf M v2 1)))))) → R M) ∧ (((nn_rf M v2 1) ≠ 0 ∧ ((nn_rf M v0 5) < 24 ∧ ((mm_w ((nf_Pile_size v0 M) + (nn_rf M v2 1))) ≤ 144))) → (∀ M66 : mm_M, M66 = mm_cp M (v0 + 1) (nn_ri M (v0 + 2) v1) (v0 + 1) (mm_w ((nn_ri M (v0 + 2) v1) + (nn_rf M v2 1))) (mm_w ((nf_Pile_size v0 M) - (nn_ri M (v0 + 2) v1))) → (((0 : Int) ≤ 0 ∧ (0 : Int) ≤ (nn_ri M (v0 + 2) v1) ∧ (0 : Int) ≤ (nn_rf M v2 1) ∧ (0 : Int) + (nn_rf M v2 1) ≤ ((mm_kd (v2 + 1)).2 : Int) ∧ ((nn_ri M (v0 + 2) v1) : Int) + (nn_rf M v2 1) ≤ 144) ∧ (∀ M82 : mm_M, M82 = mm_cp M66 (v2 + 1) 0 (v0 + 1) (nn_ri M (v0 + 2) v1) (nn_rf M v2 1) → nk_Pile_putIn_91 v0 v1 v3 v4 v5 (nn_rf M v2 1) (nn_rf M82 v0 5) M82 R))))))) : nr_Pile_putIn v0 v1 v2 v3 v4 v5 M R := by
  intro n L N C0 C2
  have NN := nn_L_n L N
  show mm_Go (mm_run 1) mc_Pile_putIn _ (0, [(0, .inr (.inr v0)), (1, .inl v1), (2, .inr (.inr v2)), (3, .inl v3), (4, .inl v4), (5, .inl v5)], [], M)
  refine mm_s1 rfl ?_
  refine mm_s1 rfl ⟨C2.1, ?_⟩
  show mm_Go (mm_run 1) mc_Pile_putIn _ (4, [(0, .inr (.inr v0)), (1, .inl v1), (2, .inr (.inr v2)), (3, .inl v3), (4, .inl v4), (5, .inl v5)], [.inl (nn_rf M v2 1)], M)
  refine mm_s1 rfl ?_
  show mm_Go (mm_run 1) mc_Pile_putIn _ (6, [(0, .inr (.inr v0)), (1, .inl v1), (2, .inr (.inr v2)), (3, .inl v3), (4, .inl v4), (5, .inl v5), (6, .inl (nn_rf M v2 1))], [], M)
  refine mm_s1 rfl ?_
  obtain ⟨b7, h⟩ := h
  refine mm_s1 rfl ⟨C0.1, ?_⟩
  refine np_Pile_size (by decide) L N C0 b7 ?_
  show mm_Go (mm_run 1) mc_Pile_putIn _ (10, [(0, .inr (.inr v0)), (1, .inl v1), (2, .inr (.inr v2)), (3, .inl v3), (4, .inl v4), (5, .inl v5), (6, .inl (nn_rf M v2 1))], [.inl (nf_Pile_size v0 M)], M)
  refine mm_s1 rfl ?_
  show mm_Go (mm_run 1) mc_Pile_putIn _ (12, [(0, .inr (.inr v0)), (1, .inl v1), (2, .inr (.inr v2)), (3, .inl v3), (4, .inl v4), (5, .inl v5), (6, .inl (nn_rf M v2 1)), (7, .inl (nf_Pile_size v0 M))], [], M)
  refine mm_s1 rfl ?_
  refine mm_s1 rfl ⟨fun c14 => ?_, fun c14 => ?_⟩
  · show mm_Go (mm_run 1) mc_Pile_putIn _ (37, [(0, .inr (.inr v0)), (1, .inl v1), (2, .inr (.inr v2)), (3, .inl v3), (4, .inl v4), (5, .inl v5), (6, .inl (nn_rf M v2 1)), (7, .inl (nf_Pile_size v0 M))], [], M)
    replace h := h.2.2.1 (Or.inl c14)
    exact mm_s1 rfl ⟨rfl, L, N, h⟩
  · show mm_Go (mm_run 1) mc_Pile_putIn _ (17, [(0, .inr (.inr v0)), (1, .inl v1), (2, .inr (.inr v2)), (3, .inl v3), (4, .inl v4), (5, .inl v5), (6, .inl (nn_rf M v2 1)), (7, .inl (nf_Pile_size v0 M))], [], M)
    refine mm_s1 rfl ?_
    refine mm_s1 rfl ⟨C0.1, ?_⟩
    show mm_Go (mm_run 1) mc_Pile_putIn _ (21, [(0, .inr (.inr v0)), (1, .inl v1), (2, .inr (.inr v2)), (3, .inl v3), (4, .inl v4), (5, .inl v5), (6, .inl (nn_rf M v2 1)), (7, .inl (nf_Pile_size v0 M))], [.inl (nn_rf M v0 5)], M)
    refine mm_s1 rfl ?_
    refine mm_s1 rfl ⟨fun c23 => ?_, fun c23 => ?_⟩
    · show mm_Go (mm_run 1) mc_Pile_putIn _ (37, [(0, .inr (.inr v0)), (1, .inl v1), (2, .inr (.inr v2)), (3, .inl v3), (4, .inl v4), (5, .inl v5), (6, .inl (nn_rf M v2 1)), (7, .inl (nf_Pile_size v0 M))], [], M)
      replace h := h.2.2.1 (Or.inr (Or.inl c23))
      exact mm_s1 rfl ⟨rfl, L, N, h⟩
    · show mm_Go (mm_run 1) mc_Pile_putIn _ (26, [(0, .inr (.inr v0)), (1, .inl v1), (2, .inr (.inr v2)), (3, .inl v3), (4, .inl v4), (5, .inl v5), (6, .inl (nn_rf M v2 1)), (7, .inl (nf_Pile_size v0 M))], [], M)
      replace c23 := Int.not_le.mp c23
      refine mm_s1 rfl ?_
      refine mm_s1 rfl ?_
      refine mm_s1 rfl ?_
      refine mm_s1 rfl ?_
      refine mm_s1 rfl ⟨fun c34 => ?_, fun c34 => ?_⟩
      · show mm_Go (mm_run 1) mc_Pile_putIn _ (38, [(0, .inr (.inr v0)), (1, .inl v1), (2, .inr (.inr v2)), (3, .inl v3), (4, .inl v4), (5, .inl v5), (6, .inl (nn_rf M v2 1)), (7, .inl (nf_Pile_size v0 M))], [], M)
        refine mm_s1 rfl ?_
        refine nn_getr rfl C0.1 (lf_6_1 L N C0) ?_
        refine mm_s1 rfl ?_
        have b43 := h.1 ⟨c14, c23, c34⟩
        refine mm_s1 rfl ⟨nn_bd (na_6_1 NN C0) b43, ?_⟩
        show mm_Go (mm_run 1) mc_Pile_putIn _ (44, [(0, .inr (.inr v0)), (1, .inl v1), (2, .inr (.inr v2)), (3, .inl v3), (4, .inl v4), (5, .inl v5), (6, .inl (nn_rf M v2 1)), (7, .inl (nf_Pile_size v0 M))], [.inl (nn_ri M (v0 + 2) v1)], M)
        refine mm_s1 rfl ?_
        show mm_Go (mm_run 1) mc_Pile_putIn _ (46, [(0, .inr (.inr v0)), (1, .inl v1), (2, .inr (.inr v2)), (3, .inl v3), (4, .inl v4), (5, .inl v5), (6, .inl (nn_rf M v2 1)), (7, .inl (nf_Pile_size v0 M)), (8, .inl (nn_ri M (v0 + 2) v1))], [], M)
        refine mm_s1 rfl ?_
        refine nn_getr rfl C0.1 (lf_6_0 L N C0) ?_
        refine mm_s1 rfl ?_
        refine mm_s1 rfl ?_
        refine nn_getr rfl C0.1 (lf_6_0 L N C0) ?_
        show mm_Go (mm_run 1) mc_Pile_putIn _ (56, [(0, .inr (.inr v0)), (1, .inl v1), (2, .inr (.inr v2)), (3, .inl v3), (4, .inl v4), (5, .inl v5), (6, .inl (nn_rf M v2 1)), (7, .inl (nf_Pile_size v0 M)), (8, .inl (nn_ri M (v0 + 2) v1))], [.inr (.inr (v0 + 1)), .inl (nn_ri M (v0 + 2) v1), .inr (.inr (v0 + 1))], M)
        refine mm_s1 rfl ?_
        refine mm_s1 rfl ?_
        refine mm_s1 rfl ?_
        refine mm_s1 rfl ?_
        refine mm_s1 rfl ?_
        show mm_Go (mm_run 1) mc_Pile_putIn _ (65, [(0, .inr (.inr v0)), (1, .inl v1), (2, .inr (.inr v2)), (3, .inl v3), (4, .inl v4), (5, .inl v5), (6, .inl (nn_rf M v2 1)), (7, .inl (nf_Pile_size v0 M)), (8, .inl (nn_ri M (v0 + 2) v1))], [.inl (nn_ri M (v0 + 2) v1), .inl (nf_Pile_size v0 M), .inl (mm_w ((nn_ri M (v0 + 2) v1) + (nn_rf M v2 1))), .inr (.inr (v0 + 1)), .inl (nn_ri M (v0 + 2) v1), .inr (.inr (v0 + 1))], M)
        refine mm_s1 rfl ?_
        have b66 := h.2.1 ⟨c14, c23, c34⟩
        replace h := h.2.2.2 ⟨c14, ⟨c23, c34⟩⟩
        refine mm_s1 rfl ⟨nn_ac (nc_6_0 NN C0).1 (nc_6_0 NN C0).1 (by decide) (congrArg (fun q : Nat × Nat => ((q.2 : Nat) : Int)) (na_6_0 NN C0)) (congrArg (fun q : Nat × Nat => ((q.2 : Nat) : Int)) (na_6_0 NN C0)) b66, ?_⟩
        show mm_Go (mm_run 1) mc_Pile_putIn _ (69, [(0, .inr (.inr v0)), (1, .inl v1), (2, .inr (.inr v2)), (3, .inl v3), (4, .inl v4), (5, .inl v5), (6, .inl (nn_rf M v2 1)), (7, .inl (nf_Pile_size v0 M)), (8, .inl (nn_ri M (v0 + 2) v1))], [], (mm_cp M (v0 + 1) (nn_ri M (v0 + 2) v1) (v0 + 1) (mm_w ((nn_ri M (v0 + 2) v1) + (nn_rf M v2 1))) (mm_w ((nf_Pile_size v0 M) - (nn_ri M (v0 + 2) v1)))))
        have L : nn_L (mm_cp M (v0 + 1) (nn_ri M (v0 + 2) v1) (v0 + 1) (mm_w ((nn_ri M (v0 + 2) v1) + (nn_rf M v2 1))) (mm_w ((nf_Pile_size v0 M) - (nn_ri M (v0 + 2) v1)))) := nn_L_cp L (nc_6_0 NN C0).1 (by decide)
        have N : (mm_cp M (v0 + 1) (nn_ri M (v0 + 2) v1) (v0 + 1) (mm_w ((nn_ri M (v0 + 2) v1) + (nn_rf M v2 1))) (mm_w ((nf_Pile_size v0 M) - (nn_ri M (v0 + 2) v1)))).1 = n := N
        generalize e_M66 : (mm_cp M (v0 + 1) (nn_ri M (v0 + 2) v1) (v0 + 1) (mm_w ((nn_ri M (v0 + 2) v1) + (nn_rf M v2 1))) (mm_w ((nf_Pile_size v0 M) - (nn_ri M (v0 + 2) v1)))) = M66 at L N ⊢
        replace h := h _ e_M66.symm
        show mm_Go (mm_run 1) mc_Pile_putIn _ (69, [(0, .inr (.inr v0)), (1, .inl v1), (2, .inr (.inr v2)), (3, .inl v3), (4, .inl v4), (5, .inl v5), (6, .inl (nn_rf M v2 1)), (7, .inl (nf_Pile_size v0 M)), (8, .inl (nn_ri M (v0 + 2) v1))], [], M66)
        refine mm_s1 rfl ?_
        refine nn_getr rfl C2.1 (lf_4_0 L N C2) ?_
        refine mm_s1 rfl ?_
        refine mm_s1 rfl ?_
        refine nn_getr rfl C0.1 (lf_6_0 L N C0) ?_
        show mm_Go (mm_run 1) mc_Pile_putIn _ (78, [(0, .inr (.inr v0)), (1, .inl v1), (2, .inr (.inr v2)), (3, .inl v3), (4, .inl v4), (5, .inl v5), (6, .inl (nn_rf M v2 1)), (7, .inl (nf_Pile_size v0 M)), (8, .inl (nn_ri M (v0 + 2) v1))], [.inr (.inr (v0 + 1)), .inl 0, .inr (.inr (v2 + 1))], M66)
        refine mm_s1 rfl ?_
        refine mm_s1 rfl ?_
        obtain ⟨b82, h⟩ := h
        refine mm_s1 rfl ⟨nn_ac (nc_4_0 NN C2).1 (nc_6_0 NN C0).1 (by decide) rfl (congrArg (fun q : Nat × Nat => ((q.2 : Nat) : Int)) (na_6_0 NN C0)) b82, ?_⟩
        show mm_Go (mm_run 1) mc_Pile_putIn _ (85, [(0, .inr (.inr v0)), (1, .inl v1), (2, .inr (.inr v2)), (3, .inl v3), (4, .inl v4), (5, .inl v5), (6, .inl (nn_rf M v2 1)), (7, .inl (nf_Pile_size v0 M)), (8, .inl (nn_ri M (v0 + 2) v1))], [], (mm_cp M66 (v2 + 1) 0 (v0 + 1) (nn_ri M (v0 + 2) v1) (nn_rf M v2 1)))
        have L : nn_L (mm_cp M66 (v2 + 1) 0 (v0 + 1) (nn_ri M (v0 + 2) v1) (nn_rf M v2 1)) := nn_L_cp L (nc_6_0 NN C0).1 (by decide)
        have N : (mm_cp M66 (v2 + 1) 0 (v0 + 1) (nn_ri M (v0 + 2) v1) (nn_rf M v2 1)).1 = n := N
        generalize e_M82 : (mm_cp M66 (v2 + 1) 0 (v0 + 1) (nn_ri M (v0 + 2) v1) (nn_rf M v2 1)) = M82 at L N ⊢
        replace h := h _ e_M82.symm
        show mm_Go (mm_run 1) mc_Pile_putIn _ (85, [(0, .inr (.inr v0)), (1, .inl v1), (2, .inr (.inr v2)), (3, .inl v3), (4, .inl v4), (5, .inl v5), (6, .inl (nn_rf M v2 1)), (7, .inl (nf_Pile_size v0 M)), (8, .inl (nn_ri M (v0 + 2) v1))], [], M82)
        refine mm_s1 rfl ?_
        refine mm_s1 rfl ⟨C0.1, ?_⟩
        show mm_Go (mm_run 1) mc_Pile_putIn _ (89, [(0, .inr (.inr v0)), (1, .inl v1), (2, .inr (.inr v2)), (3, .inl v3), (4, .inl v4), (5, .inl v5), (6, .inl (nn_rf M v2 1)), (7, .inl (nf_Pile_size v0 M)), (8, .inl (nn_ri M (v0 + 2) v1))], [.inl (nn_rf M82 v0 5)], M82)
        refine mm_s1 rfl ?_
        show mm_Go (mm_run 1) mc_Pile_putIn _ (91, [(0, .inr (.inr v0)), (1, .inl v1), (2, .inr (.inr v2)), (3, .inl v3), (4, .inl v4), (5, .inl v5), (6, .inl (nn_rf M v2 1)), (7, .inl (nf_Pile_size v0 M)), (8, .inl (nn_ri M (v0 + 2) v1)), (9, .inl (nn_rf M82 v0 5))], [], M82)
        exact nn_go_ext (nn_xc rfl (nn_xc rfl (nn_xc rfl (nn_xc rfl (nn_xc rfl (nn_xc rfl (nn_xc rfl nn_xn))))))) (h n L N C0)
      · show mm_Go (mm_run 1) mc_Pile_putIn _ (37, [(0, .inr (.inr v0)), (1, .inl v1), (2, .inr (.inr v2)), (3, .inl v3), (4, .inl v4), (5, .inl v5), (6, .inl (nn_rf M v2 1)), (7, .inl (nf_Pile_size v0 M))], [], M)
        replace c34 := Int.not_le.mp c34
        replace h := h.2.2.1 (Or.inr (Or.inr c34))
        exact mm_s1 rfl ⟨rfl, L, N, h⟩
set_option maxRecDepth 20000 in
theorem ng_Pile_putIn_91 (v0 : Nat) (v1 : Int) (v3 : Int) (v4 : Int) (v5 : Int) (v6 : Int) (v9 : Int) (M : mm_M) (R : mm_M → Prop) (h : ((v9 ≤ v1 → nk_Pile_putIn_157 v0 v1 v3 v4 v5 v6 (nn_rf M v0 5) M R) ∧ (v1 < v9 → (((0 : Int) ≤ (mm_w (v9 - 1)) ∧ (mm_w (v9 - 1)) < (24 : Int)) ∧ (((0 : Int) ≤ v9 ∧ v9 < (24 : Int)) ∧ (∀ M112 : mm_M, M112 = nn_ui M (v0 + 3) v9 (nn_ri M (v0 + 3) (mm_w (v9 - 1))) → (((0 : Int) ≤ (mm_w (v9 - 1)) ∧ (mm_w (v9 - 1)) < (24 : Int)) ∧ (((0 : Int) ≤ v9 ∧ v9 < (24 : Int)) ∧ (∀ M128 : mm_M, M128 = nn_ui M112 (v0 + 4) v9 (nn_ri M112 (v0 + 4) (mm_w (v9 - 1))) → (((0 : Int) ≤ (mm_w (v9 - 1)) ∧ (mm_w (v9 - 1)) < (24 : Int)) ∧ (((0 : Int) ≤ v9 ∧ v9 < (24 : Int)) ∧ (∀ M144 : mm_M, M144 = nn_ui M128 (v0 + 5) v9 (nn_ri M128 (v0 + 5) (mm_w (v9 - 1))) → nk_Pile_putIn_91 v0 v1 v3 v4 v5 v6 (mm_w (v9 + (-1))) M144 R)))))))))))) : nk_Pile_putIn_91 v0 v1 v3 v4 v5 v6 v9 M R := by
  intro n L N C0
  have NN := nn_L_n L N
  show mm_Go (mm_run 1) mc_Pile_putIn _ (91, [(0, .inr (.inr v0)), (1, .inl v1), (3, .inl v3), (4, .inl v4), (5, .inl v5), (6, .inl v6), (9, .inl v9)], [], M)
  refine mm_s1 rfl ?_
  refine mm_s1 rfl ?_
  refine mm_s1 rfl ⟨fun c94 => ?_, fun c94 => ?_⟩
  · show mm_Go (mm_run 1) mc_Pile_putIn _ (151, [(0, .inr (.inr v0)), (1, .inl v1), (3, .inl v3), (4, .inl v4), (5, .inl v5), (6, .inl v6), (9, .inl v9)], [], M)
    replace h := h.1 c94
    refine mm_s1 rfl ?_
    refine mm_s1 rfl ⟨C0.1, ?_⟩
    show mm_Go (mm_run 1) mc_Pile_putIn _ (155, [(0, .inr (.inr v0)), (1, .inl v1), (3, .inl v3), (4, .inl v4), (5, .inl v5), (6, .inl v6), (9, .inl v9)], [.inl (nn_rf M v0 5)], M)
    refine mm_s1 rfl ?_
    show mm_Go (mm_run 1) mc_Pile_putIn _ (157, [(0, .inr (.inr v0)), (1, .inl v1), (3, .inl v3), (4, .inl v4), (5, .inl v5), (6, .inl v6), (9, .inl (nn_rf M v0 5))], [], M)
    exact nn_go_ext (nn_xc rfl (nn_xc rfl (nn_xc rfl (nn_xc rfl (nn_xc rfl (nn_xc rfl (nn_xc rfl nn_xn))))))) (h n L N C0)
  · show mm_Go (mm_run 1) mc_Pile_putIn _ (97, [(0, .inr (.inr v0)), (1, .inl v1), (3, .inl v3), (4, .inl v4), (5, .inl v5), (6, .inl v6), (9, .inl v9)], [], M)
    replace c94 := Int.not_le.mp c94
    replace h := h.2 c94
    refine mm_s1 rfl ?_
    refine nn_getr rfl C0.1 (lf_6_2 L N C0) ?_
    refine mm_s1 rfl ?_
    refine mm_s1 rfl ?_
    refine nn_getr rfl C0.1 (lf_6_2 L N C0) ?_
    show mm_Go (mm_run 1) mc_Pile_putIn _ (107, [(0, .inr (.inr v0)), (1, .inl v1), (3, .inl v3), (4, .inl v4), (5, .inl v5), (6, .inl v6), (9, .inl v9)], [.inr (.inr (v0 + 3)), .inl v9, .inr (.inr (v0 + 3))], M)
    refine mm_s1 rfl ?_
    refine mm_s1 rfl ?_
    refine mm_s1 rfl ?_
    obtain ⟨b111, h⟩ := h
    refine mm_s1 rfl ⟨nn_bd (na_6_2 NN C0) b111, ?_⟩
    show mm_Go (mm_run 1) mc_Pile_putIn _ (112, [(0, .inr (.inr v0)), (1, .inl v1), (3, .inl v3), (4, .inl v4), (5, .inl v5), (6, .inl v6), (9, .inl v9)], [.inl (nn_ri M (v0 + 3) (mm_w (v9 - 1))), .inl v9, .inr (.inr (v0 + 3))], M)
    obtain ⟨b112, h⟩ := h
    refine mm_s1 rfl ⟨nn_bd (na_6_2 NN C0) b112, ?_⟩
    show mm_Go (mm_run 1) mc_Pile_putIn _ (113, [(0, .inr (.inr v0)), (1, .inl v1), (3, .inl v3), (4, .inl v4), (5, .inl v5), (6, .inl v6), (9, .inl v9)], [], (nn_ui M (v0 + 3) v9 (nn_ri M (v0 + 3) (mm_w (v9 - 1)))))
    have L : nn_L (nn_ui M (v0 + 3) v9 (nn_ri M (v0 + 3) (mm_w (v9 - 1)))) := nn_L_ua L (congrArg Prod.fst (na_6_2 NN C0)) (by decide)
    have N : (nn_ui M (v0 + 3) v9 (nn_ri M (v0 + 3) (mm_w (v9 - 1)))).1 = n := N
    generalize e_M112 : (nn_ui M (v0 + 3) v9 (nn_ri M (v0 + 3) (mm_w (v9 - 1)))) = M112 at L N ⊢
    replace h := h _ e_M112.symm
    show mm_Go (mm_run 1) mc_Pile_putIn _ (113, [(0, .inr (.inr v0)), (1, .inl v1), (3, .inl v3), (4, .inl v4), (5, .inl v5), (6, .inl v6), (9, .inl v9)], [], M112)
    refine mm_s1 rfl ?_
    refine nn_getr rfl C0.1 (lf_6_3 L N C0) ?_
    refine mm_s1 rfl ?_
    refine mm_s1 rfl ?_
    refine nn_getr rfl C0.1 (lf_6_3 L N C0) ?_
    show mm_Go (mm_run 1) mc_Pile_putIn _ (123, [(0, .inr (.inr v0)), (1, .inl v1), (3, .inl v3), (4, .inl v4), (5, .inl v5), (6, .inl v6), (9, .inl v9)], [.inr (.inr (v0 + 4)), .inl v9, .inr (.inr (v0 + 4))], M112)
    refine mm_s1 rfl ?_
    refine mm_s1 rfl ?_
    refine mm_s1 rfl ?_
    obtain ⟨b127, h⟩ := h
    refine mm_s1 rfl ⟨nn_bd (na_6_3 NN C0) b127, ?_⟩
    show mm_Go (mm_run 1) mc_Pile_putIn _ (128, [(0, .inr (.inr v0)), (1, .inl v1), (3, .inl v3), (4, .inl v4), (5, .inl v5), (6, .inl v6), (9, .inl v9)], [.inl (nn_ri M112 (v0 + 4) (mm_w (v9 - 1))), .inl v9, .inr (.inr (v0 + 4))], M112)
    obtain ⟨b128, h⟩ := h
    refine mm_s1 rfl ⟨nn_bd (na_6_3 NN C0) b128, ?_⟩
    show mm_Go (mm_run 1) mc_Pile_putIn _ (129, [(0, .inr (.inr v0)), (1, .inl v1), (3, .inl v3), (4, .inl v4), (5, .inl v5), (6, .inl v6), (9, .inl v9)], [], (nn_ui M112 (v0 + 4) v9 (nn_ri M112 (v0 + 4) (mm_w (v9 - 1)))))
    have L : nn_L (nn_ui M112 (v0 + 4) v9 (nn_ri M112 (v0 + 4) (mm_w (v9 - 1)))) := nn_L_ua L (congrArg Prod.fst (na_6_3 NN C0)) (by decide)
    have N : (nn_ui M112 (v0 + 4) v9 (nn_ri M112 (v0 + 4) (mm_w (v9 - 1)))).1 = n := N
    generalize e_M128 : (nn_ui M112 (v0 + 4) v9 (nn_ri M112 (v0 + 4) (mm_w (v9 - 1)))) = M128 at L N ⊢
    replace h := h _ e_M128.symm
    show mm_Go (mm_run 1) mc_Pile_putIn _ (129, [(0, .inr (.inr v0)), (1, .inl v1), (3, .inl v3), (4, .inl v4), (5, .inl v5), (6, .inl v6), (9, .inl v9)], [], M128)
    refine mm_s1 rfl ?_
    refine nn_getr rfl C0.1 (lf_6_4 L N C0) ?_
    refine mm_s1 rfl ?_
    refine mm_s1 rfl ?_
    refine nn_getr rfl C0.1 (lf_6_4 L N C0) ?_
    show mm_Go (mm_run 1) mc_Pile_putIn _ (139, [(0, .inr (.inr v0)), (1, .inl v1), (3, .inl v3), (4, .inl v4), (5, .inl v5), (6, .inl v6), (9, .inl v9)], [.inr (.inr (v0 + 5)), .inl v9, .inr (.inr (v0 + 5))], M128)
    refine mm_s1 rfl ?_
    refine mm_s1 rfl ?_
    refine mm_s1 rfl ?_
    obtain ⟨b143, h⟩ := h
    refine mm_s1 rfl ⟨nn_bd (na_6_4 NN C0) b143, ?_⟩
    show mm_Go (mm_run 1) mc_Pile_putIn _ (144, [(0, .inr (.inr v0)), (1, .inl v1), (3, .inl v3), (4, .inl v4), (5, .inl v5), (6, .inl v6), (9, .inl v9)], [.inl (nn_ri M128 (v0 + 5) (mm_w (v9 - 1))), .inl v9, .inr (.inr (v0 + 5))], M128)
    obtain ⟨b144, h⟩ := h
    refine mm_s1 rfl ⟨nn_bd (na_6_4 NN C0) b144, ?_⟩
    show mm_Go (mm_run 1) mc_Pile_putIn _ (145, [(0, .inr (.inr v0)), (1, .inl v1), (3, .inl v3), (4, .inl v4), (5, .inl v5), (6, .inl v6), (9, .inl v9)], [], (nn_ui M128 (v0 + 5) v9 (nn_ri M128 (v0 + 5) (mm_w (v9 - 1)))))
    have L : nn_L (nn_ui M128 (v0 + 5) v9 (nn_ri M128 (v0 + 5) (mm_w (v9 - 1)))) := nn_L_ua L (congrArg Prod.fst (na_6_4 NN C0)) (by decide)
    have N : (nn_ui M128 (v0 + 5) v9 (nn_ri M128 (v0 + 5) (mm_w (v9 - 1)))).1 = n := N
    generalize e_M144 : (nn_ui M128 (v0 + 5) v9 (nn_ri M128 (v0 + 5) (mm_w (v9 - 1)))) = M144 at L N ⊢
    replace h := h _ e_M144.symm
    show mm_Go (mm_run 1) mc_Pile_putIn _ (145, [(0, .inr (.inr v0)), (1, .inl v1), (3, .inl v3), (4, .inl v4), (5, .inl v5), (6, .inl v6), (9, .inl v9)], [], M144)
    refine mm_s1 rfl ?_
    show mm_Go (mm_run 1) mc_Pile_putIn _ (148, [(0, .inr (.inr v0)), (1, .inl v1), (3, .inl v3), (4, .inl v4), (5, .inl v5), (6, .inl v6), (9, .inl (mm_w (v9 + (-1))))], [], M144)
    refine mm_s1 rfl ?_
    show mm_Go (mm_run 1) mc_Pile_putIn _ (91, [(0, .inr (.inr v0)), (1, .inl v1), (3, .inl v3), (4, .inl v4), (5, .inl v5), (6, .inl v6), (9, .inl (mm_w (v9 + (-1))))], [], M144)
    exact nn_go_ext (nn_xc rfl (nn_xc rfl (nn_xc rfl (nn_xc rfl (nn_xc rfl (nn_xc rfl (nn_xc rfl nn_xn))))))) (h n L N C0)
set_option maxRecDepth 20000 in
theorem ng_Pile_putIn_157 (v0 : Nat) (v1 : Int) (v3 : Int) (v4 : Int) (v5 : Int) (v6 : Int) (v9 : Int) (M : mm_M) (R : mm_M → Prop) (h : ((v9 < v1 → (((0 : Int) ≤ v1 ∧ v1 < (24 : Int)) ∧ (∀ M194 : mm_M, M194 = nn_ui M (v0 + 3) v1 v3 → (((0 : Int) ≤ v1 ∧ v1 < (24 : Int)) ∧ (∀ M202 : mm_M, M202 = nn_ui M194 (v0 + 4) v1 v4 → (((0 : Int) ≤ v1 ∧ v1 < (24 : Int)) ∧ (∀ M210 : mm_M, M210 = nn_ui M202 (v0 + 5) v1 v5 → (∀ M218 : mm_M, M218 = nn_uf M210 v0 5 (mm_w ((nn_rf M210 v0 5) + 1)) → R M218)))))))) ∧ (v1 ≤ v9 → (((0 : Int) ≤ v9 ∧ v9 < (25 : Int)) ∧ (((0 : Int) ≤ (mm_w (v9 + 1)) ∧ (mm_w (v9 + 1)) < (25 : Int)) ∧ (∀ M181 : mm_M, M181 = nn_ui M (v0 + 2) (mm_w (v9 + 1)) (mm_w ((nn_ri M (v0 + 2) v9) + v6)) → nk_Pile_putIn_157 v0 v1 v3 v4 v5 v6 (mm_w (v9 + (-1))) M181 R)))))) : nk_Pile_putIn_157 v0 v1 v3 v4 v5 v6 v9 M R := by
  intro n L N C0
  have NN := nn_L_n L N
  show mm_Go (mm_run 1) mc_Pile_putIn _ (157, [(0, .inr (.inr v0)), (1, .inl v1), (3, .inl v3), (4, .inl v4), (5, .inl v5), (6, .inl v6), (9, .inl v9)], [], M)
  refine mm_s1 rfl ?_
  refine mm_s1 rfl ?_
  refine mm_s1 rfl ⟨fun c160 => ?_, fun c160 => ?_⟩
  · show mm_Go (mm_run 1) mc_Pile_putIn _ (188, [(0, .inr (.inr v0)), (1, .inl v1), (3, .inl v3), (4, .inl v4), (5, .inl v5), (6, .inl v6), (9, .inl v9)], [], M)
    replace h := h.1 c160
    refine mm_s1 rfl ?_
    refine nn_getr rfl C0.1 (lf_6_2 L N C0) ?_
    refine mm_s1 rfl ?_
    refine mm_s1 rfl ?_
    obtain ⟨b194, h⟩ := h
    refine mm_s1 rfl ⟨nn_bd (na_6_2 NN C0) b194, ?_⟩
    show mm_Go (mm_run 1) mc_Pile_putIn _ (195, [(0, .inr (.inr v0)), (1, .inl v1), (3, .inl v3), (4, .inl v4), (5, .inl v5), (6, .inl v6), (9, .inl v9)], [], (nn_ui M (v0 + 3) v1 v3))
    have L : nn_L (nn_ui M (v0 + 3) v1 v3) := nn_L_ua L (congrArg Prod.fst (na_6_2 NN C0)) (by decide)
    have N : (nn_ui M (v0 + 3) v1 v3).1 = n := N
    generalize e_M194 : (nn_ui M (v0 + 3) v1 v3) = M194 at L N ⊢
    replace h := h _ e_M194.symm
    show mm_Go (mm_run 1) mc_Pile_putIn _ (195, [(0, .inr (.inr v0)), (1, .inl v1), (3, .inl v3), (4, .inl v4), (5, .inl v5), (6, .inl v6), (9, .inl v9)], [], M194)
    refine mm_s1 rfl ?_
    refine nn_getr rfl C0.1 (lf_6_3 L N C0) ?_
    refine mm_s1 rfl ?_
    refine mm_s1 rfl ?_
    obtain ⟨b202, h⟩ := h
    refine mm_s1 rfl ⟨nn_bd (na_6_3 NN C0) b202, ?_⟩
    show mm_Go (mm_run 1) mc_Pile_putIn _ (203, [(0, .inr (.inr v0)), (1, .inl v1), (3, .inl v3), (4, .inl v4), (5, .inl v5), (6, .inl v6), (9, .inl v9)], [], (nn_ui M194 (v0 + 4) v1 v4))
    have L : nn_L (nn_ui M194 (v0 + 4) v1 v4) := nn_L_ua L (congrArg Prod.fst (na_6_3 NN C0)) (by decide)
    have N : (nn_ui M194 (v0 + 4) v1 v4).1 = n := N
    generalize e_M202 : (nn_ui M194 (v0 + 4) v1 v4) = M202 at L N ⊢
    replace h := h _ e_M202.symm
    show mm_Go (mm_run 1) mc_Pile_putIn _ (203, [(0, .inr (.inr v0)), (1, .inl v1), (3, .inl v3), (4, .inl v4), (5, .inl v5), (6, .inl v6), (9, .inl v9)], [], M202)
    refine mm_s1 rfl ?_
    refine nn_getr rfl C0.1 (lf_6_4 L N C0) ?_
    refine mm_s1 rfl ?_
    refine mm_s1 rfl ?_
    obtain ⟨b210, h⟩ := h
    refine mm_s1 rfl ⟨nn_bd (na_6_4 NN C0) b210, ?_⟩
    show mm_Go (mm_run 1) mc_Pile_putIn _ (211, [(0, .inr (.inr v0)), (1, .inl v1), (3, .inl v3), (4, .inl v4), (5, .inl v5), (6, .inl v6), (9, .inl v9)], [], (nn_ui M202 (v0 + 5) v1 v5))
    have L : nn_L (nn_ui M202 (v0 + 5) v1 v5) := nn_L_ua L (congrArg Prod.fst (na_6_4 NN C0)) (by decide)
    have N : (nn_ui M202 (v0 + 5) v1 v5).1 = n := N
    generalize e_M210 : (nn_ui M202 (v0 + 5) v1 v5) = M210 at L N ⊢
    replace h := h _ e_M210.symm
    show mm_Go (mm_run 1) mc_Pile_putIn _ (211, [(0, .inr (.inr v0)), (1, .inl v1), (3, .inl v3), (4, .inl v4), (5, .inl v5), (6, .inl v6), (9, .inl v9)], [], M210)
    refine mm_s1 rfl ?_
    refine mm_s1 rfl ?_
    refine mm_s1 rfl ⟨C0.1, ?_⟩
    show mm_Go (mm_run 1) mc_Pile_putIn _ (216, [(0, .inr (.inr v0)), (1, .inl v1), (3, .inl v3), (4, .inl v4), (5, .inl v5), (6, .inl v6), (9, .inl v9)], [.inl (nn_rf M210 v0 5), .inr (.inr v0)], M210)
    refine mm_s1 rfl ?_
    refine mm_s1 rfl ?_
    refine mm_s1 rfl ⟨C0.1, ?_⟩
    show mm_Go (mm_run 1) mc_Pile_putIn _ (221, [(0, .inr (.inr v0)), (1, .inl v1), (3, .inl v3), (4, .inl v4), (5, .inl v5), (6, .inl v6), (9, .inl v9)], [], (nn_uf M210 v0 5 (mm_w ((nn_rf M210 v0 5) + 1))))
    have L : nn_L (nn_uf M210 v0 5 (mm_w ((nn_rf M210 v0 5) + 1))) := nn_L_up L C0.1 rfl
    have N : (nn_uf M210 v0 5 (mm_w ((nn_rf M210 v0 5) + 1))).1 = n := N
    generalize e_M218 : (nn_uf M210 v0 5 (mm_w ((nn_rf M210 v0 5) + 1))) = M218 at L N ⊢
    replace h := h _ e_M218.symm
    show mm_Go (mm_run 1) mc_Pile_putIn _ (221, [(0, .inr (.inr v0)), (1, .inl v1), (3, .inl v3), (4, .inl v4), (5, .inl v5), (6, .inl v6), (9, .inl v9)], [], M218)
    exact mm_s1 rfl ⟨rfl, L, N, h⟩
  · show mm_Go (mm_run 1) mc_Pile_putIn _ (163, [(0, .inr (.inr v0)), (1, .inl v1), (3, .inl v3), (4, .inl v4), (5, .inl v5), (6, .inl v6), (9, .inl v9)], [], M)
    replace c160 := Int.not_lt.mp c160
    replace h := h.2 c160
    refine mm_s1 rfl ?_
    refine nn_getr rfl C0.1 (lf_6_1 L N C0) ?_
    refine mm_s1 rfl ?_
    refine mm_s1 rfl ?_
    refine mm_s1 rfl ?_
    show mm_Go (mm_run 1) mc_Pile_putIn _ (171, [(0, .inr (.inr v0)), (1, .inl v1), (3, .inl v3), (4, .inl v4), (5, .inl v5), (6, .inl v6), (9, .inl v9)], [.inl (mm_w (v9 + 1)), .inr (.inr (v0 + 2))], M)
    refine mm_s1 rfl ?_
    refine nn_getr rfl C0.1 (lf_6_1 L N C0) ?_
    refine mm_s1 rfl ?_
    obtain ⟨b177, h⟩ := h
    refine mm_s1 rfl ⟨nn_bd (na_6_1 NN C0) b177, ?_⟩
    show mm_Go (mm_run 1) mc_Pile_putIn _ (178, [(0, .inr (.inr v0)), (1, .inl v1), (3, .inl v3), (4, .inl v4), (5, .inl v5), (6, .inl v6), (9, .inl v9)], [.inl (nn_ri M (v0 + 2) v9), .inl (mm_w (v9 + 1)), .inr (.inr (v0 + 2))], M)
    refine mm_s1 rfl ?_
    refine mm_s1 rfl ?_
    obtain ⟨b181, h⟩ := h
    refine mm_s1 rfl ⟨nn_bd (na_6_1 NN C0) b181, ?_⟩
    show mm_Go (mm_run 1) mc_Pile_putIn _ (182, [(0, .inr (.inr v0)), (1, .inl v1), (3, .inl v3), (4, .inl v4), (5, .inl v5), (6, .inl v6), (9, .inl v9)], [], (nn_ui M (v0 + 2) (mm_w (v9 + 1)) (mm_w ((nn_ri M (v0 + 2) v9) + v6))))
    have L : nn_L (nn_ui M (v0 + 2) (mm_w (v9 + 1)) (mm_w ((nn_ri M (v0 + 2) v9) + v6))) := nn_L_ua L (congrArg Prod.fst (na_6_1 NN C0)) (by decide)
    have N : (nn_ui M (v0 + 2) (mm_w (v9 + 1)) (mm_w ((nn_ri M (v0 + 2) v9) + v6))).1 = n := N
    generalize e_M181 : (nn_ui M (v0 + 2) (mm_w (v9 + 1)) (mm_w ((nn_ri M (v0 + 2) v9) + v6))) = M181 at L N ⊢
    replace h := h _ e_M181.symm
    show mm_Go (mm_run 1) mc_Pile_putIn _ (182, [(0, .inr (.inr v0)), (1, .inl v1), (3, .inl v3), (4, .inl v4), (5, .inl v5), (6, .inl v6), (9, .inl v9)], [], M181)
    refine mm_s1 rfl ?_
    show mm_Go (mm_run 1) mc_Pile_putIn _ (185, [(0, .inr (.inr v0)), (1, .inl v1), (3, .inl v3), (4, .inl v4), (5, .inl v5), (6, .inl v6), (9, .inl (mm_w (v9 + (-1))))], [], M181)
    refine mm_s1 rfl ?_
    show mm_Go (mm_run 1) mc_Pile_putIn _ (157, [(0, .inr (.inr v0)), (1, .inl v1), (3, .inl v3), (4, .inl v4), (5, .inl v5), (6, .inl v6), (9, .inl (mm_w (v9 + (-1))))], [], M181)
    exact nn_go_ext (nn_xc rfl (nn_xc rfl (nn_xc rfl (nn_xc rfl (nn_xc rfl (nn_xc rfl (nn_xc rfl nn_xn))))))) (h n L N C0)
