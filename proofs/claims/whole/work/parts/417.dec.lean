/-! methods walked by program (wip/whole/dec.py) -/
def nr_LI_remove (v1 : Int) (M : mm_M) (R : Int → mm_M → Prop) : Prop := ∀ n, nn_L M → M.1 = n → mm_run 7 mi_LI_remove [.inr (.inr 1), .inl v1] M (nw_I n R)
set_option maxRecDepth 20000 in
theorem ng_LI_remove (v1 : Int) (M : mm_M) (R : Int → mm_M → Prop) (h : (((nf_LI_isKey v1) = 0 → R (-1) M) ∧ ((nf_LI_isKey v1) ≠ 0 → (nr_Store_write 2 3 v1 (-1) M (fun r14 M14 => R r14 M14))))) : nr_LI_remove v1 M R := by
  intro n L N 
  have NN := nn_L_n L N
  show mm_Go (mm_run 6) mc_LI_remove _ (0, [(0, .inr (.inr 1)), (1, .inl v1)], [], M)
  refine mm_s1 rfl ?_
  refine mm_s1 rfl ⟨trivial, ?_⟩
  refine np_LI_isKey (by decide) L N ?_
  show mm_Go (mm_run 6) mc_LI_remove _ (4, [(0, .inr (.inr 1)), (1, .inl v1)], [.inl (nf_LI_isKey v1)], M)
  refine mm_s1 rfl ⟨fun c4 => ?_, fun c4 => ?_⟩
  · show mm_Go (mm_run 6) mc_LI_remove _ (20, [(0, .inr (.inr 1)), (1, .inl v1)], [], M)
    replace h := h.1 c4
    refine mm_s1 rfl ?_
    exact mm_s1 rfl ⟨_, rfl, L, N, h⟩
  · show mm_Go (mm_run 6) mc_LI_remove _ (7, [(0, .inr (.inr 1)), (1, .inl v1)], [], M)
    replace h := h.2 c4
    refine mm_s1 rfl ?_
    refine nn_getr rfl (nn_c1 NN).1 (lf_1_0 L N (nn_c1 NN)) ?_
    refine mm_s1 rfl ?_
    refine mm_s1 rfl ?_
    refine mm_s1 rfl ?_
    show mm_Go (mm_run 6) mc_LI_remove _ (14, [(0, .inr (.inr 1)), (1, .inl v1)], [.inl (-1), .inl v1, .inl 3, .inr (.inr 2)], M)
    refine mm_s1 rfl ⟨(nc_1_0 NN (nn_c1 NN)).1, ?_⟩
    refine nn_call (D := 6) (by decide) (h n L N (nc_1_0 NN (nn_c1 NN))) ?_
    intro v M14 q; clear L N h
    obtain ⟨r14, rfl, L, N, h⟩ := q
    show mm_Go (mm_run 6) mc_LI_remove _ (17, [(0, .inr (.inr 1)), (1, .inl v1)], [.inl r14], M14)
    refine mm_s1 rfl ?_
    show mm_Go (mm_run 6) mc_LI_remove _ (21, [(0, .inr (.inr 1)), (1, .inl v1)], [.inl r14], M14)
    exact mm_s1 rfl ⟨_, rfl, L, N, h⟩
def nr_LI_count (v1 : Int) (M : mm_M) (R : Int → mm_M → Prop) : Prop := ∀ n, nn_L M → M.1 = n → mm_run 7 mi_LI_count [.inr (.inr 1), .inl v1] M (nw_I n R)
set_option maxRecDepth 20000 in
theorem ng_LI_count (v1 : Int) (M : mm_M) (R : Int → mm_M → Prop) (h : ((v1 ≠ 14 → (nr_Store_counted 2 v1 320 M (fun r28 M28 => R r28 M28))) ∧ (v1 = 14 → R (nn_rf M 3 1) M))) : nr_LI_count v1 M R := by
  intro n L N 
  have NN := nn_L_n L N
  show mm_Go (mm_run 6) mc_LI_count _ (0, [(0, .inr (.inr 1)), (1, .inl v1)], [], M)
  refine mm_s1 rfl ?_
  refine mm_s1 rfl ?_
  refine mm_s1 rfl ⟨fun c3 => ?_, fun c3 => ?_⟩
  · show mm_Go (mm_run 6) mc_LI_count _ (19, [(0, .inr (.inr 1)), (1, .inl v1)], [], M)
    replace h := h.1 c3
    refine mm_s1 rfl ?_
    refine nn_getr rfl (nn_c1 NN).1 (lf_1_0 L N (nn_c1 NN)) ?_
    refine mm_s1 rfl ?_
    refine mm_s1 rfl ?_
    refine nn_getr rfl (nn_c1 NN).1 (lf_1_2 L N (nn_c1 NN)) ?_
    show mm_Go (mm_run 6) mc_LI_count _ (28, [(0, .inr (.inr 1)), (1, .inl v1)], [.inr (.inr 320), .inl v1, .inr (.inr 2)], M)
    refine mm_s1 rfl ⟨(nc_1_0 NN (nn_c1 NN)).1, ?_⟩
    refine nn_call (D := 6) (by decide) (h n L N (nc_1_0 NN (nn_c1 NN)) (nc_1_2 NN (nn_c1 NN))) ?_
    intro v M28 q; clear L N h
    obtain ⟨r28, rfl, L, N, h⟩ := q
    show mm_Go (mm_run 6) mc_LI_count _ (31, [(0, .inr (.inr 1)), (1, .inl v1)], [.inl r28], M28)
    exact mm_s1 rfl ⟨_, rfl, L, N, h⟩
  · show mm_Go (mm_run 6) mc_LI_count _ (6, [(0, .inr (.inr 1)), (1, .inl v1)], [], M)
    replace c3 := Decidable.not_not.mp c3
    replace h := h.2 c3
    refine mm_s1 rfl ?_
    refine nn_getr rfl (nn_c1 NN).1 (lf_1_0 L N (nn_c1 NN)) ?_
    refine nn_getr rfl (nc_1_0 NN (nn_c1 NN)).1 (lf_9_0 L N (nc_1_0 NN (nn_c1 NN))) ?_
    refine mm_s1 rfl ⟨(nc_9_0 NN (nc_1_0 NN (nn_c1 NN))).1, ?_⟩
    show mm_Go (mm_run 6) mc_LI_count _ (16, [(0, .inr (.inr 1)), (1, .inl v1)], [.inl (nn_rf M 3 1)], M)
    refine mm_s1 rfl ?_
    show mm_Go (mm_run 6) mc_LI_count _ (31, [(0, .inr (.inr 1)), (1, .inl v1)], [.inl (nn_rf M 3 1)], M)
    exact mm_s1 rfl ⟨_, rfl, L, N, h⟩
def nr_Reader_isWord (v0 : Nat) (v1 : Int) (v2 : Int) (v3 : Nat) (M : mm_M) (R : Int → mm_M → Prop) : Prop := ∀ n, nn_L M → M.1 = n → nn_C 20 v0 n → mm_run 7 mi_Reader_isWord [.inr (.inr v0), .inl v1, .inl v2, .inr (.inr v3)] M (nw_Z n R)
def nk_Reader_isWord_20 (v0 : Nat) (v1 : Int) (v3 : Nat) (v4 : Int) (v5 : Int) (M : mm_M) (R : Int → mm_M → Prop) : Prop := ∀ n, nn_L M → M.1 = n → nn_C 20 v0 n → mm_Go (mm_run 6) mc_Reader_isWord (nw_Z n R) (20, [(0, .inr (.inr v0)), (1, .inl v1), (3, .inr (.inr v3)), (4, .inl v4), (5, .inl v5)], [], M)
set_option maxRecDepth 20000 in
theorem ng_Reader_isWord (v0 : Nat) (v1 : Int) (v2 : Int) (v3 : Nat) (M : mm_M) (R : Int → mm_M → Prop) (h : ((6000 ≤ v3 ∧ v3 < 6005) ∧ (((mm_w (v2 - v1)) ≠ ((mm_strs.getD (v3 - 6000) []).length : Int) → nk_Reader_isWord_20 v0 v1 v3 0 0 M R) ∧ ((mm_w (v2 - v1)) = ((mm_strs.getD (v3 - 6000) []).length : Int) → nk_Reader_isWord_20 v0 v1 v3 1 0 M R)))) : nr_Reader_isWord v0 v1 v2 v3 M R := by
  intro n L N C0
  have NN := nn_L_n L N
  show mm_Go (mm_run 6) mc_Reader_isWord _ (0, [(0, .inr (.inr v0)), (1, .inl v1), (2, .inl v2), (3, .inr (.inr v3))], [], M)
  refine mm_s1 rfl ?_
  refine mm_s1 rfl ?_
  refine mm_s1 rfl ?_
  refine mm_s1 rfl ?_
  obtain ⟨b4, h⟩ := h
  refine mm_s1 rfl ⟨b4, ?_⟩
  refine nn_slen (by decide) b4 ?_
  show mm_Go (mm_run 6) mc_Reader_isWord _ (7, [(0, .inr (.inr v0)), (1, .inl v1), (2, .inl v2), (3, .inr (.inr v3))], [.inl ((mm_strs.getD (v3 - 6000) []).length : Int), .inl (mm_w (v2 - v1))], M)
  refine mm_s1 rfl ⟨fun c7 => ?_, fun c7 => ?_⟩
  · show mm_Go (mm_run 6) mc_Reader_isWord _ (14, [(0, .inr (.inr v0)), (1, .inl v1), (2, .inl v2), (3, .inr (.inr v3))], [], M)
    replace h := h.1 c7
    refine mm_s1 rfl ?_
    refine mm_s1 rfl ?_
    show mm_Go (mm_run 6) mc_Reader_isWord _ (17, [(0, .inr (.inr v0)), (1, .inl v1), (2, .inl v2), (3, .inr (.inr v3)), (4, .inl 0)], [], M)
    refine mm_s1 rfl ?_
    refine mm_s1 rfl ?_
    show mm_Go (mm_run 6) mc_Reader_isWord _ (20, [(0, .inr (.inr v0)), (1, .inl v1), (2, .inl v2), (3, .inr (.inr v3)), (4, .inl 0), (5, .inl 0)], [], M)
    exact nn_go_ext (nn_xc rfl (nn_xc rfl (nn_xc rfl (nn_xc rfl (nn_xc rfl nn_xn))))) (h n L N C0)
  · show mm_Go (mm_run 6) mc_Reader_isWord _ (10, [(0, .inr (.inr v0)), (1, .inl v1), (2, .inl v2), (3, .inr (.inr v3))], [], M)
    replace c7 := Decidable.not_not.mp c7
    replace h := h.2 c7
    refine mm_s1 rfl ?_
    refine mm_s1 rfl ?_
    show mm_Go (mm_run 6) mc_Reader_isWord _ (15, [(0, .inr (.inr v0)), (1, .inl v1), (2, .inl v2), (3, .inr (.inr v3))], [.inl 1], M)
    refine mm_s1 rfl ?_
    show mm_Go (mm_run 6) mc_Reader_isWord _ (17, [(0, .inr (.inr v0)), (1, .inl v1), (2, .inl v2), (3, .inr (.inr v3)), (4, .inl 1)], [], M)
    refine mm_s1 rfl ?_
    refine mm_s1 rfl ?_
    show mm_Go (mm_run 6) mc_Reader_isWord _ (20, [(0, .inr (.inr v0)), (1, .inl v1), (2, .inl v2), (3, .inr (.inr v3)), (4, .inl 1), (5, .inl 0)], [], M)
    exact nn_go_ext (nn_xc rfl (nn_xc rfl (nn_xc rfl (nn_xc rfl (nn_xc rfl nn_xn))))) (h n L N C0)
set_option maxRecDepth 20000 in
theorem ng_Reader_isWord_20 (v0 : Nat) (v1 : Int) (v3 : Nat) (v4 : Int) (v5 : Int) (M : mm_M) (R : Int → mm_M → Prop) (h : ((6000 ≤ v3 ∧ v3 < 6005) ∧ ((((mm_strs.getD (v3 - 6000) []).length : Int) ≤ v5 → ((v4 = 0 ∨ v4 = 1) ∧ R v4 M)) ∧ (v5 < ((mm_strs.getD (v3 - 6000) []).length : Int) → ((v4 = 0 → ((v4 = 0 ∨ v4 = 1) ∧ R v4 M)) ∧ (v4 ≠ 0 → (((0 : Int) ≤ (mm_w (v1 + v5)) ∧ (mm_w (v1 + v5)) < ((mm_kd v0).2 : Int)) ∧ (((6000 ≤ v3 ∧ v3 < 6005) ∧ 0 ≤ v5 ∧ v5 < ((mm_strs.getD (v3 - 6000) []).length : Int)) ∧ (((nn_ri M v0 (mm_w (v1 + v5))) ≠ ((mm_strs.getD (v3 - 6000) []).getD (v5).toNat 0) → nk_Reader_isWord_20 v0 v1 v3 0 (mm_w (v5 + 1)) M R) ∧ ((nn_ri M v0 (mm_w (v1 + v5))) = ((mm_strs.getD (v3 - 6000) []).getD (v5).toNat 0) → nk_Reader_isWord_20 v0 v1 v3 1 (mm_w (v5 + 1)) M R)))))))))) : nk_Reader_isWord_20 v0 v1 v3 v4 v5 M R := by
  intro n L N C0
  have NN := nn_L_n L N
  show mm_Go (mm_run 6) mc_Reader_isWord _ (20, [(0, .inr (.inr v0)), (1, .inl v1), (3, .inr (.inr v3)), (4, .inl v4), (5, .inl v5)], [], M)
  refine mm_s1 rfl ?_
  refine mm_s1 rfl ?_
  obtain ⟨b23, h⟩ := h
  refine mm_s1 rfl ⟨b23, ?_⟩
  refine nn_slen (by decide) b23 ?_
  show mm_Go (mm_run 6) mc_Reader_isWord _ (26, [(0, .inr (.inr v0)), (1, .inl v1), (3, .inr (.inr v3)), (4, .inl v4), (5, .inl v5)], [.inl ((mm_strs.getD (v3 - 6000) []).length : Int), .inl v5], M)
  refine mm_s1 rfl ⟨fun c26 => ?_, fun c26 => ?_⟩
  · show mm_Go (mm_run 6) mc_Reader_isWord _ (62, [(0, .inr (.inr v0)), (1, .inl v1), (3, .inr (.inr v3)), (4, .inl v4), (5, .inl v5)], [], M)
    replace h := h.1 c26
    refine mm_s1 rfl ?_
    obtain ⟨b64, h⟩ := h
    exact mm_s1 rfl ⟨b64, _, rfl, b64, L, N, h⟩
  · show mm_Go (mm_run 6) mc_Reader_isWord _ (29, [(0, .inr (.inr v0)), (1, .inl v1), (3, .inr (.inr v3)), (4, .inl v4), (5, .inl v5)], [], M)
    replace c26 := Int.not_le.mp c26
    replace h := h.2 c26
    refine mm_s1 rfl ?_
    refine mm_s1 rfl ⟨fun c31 => ?_, fun c31 => ?_⟩
    · show mm_Go (mm_run 6) mc_Reader_isWord _ (62, [(0, .inr (.inr v0)), (1, .inl v1), (3, .inr (.inr v3)), (4, .inl v4), (5, .inl v5)], [], M)
      replace h := h.1 c31
      refine mm_s1 rfl ?_
      obtain ⟨b64, h⟩ := h
      exact mm_s1 rfl ⟨b64, _, rfl, b64, L, N, h⟩
    · show mm_Go (mm_run 6) mc_Reader_isWord _ (34, [(0, .inr (.inr v0)), (1, .inl v1), (3, .inr (.inr v3)), (4, .inl v4), (5, .inl v5)], [], M)
      replace h := h.2 c31
      refine mm_s1 rfl ?_
      refine mm_s1 rfl ?_
      refine mm_s1 rfl ?_
      refine mm_s1 rfl ?_
      obtain ⟨b39, h⟩ := h
      refine mm_s1 rfl ⟨⟨C0.1, b39⟩, ?_⟩
      show mm_Go (mm_run 6) mc_Reader_isWord _ (40, [(0, .inr (.inr v0)), (1, .inl v1), (3, .inr (.inr v3)), (4, .inl v4), (5, .inl v5)], [.inl (nn_ri M v0 (mm_w (v1 + v5)))], M)
      refine mm_s1 rfl ?_
      refine mm_s1 rfl ?_
      obtain ⟨b43, h⟩ := h
      refine mm_s1 rfl ⟨b43.1, ?_⟩
      refine nn_schr (by decide) b43 ?_
      show mm_Go (mm_run 6) mc_Reader_isWord _ (46, [(0, .inr (.inr v0)), (1, .inl v1), (3, .inr (.inr v3)), (4, .inl v4), (5, .inl v5)], [.inl ((mm_strs.getD (v3 - 6000) []).getD (v5).toNat 0), .inl (nn_ri M v0 (mm_w (v1 + v5)))], M)
      refine mm_s1 rfl ⟨fun c46 => ?_, fun c46 => ?_⟩
      · show mm_Go (mm_run 6) mc_Reader_isWord _ (53, [(0, .inr (.inr v0)), (1, .inl v1), (3, .inr (.inr v3)), (4, .inl v4), (5, .inl v5)], [], M)
        replace h := h.1 c46
        refine mm_s1 rfl ?_
        refine mm_s1 rfl ?_
        show mm_Go (mm_run 6) mc_Reader_isWord _ (56, [(0, .inr (.inr v0)), (1, .inl v1), (3, .inr (.inr v3)), (4, .inl 0), (5, .inl v5)], [], M)
        refine mm_s1 rfl ?_
        show mm_Go (mm_run 6) mc_Reader_isWord _ (59, [(0, .inr (.inr v0)), (1, .inl v1), (3, .inr (.inr v3)), (4, .inl 0), (5, .inl (mm_w (v5 + 1)))], [], M)
        refine mm_s1 rfl ?_
        show mm_Go (mm_run 6) mc_Reader_isWord _ (20, [(0, .inr (.inr v0)), (1, .inl v1), (3, .inr (.inr v3)), (4, .inl 0), (5, .inl (mm_w (v5 + 1)))], [], M)
        exact nn_go_ext (nn_xc rfl (nn_xc rfl (nn_xc rfl (nn_xc rfl (nn_xc rfl nn_xn))))) (h n L N C0)
      · show mm_Go (mm_run 6) mc_Reader_isWord _ (49, [(0, .inr (.inr v0)), (1, .inl v1), (3, .inr (.inr v3)), (4, .inl v4), (5, .inl v5)], [], M)
        replace c46 := Decidable.not_not.mp c46
        replace h := h.2 c46
        refine mm_s1 rfl ?_
        refine mm_s1 rfl ?_
        show mm_Go (mm_run 6) mc_Reader_isWord _ (54, [(0, .inr (.inr v0)), (1, .inl v1), (3, .inr (.inr v3)), (4, .inl v4), (5, .inl v5)], [.inl 1], M)
        refine mm_s1 rfl ?_
        show mm_Go (mm_run 6) mc_Reader_isWord _ (56, [(0, .inr (.inr v0)), (1, .inl v1), (3, .inr (.inr v3)), (4, .inl 1), (5, .inl v5)], [], M)
        refine mm_s1 rfl ?_
        show mm_Go (mm_run 6) mc_Reader_isWord _ (59, [(0, .inr (.inr v0)), (1, .inl v1), (3, .inr (.inr v3)), (4, .inl 1), (5, .inl (mm_w (v5 + 1)))], [], M)
        refine mm_s1 rfl ?_
        show mm_Go (mm_run 6) mc_Reader_isWord _ (20, [(0, .inr (.inr v0)), (1, .inl v1), (3, .inr (.inr v3)), (4, .inl 1), (5, .inl (mm_w (v5 + 1)))], [], M)
        exact nn_go_ext (nn_xc rfl (nn_xc rfl (nn_xc rfl (nn_xc rfl (nn_xc rfl nn_xn))))) (h n L N C0)
def nr_Store_loaded (v0 : Nat) (v1 : Int) (v2 : Int) (M : mm_M) (R : Int → mm_M → Prop) : Prop := ∀ n, nn_L M → M.1 = n → nn_C 9 v0 n → mm_run 7 mi_Store_loaded [.inr (.inr v0), .inl v1, .inl v2] M (nw_I n R)
def nk_Store_loaded_13 (v0 : Nat) (v2 : Int) (v3 : Int) (v4 : Int) (M : mm_M) (R : Int → mm_M → Prop) : Prop := ∀ n, nn_L M → M.1 = n → nn_C 9 v0 n → mm_Go (mm_run 6) mc_Store_loaded (nw_I n R) (13, [(0, .inr (.inr v0)), (2, .inl v2), (3, .inl v3), (4, .inl v4)], [], M)
set_option maxRecDepth 20000 in
theorem ng_Store_loaded (v0 : Nat) (v1 : Int) (v2 : Int) (M : mm_M) (R : Int → mm_M → Prop) (h : (∀ M7 : mm_M, M7 = nn_uf M v0 13 v1 → nk_Store_loaded_13 v0 v2 (nn_rf M v0 11) 0 M7 R)) : nr_Store_loaded v0 v1 v2 M R := by
  intro n L N C0
  have NN := nn_L_n L N
  show mm_Go (mm_run 6) mc_Store_loaded _ (0, [(0, .inr (.inr v0)), (1, .inl v1), (2, .inl v2)], [], M)
  refine mm_s1 rfl ?_
  refine mm_s1 rfl ⟨C0.1, ?_⟩
  show mm_Go (mm_run 6) mc_Store_loaded _ (4, [(0, .inr (.inr v0)), (1, .inl v1), (2, .inl v2)], [.inl (nn_rf M v0 11)], M)
  refine mm_s1 rfl ?_
  show mm_Go (mm_run 6) mc_Store_loaded _ (5, [(0, .inr (.inr v0)), (1, .inl v1), (2, .inl v2), (3, .inl (nn_rf M v0 11))], [], M)
  refine mm_s1 rfl ?_
  refine mm_s1 rfl ?_
  refine mm_s1 rfl ⟨C0.1, ?_⟩
  show mm_Go (mm_run 6) mc_Store_loaded _ (10, [(0, .inr (.inr v0)), (1, .inl v1), (2, .inl v2), (3, .inl (nn_rf M v0 11))], [], (nn_uf M v0 13 v1))
  have L : nn_L (nn_uf M v0 13 v1) := nn_L_up L C0.1 rfl
  have N : (nn_uf M v0 13 v1).1 = n := N
  generalize e_M7 : (nn_uf M v0 13 v1) = M7 at L N ⊢
  replace h := h _ e_M7.symm
  show mm_Go (mm_run 6) mc_Store_loaded _ (10, [(0, .inr (.inr v0)), (1, .inl v1), (2, .inl v2), (3, .inl (nn_rf M v0 11))], [], M7)
  refine mm_s1 rfl ?_
  refine mm_s1 rfl ?_
  show mm_Go (mm_run 6) mc_Store_loaded _ (13, [(0, .inr (.inr v0)), (1, .inl v1), (2, .inl v2), (3, .inl (nn_rf M v0 11)), (4, .inl 0)], [], M7)
  exact nn_go_ext (nn_xc rfl (nn_xc rfl (nn_xc rfl (nn_xc rfl nn_xn)))) (h n L N C0)
set_option maxRecDepth 20000 in
theorem ng_Store_loaded_13 (v0 : Nat) (v2 : Int) (v3 : Int) (v4 : Int) (M : mm_M) (R : Int → mm_M → Prop) (h : ((v2 ≤ v4 → R (mm_w ((nn_rf M v0 11) - v3)) M) ∧ (v4 < v2 → (nr_Store_drawn v0 8 M (fun r22 M22 => (nr_Store_drawn v0 32 M22 (fun r30 M30 => ((r22 ≠ 0 → ((r22 ≠ 1 → (nr_Store_drawn v0 16 M30 (fun r93 M93 => (nr_Store_drawn v0 16 M93 (fun r101 M101 => (nr_Store_drawn v0 16 M101 (fun r109 M109 => (nr_Store_drawn v0 16 M109 (fun r127 M127 => (nr_Store_write v0 0 r30 (nf_LI_packed r93 r101 r109 r127) M127 (fun r133 M133 => nk_Store_loaded_13 v0 v2 v3 (mm_w (v4 + 1)) M133 R))))))))))) ∧ (r22 = 1 → (nr_Store_drawn v0 4 M30 (fun r60 M60 => (nr_Store_drawn v0 16 M60 (fun r77 M77 => ((nc_Store_changed v0 r30 r60 r77 M77) ∧ (nr_Store_write v0 1 r30 (nf_Store_changed v0 r30 r60 r77 M77) M77 (fun r83 M83 => nk_Store_loaded_13 v0 v2 v3 (mm_w (v4 + 1)) M83 R)))))))))) ∧ (r22 = 0 → (nr_Store_write v0 3 r30 (-1) M30 (fun r45 M45 => nk_Store_loaded_13 v0 v2 v3 (mm_w (v4 + 1)) M45 R))))))))))) : nk_Store_loaded_13 v0 v2 v3 v4 M R := by
  intro n L N C0
  have NN := nn_L_n L N
  show mm_Go (mm_run 6) mc_Store_loaded _ (13, [(0, .inr (.inr v0)), (2, .inl v2), (3, .inl v3), (4, .inl v4)], [], M)
  refine mm_s1 rfl ?_
  refine mm_s1 rfl ?_
  refine mm_s1 rfl ⟨fun c16 => ?_, fun c16 => ?_⟩
  · show mm_Go (mm_run 6) mc_Store_loaded _ (143, [(0, .inr (.inr v0)), (2, .inl v2), (3, .inl v3), (4, .inl v4)], [], M)
    replace h := h.1 c16
    refine mm_s1 rfl ?_
    refine mm_s1 rfl ⟨C0.1, ?_⟩
    show mm_Go (mm_run 6) mc_Store_loaded _ (147, [(0, .inr (.inr v0)), (2, .inl v2), (3, .inl v3), (4, .inl v4)], [.inl (nn_rf M v0 11)], M)
    refine mm_s1 rfl ?_
    refine mm_s1 rfl ?_
    exact mm_s1 rfl ⟨_, rfl, L, N, h⟩
  · show mm_Go (mm_run 6) mc_Store_loaded _ (19, [(0, .inr (.inr v0)), (2, .inl v2), (3, .inl v3), (4, .inl v4)], [], M)
    replace c16 := Int.not_le.mp c16
    replace h := h.2 c16
    refine mm_s1 rfl ?_
    refine mm_s1 rfl ?_
    refine mm_s1 rfl ⟨C0.1, ?_⟩
    refine nn_call (D := 1) (by decide) (h n L N C0) ?_
    intro v M22 q; clear L N h
    obtain ⟨r22, rfl, L, N, h⟩ := q
    show mm_Go (mm_run 6) mc_Store_loaded _ (25, [(0, .inr (.inr v0)), (2, .inl v2), (3, .inl v3), (4, .inl v4)], [.inl r22], M22)
    refine mm_s1 rfl ?_
    show mm_Go (mm_run 6) mc_Store_loaded _ (27, [(0, .inr (.inr v0)), (2, .inl v2), (3, .inl v3), (4, .inl v4), (5, .inl r22)], [], M22)
    refine mm_s1 rfl ?_
    refine mm_s1 rfl ?_
    refine mm_s1 rfl ⟨C0.1, ?_⟩
    refine nn_call (D := 1) (by decide) (h n L N C0) ?_
    intro v M30 q; clear L N h
    obtain ⟨r30, rfl, L, N, h⟩ := q
    show mm_Go (mm_run 6) mc_Store_loaded _ (33, [(0, .inr (.inr v0)), (2, .inl v2), (3, .inl v3), (4, .inl v4), (5, .inl r22)], [.inl r30], M30)
    refine mm_s1 rfl ?_
    show mm_Go (mm_run 6) mc_Store_loaded _ (35, [(0, .inr (.inr v0)), (2, .inl v2), (3, .inl v3), (4, .inl v4), (5, .inl r22), (6, .inl r30)], [], M30)
    refine mm_s1 rfl ?_
    refine mm_s1 rfl ⟨fun c37 => ?_, fun c37 => ?_⟩
    · show mm_Go (mm_run 6) mc_Store_loaded _ (52, [(0, .inr (.inr v0)), (2, .inl v2), (3, .inl v3), (4, .inl v4), (5, .inl r22), (6, .inl r30)], [], M30)
      replace h := h.1 c37
      refine mm_s1 rfl ?_
      refine mm_s1 rfl ?_
      refine mm_s1 rfl ⟨fun c55 => ?_, fun c55 => ?_⟩
      · show mm_Go (mm_run 6) mc_Store_loaded _ (90, [(0, .inr (.inr v0)), (2, .inl v2), (3, .inl v3), (4, .inl v4), (5, .inl r22), (6, .inl r30)], [], M30)
        replace h := h.1 c55
        refine mm_s1 rfl ?_
        refine mm_s1 rfl ?_
        refine mm_s1 rfl ⟨C0.1, ?_⟩
        refine nn_call (D := 1) (by decide) (h n L N C0) ?_
        intro v M93 q; clear L N h
        obtain ⟨r93, rfl, L, N, h⟩ := q
        show mm_Go (mm_run 6) mc_Store_loaded _ (96, [(0, .inr (.inr v0)), (2, .inl v2), (3, .inl v3), (4, .inl v4), (5, .inl r22), (6, .inl r30)], [.inl r93], M93)
        refine mm_s1 rfl ?_
        show mm_Go (mm_run 6) mc_Store_loaded _ (98, [(0, .inr (.inr v0)), (2, .inl v2), (3, .inl v3), (4, .inl v4), (5, .inl r22), (6, .inl r30), (7, .inl r93)], [], M93)
        refine mm_s1 rfl ?_
        refine mm_s1 rfl ?_
        refine mm_s1 rfl ⟨C0.1, ?_⟩
        refine nn_call (D := 1) (by decide) (h n L N C0) ?_
        intro v M101 q; clear L N h
        obtain ⟨r101, rfl, L, N, h⟩ := q
        show mm_Go (mm_run 6) mc_Store_loaded _ (104, [(0, .inr (.inr v0)), (2, .inl v2), (3, .inl v3), (4, .inl v4), (5, .inl r22), (6, .inl r30), (7, .inl r93)], [.inl r101], M101)
        refine mm_s1 rfl ?_
        show mm_Go (mm_run 6) mc_Store_loaded _ (106, [(0, .inr (.inr v0)), (2, .inl v2), (3, .inl v3), (4, .inl v4), (5, .inl r22), (6, .inl r30), (7, .inl r93), (8, .inl r101)], [], M101)
        refine mm_s1 rfl ?_
        refine mm_s1 rfl ?_
        refine mm_s1 rfl ⟨C0.1, ?_⟩
        refine nn_call (D := 1) (by decide) (h n L N C0) ?_
        intro v M109 q; clear L N h
        obtain ⟨r109, rfl, L, N, h⟩ := q
        show mm_Go (mm_run 6) mc_Store_loaded _ (112, [(0, .inr (.inr v0)), (2, .inl v2), (3, .inl v3), (4, .inl v4), (5, .inl r22), (6, .inl r30), (7, .inl r93), (8, .inl r101)], [.inl r109], M109)
        refine mm_s1 rfl ?_
        show mm_Go (mm_run 6) mc_Store_loaded _ (114, [(0, .inr (.inr v0)), (2, .inl v2), (3, .inl v3), (4, .inl v4), (5, .inl r22), (6, .inl r30), (7, .inl r93), (8, .inl r101), (9, .inl r109)], [], M109)
        refine mm_s1 rfl ?_
        refine mm_s1 rfl ?_
        refine mm_s1 rfl ?_
        refine mm_s1 rfl ?_
        refine mm_s1 rfl ?_
        show mm_Go (mm_run 6) mc_Store_loaded _ (122, [(0, .inr (.inr v0)), (2, .inl v2), (3, .inl v3), (4, .inl v4), (5, .inl r22), (6, .inl r30), (7, .inl r93), (8, .inl r101), (9, .inl r109)], [.inl r101, .inl r93, .inl r30, .inl 0, .inr (.inr v0)], M109)
        refine mm_s1 rfl ?_
        refine mm_s1 rfl ?_
        refine mm_s1 rfl ?_
        refine mm_s1 rfl ⟨C0.1, ?_⟩
        refine nn_call (D := 1) (by decide) (h n L N C0) ?_
        intro v M127 q; clear L N h
        obtain ⟨r127, rfl, L, N, h⟩ := q
        show mm_Go (mm_run 6) mc_Store_loaded _ (130, [(0, .inr (.inr v0)), (2, .inl v2), (3, .inl v3), (4, .inl v4), (5, .inl r22), (6, .inl r30), (7, .inl r93), (8, .inl r101), (9, .inl r109)], [.inl r127, .inl r109, .inl r101, .inl r93, .inl r30, .inl 0, .inr (.inr v0)], M127)
        refine mm_s1 rfl ⟨trivial, ?_⟩
        refine np_LI_packed (by decide) L N ?_
        show mm_Go (mm_run 6) mc_Store_loaded _ (133, [(0, .inr (.inr v0)), (2, .inl v2), (3, .inl v3), (4, .inl v4), (5, .inl r22), (6, .inl r30), (7, .inl r93), (8, .inl r101), (9, .inl r109)], [.inl (nf_LI_packed r93 r101 r109 r127), .inl r30, .inl 0, .inr (.inr v0)], M127)
        refine mm_s1 rfl ⟨C0.1, ?_⟩
        refine nn_call (D := 6) (by decide) (h n L N C0) ?_
        intro v M133 q; clear L N h
        obtain ⟨r133, rfl, L, N, h⟩ := q
        show mm_Go (mm_run 6) mc_Store_loaded _ (136, [(0, .inr (.inr v0)), (2, .inl v2), (3, .inl v3), (4, .inl v4), (5, .inl r22), (6, .inl r30), (7, .inl r93), (8, .inl r101), (9, .inl r109)], [.inl r133], M133)
        refine mm_s1 rfl ?_
        refine mm_s1 rfl ?_
        show mm_Go (mm_run 6) mc_Store_loaded _ (140, [(0, .inr (.inr v0)), (2, .inl v2), (3, .inl v3), (4, .inl (mm_w (v4 + 1))), (5, .inl r22), (6, .inl r30), (7, .inl r93), (8, .inl r101), (9, .inl r109)], [], M133)
        refine mm_s1 rfl ?_
        show mm_Go (mm_run 6) mc_Store_loaded _ (13, [(0, .inr (.inr v0)), (2, .inl v2), (3, .inl v3), (4, .inl (mm_w (v4 + 1))), (5, .inl r22), (6, .inl r30), (7, .inl r93), (8, .inl r101), (9, .inl r109)], [], M133)
        exact nn_go_ext (nn_xc rfl (nn_xc rfl (nn_xc rfl (nn_xc rfl nn_xn)))) (h n L N C0)
      · show mm_Go (mm_run 6) mc_Store_loaded _ (58, [(0, .inr (.inr v0)), (2, .inl v2), (3, .inl v3), (4, .inl v4), (5, .inl r22), (6, .inl r30)], [], M30)
        replace c55 := Decidable.not_not.mp c55
        replace h := h.2 c55
        refine mm_s1 rfl ?_
        refine mm_s1 rfl ?_
        refine mm_s1 rfl ⟨C0.1, ?_⟩
        refine nn_call (D := 1) (by decide) (h n L N C0) ?_
        intro v M60 q; clear L N h
        obtain ⟨r60, rfl, L, N, h⟩ := q
        show mm_Go (mm_run 6) mc_Store_loaded _ (63, [(0, .inr (.inr v0)), (2, .inl v2), (3, .inl v3), (4, .inl v4), (5, .inl r22), (6, .inl r30)], [.inl r60], M60)
        refine mm_s1 rfl ?_
        show mm_Go (mm_run 6) mc_Store_loaded _ (65, [(0, .inr (.inr v0)), (2, .inl v2), (3, .inl v3), (4, .inl v4), (5, .inl r22), (6, .inl r30), (7, .inl r60)], [], M60)
        refine mm_s1 rfl ?_
        refine mm_s1 rfl ?_
        refine mm_s1 rfl ?_
        refine mm_s1 rfl ?_
        refine mm_s1 rfl ?_
        show mm_Go (mm_run 6) mc_Store_loaded _ (72, [(0, .inr (.inr v0)), (2, .inl v2), (3, .inl v3), (4, .inl v4), (5, .inl r22), (6, .inl r30), (7, .inl r60)], [.inl r30, .inr (.inr v0), .inl r30, .inl 1, .inr (.inr v0)], M60)
        refine mm_s1 rfl ?_
        refine mm_s1 rfl ?_
        refine mm_s1 rfl ?_
        refine mm_s1 rfl ⟨C0.1, ?_⟩
        refine nn_call (D := 1) (by decide) (h n L N C0) ?_
        intro v M77 q; clear L N h
        obtain ⟨r77, rfl, L, N, h⟩ := q
        show mm_Go (mm_run 6) mc_Store_loaded _ (80, [(0, .inr (.inr v0)), (2, .inl v2), (3, .inl v3), (4, .inl v4), (5, .inl r22), (6, .inl r30), (7, .inl r60)], [.inl r77, .inl r60, .inl r30, .inr (.inr v0), .inl r30, .inl 1, .inr (.inr v0)], M77)
        obtain ⟨b80, h⟩ := h
        refine mm_s1 rfl ⟨C0.1, ?_⟩
        refine np_Store_changed (by decide) L N C0 b80 ?_
        show mm_Go (mm_run 6) mc_Store_loaded _ (83, [(0, .inr (.inr v0)), (2, .inl v2), (3, .inl v3), (4, .inl v4), (5, .inl r22), (6, .inl r30), (7, .inl r60)], [.inl (nf_Store_changed v0 r30 r60 r77 M77), .inl r30, .inl 1, .inr (.inr v0)], M77)
        refine mm_s1 rfl ⟨C0.1, ?_⟩
        refine nn_call (D := 6) (by decide) (h n L N C0) ?_
        intro v M83 q; clear L N h
        obtain ⟨r83, rfl, L, N, h⟩ := q
        show mm_Go (mm_run 6) mc_Store_loaded _ (86, [(0, .inr (.inr v0)), (2, .inl v2), (3, .inl v3), (4, .inl v4), (5, .inl r22), (6, .inl r30), (7, .inl r60)], [.inl r83], M83)
        refine mm_s1 rfl ?_
        refine mm_s1 rfl ?_
        show mm_Go (mm_run 6) mc_Store_loaded _ (137, [(0, .inr (.inr v0)), (2, .inl v2), (3, .inl v3), (4, .inl v4), (5, .inl r22), (6, .inl r30), (7, .inl r60)], [], M83)
        refine mm_s1 rfl ?_
        show mm_Go (mm_run 6) mc_Store_loaded _ (140, [(0, .inr (.inr v0)), (2, .inl v2), (3, .inl v3), (4, .inl (mm_w (v4 + 1))), (5, .inl r22), (6, .inl r30), (7, .inl r60)], [], M83)
        refine mm_s1 rfl ?_
        show mm_Go (mm_run 6) mc_Store_loaded _ (13, [(0, .inr (.inr v0)), (2, .inl v2), (3, .inl v3), (4, .inl (mm_w (v4 + 1))), (5, .inl r22), (6, .inl r30), (7, .inl r60)], [], M83)
        exact nn_go_ext (nn_xc rfl (nn_xc rfl (nn_xc rfl (nn_xc rfl nn_xn)))) (h n L N C0)
    · show mm_Go (mm_run 6) mc_Store_loaded _ (40, [(0, .inr (.inr v0)), (2, .inl v2), (3, .inl v3), (4, .inl v4), (5, .inl r22), (6, .inl r30)], [], M30)
      replace c37 := Decidable.not_not.mp c37
      replace h := h.2 c37
      refine mm_s1 rfl ?_
      refine mm_s1 rfl ?_
      refine mm_s1 rfl ?_
      refine mm_s1 rfl ?_
      refine mm_s1 rfl ⟨C0.1, ?_⟩
      refine nn_call (D := 6) (by decide) (h n L N C0) ?_
      intro v M45 q; clear L N h
      obtain ⟨r45, rfl, L, N, h⟩ := q
      show mm_Go (mm_run 6) mc_Store_loaded _ (48, [(0, .inr (.inr v0)), (2, .inl v2), (3, .inl v3), (4, .inl v4), (5, .inl r22), (6, .inl r30)], [.inl r45], M45)
      refine mm_s1 rfl ?_
      refine mm_s1 rfl ?_
      show mm_Go (mm_run 6) mc_Store_loaded _ (137, [(0, .inr (.inr v0)), (2, .inl v2), (3, .inl v3), (4, .inl v4), (5, .inl r22), (6, .inl r30)], [], M45)
      refine mm_s1 rfl ?_
      show mm_Go (mm_run 6) mc_Store_loaded _ (140, [(0, .inr (.inr v0)), (2, .inl v2), (3, .inl v3), (4, .inl (mm_w (v4 + 1))), (5, .inl r22), (6, .inl r30)], [], M45)
      refine mm_s1 rfl ?_
      show mm_Go (mm_run 6) mc_Store_loaded _ (13, [(0, .inr (.inr v0)), (2, .inl v2), (3, .inl v3), (4, .inl (mm_w (v4 + 1))), (5, .inl r22), (6, .inl r30)], [], M45)
      exact nn_go_ext (nn_xc rfl (nn_xc rfl (nn_xc rfl (nn_xc rfl nn_xn)))) (h n L N C0)
def nr_M_mergesAll (v1 : Int) (v2 : Int) (M : mm_M) (R : mm_M → Prop) : Prop := ∀ n, nn_L M → M.1 = n → mm_run 7 mi_M_mergesAll [.inr (.inr 407), .inl v1, .inl v2] M (nw_V n R)
def nk_M_mergesAll_22 (v1 : Int) (v2 : Int) (v3 : Int) (v4 : Int) (M : mm_M) (R : mm_M → Prop) : Prop := ∀ n, nn_L M → M.1 = n → mm_Go (mm_run 6) mc_M_mergesAll (nw_V n R) (22, [(0, .inr (.inr 407)), (1, .inl v1), (2, .inl v2), (3, .inl v3), (4, .inl v4)], [], M)
set_option maxRecDepth 20000 in
theorem ng_M_mergesAll (v1 : Int) (v2 : Int) (M : mm_M) (R : mm_M → Prop) (h : ((0 ≤ v2 → (nr_M_alike v1 (nf_M_at v1 v2) M (fun r17 M17 => nk_M_mergesAll_22 v1 v2 (nf_M_at v1 v2) r17 M17 R))) ∧ (v2 < 0 → (nr_M_alike v1 (-1) M (fun r17 M17 => nk_M_mergesAll_22 v1 v2 (-1) r17 M17 R))))) : nr_M_mergesAll v1 v2 M R := by
  intro n L N 
  have NN := nn_L_n L N
  show mm_Go (mm_run 6) mc_M_mergesAll _ (0, [(0, .inr (.inr 407)), (1, .inl v1), (2, .inl v2)], [], M)
  refine mm_s1 rfl ?_
  refine mm_s1 rfl ⟨fun c1 => ?_, fun c1 => ?_⟩
  · show mm_Go (mm_run 6) mc_M_mergesAll _ (8, [(0, .inr (.inr 407)), (1, .inl v1), (2, .inl v2)], [], M)
    replace h := h.1 c1
    refine mm_s1 rfl ?_
    refine mm_s1 rfl ?_
    refine mm_s1 rfl ⟨trivial, ?_⟩
    refine np_M_at (by decide) L N ?_
    show mm_Go (mm_run 6) mc_M_mergesAll _ (13, [(0, .inr (.inr 407)), (1, .inl v1), (2, .inl v2)], [.inl (nf_M_at v1 v2)], M)
    refine mm_s1 rfl ?_
    show mm_Go (mm_run 6) mc_M_mergesAll _ (14, [(0, .inr (.inr 407)), (1, .inl v1), (2, .inl v2), (3, .inl (nf_M_at v1 v2))], [], M)
    refine mm_s1 rfl ?_
    refine mm_s1 rfl ?_
    refine mm_s1 rfl ?_
    refine mm_s1 rfl ⟨(nn_c407 NN).1, ?_⟩
    refine nn_call (D := 3) (by decide) (h n L N) ?_
    intro v M17 q; clear L N h
    obtain ⟨r17, rfl, L, N, h⟩ := q
    show mm_Go (mm_run 6) mc_M_mergesAll _ (20, [(0, .inr (.inr 407)), (1, .inl v1), (2, .inl v2), (3, .inl (nf_M_at v1 v2))], [.inl r17], M17)
    refine mm_s1 rfl ?_
    show mm_Go (mm_run 6) mc_M_mergesAll _ (22, [(0, .inr (.inr 407)), (1, .inl v1), (2, .inl v2), (3, .inl (nf_M_at v1 v2)), (4, .inl r17)], [], M17)
    exact nn_go_ext (nn_xc rfl (nn_xc rfl (nn_xc rfl (nn_xc rfl (nn_xc rfl nn_xn))))) (h n L N)
  · show mm_Go (mm_run 6) mc_M_mergesAll _ (4, [(0, .inr (.inr 407)), (1, .inl v1), (2, .inl v2)], [], M)
    replace c1 := Int.not_le.mp c1
    replace h := h.2 c1
    refine mm_s1 rfl ?_
    refine mm_s1 rfl ?_
    show mm_Go (mm_run 6) mc_M_mergesAll _ (13, [(0, .inr (.inr 407)), (1, .inl v1), (2, .inl v2)], [.inl (-1)], M)
    refine mm_s1 rfl ?_
    show mm_Go (mm_run 6) mc_M_mergesAll _ (14, [(0, .inr (.inr 407)), (1, .inl v1), (2, .inl v2), (3, .inl (-1))], [], M)
    refine mm_s1 rfl ?_
    refine mm_s1 rfl ?_
    refine mm_s1 rfl ?_
    refine mm_s1 rfl ⟨(nn_c407 NN).1, ?_⟩
    refine nn_call (D := 3) (by decide) (h n L N) ?_
    intro v M17 q; clear L N h
    obtain ⟨r17, rfl, L, N, h⟩ := q
    show mm_Go (mm_run 6) mc_M_mergesAll _ (20, [(0, .inr (.inr 407)), (1, .inl v1), (2, .inl v2), (3, .inl (-1))], [.inl r17], M17)
    refine mm_s1 rfl ?_
    show mm_Go (mm_run 6) mc_M_mergesAll _ (22, [(0, .inr (.inr 407)), (1, .inl v1), (2, .inl v2), (3, .inl (-1)), (4, .inl r17)], [], M17)
    exact nn_go_ext (nn_xc rfl (nn_xc rfl (nn_xc rfl (nn_xc rfl (nn_xc rfl nn_xn))))) (h n L N)
set_option maxRecDepth 20000 in
theorem ng_M_mergesAll_22 (v1 : Int) (v2 : Int) (v3 : Int) (v4 : Int) (M : mm_M) (R : mm_M → Prop) (h : ((v4 < 0 → ((0 ≤ v3 → (((0 : Int) ≤ (mm_w (v3 + 5)) ∧ (mm_w (v3 + 5)) < (32844 : Int)) ∧ (((nn_ri M 408 (mm_w (v3 + 5))) ≤ 20 → R M) ∧ (20 < (nn_ri M 408 (mm_w (v3 + 5))) → (nr_M_topLevel v1 v3 0 (nn_ri M 408 (mm_w (v3 + 5))) M (fun r108 M108 => (nr_M_merges v1 v2 0 (nn_ri M 408 (mm_w (v3 + 5))) (mm_w (r108 + 1)) M108 (fun M113 => R M113)))))))) ∧ (v3 < 0 → (((0 : Int) ≤ (mm_w (v1 + 5)) ∧ (mm_w (v1 + 5)) < (32844 : Int)) ∧ (((nn_ri M 408 (mm_w (v1 + 5))) ≤ 20 → R M) ∧ (20 < (nn_ri M 408 (mm_w (v1 + 5))) → (nr_M_topLevel v1 v3 0 (nn_ri M 408 (mm_w (v1 + 5))) M (fun r108 M108 => (nr_M_merges v1 v2 0 (nn_ri M 408 (mm_w (v1 + 5))) (mm_w (r108 + 1)) M108 (fun M113 => R M113)))))))))) ∧ (0 ≤ v4 → (((0 : Int) ≤ (mm_w (v1 + 4)) ∧ (mm_w (v1 + 4)) < (32844 : Int)) ∧ ((nc_M_levelOf v1 v3 v4 M) ∧ (nr_M_merges v1 v2 v4 (nn_ri M 408 (mm_w (v1 + 4))) (mm_w ((nf_M_levelOf v1 v3 v4 M) + 1)) M (fun M50 => (nr_M_alike v1 v3 M50 (fun r56 M56 => nk_M_mergesAll_22 v1 v2 v3 r56 M56 R))))))))) : nk_M_mergesAll_22 v1 v2 v3 v4 M R := by
  intro n L N 
  have NN := nn_L_n L N
  show mm_Go (mm_run 6) mc_M_mergesAll _ (22, [(0, .inr (.inr 407)), (1, .inl v1), (2, .inl v2), (3, .inl v3), (4, .inl v4)], [], M)
  refine mm_s1 rfl ?_
  refine mm_s1 rfl ⟨fun c24 => ?_, fun c24 => ?_⟩
  · show mm_Go (mm_run 6) mc_M_mergesAll _ (64, [(0, .inr (.inr 407)), (1, .inl v1), (2, .inl v2), (3, .inl v3), (4, .inl v4)], [], M)
    replace h := h.1 c24
    refine mm_s1 rfl ?_
    refine mm_s1 rfl ⟨fun c65 => ?_, fun c65 => ?_⟩
    · show mm_Go (mm_run 6) mc_M_mergesAll _ (79, [(0, .inr (.inr 407)), (1, .inl v1), (2, .inl v2), (3, .inl v3), (4, .inl v4)], [], M)
      replace h := h.1 c65
      refine mm_s1 rfl ?_
      refine nn_getr rfl (nn_c407 NN).1 (lf_13_0 L N (nn_c407 NN)) ?_
      refine mm_s1 rfl ?_
      refine mm_s1 rfl ?_
      refine mm_s1 rfl ?_
      show mm_Go (mm_run 6) mc_M_mergesAll _ (86, [(0, .inr (.inr 407)), (1, .inl v1), (2, .inl v2), (3, .inl v3), (4, .inl v4)], [.inl (mm_w (v3 + 5)), .inr (.inr 408)], M)
      obtain ⟨b86, h⟩ := h
      refine mm_s1 rfl ⟨nn_bd (na_13_0 NN (nn_c407 NN)) b86, ?_⟩
      show mm_Go (mm_run 6) mc_M_mergesAll _ (87, [(0, .inr (.inr 407)), (1, .inl v1), (2, .inl v2), (3, .inl v3), (4, .inl v4)], [.inl (nn_ri M 408 (mm_w (v3 + 5)))], M)
      refine mm_s1 rfl ?_
      show mm_Go (mm_run 6) mc_M_mergesAll _ (89, [(0, .inr (.inr 407)), (1, .inl v1), (2, .inl v2), (3, .inl v3), (4, .inl (nn_ri M 408 (mm_w (v3 + 5))))], [], M)
      refine mm_s1 rfl ?_
      refine mm_s1 rfl ?_
      refine mm_s1 rfl ⟨fun c93 => ?_, fun c93 => ?_⟩
      · show mm_Go (mm_run 6) mc_M_mergesAll _ (116, [(0, .inr (.inr 407)), (1, .inl v1), (2, .inl v2), (3, .inl v3), (4, .inl (nn_ri M 408 (mm_w (v3 + 5))))], [], M)
        replace h := h.1 c93
        exact mm_s1 rfl ⟨rfl, L, N, h⟩
      · show mm_Go (mm_run 6) mc_M_mergesAll _ (96, [(0, .inr (.inr 407)), (1, .inl v1), (2, .inl v2), (3, .inl v3), (4, .inl (nn_ri M 408 (mm_w (v3 + 5))))], [], M)
        replace c93 := Int.not_le.mp c93
        replace h := h.2 c93
        refine mm_s1 rfl ?_
        refine mm_s1 rfl ?_
        refine mm_s1 rfl ?_
        refine mm_s1 rfl ?_
        refine mm_s1 rfl ?_
        show mm_Go (mm_run 6) mc_M_mergesAll _ (102, [(0, .inr (.inr 407)), (1, .inl v1), (2, .inl v2), (3, .inl v3), (4, .inl (nn_ri M 408 (mm_w (v3 + 5))))], [.inl (nn_ri M 408 (mm_w (v3 + 5))), .inl 0, .inl v2, .inl v1, .inr (.inr 407)], M)
        refine mm_s1 rfl ?_
        refine mm_s1 rfl ?_
        refine mm_s1 rfl ?_
        refine mm_s1 rfl ?_
        refine mm_s1 rfl ?_
        show mm_Go (mm_run 6) mc_M_mergesAll _ (108, [(0, .inr (.inr 407)), (1, .inl v1), (2, .inl v2), (3, .inl v3), (4, .inl (nn_ri M 408 (mm_w (v3 + 5))))], [.inl (nn_ri M 408 (mm_w (v3 + 5))), .inl 0, .inl v3, .inl v1, .inr (.inr 407), .inl (nn_ri M 408 (mm_w (v3 + 5))), .inl 0, .inl v2, .inl v1, .inr (.inr 407)], M)
        refine mm_s1 rfl ⟨(nn_c407 NN).1, ?_⟩
        refine nn_call (D := 3) (by decide) (h n L N) ?_
        intro v M108 q; clear L N h
        obtain ⟨r108, rfl, L, N, h⟩ := q
        show mm_Go (mm_run 6) mc_M_mergesAll _ (111, [(0, .inr (.inr 407)), (1, .inl v1), (2, .inl v2), (3, .inl v3), (4, .inl (nn_ri M 408 (mm_w (v3 + 5))))], [.inl r108, .inl (nn_ri M 408 (mm_w (v3 + 5))), .inl 0, .inl v2, .inl v1, .inr (.inr 407)], M108)
        refine mm_s1 rfl ?_
        refine mm_s1 rfl ?_
        refine mm_s1 rfl ⟨(nn_c407 NN).1, ?_⟩
        refine nn_call (D := 6) (by decide) (h n L N) ?_
        intro v M113 q; clear L N h
        obtain ⟨rfl, L, N, h⟩ := q
        show mm_Go (mm_run 6) mc_M_mergesAll _ (116, [(0, .inr (.inr 407)), (1, .inl v1), (2, .inl v2), (3, .inl v3), (4, .inl (nn_ri M 408 (mm_w (v3 + 5))))], [], M113)
        exact mm_s1 rfl ⟨rfl, L, N, h⟩
    · show mm_Go (mm_run 6) mc_M_mergesAll _ (68, [(0, .inr (.inr 407)), (1, .inl v1), (2, .inl v2), (3, .inl v3), (4, .inl v4)], [], M)
      replace c65 := Int.not_le.mp c65
      replace h := h.2 c65
      refine mm_s1 rfl ?_
      refine nn_getr rfl (nn_c407 NN).1 (lf_13_0 L N (nn_c407 NN)) ?_
      refine mm_s1 rfl ?_
      refine mm_s1 rfl ?_
      refine mm_s1 rfl ?_
      show mm_Go (mm_run 6) mc_M_mergesAll _ (75, [(0, .inr (.inr 407)), (1, .inl v1), (2, .inl v2), (3, .inl v3), (4, .inl v4)], [.inl (mm_w (v1 + 5)), .inr (.inr 408)], M)
      obtain ⟨b75, h⟩ := h
      refine mm_s1 rfl ⟨nn_bd (na_13_0 NN (nn_c407 NN)) b75, ?_⟩
      show mm_Go (mm_run 6) mc_M_mergesAll _ (76, [(0, .inr (.inr 407)), (1, .inl v1), (2, .inl v2), (3, .inl v3), (4, .inl v4)], [.inl (nn_ri M 408 (mm_w (v1 + 5)))], M)
      refine mm_s1 rfl ?_
      show mm_Go (mm_run 6) mc_M_mergesAll _ (87, [(0, .inr (.inr 407)), (1, .inl v1), (2, .inl v2), (3, .inl v3), (4, .inl v4)], [.inl (nn_ri M 408 (mm_w (v1 + 5)))], M)
      refine mm_s1 rfl ?_
      show mm_Go (mm_run 6) mc_M_mergesAll _ (89, [(0, .inr (.inr 407)), (1, .inl v1), (2, .inl v2), (3, .inl v3), (4, .inl (nn_ri M 408 (mm_w (v1 + 5))))], [], M)
      refine mm_s1 rfl ?_
      refine mm_s1 rfl ?_
      refine mm_s1 rfl ⟨fun c93 => ?_, fun c93 => ?_⟩
      · show mm_Go (mm_run 6) mc_M_mergesAll _ (116, [(0, .inr (.inr 407)), (1, .inl v1), (2, .inl v2), (3, .inl v3), (4, .inl (nn_ri M 408 (mm_w (v1 + 5))))], [], M)
        replace h := h.1 c93
        exact mm_s1 rfl ⟨rfl, L, N, h⟩
      · show mm_Go (mm_run 6) mc_M_mergesAll _ (96, [(0, .inr (.inr 407)), (1, .inl v1), (2, .inl v2), (3, .inl v3), (4, .inl (nn_ri M 408 (mm_w (v1 + 5))))], [], M)
        replace c93 := Int.not_le.mp c93
        replace h := h.2 c93
        refine mm_s1 rfl ?_
        refine mm_s1 rfl ?_
        refine mm_s1 rfl ?_
        refine mm_s1 rfl ?_
        refine mm_s1 rfl ?_
        show mm_Go (mm_run 6) mc_M_mergesAll _ (102, [(0, .inr (.inr 407)), (1, .inl v1), (2, .inl v2), (3, .inl v3), (4, .inl (nn_ri M 408 (mm_w (v1 + 5))))], [.inl (nn_ri M 408 (mm_w (v1 + 5))), .inl 0, .inl v2, .inl v1, .inr (.inr 407)], M)
        refine mm_s1 rfl ?_
        refine mm_s1 rfl ?_
        refine mm_s1 rfl ?_
        refine mm_s1 rfl ?_
        refine mm_s1 rfl ?_
        show mm_Go (mm_run 6) mc_M_mergesAll _ (108, [(0, .inr (.inr 407)), (1, .inl v1), (2, .inl v2), (3, .inl v3), (4, .inl (nn_ri M 408 (mm_w (v1 + 5))))], [.inl (nn_ri M 408 (mm_w (v1 + 5))), .inl 0, .inl v3, .inl v1, .inr (.inr 407), .inl (nn_ri M 408 (mm_w (v1 + 5))), .inl 0, .inl v2, .inl v1, .inr (.inr 407)], M)
        refine mm_s1 rfl ⟨(nn_c407 NN).1, ?_⟩
        refine nn_call (D := 3) (by decide) (h n L N) ?_
        intro v M108 q; clear L N h
        obtain ⟨r108, rfl, L, N, h⟩ := q
        show mm_Go (mm_run 6) mc_M_mergesAll _ (111, [(0, .inr (.inr 407)), (1, .inl v1), (2, .inl v2), (3, .inl v3), (4, .inl (nn_ri M 408 (mm_w (v1 + 5))))], [.inl r108, .inl (nn_ri M 408 (mm_w (v1 + 5))), .inl 0, .inl v2, .inl v1, .inr (.inr 407)], M108)
        refine mm_s1 rfl ?_
        refine mm_s1 rfl ?_
        refine mm_s1 rfl ⟨(nn_c407 NN).1, ?_⟩
        refine nn_call (D := 6) (by decide) (h n L N) ?_
        intro v M113 q; clear L N h
        obtain ⟨rfl, L, N, h⟩ := q
        show mm_Go (mm_run 6) mc_M_mergesAll _ (116, [(0, .inr (.inr 407)), (1, .inl v1), (2, .inl v2), (3, .inl v3), (4, .inl (nn_ri M 408 (mm_w (v1 + 5))))], [], M113)
        exact mm_s1 rfl ⟨rfl, L, N, h⟩
  · show mm_Go (mm_run 6) mc_M_mergesAll _ (27, [(0, .inr (.inr 407)), (1, .inl v1), (2, .inl v2), (3, .inl v3), (4, .inl v4)], [], M)
    replace c24 := Int.not_lt.mp c24
    replace h := h.2 c24
    refine mm_s1 rfl ?_
    refine mm_s1 rfl ?_
    refine mm_s1 rfl ?_
    refine mm_s1 rfl ?_
    refine mm_s1 rfl ?_
    show mm_Go (mm_run 6) mc_M_mergesAll _ (33, [(0, .inr (.inr 407)), (1, .inl v1), (2, .inl v2), (3, .inl v3), (4, .inl v4)], [.inr (.inr 407), .inl v4, .inl v2, .inl v1, .inr (.inr 407)], M)
    refine nn_getr rfl (nn_c407 NN).1 (lf_13_0 L N (nn_c407 NN)) ?_
    refine mm_s1 rfl ?_
    refine mm_s1 rfl ?_
    refine mm_s1 rfl ?_
    obtain ⟨b39, h⟩ := h
    refine mm_s1 rfl ⟨nn_bd (na_13_0 NN (nn_c407 NN)) b39, ?_⟩
    show mm_Go (mm_run 6) mc_M_mergesAll _ (40, [(0, .inr (.inr 407)), (1, .inl v1), (2, .inl v2), (3, .inl v3), (4, .inl v4)], [.inl (nn_ri M 408 (mm_w (v1 + 4))), .inl v4, .inl v2, .inl v1, .inr (.inr 407)], M)
    refine mm_s1 rfl ?_
    refine mm_s1 rfl ?_
    refine mm_s1 rfl ?_
    refine mm_s1 rfl ?_
    obtain ⟨b45, h⟩ := h
    refine mm_s1 rfl ⟨(nn_c407 NN).1, ?_⟩
    refine np_M_levelOf (by decide) L N b45 ?_
    show mm_Go (mm_run 6) mc_M_mergesAll _ (48, [(0, .inr (.inr 407)), (1, .inl v1), (2, .inl v2), (3, .inl v3), (4, .inl v4)], [.inl (nf_M_levelOf v1 v3 v4 M), .inl (nn_ri M 408 (mm_w (v1 + 4))), .inl v4, .inl v2, .inl v1, .inr (.inr 407)], M)
    refine mm_s1 rfl ?_
    refine mm_s1 rfl ?_
    refine mm_s1 rfl ⟨(nn_c407 NN).1, ?_⟩
    refine nn_call (D := 6) (by decide) (h n L N) ?_
    intro v M50 q; clear L N h
    obtain ⟨rfl, L, N, h⟩ := q
    show mm_Go (mm_run 6) mc_M_mergesAll _ (53, [(0, .inr (.inr 407)), (1, .inl v1), (2, .inl v2), (3, .inl v3), (4, .inl v4)], [], M50)
    refine mm_s1 rfl ?_
    refine mm_s1 rfl ?_
    refine mm_s1 rfl ?_
    refine mm_s1 rfl ⟨(nn_c407 NN).1, ?_⟩
    refine nn_call (D := 3) (by decide) (h n L N) ?_
    intro v M56 q; clear L N h
    obtain ⟨r56, rfl, L, N, h⟩ := q
    show mm_Go (mm_run 6) mc_M_mergesAll _ (59, [(0, .inr (.inr 407)), (1, .inl v1), (2, .inl v2), (3, .inl v3), (4, .inl v4)], [.inl r56], M56)
    refine mm_s1 rfl ?_
    show mm_Go (mm_run 6) mc_M_mergesAll _ (61, [(0, .inr (.inr 407)), (1, .inl v1), (2, .inl v2), (3, .inl v3), (4, .inl r56)], [], M56)
    refine mm_s1 rfl ?_
    show mm_Go (mm_run 6) mc_M_mergesAll _ (22, [(0, .inr (.inr 407)), (1, .inl v1), (2, .inl v2), (3, .inl v3), (4, .inl r56)], [], M56)
    exact nn_go_ext (nn_xc rfl (nn_xc rfl (nn_xc rfl (nn_xc rfl (nn_xc rfl nn_xn))))) (h n L N)
def nr_M_merge (v1 : Int) (v2 : Int) (v3 : Int) (M : mm_M) (R : Int → mm_M → Prop) : Prop := ∀ n, nn_L M → M.1 = n → mm_run 7 mi_M_merge [.inr (.inr 407), .inl v1, .inl v2, .inl v3] M (nw_I n R)
set_option maxRecDepth 20000 in
theorem ng_M_merge (v1 : Int) (v2 : Int) (v3 : Int) (M : mm_M) (R : Int → mm_M → Prop) (h : (nr_M_areRuns v1 v2 v3 M (fun r4 M4 => ((r4 ≠ 0 → ((v1 ≠ (-1) → (nr_M_topLevel 0 (nf_M_at 0 v1) v2 v3 M4 (fun r39 M39 => (nr_M_merges 0 v1 v2 v3 (mm_w (r39 + 1)) M39 (fun M44 => ((0 ≤ (nf_M_at 0 v1) → (((0 : Int) ≤ (mm_w ((nf_M_at 0 v1) + 5)) ∧ (mm_w ((nf_M_at 0 v1) + 5)) < (32844 : Int)) ∧ R (nn_ri M44 408 (mm_w ((nf_M_at 0 v1) + 5))) M44)) ∧ ((nf_M_at 0 v1) < 0 → R (nn_ri M44 408 5) M44))))))) ∧ (v1 = (-1) → (nr_M_topLevel 0 (-1) v2 v3 M4 (fun r39 M39 => (nr_M_merges 0 v1 v2 v3 (mm_w (r39 + 1)) M39 (fun M44 => R (nn_ri M44 408 5) M44))))))) ∧ (r4 = 0 → R (-1) M4))))) : nr_M_merge v1 v2 v3 M R := by
  intro n L N 
  have NN := nn_L_n L N
  show mm_Go (mm_run 6) mc_M_merge _ (0, [(0, .inr (.inr 407)), (1, .inl v1), (2, .inl v2), (3, .inl v3)], [], M)
  refine mm_s1 rfl ?_
  refine mm_s1 rfl ?_
  refine mm_s1 rfl ?_
  refine mm_s1 rfl ?_
  refine mm_s1 rfl ⟨(nn_c407 NN).1, ?_⟩
  refine nn_call (D := 3) (by decide) (h n L N) ?_
  intro v M4 q; clear L N h
  obtain ⟨r4, rfl, q4, L, N, h⟩ := q
  show mm_Go (mm_run 6) mc_M_merge _ (7, [(0, .inr (.inr 407)), (1, .inl v1), (2, .inl v2), (3, .inl v3)], [.inl r4], M4)
  refine mm_s1 rfl ⟨fun c7 => ?_, fun c7 => ?_⟩
  · show mm_Go (mm_run 6) mc_M_merge _ (12, [(0, .inr (.inr 407)), (1, .inl v1), (2, .inl v2), (3, .inl v3)], [], M4)
    replace h := h.1 c7
    refine mm_s1 rfl ?_
    refine mm_s1 rfl ?_
    refine mm_s1 rfl ⟨fun c14 => ?_, fun c14 => ?_⟩
    · show mm_Go (mm_run 6) mc_M_merge _ (21, [(0, .inr (.inr 407)), (1, .inl v1), (2, .inl v2), (3, .inl v3)], [], M4)
      replace h := h.1 c14
      refine mm_s1 rfl ?_
      refine mm_s1 rfl ?_
      refine mm_s1 rfl ⟨trivial, ?_⟩
      refine np_M_at (by decide) L N ?_
      show mm_Go (mm_run 6) mc_M_merge _ (26, [(0, .inr (.inr 407)), (1, .inl v1), (2, .inl v2), (3, .inl v3)], [.inl (nf_M_at 0 v1)], M4)
      refine mm_s1 rfl ?_
      show mm_Go (mm_run 6) mc_M_merge _ (28, [(0, .inr (.inr 407)), (1, .inl v1), (2, .inl v2), (3, .inl v3), (4, .inl (nf_M_at 0 v1))], [], M4)
      refine mm_s1 rfl ?_
      refine mm_s1 rfl ?_
      refine mm_s1 rfl ?_
      refine mm_s1 rfl ?_
      refine mm_s1 rfl ?_
      show mm_Go (mm_run 6) mc_M_merge _ (33, [(0, .inr (.inr 407)), (1, .inl v1), (2, .inl v2), (3, .inl v3), (4, .inl (nf_M_at 0 v1))], [.inl v3, .inl v2, .inl v1, .inl 0, .inr (.inr 407)], M4)
      refine mm_s1 rfl ?_
      refine mm_s1 rfl ?_
      refine mm_s1 rfl ?_
      refine mm_s1 rfl ?_
      refine mm_s1 rfl ?_
      show mm_Go (mm_run 6) mc_M_merge _ (39, [(0, .inr (.inr 407)), (1, .inl v1), (2, .inl v2), (3, .inl v3), (4, .inl (nf_M_at 0 v1))], [.inl v3, .inl v2, .inl (nf_M_at 0 v1), .inl 0, .inr (.inr 407), .inl v3, .inl v2, .inl v1, .inl 0, .inr (.inr 407)], M4)
      refine mm_s1 rfl ⟨(nn_c407 NN).1, ?_⟩
      refine nn_call (D := 3) (by decide) (h n L N) ?_
      intro v M39 q; clear L N h
      obtain ⟨r39, rfl, L, N, h⟩ := q
      show mm_Go (mm_run 6) mc_M_merge _ (42, [(0, .inr (.inr 407)), (1, .inl v1), (2, .inl v2), (3, .inl v3), (4, .inl (nf_M_at 0 v1))], [.inl r39, .inl v3, .inl v2, .inl v1, .inl 0, .inr (.inr 407)], M39)
      refine mm_s1 rfl ?_
      refine mm_s1 rfl ?_
      refine mm_s1 rfl ⟨(nn_c407 NN).1, ?_⟩
      refine nn_call (D := 6) (by decide) (h n L N) ?_
      intro v M44 q; clear L N h
      obtain ⟨rfl, L, N, h⟩ := q
      show mm_Go (mm_run 6) mc_M_merge _ (47, [(0, .inr (.inr 407)), (1, .inl v1), (2, .inl v2), (3, .inl v3), (4, .inl (nf_M_at 0 v1))], [], M44)
      refine mm_s1 rfl ?_
      refine mm_s1 rfl ⟨fun c49 => ?_, fun c49 => ?_⟩
      · show mm_Go (mm_run 6) mc_M_merge _ (61, [(0, .inr (.inr 407)), (1, .inl v1), (2, .inl v2), (3, .inl v3), (4, .inl (nf_M_at 0 v1))], [], M44)
        replace h := h.1 c49
        refine mm_s1 rfl ?_
        refine nn_getr rfl (nn_c407 NN).1 (lf_13_0 L N (nn_c407 NN)) ?_
        refine mm_s1 rfl ?_
        refine mm_s1 rfl ?_
        refine mm_s1 rfl ?_
        show mm_Go (mm_run 6) mc_M_merge _ (69, [(0, .inr (.inr 407)), (1, .inl v1), (2, .inl v2), (3, .inl v3), (4, .inl (nf_M_at 0 v1))], [.inl (mm_w ((nf_M_at 0 v1) + 5)), .inr (.inr 408)], M44)
        obtain ⟨b69, h⟩ := h
        refine mm_s1 rfl ⟨nn_bd (na_13_0 NN (nn_c407 NN)) b69, ?_⟩
        show mm_Go (mm_run 6) mc_M_merge _ (70, [(0, .inr (.inr 407)), (1, .inl v1), (2, .inl v2), (3, .inl v3), (4, .inl (nf_M_at 0 v1))], [.inl (nn_ri M44 408 (mm_w ((nf_M_at 0 v1) + 5)))], M44)
        exact mm_s1 rfl ⟨_, rfl, L, N, h⟩
      · show mm_Go (mm_run 6) mc_M_merge _ (52, [(0, .inr (.inr 407)), (1, .inl v1), (2, .inl v2), (3, .inl v3), (4, .inl (nf_M_at 0 v1))], [], M44)
        replace c49 := Int.not_le.mp c49
        replace h := h.2 c49
        refine mm_s1 rfl ?_
        refine nn_getr rfl (nn_c407 NN).1 (lf_13_0 L N (nn_c407 NN)) ?_
        refine mm_s1 rfl ?_
        refine mm_s1 rfl ⟨nn_bd (na_13_0 NN (nn_c407 NN)) (by decide), ?_⟩
        show mm_Go (mm_run 6) mc_M_merge _ (58, [(0, .inr (.inr 407)), (1, .inl v1), (2, .inl v2), (3, .inl v3), (4, .inl (nf_M_at 0 v1))], [.inl (nn_ri M44 408 5)], M44)
        refine mm_s1 rfl ?_
        show mm_Go (mm_run 6) mc_M_merge _ (70, [(0, .inr (.inr 407)), (1, .inl v1), (2, .inl v2), (3, .inl v3), (4, .inl (nf_M_at 0 v1))], [.inl (nn_ri M44 408 5)], M44)
        exact mm_s1 rfl ⟨_, rfl, L, N, h⟩
    · show mm_Go (mm_run 6) mc_M_merge _ (17, [(0, .inr (.inr 407)), (1, .inl v1), (2, .inl v2), (3, .inl v3)], [], M4)
      replace c14 := Decidable.not_not.mp c14
      replace h := h.2 c14
      refine mm_s1 rfl ?_
      refine mm_s1 rfl ?_
      show mm_Go (mm_run 6) mc_M_merge _ (26, [(0, .inr (.inr 407)), (1, .inl v1), (2, .inl v2), (3, .inl v3)], [.inl (-1)], M4)
      refine mm_s1 rfl ?_
      show mm_Go (mm_run 6) mc_M_merge _ (28, [(0, .inr (.inr 407)), (1, .inl v1), (2, .inl v2), (3, .inl v3), (4, .inl (-1))], [], M4)
      refine mm_s1 rfl ?_
      refine mm_s1 rfl ?_
      refine mm_s1 rfl ?_
      refine mm_s1 rfl ?_
      refine mm_s1 rfl ?_
      show mm_Go (mm_run 6) mc_M_merge _ (33, [(0, .inr (.inr 407)), (1, .inl v1), (2, .inl v2), (3, .inl v3), (4, .inl (-1))], [.inl v3, .inl v2, .inl v1, .inl 0, .inr (.inr 407)], M4)
      refine mm_s1 rfl ?_
      refine mm_s1 rfl ?_
      refine mm_s1 rfl ?_
      refine mm_s1 rfl ?_
      refine mm_s1 rfl ?_
      show mm_Go (mm_run 6) mc_M_merge _ (39, [(0, .inr (.inr 407)), (1, .inl v1), (2, .inl v2), (3, .inl v3), (4, .inl (-1))], [.inl v3, .inl v2, .inl (-1), .inl 0, .inr (.inr 407), .inl v3, .inl v2, .inl v1, .inl 0, .inr (.inr 407)], M4)
      refine mm_s1 rfl ⟨(nn_c407 NN).1, ?_⟩
      refine nn_call (D := 3) (by decide) (h n L N) ?_
      intro v M39 q; clear L N h
      obtain ⟨r39, rfl, L, N, h⟩ := q
      show mm_Go (mm_run 6) mc_M_merge _ (42, [(0, .inr (.inr 407)), (1, .inl v1), (2, .inl v2), (3, .inl v3), (4, .inl (-1))], [.inl r39, .inl v3, .inl v2, .inl v1, .inl 0, .inr (.inr 407)], M39)
      refine mm_s1 rfl ?_
      refine mm_s1 rfl ?_
      refine mm_s1 rfl ⟨(nn_c407 NN).1, ?_⟩
      refine nn_call (D := 6) (by decide) (h n L N) ?_
      intro v M44 q; clear L N h
      obtain ⟨rfl, L, N, h⟩ := q
      show mm_Go (mm_run 6) mc_M_merge _ (47, [(0, .inr (.inr 407)), (1, .inl v1), (2, .inl v2), (3, .inl v3), (4, .inl (-1))], [], M44)
      refine mm_s1 rfl ?_
      refine mm_s1 rfl ⟨fun c => absurd c (show ¬ ((-1 : Int) ≥ 0) by decide), fun _ => ?_⟩
      show mm_Go (mm_run 6) mc_M_merge _ (52, [(0, .inr (.inr 407)), (1, .inl v1), (2, .inl v2), (3, .inl v3), (4, .inl (-1))], [], M44)
      refine mm_s1 rfl ?_
      refine nn_getr rfl (nn_c407 NN).1 (lf_13_0 L N (nn_c407 NN)) ?_
      refine mm_s1 rfl ?_
      refine mm_s1 rfl ⟨nn_bd (na_13_0 NN (nn_c407 NN)) (by decide), ?_⟩
      show mm_Go (mm_run 6) mc_M_merge _ (58, [(0, .inr (.inr 407)), (1, .inl v1), (2, .inl v2), (3, .inl v3), (4, .inl (-1))], [.inl (nn_ri M44 408 5)], M44)
      refine mm_s1 rfl ?_
      show mm_Go (mm_run 6) mc_M_merge _ (70, [(0, .inr (.inr 407)), (1, .inl v1), (2, .inl v2), (3, .inl v3), (4, .inl (-1))], [.inl (nn_ri M44 408 5)], M44)
      exact mm_s1 rfl ⟨_, rfl, L, N, h⟩
  · show mm_Go (mm_run 6) mc_M_merge _ (10, [(0, .inr (.inr 407)), (1, .inl v1), (2, .inl v2), (3, .inl v3)], [], M4)
    replace c7 := Decidable.not_not.mp c7
    replace h := h.2 c7
    refine mm_s1 rfl ?_
    exact mm_s1 rfl ⟨_, rfl, L, N, h⟩
def nr_M_build (v1 : Int) (v2 : Int) (M : mm_M) (R : Int → mm_M → Prop) : Prop := ∀ n, nn_L M → M.1 = n → mm_run 7 mi_M_build [.inr (.inr 407), .inl v1, .inl v2] M (nw_I n R)
def nk_M_build_37 (v1 : Int) (v2 : Int) (v3 : Int) (v4 : Int) (M : mm_M) (R : Int → mm_M → Prop) : Prop := ∀ n, nn_L M → M.1 = n → mm_Go (mm_run 6) mc_M_build (nw_I n R) (37, [(0, .inr (.inr 407)), (1, .inl v1), (2, .inl v2), (3, .inl v3), (4, .inl v4)], [], M)
set_option maxRecDepth 20000 in
theorem ng_M_build (v1 : Int) (v2 : Int) (M : mm_M) (R : Int → mm_M → Prop) (h : ((nc_M_isIndex v1 M) ∧ ((((nf_M_isIndex v1 M) ≠ 0) → (nc_M_isBuilt v1 M)) ∧ (((nf_M_isIndex v1 M) = 0 ∨ ((nf_M_isBuilt v1 M) ≠ 0 ∨ ((nf_M_isIn v2 1 32) = 0))) → R (-1) M) ∧ (((nf_M_isIndex v1 M) ≠ 0 ∧ ((nf_M_isBuilt v1 M) = 0 ∧ ((nf_M_isIn v2 1 32) ≠ 0))) → nk_M_build_37 v1 v2 (nf_M_at 0 v1) 0 M R)))) : nr_M_build v1 v2 M R := by
  intro n L N 
  have NN := nn_L_n L N
  show mm_Go (mm_run 6) mc_M_build _ (0, [(0, .inr (.inr 407)), (1, .inl v1), (2, .inl v2)], [], M)
  refine mm_s1 rfl ?_
  refine mm_s1 rfl ?_
  obtain ⟨b2, h⟩ := h
  refine mm_s1 rfl ⟨(nn_c407 NN).1, ?_⟩
  refine np_M_isIndex (by decide) L N b2 ?_
  show mm_Go (mm_run 6) mc_M_build _ (5, [(0, .inr (.inr 407)), (1, .inl v1), (2, .inl v2)], [.inl (nf_M_isIndex v1 M)], M)
  refine mm_s1 rfl ⟨fun c5 => ?_, fun c5 => ?_⟩
  · show mm_Go (mm_run 6) mc_M_build _ (26, [(0, .inr (.inr 407)), (1, .inl v1), (2, .inl v2)], [], M)
    refine mm_s1 rfl ?_
    replace h := h.2.1 (Or.inl c5)
    exact mm_s1 rfl ⟨_, rfl, L, N, h⟩
  · show mm_Go (mm_run 6) mc_M_build _ (8, [(0, .inr (.inr 407)), (1, .inl v1), (2, .inl v2)], [], M)
    refine mm_s1 rfl ?_
    refine mm_s1 rfl ?_
    have b10 := h.1 c5
    refine mm_s1 rfl ⟨(nn_c407 NN).1, ?_⟩
    refine np_M_isBuilt (by decide) L N b10 ?_
    show mm_Go (mm_run 6) mc_M_build _ (13, [(0, .inr (.inr 407)), (1, .inl v1), (2, .inl v2)], [.inl (nf_M_isBuilt v1 M)], M)
    refine mm_s1 rfl ⟨fun c13 => ?_, fun c13 => ?_⟩
    · show mm_Go (mm_run 6) mc_M_build _ (26, [(0, .inr (.inr 407)), (1, .inl v1), (2, .inl v2)], [], M)
      refine mm_s1 rfl ?_
      replace h := h.2.1 (Or.inr (Or.inl c13))
      exact mm_s1 rfl ⟨_, rfl, L, N, h⟩
    · show mm_Go (mm_run 6) mc_M_build _ (16, [(0, .inr (.inr 407)), (1, .inl v1), (2, .inl v2)], [], M)
      replace c13 := Decidable.not_not.mp c13
      refine mm_s1 rfl ?_
      refine mm_s1 rfl ?_
      refine mm_s1 rfl ?_
      refine mm_s1 rfl ⟨trivial, ?_⟩
      refine np_M_isIn (by decide) L N ?_
      show mm_Go (mm_run 6) mc_M_build _ (23, [(0, .inr (.inr 407)), (1, .inl v1), (2, .inl v2)], [.inl (nf_M_isIn v2 1 32)], M)
      refine mm_s1 rfl ⟨fun c23 => ?_, fun c23 => ?_⟩
      · show mm_Go (mm_run 6) mc_M_build _ (28, [(0, .inr (.inr 407)), (1, .inl v1), (2, .inl v2)], [], M)
        refine mm_s1 rfl ?_
        refine mm_s1 rfl ?_
        refine mm_s1 rfl ⟨trivial, ?_⟩
        refine np_M_at (by decide) L N ?_
        show mm_Go (mm_run 6) mc_M_build _ (33, [(0, .inr (.inr 407)), (1, .inl v1), (2, .inl v2)], [.inl (nf_M_at 0 v1)], M)
        refine mm_s1 rfl ?_
        show mm_Go (mm_run 6) mc_M_build _ (34, [(0, .inr (.inr 407)), (1, .inl v1), (2, .inl v2), (3, .inl (nf_M_at 0 v1))], [], M)
        refine mm_s1 rfl ?_
        refine mm_s1 rfl ?_
        show mm_Go (mm_run 6) mc_M_build _ (37, [(0, .inr (.inr 407)), (1, .inl v1), (2, .inl v2), (3, .inl (nf_M_at 0 v1)), (4, .inl 0)], [], M)
        replace h := h.2.2 ⟨c5, ⟨c13, c23⟩⟩
        exact nn_go_ext (nn_xc rfl (nn_xc rfl (nn_xc rfl (nn_xc rfl (nn_xc rfl nn_xn))))) (h n L N)
      · show mm_Go (mm_run 6) mc_M_build _ (26, [(0, .inr (.inr 407)), (1, .inl v1), (2, .inl v2)], [], M)
        replace c23 := Decidable.not_not.mp c23
        refine mm_s1 rfl ?_
        replace h := h.2.1 (Or.inr (Or.inr c23))
        exact mm_s1 rfl ⟨_, rfl, L, N, h⟩
set_option maxRecDepth 20000 in
theorem ng_M_build_37 (v1 : Int) (v2 : Int) (v3 : Int) (v4 : Int) (M : mm_M) (R : Int → mm_M → Prop) (h : ((v2 ≤ v4 → (((0 : Int) ≤ (mm_w (v3 + 4)) ∧ (mm_w (v3 + 4)) < (32844 : Int)) ∧ ((32 ≤ (nn_ri M 408 (mm_w (v3 + 4))) → (nr_M_clashes v1 M (fun r114 M114 => ((r114 = 0 → (nr_M_ends v3 M114 (fun r127 M127 => R r127 M127))) ∧ (r114 ≠ 0 → R (-2) M114))))) ∧ ((nn_ri M 408 (mm_w (v3 + 4))) < 32 → (((0 : Int) ≤ (mm_w (v3 + 4)) ∧ (mm_w (v3 + 4)) < (32844 : Int)) ∧ R (mm_w (32 - (nn_ri M 408 (mm_w (v3 + 4))))) M))))) ∧ (v4 < v2 → (((0 : Int) ≤ (mm_w (v3 + 4)) ∧ (mm_w (v3 + 4)) < (32844 : Int)) ∧ ((32 ≤ (nn_ri M 408 (mm_w (v3 + 4))) → (((0 : Int) ≤ (mm_w (v3 + 4)) ∧ (mm_w (v3 + 4)) < (32844 : Int)) ∧ ((32 ≤ (nn_ri M 408 (mm_w (v3 + 4))) → (nr_M_clashes v1 M (fun r114 M114 => ((r114 = 0 → (nr_M_ends v3 M114 (fun r127 M127 => R r127 M127))) ∧ (r114 ≠ 0 → R (-2) M114))))) ∧ ((nn_ri M 408 (mm_w (v3 + 4))) < 32 → (((0 : Int) ≤ (mm_w (v3 + 4)) ∧ (mm_w (v3 + 4)) < (32844 : Int)) ∧ R (mm_w (32 - (nn_ri M 408 (mm_w (v3 + 4))))) M))))) ∧ ((nn_ri M 408 (mm_w (v3 + 4))) < 32 → (((0 : Int) ≤ (mm_w (v3 + 4)) ∧ (mm_w (v3 + 4)) < (32844 : Int)) ∧ (nr_M_keeps v3 (nn_ri M 408 (mm_w (v3 + 4))) M (fun M66 => (((0 : Int) ≤ (mm_w (v3 + 4)) ∧ (mm_w (v3 + 4)) < (32844 : Int)) ∧ (((0 : Int) ≤ (mm_w (v3 + 4)) ∧ (mm_w (v3 + 4)) < (32844 : Int)) ∧ (∀ M80 : mm_M, M80 = nn_ui M66 408 (mm_w (v3 + 4)) (mm_w ((nn_ri M66 408 (mm_w (v3 + 4))) + 1)) → nk_M_build_37 v1 v2 v3 (mm_w (v4 + 1)) M80 R)))))))))))) : nk_M_build_37 v1 v2 v3 v4 M R := by
  intro n L N 
  have NN := nn_L_n L N
  show mm_Go (mm_run 6) mc_M_build _ (37, [(0, .inr (.inr 407)), (1, .inl v1), (2, .inl v2), (3, .inl v3), (4, .inl v4)], [], M)
  refine mm_s1 rfl ?_
  refine mm_s1 rfl ?_
  refine mm_s1 rfl ⟨fun c40 => ?_, fun c40 => ?_⟩
  · show mm_Go (mm_run 6) mc_M_build _ (87, [(0, .inr (.inr 407)), (1, .inl v1), (2, .inl v2), (3, .inl v3), (4, .inl v4)], [], M)
    replace h := h.1 c40
    refine mm_s1 rfl ?_
    refine nn_getr rfl (nn_c407 NN).1 (lf_13_0 L N (nn_c407 NN)) ?_
    refine mm_s1 rfl ?_
    refine mm_s1 rfl ?_
    refine mm_s1 rfl ?_
    show mm_Go (mm_run 6) mc_M_build _ (94, [(0, .inr (.inr 407)), (1, .inl v1), (2, .inl v2), (3, .inl v3), (4, .inl v4)], [.inl (mm_w (v3 + 4)), .inr (.inr 408)], M)
    obtain ⟨b94, h⟩ := h
    refine mm_s1 rfl ⟨nn_bd (na_13_0 NN (nn_c407 NN)) b94, ?_⟩
    show mm_Go (mm_run 6) mc_M_build _ (95, [(0, .inr (.inr 407)), (1, .inl v1), (2, .inl v2), (3, .inl v3), (4, .inl v4)], [.inl (nn_ri M 408 (mm_w (v3 + 4)))], M)
    refine mm_s1 rfl ?_
    refine mm_s1 rfl ⟨fun c97 => ?_, fun c97 => ?_⟩
    · show mm_Go (mm_run 6) mc_M_build _ (112, [(0, .inr (.inr 407)), (1, .inl v1), (2, .inl v2), (3, .inl v3), (4, .inl v4)], [], M)
      replace h := h.1 c97
      refine mm_s1 rfl ?_
      refine mm_s1 rfl ?_
      refine mm_s1 rfl ⟨(nn_c407 NN).1, ?_⟩
      refine nn_call (D := 6) (by decide) (h n L N) ?_
      intro v M114 q; clear L N h
      obtain ⟨r114, rfl, q114, L, N, h⟩ := q
      show mm_Go (mm_run 6) mc_M_build _ (117, [(0, .inr (.inr 407)), (1, .inl v1), (2, .inl v2), (3, .inl v3), (4, .inl v4)], [.inl r114], M114)
      refine mm_s1 rfl ⟨fun c117 => ?_, fun c117 => ?_⟩
      · show mm_Go (mm_run 6) mc_M_build _ (125, [(0, .inr (.inr 407)), (1, .inl v1), (2, .inl v2), (3, .inl v3), (4, .inl v4)], [], M114)
        replace h := h.1 c117
        refine mm_s1 rfl ?_
        refine mm_s1 rfl ?_
        refine mm_s1 rfl ⟨(nn_c407 NN).1, ?_⟩
        refine nn_call (D := 3) (by decide) (h n L N) ?_
        intro v M127 q; clear L N h
        obtain ⟨r127, rfl, L, N, h⟩ := q
        show mm_Go (mm_run 6) mc_M_build _ (130, [(0, .inr (.inr 407)), (1, .inl v1), (2, .inl v2), (3, .inl v3), (4, .inl v4)], [.inl r127], M127)
        exact mm_s1 rfl ⟨_, rfl, L, N, h⟩
      · show mm_Go (mm_run 6) mc_M_build _ (120, [(0, .inr (.inr 407)), (1, .inl v1), (2, .inl v2), (3, .inl v3), (4, .inl v4)], [], M114)
        replace h := h.2 c117
        refine mm_s1 rfl ?_
        refine mm_s1 rfl ?_
        show mm_Go (mm_run 6) mc_M_build _ (130, [(0, .inr (.inr 407)), (1, .inl v1), (2, .inl v2), (3, .inl v3), (4, .inl v4)], [.inl (-2)], M114)
        exact mm_s1 rfl ⟨_, rfl, L, N, h⟩
    · show mm_Go (mm_run 6) mc_M_build _ (100, [(0, .inr (.inr 407)), (1, .inl v1), (2, .inl v2), (3, .inl v3), (4, .inl v4)], [], M)
      replace c97 := Int.not_le.mp c97
      replace h := h.2 c97
      refine mm_s1 rfl ?_
      refine mm_s1 rfl ?_
      refine nn_getr rfl (nn_c407 NN).1 (lf_13_0 L N (nn_c407 NN)) ?_
      refine mm_s1 rfl ?_
      refine mm_s1 rfl ?_
      show mm_Go (mm_run 6) mc_M_build _ (108, [(0, .inr (.inr 407)), (1, .inl v1), (2, .inl v2), (3, .inl v3), (4, .inl v4)], [.inl 4, .inl v3, .inr (.inr 408), .inl 32], M)
      refine mm_s1 rfl ?_
      obtain ⟨b109, h⟩ := h
      refine mm_s1 rfl ⟨nn_bd (na_13_0 NN (nn_c407 NN)) b109, ?_⟩
      show mm_Go (mm_run 6) mc_M_build _ (110, [(0, .inr (.inr 407)), (1, .inl v1), (2, .inl v2), (3, .inl v3), (4, .inl v4)], [.inl (nn_ri M 408 (mm_w (v3 + 4))), .inl 32], M)
      refine mm_s1 rfl ?_
      exact mm_s1 rfl ⟨_, rfl, L, N, h⟩
  · show mm_Go (mm_run 6) mc_M_build _ (43, [(0, .inr (.inr 407)), (1, .inl v1), (2, .inl v2), (3, .inl v3), (4, .inl v4)], [], M)
    replace c40 := Int.not_le.mp c40
    replace h := h.2 c40
    refine mm_s1 rfl ?_
    refine nn_getr rfl (nn_c407 NN).1 (lf_13_0 L N (nn_c407 NN)) ?_
    refine mm_s1 rfl ?_
    refine mm_s1 rfl ?_
    refine mm_s1 rfl ?_
    show mm_Go (mm_run 6) mc_M_build _ (50, [(0, .inr (.inr 407)), (1, .inl v1), (2, .inl v2), (3, .inl v3), (4, .inl v4)], [.inl (mm_w (v3 + 4)), .inr (.inr 408)], M)
    obtain ⟨b50, h⟩ := h
    refine mm_s1 rfl ⟨nn_bd (na_13_0 NN (nn_c407 NN)) b50, ?_⟩
    show mm_Go (mm_run 6) mc_M_build _ (51, [(0, .inr (.inr 407)), (1, .inl v1), (2, .inl v2), (3, .inl v3), (4, .inl v4)], [.inl (nn_ri M 408 (mm_w (v3 + 4)))], M)
    refine mm_s1 rfl ?_
    refine mm_s1 rfl ⟨fun c53 => ?_, fun c53 => ?_⟩
    · show mm_Go (mm_run 6) mc_M_build _ (87, [(0, .inr (.inr 407)), (1, .inl v1), (2, .inl v2), (3, .inl v3), (4, .inl v4)], [], M)
      replace h := h.1 c53
      refine mm_s1 rfl ?_
      refine nn_getr rfl (nn_c407 NN).1 (lf_13_0 L N (nn_c407 NN)) ?_
      refine mm_s1 rfl ?_
      refine mm_s1 rfl ?_
      refine mm_s1 rfl ?_
      show mm_Go (mm_run 6) mc_M_build _ (94, [(0, .inr (.inr 407)), (1, .inl v1), (2, .inl v2), (3, .inl v3), (4, .inl v4)], [.inl (mm_w (v3 + 4)), .inr (.inr 408)], M)
      obtain ⟨b94, h⟩ := h
      refine mm_s1 rfl ⟨nn_bd (na_13_0 NN (nn_c407 NN)) b94, ?_⟩
      show mm_Go (mm_run 6) mc_M_build _ (95, [(0, .inr (.inr 407)), (1, .inl v1), (2, .inl v2), (3, .inl v3), (4, .inl v4)], [.inl (nn_ri M 408 (mm_w (v3 + 4)))], M)
      refine mm_s1 rfl ?_
      refine mm_s1 rfl ⟨fun c97 => ?_, fun c97 => ?_⟩
      · show mm_Go (mm_run 6) mc_M_build _ (112, [(0, .inr (.inr 407)), (1, .inl v1), (2, .inl v2), (3, .inl v3), (4, .inl v4)], [], M)
        replace h := h.1 c97
        refine mm_s1 rfl ?_
        refine mm_s1 rfl ?_
        refine mm_s1 rfl ⟨(nn_c407 NN).1, ?_⟩
        refine nn_call (D := 6) (by decide) (h n L N) ?_
        intro v M114 q; clear L N h
        obtain ⟨r114, rfl, q114, L, N, h⟩ := q
        show mm_Go (mm_run 6) mc_M_build _ (117, [(0, .inr (.inr 407)), (1, .inl v1), (2, .inl v2), (3, .inl v3), (4, .inl v4)], [.inl r114], M114)
        refine mm_s1 rfl ⟨fun c117 => ?_, fun c117 => ?_⟩
        · show mm_Go (mm_run 6) mc_M_build _ (125, [(0, .inr (.inr 407)), (1, .inl v1), (2, .inl v2), (3, .inl v3), (4, .inl v4)], [], M114)
          replace h := h.1 c117
          refine mm_s1 rfl ?_
          refine mm_s1 rfl ?_
          refine mm_s1 rfl ⟨(nn_c407 NN).1, ?_⟩
          refine nn_call (D := 3) (by decide) (h n L N) ?_
          intro v M127 q; clear L N h
          obtain ⟨r127, rfl, L, N, h⟩ := q
          show mm_Go (mm_run 6) mc_M_build _ (130, [(0, .inr (.inr 407)), (1, .inl v1), (2, .inl v2), (3, .inl v3), (4, .inl v4)], [.inl r127], M127)
          exact mm_s1 rfl ⟨_, rfl, L, N, h⟩
        · show mm_Go (mm_run 6) mc_M_build _ (120, [(0, .inr (.inr 407)), (1, .inl v1), (2, .inl v2), (3, .inl v3), (4, .inl v4)], [], M114)
          replace h := h.2 c117
          refine mm_s1 rfl ?_
          refine mm_s1 rfl ?_
          show mm_Go (mm_run 6) mc_M_build _ (130, [(0, .inr (.inr 407)), (1, .inl v1), (2, .inl v2), (3, .inl v3), (4, .inl v4)], [.inl (-2)], M114)
          exact mm_s1 rfl ⟨_, rfl, L, N, h⟩
      · show mm_Go (mm_run 6) mc_M_build _ (100, [(0, .inr (.inr 407)), (1, .inl v1), (2, .inl v2), (3, .inl v3), (4, .inl v4)], [], M)
        replace c97 := Int.not_le.mp c97
        replace h := h.2 c97
        refine mm_s1 rfl ?_
        refine mm_s1 rfl ?_
        refine nn_getr rfl (nn_c407 NN).1 (lf_13_0 L N (nn_c407 NN)) ?_
        refine mm_s1 rfl ?_
        refine mm_s1 rfl ?_
        show mm_Go (mm_run 6) mc_M_build _ (108, [(0, .inr (.inr 407)), (1, .inl v1), (2, .inl v2), (3, .inl v3), (4, .inl v4)], [.inl 4, .inl v3, .inr (.inr 408), .inl 32], M)
        refine mm_s1 rfl ?_
        obtain ⟨b109, h⟩ := h
        refine mm_s1 rfl ⟨nn_bd (na_13_0 NN (nn_c407 NN)) b109, ?_⟩
        show mm_Go (mm_run 6) mc_M_build _ (110, [(0, .inr (.inr 407)), (1, .inl v1), (2, .inl v2), (3, .inl v3), (4, .inl v4)], [.inl (nn_ri M 408 (mm_w (v3 + 4))), .inl 32], M)
        refine mm_s1 rfl ?_
        exact mm_s1 rfl ⟨_, rfl, L, N, h⟩
    · show mm_Go (mm_run 6) mc_M_build _ (56, [(0, .inr (.inr 407)), (1, .inl v1), (2, .inl v2), (3, .inl v3), (4, .inl v4)], [], M)
      replace c53 := Int.not_le.mp c53
      replace h := h.2 c53
      refine mm_s1 rfl ?_
      refine mm_s1 rfl ?_
      refine mm_s1 rfl ?_
      refine nn_getr rfl (nn_c407 NN).1 (lf_13_0 L N (nn_c407 NN)) ?_
      refine mm_s1 rfl ?_
      show mm_Go (mm_run 6) mc_M_build _ (63, [(0, .inr (.inr 407)), (1, .inl v1), (2, .inl v2), (3, .inl v3), (4, .inl v4)], [.inl v3, .inr (.inr 408), .inl v3, .inr (.inr 407)], M)
      refine mm_s1 rfl ?_
      refine mm_s1 rfl ?_
      obtain ⟨b65, h⟩ := h
      refine mm_s1 rfl ⟨nn_bd (na_13_0 NN (nn_c407 NN)) b65, ?_⟩
      show mm_Go (mm_run 6) mc_M_build _ (66, [(0, .inr (.inr 407)), (1, .inl v1), (2, .inl v2), (3, .inl v3), (4, .inl v4)], [.inl (nn_ri M 408 (mm_w (v3 + 4))), .inl v3, .inr (.inr 407)], M)
      refine mm_s1 rfl ⟨(nn_c407 NN).1, ?_⟩
      refine nn_call (D := 5) (by decide) (h n L N) ?_
      intro v M66 q; clear L N h
      obtain ⟨rfl, L, N, h⟩ := q
      show mm_Go (mm_run 6) mc_M_build _ (69, [(0, .inr (.inr 407)), (1, .inl v1), (2, .inl v2), (3, .inl v3), (4, .inl v4)], [], M66)
      refine mm_s1 rfl ?_
      refine nn_getr rfl (nn_c407 NN).1 (lf_13_0 L N (nn_c407 NN)) ?_
      refine mm_s1 rfl ?_
      refine mm_s1 rfl ?_
      refine mm_s1 rfl ?_
      show mm_Go (mm_run 6) mc_M_build _ (76, [(0, .inr (.inr 407)), (1, .inl v1), (2, .inl v2), (3, .inl v3), (4, .inl v4)], [.inl (mm_w (v3 + 4)), .inr (.inr 408)], M66)
      refine mm_s1 rfl ?_
      obtain ⟨b77, h⟩ := h
      refine mm_s1 rfl ⟨nn_bd (na_13_0 NN (nn_c407 NN)) b77, ?_⟩
      show mm_Go (mm_run 6) mc_M_build _ (78, [(0, .inr (.inr 407)), (1, .inl v1), (2, .inl v2), (3, .inl v3), (4, .inl v4)], [.inl (nn_ri M66 408 (mm_w (v3 + 4))), .inl (mm_w (v3 + 4)), .inr (.inr 408)], M66)
      refine mm_s1 rfl ?_
      refine mm_s1 rfl ?_
      obtain ⟨b80, h⟩ := h
      refine mm_s1 rfl ⟨nn_bd (na_13_0 NN (nn_c407 NN)) b80, ?_⟩
      show mm_Go (mm_run 6) mc_M_build _ (81, [(0, .inr (.inr 407)), (1, .inl v1), (2, .inl v2), (3, .inl v3), (4, .inl v4)], [], (nn_ui M66 408 (mm_w (v3 + 4)) (mm_w ((nn_ri M66 408 (mm_w (v3 + 4))) + 1))))
      have L : nn_L (nn_ui M66 408 (mm_w (v3 + 4)) (mm_w ((nn_ri M66 408 (mm_w (v3 + 4))) + 1))) := nn_L_ua L (congrArg Prod.fst (na_13_0 NN (nn_c407 NN))) (by decide)
      have N : (nn_ui M66 408 (mm_w (v3 + 4)) (mm_w ((nn_ri M66 408 (mm_w (v3 + 4))) + 1))).1 = n := N
      generalize e_M80 : (nn_ui M66 408 (mm_w (v3 + 4)) (mm_w ((nn_ri M66 408 (mm_w (v3 + 4))) + 1))) = M80 at L N ⊢
      replace h := h _ e_M80.symm
      show mm_Go (mm_run 6) mc_M_build _ (81, [(0, .inr (.inr 407)), (1, .inl v1), (2, .inl v2), (3, .inl v3), (4, .inl v4)], [], M80)
      refine mm_s1 rfl ?_
      show mm_Go (mm_run 6) mc_M_build _ (84, [(0, .inr (.inr 407)), (1, .inl v1), (2, .inl v2), (3, .inl v3), (4, .inl (mm_w (v4 + 1)))], [], M80)
      refine mm_s1 rfl ?_
      show mm_Go (mm_run 6) mc_M_build _ (37, [(0, .inr (.inr 407)), (1, .inl v1), (2, .inl v2), (3, .inl v3), (4, .inl (mm_w (v4 + 1)))], [], M80)
      exact nn_go_ext (nn_xc rfl (nn_xc rfl (nn_xc rfl (nn_xc rfl (nn_xc rfl nn_xn))))) (h n L N)
def nr_M_unused (v1 : Int) (M : mm_M) (R : Int → mm_M → Prop) : Prop := ∀ n, nn_L M → M.1 = n → mm_run 7 mi_M_unused [.inr (.inr 407), .inl v1] M (nw_I n R)
def nk_M_unused_2 (v1 : Int) (v2 : Int) (M : mm_M) (R : Int → mm_M → Prop) : Prop := ∀ n, nn_L M → M.1 = n → mm_Go (mm_run 6) mc_M_unused (nw_I n R) (2, [(0, .inr (.inr 407)), (1, .inl v1), (2, .inl v2)], [], M)
set_option maxRecDepth 20000 in
theorem ng_M_unused (v1 : Int) (M : mm_M) (R : Int → mm_M → Prop) (h : nk_M_unused_2 v1 0 M R) : nr_M_unused v1 M R := by
  intro n L N 
  have NN := nn_L_n L N
  show mm_Go (mm_run 6) mc_M_unused _ (0, [(0, .inr (.inr 407)), (1, .inl v1)], [], M)
  refine mm_s1 rfl ?_
  refine mm_s1 rfl ?_
  show mm_Go (mm_run 6) mc_M_unused _ (2, [(0, .inr (.inr 407)), (1, .inl v1), (2, .inl 0)], [], M)
  exact nn_go_ext (nn_xc rfl (nn_xc rfl (nn_xc rfl nn_xn))) (h n L N)
set_option maxRecDepth 20000 in
theorem ng_M_unused_2 (v1 : Int) (v2 : Int) (M : mm_M) (R : Int → mm_M → Prop) (h : (nr_M_withValue v1 v2 M (fun r5 M5 => ((r5 ≤ 0 → R v2 M5) ∧ (0 < r5 → nk_M_unused_2 v1 (mm_w (v2 + 1)) M5 R))))) : nk_M_unused_2 v1 v2 M R := by
  intro n L N 
  have NN := nn_L_n L N
  show mm_Go (mm_run 6) mc_M_unused _ (2, [(0, .inr (.inr 407)), (1, .inl v1), (2, .inl v2)], [], M)
  refine mm_s1 rfl ?_
  refine mm_s1 rfl ?_
  refine mm_s1 rfl ?_
  refine mm_s1 rfl ⟨(nn_c407 NN).1, ?_⟩
  refine nn_call (D := 6) (by decide) (h n L N) ?_
  intro v M5 q; clear L N h
  obtain ⟨r5, rfl, L, N, h⟩ := q
  show mm_Go (mm_run 6) mc_M_unused _ (8, [(0, .inr (.inr 407)), (1, .inl v1), (2, .inl v2)], [.inl r5], M5)
  refine mm_s1 rfl ⟨fun c8 => ?_, fun c8 => ?_⟩
  · show mm_Go (mm_run 6) mc_M_unused _ (17, [(0, .inr (.inr 407)), (1, .inl v1), (2, .inl v2)], [], M5)
    replace h := h.1 c8
    refine mm_s1 rfl ?_
    exact mm_s1 rfl ⟨_, rfl, L, N, h⟩
  · show mm_Go (mm_run 6) mc_M_unused _ (11, [(0, .inr (.inr 407)), (1, .inl v1), (2, .inl v2)], [], M5)
    replace c8 := Int.not_le.mp c8
    replace h := h.2 c8
    refine mm_s1 rfl ?_
    show mm_Go (mm_run 6) mc_M_unused _ (14, [(0, .inr (.inr 407)), (1, .inl v1), (2, .inl (mm_w (v2 + 1)))], [], M5)
    refine mm_s1 rfl ?_
    show mm_Go (mm_run 6) mc_M_unused _ (2, [(0, .inr (.inr 407)), (1, .inl v1), (2, .inl (mm_w (v2 + 1)))], [], M5)
    exact nn_go_ext (nn_xc rfl (nn_xc rfl (nn_xc rfl nn_xn))) (h n L N)
def nr_M_crowded (v1 : Int) (M : mm_M) (R : Int → mm_M → Prop) : Prop := ∀ n, nn_L M → M.1 = n → mm_run 7 mi_M_crowded [.inr (.inr 407), .inl v1] M (nw_I n R)
def nk_M_crowded_16 (v1 : Int) (v2 : Int) (v3 : Int) (v4 : Int) (M : mm_M) (R : Int → mm_M → Prop) : Prop := ∀ n, nn_L M → M.1 = n → mm_Go (mm_run 6) mc_M_crowded (nw_I n R) (16, [(0, .inr (.inr 407)), (1, .inl v1), (2, .inl v2), (3, .inl v3), (4, .inl v4)], [], M)
set_option maxRecDepth 20000 in
theorem ng_M_crowded (v1 : Int) (M : mm_M) (R : Int → mm_M → Prop) (h : (nr_M_asks 0 v1 0 9999 M (fun r9 M9 => nk_M_crowded_16 v1 (-1) r9 0 M9 R))) : nr_M_crowded v1 M R := by
  intro n L N 
  have NN := nn_L_n L N
  show mm_Go (mm_run 6) mc_M_crowded _ (0, [(0, .inr (.inr 407)), (1, .inl v1)], [], M)
  refine mm_s1 rfl ?_
  refine mm_s1 rfl ?_
  show mm_Go (mm_run 6) mc_M_crowded _ (2, [(0, .inr (.inr 407)), (1, .inl v1), (2, .inl (-1))], [], M)
  refine mm_s1 rfl ?_
  refine mm_s1 rfl ?_
  refine mm_s1 rfl ?_
  refine mm_s1 rfl ?_
  refine mm_s1 rfl ?_
  show mm_Go (mm_run 6) mc_M_crowded _ (9, [(0, .inr (.inr 407)), (1, .inl v1), (2, .inl (-1))], [.inl 9999, .inl 0, .inl v1, .inl 0, .inr (.inr 407)], M)
  refine mm_s1 rfl ⟨(nn_c407 NN).1, ?_⟩
  refine nn_call (D := 5) (by decide) (h n L N) ?_
  intro v M9 q; clear L N h
  obtain ⟨r9, rfl, L, N, h⟩ := q
  show mm_Go (mm_run 6) mc_M_crowded _ (12, [(0, .inr (.inr 407)), (1, .inl v1), (2, .inl (-1))], [.inl r9], M9)
  refine mm_s1 rfl ?_
  show mm_Go (mm_run 6) mc_M_crowded _ (13, [(0, .inr (.inr 407)), (1, .inl v1), (2, .inl (-1)), (3, .inl r9)], [], M9)
  refine mm_s1 rfl ?_
  refine mm_s1 rfl ?_
  show mm_Go (mm_run 6) mc_M_crowded _ (16, [(0, .inr (.inr 407)), (1, .inl v1), (2, .inl (-1)), (3, .inl r9), (4, .inl 0)], [], M9)
  exact nn_go_ext (nn_xc rfl (nn_xc rfl (nn_xc rfl (nn_xc rfl (nn_xc rfl nn_xn))))) (h n L N)
set_option maxRecDepth 20000 in
theorem ng_M_crowded_16 (v1 : Int) (v2 : Int) (v3 : Int) (v4 : Int) (M : mm_M) (R : Int → mm_M → Prop) (h : ((v3 ≤ v4 → R v2 M) ∧ (v4 < v3 → (((0 : Int) ≤ v4 ∧ v4 < (32 : Int)) ∧ (nr_M_rowOf 0 (nn_ri M 410 v4) M (fun r37 M37 => (nr_M_valueOf (nf_M_at 0 v1) r37 M37 (fun r40 M40 => ((v2 = (-1) → nk_M_crowded_16 v1 r40 v3 (mm_w (v4 + 1)) M40 R) ∧ (v2 ≠ (-1) → (nr_M_withValue v1 r40 M40 (fun r54 M54 => (nr_M_withValue v1 v2 M54 (fun r60 M60 => ((r54 ≤ r60 → nk_M_crowded_16 v1 v2 v3 (mm_w (v4 + 1)) M60 R) ∧ (r60 < r54 → nk_M_crowded_16 v1 r40 v3 (mm_w (v4 + 1)) M60 R)))))))))))))))) : nk_M_crowded_16 v1 v2 v3 v4 M R := by
  intro n L N 
  have NN := nn_L_n L N
  show mm_Go (mm_run 6) mc_M_crowded _ (16, [(0, .inr (.inr 407)), (1, .inl v1), (2, .inl v2), (3, .inl v3), (4, .inl v4)], [], M)
  refine mm_s1 rfl ?_
  refine mm_s1 rfl ?_
  refine mm_s1 rfl ⟨fun c19 => ?_, fun c19 => ?_⟩
  · show mm_Go (mm_run 6) mc_M_crowded _ (79, [(0, .inr (.inr 407)), (1, .inl v1), (2, .inl v2), (3, .inl v3), (4, .inl v4)], [], M)
    replace h := h.1 c19
    refine mm_s1 rfl ?_
    exact mm_s1 rfl ⟨_, rfl, L, N, h⟩
  · show mm_Go (mm_run 6) mc_M_crowded _ (22, [(0, .inr (.inr 407)), (1, .inl v1), (2, .inl v2), (3, .inl v3), (4, .inl v4)], [], M)
    replace c19 := Int.not_le.mp c19
    replace h := h.2 c19
    refine mm_s1 rfl ?_
    refine mm_s1 rfl ?_
    refine mm_s1 rfl ?_
    refine mm_s1 rfl ⟨trivial, ?_⟩
    refine np_M_at (by decide) L N ?_
    show mm_Go (mm_run 6) mc_M_crowded _ (28, [(0, .inr (.inr 407)), (1, .inl v1), (2, .inl v2), (3, .inl v3), (4, .inl v4)], [.inl (nf_M_at 0 v1), .inr (.inr 407)], M)
    refine mm_s1 rfl ?_
    refine mm_s1 rfl ?_
    refine mm_s1 rfl ?_
    refine nn_getr rfl (nn_c407 NN).1 (lf_13_10 L N (nn_c407 NN)) ?_
    refine mm_s1 rfl ?_
    show mm_Go (mm_run 6) mc_M_crowded _ (36, [(0, .inr (.inr 407)), (1, .inl v1), (2, .inl v2), (3, .inl v3), (4, .inl v4)], [.inl v4, .inr (.inr 410), .inl 0, .inr (.inr 407), .inl (nf_M_at 0 v1), .inr (.inr 407)], M)
    obtain ⟨b36, h⟩ := h
    refine mm_s1 rfl ⟨nn_bd (na_13_10 NN (nn_c407 NN)) b36, ?_⟩
    show mm_Go (mm_run 6) mc_M_crowded _ (37, [(0, .inr (.inr 407)), (1, .inl v1), (2, .inl v2), (3, .inl v3), (4, .inl v4)], [.inl (nn_ri M 410 v4), .inl 0, .inr (.inr 407), .inl (nf_M_at 0 v1), .inr (.inr 407)], M)
    refine mm_s1 rfl ⟨(nn_c407 NN).1, ?_⟩
    refine nn_call (D := 3) (by decide) (h n L N) ?_
    intro v M37 q; clear L N h
    obtain ⟨r37, rfl, L, N, h⟩ := q
    show mm_Go (mm_run 6) mc_M_crowded _ (40, [(0, .inr (.inr 407)), (1, .inl v1), (2, .inl v2), (3, .inl v3), (4, .inl v4)], [.inl r37, .inl (nf_M_at 0 v1), .inr (.inr 407)], M37)
    refine mm_s1 rfl ⟨(nn_c407 NN).1, ?_⟩
    refine nn_call (D := 3) (by decide) (h n L N) ?_
    intro v M40 q; clear L N h
    obtain ⟨r40, rfl, L, N, h⟩ := q
    show mm_Go (mm_run 6) mc_M_crowded _ (43, [(0, .inr (.inr 407)), (1, .inl v1), (2, .inl v2), (3, .inl v3), (4, .inl v4)], [.inl r40], M40)
    refine mm_s1 rfl ?_
    show mm_Go (mm_run 6) mc_M_crowded _ (45, [(0, .inr (.inr 407)), (1, .inl v1), (2, .inl v2), (3, .inl v3), (4, .inl v4), (5, .inl r40)], [], M40)
    refine mm_s1 rfl ?_
    refine mm_s1 rfl ?_
    refine mm_s1 rfl ⟨fun c47 => ?_, fun c47 => ?_⟩
    · show mm_Go (mm_run 6) mc_M_crowded _ (66, [(0, .inr (.inr 407)), (1, .inl v1), (2, .inl v2), (3, .inl v3), (4, .inl v4), (5, .inl r40)], [], M40)
      replace h := h.1 c47
      refine mm_s1 rfl ?_
      refine mm_s1 rfl ?_
      show mm_Go (mm_run 6) mc_M_crowded _ (72, [(0, .inr (.inr 407)), (1, .inl v1), (2, .inl v2), (3, .inl v3), (4, .inl v4), (5, .inl r40)], [.inl r40], M40)
      refine mm_s1 rfl ?_
      show mm_Go (mm_run 6) mc_M_crowded _ (73, [(0, .inr (.inr 407)), (1, .inl v1), (2, .inl r40), (3, .inl v3), (4, .inl v4), (5, .inl r40)], [], M40)
      refine mm_s1 rfl ?_
      show mm_Go (mm_run 6) mc_M_crowded _ (76, [(0, .inr (.inr 407)), (1, .inl v1), (2, .inl r40), (3, .inl v3), (4, .inl (mm_w (v4 + 1))), (5, .inl r40)], [], M40)
      refine mm_s1 rfl ?_
      show mm_Go (mm_run 6) mc_M_crowded _ (16, [(0, .inr (.inr 407)), (1, .inl v1), (2, .inl r40), (3, .inl v3), (4, .inl (mm_w (v4 + 1))), (5, .inl r40)], [], M40)
      exact nn_go_ext (nn_xc rfl (nn_xc rfl (nn_xc rfl (nn_xc rfl (nn_xc rfl nn_xn))))) (h n L N)
    · show mm_Go (mm_run 6) mc_M_crowded _ (50, [(0, .inr (.inr 407)), (1, .inl v1), (2, .inl v2), (3, .inl v3), (4, .inl v4), (5, .inl r40)], [], M40)
      replace h := h.2 c47
      refine mm_s1 rfl ?_
      refine mm_s1 rfl ?_
      refine mm_s1 rfl ?_
      refine mm_s1 rfl ⟨(nn_c407 NN).1, ?_⟩
      refine nn_call (D := 6) (by decide) (h n L N) ?_
      intro v M54 q; clear L N h
      obtain ⟨r54, rfl, L, N, h⟩ := q
      show mm_Go (mm_run 6) mc_M_crowded _ (57, [(0, .inr (.inr 407)), (1, .inl v1), (2, .inl v2), (3, .inl v3), (4, .inl v4), (5, .inl r40)], [.inl r54], M54)
      refine mm_s1 rfl ?_
      refine mm_s1 rfl ?_
      refine mm_s1 rfl ?_
      refine mm_s1 rfl ⟨(nn_c407 NN).1, ?_⟩
      refine nn_call (D := 6) (by decide) (h n L N) ?_
      intro v M60 q; clear L N h
      obtain ⟨r60, rfl, L, N, h⟩ := q
      show mm_Go (mm_run 6) mc_M_crowded _ (63, [(0, .inr (.inr 407)), (1, .inl v1), (2, .inl v2), (3, .inl v3), (4, .inl v4), (5, .inl r40)], [.inl r60, .inl r54], M60)
      refine mm_s1 rfl ⟨fun c63 => ?_, fun c63 => ?_⟩
      · show mm_Go (mm_run 6) mc_M_crowded _ (71, [(0, .inr (.inr 407)), (1, .inl v1), (2, .inl v2), (3, .inl v3), (4, .inl v4), (5, .inl r40)], [], M60)
        replace h := h.1 c63
        refine mm_s1 rfl ?_
        refine mm_s1 rfl ?_
        show mm_Go (mm_run 6) mc_M_crowded _ (73, [(0, .inr (.inr 407)), (1, .inl v1), (2, .inl v2), (3, .inl v3), (4, .inl v4), (5, .inl r40)], [], M60)
        refine mm_s1 rfl ?_
        show mm_Go (mm_run 6) mc_M_crowded _ (76, [(0, .inr (.inr 407)), (1, .inl v1), (2, .inl v2), (3, .inl v3), (4, .inl (mm_w (v4 + 1))), (5, .inl r40)], [], M60)
        refine mm_s1 rfl ?_
        show mm_Go (mm_run 6) mc_M_crowded _ (16, [(0, .inr (.inr 407)), (1, .inl v1), (2, .inl v2), (3, .inl v3), (4, .inl (mm_w (v4 + 1))), (5, .inl r40)], [], M60)
        exact nn_go_ext (nn_xc rfl (nn_xc rfl (nn_xc rfl (nn_xc rfl (nn_xc rfl nn_xn))))) (h n L N)
      · show mm_Go (mm_run 6) mc_M_crowded _ (66, [(0, .inr (.inr 407)), (1, .inl v1), (2, .inl v2), (3, .inl v3), (4, .inl v4), (5, .inl r40)], [], M60)
        replace c63 := Int.not_le.mp c63
        replace h := h.2 c63
        refine mm_s1 rfl ?_
        refine mm_s1 rfl ?_
        show mm_Go (mm_run 6) mc_M_crowded _ (72, [(0, .inr (.inr 407)), (1, .inl v1), (2, .inl v2), (3, .inl v3), (4, .inl v4), (5, .inl r40)], [.inl r40], M60)
        refine mm_s1 rfl ?_
        show mm_Go (mm_run 6) mc_M_crowded _ (73, [(0, .inr (.inr 407)), (1, .inl v1), (2, .inl r40), (3, .inl v3), (4, .inl v4), (5, .inl r40)], [], M60)
        refine mm_s1 rfl ?_
        show mm_Go (mm_run 6) mc_M_crowded _ (76, [(0, .inr (.inr 407)), (1, .inl v1), (2, .inl r40), (3, .inl v3), (4, .inl (mm_w (v4 + 1))), (5, .inl r40)], [], M60)
        refine mm_s1 rfl ?_
        show mm_Go (mm_run 6) mc_M_crowded _ (16, [(0, .inr (.inr 407)), (1, .inl v1), (2, .inl r40), (3, .inl v3), (4, .inl (mm_w (v4 + 1))), (5, .inl r40)], [], M60)
        exact nn_go_ext (nn_xc rfl (nn_xc rfl (nn_xc rfl (nn_xc rfl (nn_xc rfl nn_xn))))) (h n L N)
def nr_LI_load (v1 : Int) (v2 : Int) (M : mm_M) (R : Int → mm_M → Prop) : Prop := ∀ n, nn_L M → M.1 = n → mm_run 8 mi_LI_load [.inr (.inr 1), .inl v1, .inl v2] M (nw_I n R)
set_option maxRecDepth 20000 in
theorem ng_LI_load (v1 : Int) (v2 : Int) (M : mm_M) (R : Int → mm_M → Prop) (h : (((nf_LI_isLoad v2) = 0 → R (-1) M) ∧ ((nf_LI_isLoad v2) ≠ 0 → (nr_Store_loaded 2 v1 v2 M (fun r13 M13 => R r13 M13))))) : nr_LI_load v1 v2 M R := by
  intro n L N 
  have NN := nn_L_n L N
  show mm_Go (mm_run 7) mc_LI_load _ (0, [(0, .inr (.inr 1)), (1, .inl v1), (2, .inl v2)], [], M)
  refine mm_s1 rfl ?_
  refine mm_s1 rfl ⟨trivial, ?_⟩
  refine np_LI_isLoad (by decide) L N ?_
  show mm_Go (mm_run 7) mc_LI_load _ (4, [(0, .inr (.inr 1)), (1, .inl v1), (2, .inl v2)], [.inl (nf_LI_isLoad v2)], M)
  refine mm_s1 rfl ⟨fun c4 => ?_, fun c4 => ?_⟩
  · show mm_Go (mm_run 7) mc_LI_load _ (19, [(0, .inr (.inr 1)), (1, .inl v1), (2, .inl v2)], [], M)
    replace h := h.1 c4
    refine mm_s1 rfl ?_
    exact mm_s1 rfl ⟨_, rfl, L, N, h⟩
  · show mm_Go (mm_run 7) mc_LI_load _ (7, [(0, .inr (.inr 1)), (1, .inl v1), (2, .inl v2)], [], M)
    replace h := h.2 c4
    refine mm_s1 rfl ?_
    refine nn_getr rfl (nn_c1 NN).1 (lf_1_0 L N (nn_c1 NN)) ?_
    refine mm_s1 rfl ?_
    refine mm_s1 rfl ?_
    refine mm_s1 rfl ⟨(nc_1_0 NN (nn_c1 NN)).1, ?_⟩
    refine nn_call (D := 7) (by decide) (h n L N (nc_1_0 NN (nn_c1 NN))) ?_
    intro v M13 q; clear L N h
    obtain ⟨r13, rfl, L, N, h⟩ := q
    show mm_Go (mm_run 7) mc_LI_load _ (16, [(0, .inr (.inr 1)), (1, .inl v1), (2, .inl v2)], [.inl r13], M13)
    refine mm_s1 rfl ?_
    show mm_Go (mm_run 7) mc_LI_load _ (20, [(0, .inr (.inr 1)), (1, .inl v1), (2, .inl v2)], [.inl r13], M13)
    exact mm_s1 rfl ⟨_, rfl, L, N, h⟩
def nr_LI_tried (v1 : Int) (v2 : Int) (v3 : Int) (M : mm_M) (R : Int → mm_M → Prop) : Prop := ∀ n, nn_L M → M.1 = n → mm_run 8 mi_LI_tried [.inr (.inr 1), .inl v1, .inl v2, .inl v3] M (nw_I n R)
def nk_LI_tried_14 (v1 : Int) (v2 : Int) (v3 : Int) (M : mm_M) (R : Int → mm_M → Prop) : Prop := ∀ n, nn_L M → M.1 = n → mm_Go (mm_run 7) mc_LI_tried (nw_I n R) (14, [(0, .inr (.inr 1)), (1, .inl v1), (2, .inl v2), (3, .inl v3)], [], M)
def nk_LI_tried_62 (v1 : Int) (v2 : Int) (v3 : Int) (v4 : Int) (v5 : Int) (M : mm_M) (R : Int → mm_M → Prop) : Prop := ∀ n, nn_L M → M.1 = n → mm_Go (mm_run 7) mc_LI_tried (nw_I n R) (62, [(0, .inr (.inr 1)), (1, .inl v1), (2, .inl v2), (3, .inl v3), (4, .inl v4), (5, .inl v5)], [], M)
set_option maxRecDepth 20000 in
theorem ng_LI_tried (v1 : Int) (v2 : Int) (v3 : Int) (M : mm_M) (R : Int → mm_M → Prop) (h : ((v3 < 0 → nk_LI_tried_14 v1 v2 v3 M R) ∧ (0 ≤ v3 → ((13 < v3 → nk_LI_tried_14 v1 v2 v3 M R) ∧ (v3 ≤ 13 → ((v3 < 30 → (((nf_LI_isLoad v2) = 0 → R (-1) M) ∧ ((nf_LI_isLoad v2) ≠ 0 → nk_LI_tried_62 v1 v2 v3 1 (mm_w (v3 - 20)) M R))) ∧ (30 ≤ v3 → (((nf_LI_isLoad v2) = 0 → R (-1) M) ∧ ((nf_LI_isLoad v2) ≠ 0 → nk_LI_tried_62 v1 v2 v3 1 (mm_w (v3 - 30)) M R))))))))) : nr_LI_tried v1 v2 v3 M R := by
  intro n L N 
  have NN := nn_L_n L N
  show mm_Go (mm_run 7) mc_LI_tried _ (0, [(0, .inr (.inr 1)), (1, .inl v1), (2, .inl v2), (3, .inl v3)], [], M)
  refine mm_s1 rfl ?_
  refine mm_s1 rfl ⟨fun c1 => ?_, fun c1 => ?_⟩
  · show mm_Go (mm_run 7) mc_LI_tried _ (14, [(0, .inr (.inr 1)), (1, .inl v1), (2, .inl v2), (3, .inl v3)], [], M)
    replace h := h.1 c1
    exact nn_go_ext (nn_xc rfl (nn_xc rfl (nn_xc rfl (nn_xc rfl nn_xn)))) (h n L N)
  · show mm_Go (mm_run 7) mc_LI_tried _ (4, [(0, .inr (.inr 1)), (1, .inl v1), (2, .inl v2), (3, .inl v3)], [], M)
    replace c1 := Int.not_lt.mp c1
    replace h := h.2 c1
    refine mm_s1 rfl ?_
    refine mm_s1 rfl ?_
    refine mm_s1 rfl ⟨fun c7 => ?_, fun c7 => ?_⟩
    · show mm_Go (mm_run 7) mc_LI_tried _ (14, [(0, .inr (.inr 1)), (1, .inl v1), (2, .inl v2), (3, .inl v3)], [], M)
      replace h := h.1 c7
      exact nn_go_ext (nn_xc rfl (nn_xc rfl (nn_xc rfl (nn_xc rfl nn_xn)))) (h n L N)
    · show mm_Go (mm_run 7) mc_LI_tried _ (10, [(0, .inr (.inr 1)), (1, .inl v1), (2, .inl v2), (3, .inl v3)], [], M)
      replace c7 := Int.not_lt.mp c7
      replace h := h.2 c7
      refine mm_s1 rfl ?_
      refine mm_s1 rfl ?_
      show mm_Go (mm_run 7) mc_LI_tried _ (15, [(0, .inr (.inr 1)), (1, .inl v1), (2, .inl v2), (3, .inl v3)], [.inl 1], M)
      refine mm_s1 rfl ?_
      show mm_Go (mm_run 7) mc_LI_tried _ (17, [(0, .inr (.inr 1)), (1, .inl v1), (2, .inl v2), (3, .inl v3), (4, .inl 1)], [], M)
      refine mm_s1 rfl ?_
      refine mm_s1 rfl ?_
      refine mm_s1 rfl ⟨fun c20 => ?_, fun c20 => ?_⟩
      · show mm_Go (mm_run 7) mc_LI_tried _ (30, [(0, .inr (.inr 1)), (1, .inl v1), (2, .inl v2), (3, .inl v3), (4, .inl 1)], [], M)
        replace h := h.1 c20
        refine mm_s1 rfl ?_
        refine mm_s1 rfl ?_
        refine mm_s1 rfl ?_
        refine mm_s1 rfl ?_
        show mm_Go (mm_run 7) mc_LI_tried _ (36, [(0, .inr (.inr 1)), (1, .inl v1), (2, .inl v2), (3, .inl v3), (4, .inl 1), (5, .inl (mm_w (v3 - 20)))], [], M)
        refine mm_s1 rfl ?_
        refine mm_s1 rfl ⟨trivial, ?_⟩
        refine np_LI_isLoad (by decide) L N ?_
        show mm_Go (mm_run 7) mc_LI_tried _ (40, [(0, .inr (.inr 1)), (1, .inl v1), (2, .inl v2), (3, .inl v3), (4, .inl 1), (5, .inl (mm_w (v3 - 20)))], [.inl (nf_LI_isLoad v2)], M)
        refine mm_s1 rfl ⟨fun c40 => ?_, fun c40 => ?_⟩
        · show mm_Go (mm_run 7) mc_LI_tried _ (60, [(0, .inr (.inr 1)), (1, .inl v1), (2, .inl v2), (3, .inl v3), (4, .inl 1), (5, .inl (mm_w (v3 - 20)))], [], M)
          replace h := h.1 c40
          refine mm_s1 rfl ?_
          exact mm_s1 rfl ⟨_, rfl, L, N, h⟩
        · show mm_Go (mm_run 7) mc_LI_tried _ (43, [(0, .inr (.inr 1)), (1, .inl v1), (2, .inl v2), (3, .inl v3), (4, .inl 1), (5, .inl (mm_w (v3 - 20)))], [], M)
          replace h := h.2 c40
          refine mm_s1 rfl ?_
          refine mm_s1 rfl ⟨fun _ => ?_, fun c => absurd (show (1 : Int) ≠ 0 by decide) c⟩
          show mm_Go (mm_run 7) mc_LI_tried _ (62, [(0, .inr (.inr 1)), (1, .inl v1), (2, .inl v2), (3, .inl v3), (4, .inl 1), (5, .inl (mm_w (v3 - 20)))], [], M)
          exact nn_go_ext (nn_xc rfl (nn_xc rfl (nn_xc rfl (nn_xc rfl (nn_xc rfl (nn_xc rfl nn_xn)))))) (h n L N)
      · show mm_Go (mm_run 7) mc_LI_tried _ (23, [(0, .inr (.inr 1)), (1, .inl v1), (2, .inl v2), (3, .inl v3), (4, .inl 1)], [], M)
        replace c20 := Int.not_lt.mp c20
        replace h := h.2 c20
        refine mm_s1 rfl ?_
        refine mm_s1 rfl ?_
        refine mm_s1 rfl ?_
        refine mm_s1 rfl ?_
        show mm_Go (mm_run 7) mc_LI_tried _ (34, [(0, .inr (.inr 1)), (1, .inl v1), (2, .inl v2), (3, .inl v3), (4, .inl 1)], [.inl (mm_w (v3 - 30))], M)
        refine mm_s1 rfl ?_
        show mm_Go (mm_run 7) mc_LI_tried _ (36, [(0, .inr (.inr 1)), (1, .inl v1), (2, .inl v2), (3, .inl v3), (4, .inl 1), (5, .inl (mm_w (v3 - 30)))], [], M)
        refine mm_s1 rfl ?_
        refine mm_s1 rfl ⟨trivial, ?_⟩
        refine np_LI_isLoad (by decide) L N ?_
        show mm_Go (mm_run 7) mc_LI_tried _ (40, [(0, .inr (.inr 1)), (1, .inl v1), (2, .inl v2), (3, .inl v3), (4, .inl 1), (5, .inl (mm_w (v3 - 30)))], [.inl (nf_LI_isLoad v2)], M)
        refine mm_s1 rfl ⟨fun c40 => ?_, fun c40 => ?_⟩
        · show mm_Go (mm_run 7) mc_LI_tried _ (60, [(0, .inr (.inr 1)), (1, .inl v1), (2, .inl v2), (3, .inl v3), (4, .inl 1), (5, .inl (mm_w (v3 - 30)))], [], M)
          replace h := h.1 c40
          refine mm_s1 rfl ?_
          exact mm_s1 rfl ⟨_, rfl, L, N, h⟩
        · show mm_Go (mm_run 7) mc_LI_tried _ (43, [(0, .inr (.inr 1)), (1, .inl v1), (2, .inl v2), (3, .inl v3), (4, .inl 1), (5, .inl (mm_w (v3 - 30)))], [], M)
          replace h := h.2 c40
          refine mm_s1 rfl ?_
          refine mm_s1 rfl ⟨fun _ => ?_, fun c => absurd (show (1 : Int) ≠ 0 by decide) c⟩
          show mm_Go (mm_run 7) mc_LI_tried _ (62, [(0, .inr (.inr 1)), (1, .inl v1), (2, .inl v2), (3, .inl v3), (4, .inl 1), (5, .inl (mm_w (v3 - 30)))], [], M)
          exact nn_go_ext (nn_xc rfl (nn_xc rfl (nn_xc rfl (nn_xc rfl (nn_xc rfl (nn_xc rfl nn_xn)))))) (h n L N)
set_option maxRecDepth 20000 in
theorem ng_LI_tried_14 (v1 : Int) (v2 : Int) (v3 : Int) (M : mm_M) (R : Int → mm_M → Prop) (h : ((v3 < 30 → (((nf_LI_isLoad v2) = 0 → R (-1) M) ∧ ((nf_LI_isLoad v2) ≠ 0 → (nr_Store_find 2 (mm_w (v3 - 20)) M (fun r54 M54 => ((r54 ≠ 0 → nk_LI_tried_62 v1 v2 v3 0 (mm_w (v3 - 20)) M54 R) ∧ (r54 = 0 → R (-1) M54))))))) ∧ (30 ≤ v3 → (((nf_LI_isLoad v2) = 0 → R (-1) M) ∧ ((nf_LI_isLoad v2) ≠ 0 → (nr_Store_find 2 (mm_w (v3 - 30)) M (fun r54 M54 => ((r54 ≠ 0 → nk_LI_tried_62 v1 v2 v3 0 (mm_w (v3 - 30)) M54 R) ∧ (r54 = 0 → R (-1) M54))))))))) : nk_LI_tried_14 v1 v2 v3 M R := by
  intro n L N 
  have NN := nn_L_n L N
  show mm_Go (mm_run 7) mc_LI_tried _ (14, [(0, .inr (.inr 1)), (1, .inl v1), (2, .inl v2), (3, .inl v3)], [], M)
  refine mm_s1 rfl ?_
  refine mm_s1 rfl ?_
  show mm_Go (mm_run 7) mc_LI_tried _ (17, [(0, .inr (.inr 1)), (1, .inl v1), (2, .inl v2), (3, .inl v3), (4, .inl 0)], [], M)
  refine mm_s1 rfl ?_
  refine mm_s1 rfl ?_
  refine mm_s1 rfl ⟨fun c20 => ?_, fun c20 => ?_⟩
  · show mm_Go (mm_run 7) mc_LI_tried _ (30, [(0, .inr (.inr 1)), (1, .inl v1), (2, .inl v2), (3, .inl v3), (4, .inl 0)], [], M)
    replace h := h.1 c20
    refine mm_s1 rfl ?_
    refine mm_s1 rfl ?_
    refine mm_s1 rfl ?_
    refine mm_s1 rfl ?_
    show mm_Go (mm_run 7) mc_LI_tried _ (36, [(0, .inr (.inr 1)), (1, .inl v1), (2, .inl v2), (3, .inl v3), (4, .inl 0), (5, .inl (mm_w (v3 - 20)))], [], M)
    refine mm_s1 rfl ?_
    refine mm_s1 rfl ⟨trivial, ?_⟩
    refine np_LI_isLoad (by decide) L N ?_
    show mm_Go (mm_run 7) mc_LI_tried _ (40, [(0, .inr (.inr 1)), (1, .inl v1), (2, .inl v2), (3, .inl v3), (4, .inl 0), (5, .inl (mm_w (v3 - 20)))], [.inl (nf_LI_isLoad v2)], M)
    refine mm_s1 rfl ⟨fun c40 => ?_, fun c40 => ?_⟩
    · show mm_Go (mm_run 7) mc_LI_tried _ (60, [(0, .inr (.inr 1)), (1, .inl v1), (2, .inl v2), (3, .inl v3), (4, .inl 0), (5, .inl (mm_w (v3 - 20)))], [], M)
      replace h := h.1 c40
      refine mm_s1 rfl ?_
      exact mm_s1 rfl ⟨_, rfl, L, N, h⟩
    · show mm_Go (mm_run 7) mc_LI_tried _ (43, [(0, .inr (.inr 1)), (1, .inl v1), (2, .inl v2), (3, .inl v3), (4, .inl 0), (5, .inl (mm_w (v3 - 20)))], [], M)
      replace h := h.2 c40
      refine mm_s1 rfl ?_
      refine mm_s1 rfl ⟨fun c => absurd c (show ¬ ((0 : Int) ≠ 0) by decide), fun _ => ?_⟩
      show mm_Go (mm_run 7) mc_LI_tried _ (48, [(0, .inr (.inr 1)), (1, .inl v1), (2, .inl v2), (3, .inl v3), (4, .inl 0), (5, .inl (mm_w (v3 - 20)))], [], M)
      refine mm_s1 rfl ?_
      refine nn_getr rfl (nn_c1 NN).1 (lf_1_0 L N (nn_c1 NN)) ?_
      refine mm_s1 rfl ?_
      refine mm_s1 rfl ⟨(nc_1_0 NN (nn_c1 NN)).1, ?_⟩
      refine nn_call (D := 1) (by decide) (h n L N (nc_1_0 NN (nn_c1 NN))) ?_
      intro v M54 q; clear L N h
      obtain ⟨r54, rfl, q54, L, N, h⟩ := q
      show mm_Go (mm_run 7) mc_LI_tried _ (57, [(0, .inr (.inr 1)), (1, .inl v1), (2, .inl v2), (3, .inl v3), (4, .inl 0), (5, .inl (mm_w (v3 - 20)))], [.inr (.inr r54)], M54)
      refine mm_s1 rfl ⟨fun c57 => ?_, fun c57 => ?_⟩
      · show mm_Go (mm_run 7) mc_LI_tried _ (62, [(0, .inr (.inr 1)), (1, .inl v1), (2, .inl v2), (3, .inl v3), (4, .inl 0), (5, .inl (mm_w (v3 - 20)))], [], M54)
        replace h := h.1 c57
        exact nn_go_ext (nn_xc rfl (nn_xc rfl (nn_xc rfl (nn_xc rfl (nn_xc rfl (nn_xc rfl nn_xn)))))) (h n L N)
      · show mm_Go (mm_run 7) mc_LI_tried _ (60, [(0, .inr (.inr 1)), (1, .inl v1), (2, .inl v2), (3, .inl v3), (4, .inl 0), (5, .inl (mm_w (v3 - 20)))], [], M54)
        replace c57 := Decidable.not_not.mp c57
        replace h := h.2 c57
        refine mm_s1 rfl ?_
        exact mm_s1 rfl ⟨_, rfl, L, N, h⟩
  · show mm_Go (mm_run 7) mc_LI_tried _ (23, [(0, .inr (.inr 1)), (1, .inl v1), (2, .inl v2), (3, .inl v3), (4, .inl 0)], [], M)
    replace c20 := Int.not_lt.mp c20
    replace h := h.2 c20
    refine mm_s1 rfl ?_
    refine mm_s1 rfl ?_
    refine mm_s1 rfl ?_
    refine mm_s1 rfl ?_
    show mm_Go (mm_run 7) mc_LI_tried _ (34, [(0, .inr (.inr 1)), (1, .inl v1), (2, .inl v2), (3, .inl v3), (4, .inl 0)], [.inl (mm_w (v3 - 30))], M)
    refine mm_s1 rfl ?_
    show mm_Go (mm_run 7) mc_LI_tried _ (36, [(0, .inr (.inr 1)), (1, .inl v1), (2, .inl v2), (3, .inl v3), (4, .inl 0), (5, .inl (mm_w (v3 - 30)))], [], M)
    refine mm_s1 rfl ?_
    refine mm_s1 rfl ⟨trivial, ?_⟩
    refine np_LI_isLoad (by decide) L N ?_
    show mm_Go (mm_run 7) mc_LI_tried _ (40, [(0, .inr (.inr 1)), (1, .inl v1), (2, .inl v2), (3, .inl v3), (4, .inl 0), (5, .inl (mm_w (v3 - 30)))], [.inl (nf_LI_isLoad v2)], M)
    refine mm_s1 rfl ⟨fun c40 => ?_, fun c40 => ?_⟩
    · show mm_Go (mm_run 7) mc_LI_tried _ (60, [(0, .inr (.inr 1)), (1, .inl v1), (2, .inl v2), (3, .inl v3), (4, .inl 0), (5, .inl (mm_w (v3 - 30)))], [], M)
      replace h := h.1 c40
      refine mm_s1 rfl ?_
      exact mm_s1 rfl ⟨_, rfl, L, N, h⟩
    · show mm_Go (mm_run 7) mc_LI_tried _ (43, [(0, .inr (.inr 1)), (1, .inl v1), (2, .inl v2), (3, .inl v3), (4, .inl 0), (5, .inl (mm_w (v3 - 30)))], [], M)
      replace h := h.2 c40
      refine mm_s1 rfl ?_
      refine mm_s1 rfl ⟨fun c => absurd c (show ¬ ((0 : Int) ≠ 0) by decide), fun _ => ?_⟩
      show mm_Go (mm_run 7) mc_LI_tried _ (48, [(0, .inr (.inr 1)), (1, .inl v1), (2, .inl v2), (3, .inl v3), (4, .inl 0), (5, .inl (mm_w (v3 - 30)))], [], M)
      refine mm_s1 rfl ?_
      refine nn_getr rfl (nn_c1 NN).1 (lf_1_0 L N (nn_c1 NN)) ?_
      refine mm_s1 rfl ?_
      refine mm_s1 rfl ⟨(nc_1_0 NN (nn_c1 NN)).1, ?_⟩
      refine nn_call (D := 1) (by decide) (h n L N (nc_1_0 NN (nn_c1 NN))) ?_
      intro v M54 q; clear L N h
      obtain ⟨r54, rfl, q54, L, N, h⟩ := q
      show mm_Go (mm_run 7) mc_LI_tried _ (57, [(0, .inr (.inr 1)), (1, .inl v1), (2, .inl v2), (3, .inl v3), (4, .inl 0), (5, .inl (mm_w (v3 - 30)))], [.inr (.inr r54)], M54)
      refine mm_s1 rfl ⟨fun c57 => ?_, fun c57 => ?_⟩
      · show mm_Go (mm_run 7) mc_LI_tried _ (62, [(0, .inr (.inr 1)), (1, .inl v1), (2, .inl v2), (3, .inl v3), (4, .inl 0), (5, .inl (mm_w (v3 - 30)))], [], M54)
        replace h := h.1 c57
        exact nn_go_ext (nn_xc rfl (nn_xc rfl (nn_xc rfl (nn_xc rfl (nn_xc rfl (nn_xc rfl nn_xn)))))) (h n L N)
      · show mm_Go (mm_run 7) mc_LI_tried _ (60, [(0, .inr (.inr 1)), (1, .inl v1), (2, .inl v2), (3, .inl v3), (4, .inl 0), (5, .inl (mm_w (v3 - 30)))], [], M54)
        replace c57 := Decidable.not_not.mp c57
        replace h := h.2 c57
        refine mm_s1 rfl ?_
        exact mm_s1 rfl ⟨_, rfl, L, N, h⟩
set_option maxRecDepth 20000 in
theorem ng_LI_tried_62 (v1 : Int) (v2 : Int) (v3 : Int) (v4 : Int) (v5 : Int) (M : mm_M) (R : Int → mm_M → Prop) (h : (nr_Store_copy 161 2 M (fun M70 => (nr_Store_loaded 161 v1 v2 M70 (fun r79 M79 => ((v4 = 0 → (nr_Store_find 161 v5 M79 (fun r107 M107 => ((r107 ≠ 0 → ((v3 < 30 → ((nc_Index_size r107 M107) ∧ R (nf_Index_size r107 M107) M107)) ∧ (30 ≤ v3 → (nr_Index_waste r107 168 M107 (fun r137 M137 => R r137 M137))))) ∧ (r107 = 0 → R (-1) M107))))) ∧ (v4 ≠ 0 → (nr_Store_counted 161 v3 320 M79 (fun r97 M97 => R r97 M97))))))))) : nk_LI_tried_62 v1 v2 v3 v4 v5 M R := by
  intro n L N 
  have NN := nn_L_n L N
  show mm_Go (mm_run 7) mc_LI_tried _ (62, [(0, .inr (.inr 1)), (1, .inl v1), (2, .inl v2), (3, .inl v3), (4, .inl v4), (5, .inl v5)], [], M)
  refine mm_s1 rfl ?_
  refine nn_getr rfl (nn_c1 NN).1 (lf_1_1 L N (nn_c1 NN)) ?_
  refine mm_s1 rfl ?_
  refine nn_getr rfl (nn_c1 NN).1 (lf_1_0 L N (nn_c1 NN)) ?_
  refine mm_s1 rfl ⟨(nc_1_1 NN (nn_c1 NN)).1, ?_⟩
  refine nn_call (D := 4) (by decide) (h n L N (nc_1_1 NN (nn_c1 NN)) (nc_1_0 NN (nn_c1 NN))) ?_
  intro v M70 q; clear L N h
  obtain ⟨rfl, L, N, h⟩ := q
  show mm_Go (mm_run 7) mc_LI_tried _ (73, [(0, .inr (.inr 1)), (1, .inl v1), (2, .inl v2), (3, .inl v3), (4, .inl v4), (5, .inl v5)], [], M70)
  refine mm_s1 rfl ?_
  refine nn_getr rfl (nn_c1 NN).1 (lf_1_1 L N (nn_c1 NN)) ?_
  refine mm_s1 rfl ?_
  refine mm_s1 rfl ?_
  refine mm_s1 rfl ⟨(nc_1_1 NN (nn_c1 NN)).1, ?_⟩
  refine nn_call (D := 7) (by decide) (h n L N (nc_1_1 NN (nn_c1 NN))) ?_
  intro v M79 q; clear L N h
  obtain ⟨r79, rfl, L, N, h⟩ := q
  show mm_Go (mm_run 7) mc_LI_tried _ (82, [(0, .inr (.inr 1)), (1, .inl v1), (2, .inl v2), (3, .inl v3), (4, .inl v4), (5, .inl v5)], [.inl r79], M79)
  refine mm_s1 rfl ?_
  refine mm_s1 rfl ?_
  refine mm_s1 rfl ⟨fun c85 => ?_, fun c85 => ?_⟩
  · show mm_Go (mm_run 7) mc_LI_tried _ (101, [(0, .inr (.inr 1)), (1, .inl v1), (2, .inl v2), (3, .inl v3), (4, .inl v4), (5, .inl v5)], [], M79)
    replace h := h.1 c85
    refine mm_s1 rfl ?_
    refine nn_getr rfl (nn_c1 NN).1 (lf_1_1 L N (nn_c1 NN)) ?_
    refine mm_s1 rfl ?_
    refine mm_s1 rfl ⟨(nc_1_1 NN (nn_c1 NN)).1, ?_⟩
    refine nn_call (D := 1) (by decide) (h n L N (nc_1_1 NN (nn_c1 NN))) ?_
    intro v M107 q; clear L N h
    obtain ⟨r107, rfl, q107, L, N, h⟩ := q
    show mm_Go (mm_run 7) mc_LI_tried _ (110, [(0, .inr (.inr 1)), (1, .inl v1), (2, .inl v2), (3, .inl v3), (4, .inl v4), (5, .inl v5)], [.inr (.inr r107)], M107)
    refine mm_s1 rfl ?_
    show mm_Go (mm_run 7) mc_LI_tried _ (112, [(0, .inr (.inr 1)), (1, .inl v1), (2, .inl v2), (3, .inl v3), (4, .inl v4), (5, .inl v5), (6, .inr (.inr r107))], [], M107)
    refine mm_s1 rfl ?_
    refine mm_s1 rfl ⟨fun c114 => ?_, fun c114 => ?_⟩
    · show mm_Go (mm_run 7) mc_LI_tried _ (119, [(0, .inr (.inr 1)), (1, .inl v1), (2, .inl v2), (3, .inl v3), (4, .inl v4), (5, .inl v5), (6, .inr (.inr r107))], [], M107)
      replace h := h.1 c114
      refine mm_s1 rfl ?_
      refine mm_s1 rfl ?_
      refine mm_s1 rfl ⟨fun c122 => ?_, fun c122 => ?_⟩
      · show mm_Go (mm_run 7) mc_LI_tried _ (143, [(0, .inr (.inr 1)), (1, .inl v1), (2, .inl v2), (3, .inl v3), (4, .inl v4), (5, .inl v5), (6, .inr (.inr r107))], [], M107)
        replace h := h.1 c122
        refine mm_s1 rfl ?_
        obtain ⟨b145, h⟩ := h
        refine mm_s1 rfl ⟨(Or.resolve_left q107 c114).1, ?_⟩
        refine np_Index_size (by decide) L N (Or.resolve_left q107 c114) b145 ?_
        show mm_Go (mm_run 7) mc_LI_tried _ (148, [(0, .inr (.inr 1)), (1, .inl v1), (2, .inl v2), (3, .inl v3), (4, .inl v4), (5, .inl v5), (6, .inr (.inr r107))], [.inl (nf_Index_size r107 M107)], M107)
        exact mm_s1 rfl ⟨_, rfl, L, N, h⟩
      · show mm_Go (mm_run 7) mc_LI_tried _ (125, [(0, .inr (.inr 1)), (1, .inl v1), (2, .inl v2), (3, .inl v3), (4, .inl v4), (5, .inl v5), (6, .inr (.inr r107))], [], M107)
        replace c122 := Int.not_lt.mp c122
        replace h := h.2 c122
        refine mm_s1 rfl ?_
        refine mm_s1 rfl ?_
        refine nn_getr rfl (nn_c1 NN).1 (lf_1_1 L N (nn_c1 NN)) ?_
        refine nn_getr rfl (nc_1_1 NN (nn_c1 NN)).1 (lf_9_1 L N (nc_1_1 NN (nn_c1 NN))) ?_
        refine nn_getr rfl (nc_9_1 NN (nc_1_1 NN (nn_c1 NN))).1 (lf_10_1 L N (nc_9_1 NN (nc_1_1 NN (nn_c1 NN)))) ?_
        show mm_Go (mm_run 7) mc_LI_tried _ (137, [(0, .inr (.inr 1)), (1, .inl v1), (2, .inl v2), (3, .inl v3), (4, .inl v4), (5, .inl v5), (6, .inr (.inr r107))], [.inr (.inr 168), .inr (.inr r107)], M107)
        refine mm_s1 rfl ⟨(Or.resolve_left q107 c114).1, ?_⟩
        refine nn_call (D := 4) (by decide) (h n L N (Or.resolve_left q107 c114) (nc_10_1 NN (nc_9_1 NN (nc_1_1 NN (nn_c1 NN))))) ?_
        intro v M137 q; clear L N h
        obtain ⟨r137, rfl, L, N, h⟩ := q
        show mm_Go (mm_run 7) mc_LI_tried _ (140, [(0, .inr (.inr 1)), (1, .inl v1), (2, .inl v2), (3, .inl v3), (4, .inl v4), (5, .inl v5), (6, .inr (.inr r107))], [.inl r137], M137)
        refine mm_s1 rfl ?_
        show mm_Go (mm_run 7) mc_LI_tried _ (148, [(0, .inr (.inr 1)), (1, .inl v1), (2, .inl v2), (3, .inl v3), (4, .inl v4), (5, .inl v5), (6, .inr (.inr r107))], [.inl r137], M137)
        exact mm_s1 rfl ⟨_, rfl, L, N, h⟩
    · show mm_Go (mm_run 7) mc_LI_tried _ (117, [(0, .inr (.inr 1)), (1, .inl v1), (2, .inl v2), (3, .inl v3), (4, .inl v4), (5, .inl v5), (6, .inr (.inr r107))], [], M107)
      replace c114 := Decidable.not_not.mp c114
      replace h := h.2 c114
      refine mm_s1 rfl ?_
      exact mm_s1 rfl ⟨_, rfl, L, N, h⟩
  · show mm_Go (mm_run 7) mc_LI_tried _ (88, [(0, .inr (.inr 1)), (1, .inl v1), (2, .inl v2), (3, .inl v3), (4, .inl v4), (5, .inl v5)], [], M79)
    replace h := h.2 c85
    refine mm_s1 rfl ?_
    refine nn_getr rfl (nn_c1 NN).1 (lf_1_1 L N (nn_c1 NN)) ?_
    refine mm_s1 rfl ?_
    refine mm_s1 rfl ?_
    refine nn_getr rfl (nn_c1 NN).1 (lf_1_2 L N (nn_c1 NN)) ?_
    show mm_Go (mm_run 7) mc_LI_tried _ (97, [(0, .inr (.inr 1)), (1, .inl v1), (2, .inl v2), (3, .inl v3), (4, .inl v4), (5, .inl v5)], [.inr (.inr 320), .inl v3, .inr (.inr 161)], M79)
    refine mm_s1 rfl ⟨(nc_1_1 NN (nn_c1 NN)).1, ?_⟩
    refine nn_call (D := 6) (by decide) (h n L N (nc_1_1 NN (nn_c1 NN)) (nc_1_2 NN (nn_c1 NN))) ?_
    intro v M97 q; clear L N h
    obtain ⟨r97, rfl, L, N, h⟩ := q
    show mm_Go (mm_run 7) mc_LI_tried _ (100, [(0, .inr (.inr 1)), (1, .inl v1), (2, .inl v2), (3, .inl v3), (4, .inl v4), (5, .inl v5)], [.inl r97], M97)
    exact mm_s1 rfl ⟨_, rfl, L, N, h⟩
def nr_Reader_word (v0 : Nat) (v1 : Int) (v2 : Int) (M : mm_M) (R : Int → mm_M → Prop) : Prop := ∀ n, nn_L M → M.1 = n → nn_C 20 v0 n → mm_run 8 mi_Reader_word [.inr (.inr v0), .inl v1, .inl v2] M (nw_I n R)
set_option maxRecDepth 20000 in
theorem ng_Reader_word (v0 : Nat) (v1 : Int) (v2 : Int) (M : mm_M) (R : Int → mm_M → Prop) (h : ((((mm_w (v2 - v1)) = 1) → ((0 : Int) ≤ v1 ∧ v1 < ((mm_kd v0).2 : Int))) ∧ (((mm_w (v2 - v1)) ≠ 1 ∨ (4 ≤ (mm_w ((nn_ri M v0 v1) - 97)))) → (nr_Reader_isWord v0 v1 v2 6000 M (fun r24 M24 => ((r24 = 0 → (nr_Reader_isWord v0 v1 v2 6001 M24 (fun r37 M37 => ((r37 = 0 → (nr_Reader_isWord v0 v1 v2 6002 M37 (fun r50 M50 => ((r50 = 0 → (nr_Reader_isWord v0 v1 v2 6003 M50 (fun r63 M63 => ((r63 = 0 → (nr_Reader_isWord v0 v1 v2 6004 M63 (fun r77 M77 => ((r77 = 0 → R 13 M77) ∧ (r77 ≠ 0 → R 7 M77))))) ∧ (r63 ≠ 0 → R 6 M63))))) ∧ (r50 ≠ 0 → R 5 M50))))) ∧ (r37 ≠ 0 → R 4 M37))))) ∧ (r24 ≠ 0 → R 3 M24))))) ∧ (((mm_w (v2 - v1)) = 1 ∧ ((mm_w ((nn_ri M v0 v1) - 97)) < 4)) → R 2 M))) : nr_Reader_word v0 v1 v2 M R := by
  intro n L N C0
  have NN := nn_L_n L N
  show mm_Go (mm_run 7) mc_Reader_word _ (0, [(0, .inr (.inr v0)), (1, .inl v1), (2, .inl v2)], [], M)
  refine mm_s1 rfl ?_
  refine mm_s1 rfl ?_
  refine mm_s1 rfl ?_
  refine mm_s1 rfl ?_
  refine mm_s1 rfl ⟨fun c4 => ?_, fun c4 => ?_⟩
  · show mm_Go (mm_run 7) mc_Reader_word _ (19, [(0, .inr (.inr v0)), (1, .inl v1), (2, .inl v2)], [], M)
    refine mm_s1 rfl ?_
    refine mm_s1 rfl ?_
    refine mm_s1 rfl ?_
    refine mm_s1 rfl ?_
    replace h := h.2.1 (Or.inl c4)
    refine mm_s1 rfl ⟨trivial, ?_⟩
    refine nn_call (D := 7) (by decide) (h n L N C0) ?_
    intro v M24 q; clear L N h
    obtain ⟨r24, rfl, q24, L, N, h⟩ := q
    show mm_Go (mm_run 7) mc_Reader_word _ (27, [(0, .inr (.inr v0)), (1, .inl v1), (2, .inl v2)], [.inl r24], M24)
    refine mm_s1 rfl ⟨fun c27 => ?_, fun c27 => ?_⟩
    · show mm_Go (mm_run 7) mc_Reader_word _ (32, [(0, .inr (.inr v0)), (1, .inl v1), (2, .inl v2)], [], M24)
      replace h := h.1 c27
      refine mm_s1 rfl ?_
      refine mm_s1 rfl ?_
      refine mm_s1 rfl ?_
      refine mm_s1 rfl ?_
      refine mm_s1 rfl ⟨trivial, ?_⟩
      refine nn_call (D := 7) (by decide) (h n L N C0) ?_
      intro v M37 q; clear L N h
      obtain ⟨r37, rfl, q37, L, N, h⟩ := q
      show mm_Go (mm_run 7) mc_Reader_word _ (40, [(0, .inr (.inr v0)), (1, .inl v1), (2, .inl v2)], [.inl r37], M37)
      refine mm_s1 rfl ⟨fun c40 => ?_, fun c40 => ?_⟩
      · show mm_Go (mm_run 7) mc_Reader_word _ (45, [(0, .inr (.inr v0)), (1, .inl v1), (2, .inl v2)], [], M37)
        replace h := h.1 c40
        refine mm_s1 rfl ?_
        refine mm_s1 rfl ?_
        refine mm_s1 rfl ?_
        refine mm_s1 rfl ?_
        refine mm_s1 rfl ⟨trivial, ?_⟩
        refine nn_call (D := 7) (by decide) (h n L N C0) ?_
        intro v M50 q; clear L N h
        obtain ⟨r50, rfl, q50, L, N, h⟩ := q
        show mm_Go (mm_run 7) mc_Reader_word _ (53, [(0, .inr (.inr v0)), (1, .inl v1), (2, .inl v2)], [.inl r50], M50)
        refine mm_s1 rfl ⟨fun c53 => ?_, fun c53 => ?_⟩
        · show mm_Go (mm_run 7) mc_Reader_word _ (58, [(0, .inr (.inr v0)), (1, .inl v1), (2, .inl v2)], [], M50)
          replace h := h.1 c53
          refine mm_s1 rfl ?_
          refine mm_s1 rfl ?_
          refine mm_s1 rfl ?_
          refine mm_s1 rfl ?_
          refine mm_s1 rfl ⟨trivial, ?_⟩
          refine nn_call (D := 7) (by decide) (h n L N C0) ?_
          intro v M63 q; clear L N h
          obtain ⟨r63, rfl, q63, L, N, h⟩ := q
          show mm_Go (mm_run 7) mc_Reader_word _ (66, [(0, .inr (.inr v0)), (1, .inl v1), (2, .inl v2)], [.inl r63], M63)
          refine mm_s1 rfl ⟨fun c66 => ?_, fun c66 => ?_⟩
          · show mm_Go (mm_run 7) mc_Reader_word _ (72, [(0, .inr (.inr v0)), (1, .inl v1), (2, .inl v2)], [], M63)
            replace h := h.1 c66
            refine mm_s1 rfl ?_
            refine mm_s1 rfl ?_
            refine mm_s1 rfl ?_
            refine mm_s1 rfl ?_
            refine mm_s1 rfl ⟨trivial, ?_⟩
            refine nn_call (D := 7) (by decide) (h n L N C0) ?_
            intro v M77 q; clear L N h
            obtain ⟨r77, rfl, q77, L, N, h⟩ := q
            show mm_Go (mm_run 7) mc_Reader_word _ (80, [(0, .inr (.inr v0)), (1, .inl v1), (2, .inl v2)], [.inl r77], M77)
            refine mm_s1 rfl ⟨fun c80 => ?_, fun c80 => ?_⟩
            · show mm_Go (mm_run 7) mc_Reader_word _ (88, [(0, .inr (.inr v0)), (1, .inl v1), (2, .inl v2)], [], M77)
              replace h := h.1 c80
              refine mm_s1 rfl ?_
              exact mm_s1 rfl ⟨_, rfl, L, N, h⟩
            · show mm_Go (mm_run 7) mc_Reader_word _ (83, [(0, .inr (.inr v0)), (1, .inl v1), (2, .inl v2)], [], M77)
              replace h := h.2 c80
              refine mm_s1 rfl ?_
              refine mm_s1 rfl ?_
              show mm_Go (mm_run 7) mc_Reader_word _ (90, [(0, .inr (.inr v0)), (1, .inl v1), (2, .inl v2)], [.inl 7], M77)
              exact mm_s1 rfl ⟨_, rfl, L, N, h⟩
          · show mm_Go (mm_run 7) mc_Reader_word _ (69, [(0, .inr (.inr v0)), (1, .inl v1), (2, .inl v2)], [], M63)
            replace h := h.2 c66
            refine mm_s1 rfl ?_
            exact mm_s1 rfl ⟨_, rfl, L, N, h⟩
        · show mm_Go (mm_run 7) mc_Reader_word _ (56, [(0, .inr (.inr v0)), (1, .inl v1), (2, .inl v2)], [], M50)
          replace h := h.2 c53
          refine mm_s1 rfl ?_
          exact mm_s1 rfl ⟨_, rfl, L, N, h⟩
      · show mm_Go (mm_run 7) mc_Reader_word _ (43, [(0, .inr (.inr v0)), (1, .inl v1), (2, .inl v2)], [], M37)
        replace h := h.2 c40
        refine mm_s1 rfl ?_
        exact mm_s1 rfl ⟨_, rfl, L, N, h⟩
    · show mm_Go (mm_run 7) mc_Reader_word _ (30, [(0, .inr (.inr v0)), (1, .inl v1), (2, .inl v2)], [], M24)
      replace h := h.2 c27
      refine mm_s1 rfl ?_
      exact mm_s1 rfl ⟨_, rfl, L, N, h⟩
  · show mm_Go (mm_run 7) mc_Reader_word _ (7, [(0, .inr (.inr v0)), (1, .inl v1), (2, .inl v2)], [], M)
    replace c4 := Decidable.not_not.mp c4
    refine mm_s1 rfl ?_
    refine mm_s1 rfl ?_
    have b9 := h.1 c4
    refine mm_s1 rfl ⟨⟨C0.1, b9⟩, ?_⟩
    show mm_Go (mm_run 7) mc_Reader_word _ (10, [(0, .inr (.inr v0)), (1, .inl v1), (2, .inl v2)], [.inl (nn_ri M v0 v1)], M)
    refine mm_s1 rfl ?_
    refine mm_s1 rfl ?_
    refine mm_s1 rfl ?_
    refine mm_s1 rfl ⟨fun c14 => ?_, fun c14 => ?_⟩
    · show mm_Go (mm_run 7) mc_Reader_word _ (19, [(0, .inr (.inr v0)), (1, .inl v1), (2, .inl v2)], [], M)
      refine mm_s1 rfl ?_
      refine mm_s1 rfl ?_
      refine mm_s1 rfl ?_
      refine mm_s1 rfl ?_
      replace h := h.2.1 (Or.inr c14)
      refine mm_s1 rfl ⟨trivial, ?_⟩
      refine nn_call (D := 7) (by decide) (h n L N C0) ?_
      intro v M24 q; clear L N h
      obtain ⟨r24, rfl, q24, L, N, h⟩ := q
      show mm_Go (mm_run 7) mc_Reader_word _ (27, [(0, .inr (.inr v0)), (1, .inl v1), (2, .inl v2)], [.inl r24], M24)
      refine mm_s1 rfl ⟨fun c27 => ?_, fun c27 => ?_⟩
      · show mm_Go (mm_run 7) mc_Reader_word _ (32, [(0, .inr (.inr v0)), (1, .inl v1), (2, .inl v2)], [], M24)
        replace h := h.1 c27
        refine mm_s1 rfl ?_
        refine mm_s1 rfl ?_
        refine mm_s1 rfl ?_
        refine mm_s1 rfl ?_
        refine mm_s1 rfl ⟨trivial, ?_⟩
        refine nn_call (D := 7) (by decide) (h n L N C0) ?_
        intro v M37 q; clear L N h
        obtain ⟨r37, rfl, q37, L, N, h⟩ := q
        show mm_Go (mm_run 7) mc_Reader_word _ (40, [(0, .inr (.inr v0)), (1, .inl v1), (2, .inl v2)], [.inl r37], M37)
        refine mm_s1 rfl ⟨fun c40 => ?_, fun c40 => ?_⟩
        · show mm_Go (mm_run 7) mc_Reader_word _ (45, [(0, .inr (.inr v0)), (1, .inl v1), (2, .inl v2)], [], M37)
          replace h := h.1 c40
          refine mm_s1 rfl ?_
          refine mm_s1 rfl ?_
          refine mm_s1 rfl ?_
          refine mm_s1 rfl ?_
          refine mm_s1 rfl ⟨trivial, ?_⟩
          refine nn_call (D := 7) (by decide) (h n L N C0) ?_
          intro v M50 q; clear L N h
          obtain ⟨r50, rfl, q50, L, N, h⟩ := q
          show mm_Go (mm_run 7) mc_Reader_word _ (53, [(0, .inr (.inr v0)), (1, .inl v1), (2, .inl v2)], [.inl r50], M50)
          refine mm_s1 rfl ⟨fun c53 => ?_, fun c53 => ?_⟩
          · show mm_Go (mm_run 7) mc_Reader_word _ (58, [(0, .inr (.inr v0)), (1, .inl v1), (2, .inl v2)], [], M50)
            replace h := h.1 c53
            refine mm_s1 rfl ?_
            refine mm_s1 rfl ?_
            refine mm_s1 rfl ?_
            refine mm_s1 rfl ?_
            refine mm_s1 rfl ⟨trivial, ?_⟩
            refine nn_call (D := 7) (by decide) (h n L N C0) ?_
            intro v M63 q; clear L N h
            obtain ⟨r63, rfl, q63, L, N, h⟩ := q
            show mm_Go (mm_run 7) mc_Reader_word _ (66, [(0, .inr (.inr v0)), (1, .inl v1), (2, .inl v2)], [.inl r63], M63)
            refine mm_s1 rfl ⟨fun c66 => ?_, fun c66 => ?_⟩
            · show mm_Go (mm_run 7) mc_Reader_word _ (72, [(0, .inr (.inr v0)), (1, .inl v1), (2, .inl v2)], [], M63)
              replace h := h.1 c66
              refine mm_s1 rfl ?_
              refine mm_s1 rfl ?_
              refine mm_s1 rfl ?_
              refine mm_s1 rfl ?_
              refine mm_s1 rfl ⟨trivial, ?_⟩
              refine nn_call (D := 7) (by decide) (h n L N C0) ?_
              intro v M77 q; clear L N h
              obtain ⟨r77, rfl, q77, L, N, h⟩ := q
              show mm_Go (mm_run 7) mc_Reader_word _ (80, [(0, .inr (.inr v0)), (1, .inl v1), (2, .inl v2)], [.inl r77], M77)
              refine mm_s1 rfl ⟨fun c80 => ?_, fun c80 => ?_⟩
              · show mm_Go (mm_run 7) mc_Reader_word _ (88, [(0, .inr (.inr v0)), (1, .inl v1), (2, .inl v2)], [], M77)
                replace h := h.1 c80
                refine mm_s1 rfl ?_
                exact mm_s1 rfl ⟨_, rfl, L, N, h⟩
              · show mm_Go (mm_run 7) mc_Reader_word _ (83, [(0, .inr (.inr v0)), (1, .inl v1), (2, .inl v2)], [], M77)
                replace h := h.2 c80
                refine mm_s1 rfl ?_
                refine mm_s1 rfl ?_
                show mm_Go (mm_run 7) mc_Reader_word _ (90, [(0, .inr (.inr v0)), (1, .inl v1), (2, .inl v2)], [.inl 7], M77)
                exact mm_s1 rfl ⟨_, rfl, L, N, h⟩
            · show mm_Go (mm_run 7) mc_Reader_word _ (69, [(0, .inr (.inr v0)), (1, .inl v1), (2, .inl v2)], [], M63)
              replace h := h.2 c66
              refine mm_s1 rfl ?_
              exact mm_s1 rfl ⟨_, rfl, L, N, h⟩
          · show mm_Go (mm_run 7) mc_Reader_word _ (56, [(0, .inr (.inr v0)), (1, .inl v1), (2, .inl v2)], [], M50)
            replace h := h.2 c53
            refine mm_s1 rfl ?_
            exact mm_s1 rfl ⟨_, rfl, L, N, h⟩
        · show mm_Go (mm_run 7) mc_Reader_word _ (43, [(0, .inr (.inr v0)), (1, .inl v1), (2, .inl v2)], [], M37)
          replace h := h.2 c40
          refine mm_s1 rfl ?_
          exact mm_s1 rfl ⟨_, rfl, L, N, h⟩
      · show mm_Go (mm_run 7) mc_Reader_word _ (30, [(0, .inr (.inr v0)), (1, .inl v1), (2, .inl v2)], [], M24)
        replace h := h.2 c27
        refine mm_s1 rfl ?_
        exact mm_s1 rfl ⟨_, rfl, L, N, h⟩
    · show mm_Go (mm_run 7) mc_Reader_word _ (17, [(0, .inr (.inr v0)), (1, .inl v1), (2, .inl v2)], [], M)
      replace c14 := Int.not_le.mp c14
      refine mm_s1 rfl ?_
      replace h := h.2.2 ⟨c4, c14⟩
      exact mm_s1 rfl ⟨_, rfl, L, N, h⟩
def nr_M_flushes (v1 : Int) (M : mm_M) (R : Int → mm_M → Prop) : Prop := ∀ n, nn_L M → M.1 = n → mm_run 8 mi_M_flushes [.inr (.inr 407), .inl v1] M (nw_Z n R)
def nk_M_flushes_15 (v1 : Int) (v2 : Int) (M : mm_M) (R : Int → mm_M → Prop) : Prop := ∀ n, nn_L M → M.1 = n → mm_Go (mm_run 7) mc_M_flushes (nw_Z n R) (15, [(0, .inr (.inr 407)), (1, .inl v1), (2, .inl v2)], [], M)
def nk_M_flushes_62 (v1 : Int) (v2 : Int) (M : mm_M) (R : Int → mm_M → Prop) : Prop := ∀ n, nn_L M → M.1 = n → mm_Go (mm_run 7) mc_M_flushes (nw_Z n R) (62, [(0, .inr (.inr 407)), (1, .inl v1), (2, .inl v2)], [], M)
def nk_M_flushes_164 (v1 : Int) (v2 : Int) (v3 : Int) (M : mm_M) (R : Int → mm_M → Prop) : Prop := ∀ n, nn_L M → M.1 = n → mm_Go (mm_run 7) mc_M_flushes (nw_Z n R) (164, [(0, .inr (.inr 407)), (1, .inl v1), (2, .inl v2), (3, .inl v3)], [], M)
def nk_M_flushes_220 (v1 : Int) (v3 : Int) (M : mm_M) (R : Int → mm_M → Prop) : Prop := ∀ n, nn_L M → M.1 = n → mm_Go (mm_run 7) mc_M_flushes (nw_Z n R) (220, [(0, .inr (.inr 407)), (1, .inl v1), (3, .inl v3)], [], M)
set_option maxRecDepth 20000 in
theorem ng_M_flushes (v1 : Int) (M : mm_M) (R : Int → mm_M → Prop) (h : (((0 : Int) ≤ (mm_w (v1 + 1)) ∧ (mm_w (v1 + 1)) < (32844 : Int)) ∧ (((nn_ri M 408 (mm_w (v1 + 1))) ≠ 0 → nk_M_flushes_15 v1 0 M R) ∧ ((nn_ri M 408 (mm_w (v1 + 1))) = 0 → R 0 M)))) : nr_M_flushes v1 M R := by
  intro n L N 
  have NN := nn_L_n L N
  show mm_Go (mm_run 7) mc_M_flushes _ (0, [(0, .inr (.inr 407)), (1, .inl v1)], [], M)
  refine mm_s1 rfl ?_
  refine nn_getr rfl (nn_c407 NN).1 (lf_13_0 L N (nn_c407 NN)) ?_
  refine mm_s1 rfl ?_
  refine mm_s1 rfl ?_
  refine mm_s1 rfl ?_
  show mm_Go (mm_run 7) mc_M_flushes _ (7, [(0, .inr (.inr 407)), (1, .inl v1)], [.inl (mm_w (v1 + 1)), .inr (.inr 408)], M)
  obtain ⟨b7, h⟩ := h
  refine mm_s1 rfl ⟨nn_bd (na_13_0 NN (nn_c407 NN)) b7, ?_⟩
  show mm_Go (mm_run 7) mc_M_flushes _ (8, [(0, .inr (.inr 407)), (1, .inl v1)], [.inl (nn_ri M 408 (mm_w (v1 + 1)))], M)
  refine mm_s1 rfl ⟨fun c8 => ?_, fun c8 => ?_⟩
  · show mm_Go (mm_run 7) mc_M_flushes _ (13, [(0, .inr (.inr 407)), (1, .inl v1)], [], M)
    replace h := h.1 c8
    refine mm_s1 rfl ?_
    refine mm_s1 rfl ?_
    show mm_Go (mm_run 7) mc_M_flushes _ (15, [(0, .inr (.inr 407)), (1, .inl v1), (2, .inl 0)], [], M)
    exact nn_go_ext (nn_xc rfl (nn_xc rfl (nn_xc rfl nn_xn))) (h n L N)
  · show mm_Go (mm_run 7) mc_M_flushes _ (11, [(0, .inr (.inr 407)), (1, .inl v1)], [], M)
    replace c8 := Decidable.not_not.mp c8
    replace h := h.2 c8
    refine mm_s1 rfl ?_
    exact mm_s1 rfl ⟨(Or.inl rfl), _, rfl, (Or.inl rfl), L, N, h⟩
set_option maxRecDepth 20000 in
theorem ng_M_flushes_15 (v1 : Int) (v2 : Int) (M : mm_M) (R : Int → mm_M → Prop) (h : ((4 ≤ v2 → (((0 : Int) ≤ (mm_w (v1 + 5)) ∧ (mm_w (v1 + 5)) < (32844 : Int)) ∧ (∀ x2_61 : Int, x2_61 = mm_w ((nf_M_runAt v1 (nn_ri M 408 (mm_w (v1 + 5)))) - 1) → nk_M_flushes_62 v1 x2_61 M R))) ∧ (v2 < 4 → (((0 : Int) ≤ (mm_w ((nf_M_at v1 v2) + 0)) ∧ (mm_w ((nf_M_at v1 v2) + 0)) < (32844 : Int)) ∧ (((nn_ri M 408 (mm_w ((nf_M_at v1 v2) + 0))) ≤ 0 → nk_M_flushes_15 v1 (mm_w (v2 + 1)) M R) ∧ (0 < (nn_ri M 408 (mm_w ((nf_M_at v1 v2) + 0))) → (nr_M_flushesIndex v1 v2 M (fun M38 => nk_M_flushes_15 v1 (mm_w (v2 + 1)) M38 R)))))))) : nk_M_flushes_15 v1 v2 M R := by
  intro n L N 
  have NN := nn_L_n L N
  show mm_Go (mm_run 7) mc_M_flushes _ (15, [(0, .inr (.inr 407)), (1, .inl v1), (2, .inl v2)], [], M)
  refine mm_s1 rfl ?_
  refine mm_s1 rfl ?_
  refine mm_s1 rfl ⟨fun c17 => ?_, fun c17 => ?_⟩
  · show mm_Go (mm_run 7) mc_M_flushes _ (47, [(0, .inr (.inr 407)), (1, .inl v1), (2, .inl v2)], [], M)
    replace h := h.1 c17
    refine mm_s1 rfl ?_
    refine mm_s1 rfl ?_
    refine nn_getr rfl (nn_c407 NN).1 (lf_13_0 L N (nn_c407 NN)) ?_
    refine mm_s1 rfl ?_
    refine mm_s1 rfl ?_
    show mm_Go (mm_run 7) mc_M_flushes _ (54, [(0, .inr (.inr 407)), (1, .inl v1), (2, .inl v2)], [.inl 5, .inl v1, .inr (.inr 408), .inl v1], M)
    refine mm_s1 rfl ?_
    obtain ⟨b55, h⟩ := h
    refine mm_s1 rfl ⟨nn_bd (na_13_0 NN (nn_c407 NN)) b55, ?_⟩
    show mm_Go (mm_run 7) mc_M_flushes _ (56, [(0, .inr (.inr 407)), (1, .inl v1), (2, .inl v2)], [.inl (nn_ri M 408 (mm_w (v1 + 5))), .inl v1], M)
    refine mm_s1 rfl ⟨trivial, ?_⟩
    refine np_M_runAt (by decide) L N ?_
    show mm_Go (mm_run 7) mc_M_flushes _ (59, [(0, .inr (.inr 407)), (1, .inl v1), (2, .inl v2)], [.inl (nf_M_runAt v1 (nn_ri M 408 (mm_w (v1 + 5))))], M)
    refine mm_s1 rfl ?_
    refine mm_s1 rfl ?_
    refine mm_s1 rfl ?_
    show mm_Go (mm_run 7) mc_M_flushes _ (62, [(0, .inr (.inr 407)), (1, .inl v1), (2, .inl (mm_w ((nf_M_runAt v1 (nn_ri M 408 (mm_w (v1 + 5)))) - 1)))], [], M)
    generalize e_x2_61 : (mm_w ((nf_M_runAt v1 (nn_ri M 408 (mm_w (v1 + 5)))) - 1)) = x2_61
    replace h := h _ e_x2_61.symm
    show mm_Go (mm_run 7) mc_M_flushes _ (62, [(0, .inr (.inr 407)), (1, .inl v1), (2, .inl x2_61)], [], M)
    exact nn_go_ext (nn_xc rfl (nn_xc rfl (nn_xc rfl nn_xn))) (h n L N)
  · show mm_Go (mm_run 7) mc_M_flushes _ (20, [(0, .inr (.inr 407)), (1, .inl v1), (2, .inl v2)], [], M)
    replace c17 := Int.not_le.mp c17
    replace h := h.2 c17
    refine mm_s1 rfl ?_
    refine nn_getr rfl (nn_c407 NN).1 (lf_13_0 L N (nn_c407 NN)) ?_
    refine mm_s1 rfl ?_
    refine mm_s1 rfl ?_
    refine mm_s1 rfl ⟨trivial, ?_⟩
    refine np_M_at (by decide) L N ?_
    show mm_Go (mm_run 7) mc_M_flushes _ (29, [(0, .inr (.inr 407)), (1, .inl v1), (2, .inl v2)], [.inl (nf_M_at v1 v2), .inr (.inr 408)], M)
    refine mm_s1 rfl ?_
    refine mm_s1 rfl ?_
    obtain ⟨b31, h⟩ := h
    refine mm_s1 rfl ⟨nn_bd (na_13_0 NN (nn_c407 NN)) b31, ?_⟩
    show mm_Go (mm_run 7) mc_M_flushes _ (32, [(0, .inr (.inr 407)), (1, .inl v1), (2, .inl v2)], [.inl (nn_ri M 408 (mm_w ((nf_M_at v1 v2) + 0)))], M)
    refine mm_s1 rfl ⟨fun c32 => ?_, fun c32 => ?_⟩
    · show mm_Go (mm_run 7) mc_M_flushes _ (41, [(0, .inr (.inr 407)), (1, .inl v1), (2, .inl v2)], [], M)
      replace h := h.1 c32
      refine mm_s1 rfl ?_
      show mm_Go (mm_run 7) mc_M_flushes _ (44, [(0, .inr (.inr 407)), (1, .inl v1), (2, .inl (mm_w (v2 + 1)))], [], M)
      refine mm_s1 rfl ?_
      show mm_Go (mm_run 7) mc_M_flushes _ (15, [(0, .inr (.inr 407)), (1, .inl v1), (2, .inl (mm_w (v2 + 1)))], [], M)
      exact nn_go_ext (nn_xc rfl (nn_xc rfl (nn_xc rfl nn_xn))) (h n L N)
    · show mm_Go (mm_run 7) mc_M_flushes _ (35, [(0, .inr (.inr 407)), (1, .inl v1), (2, .inl v2)], [], M)
      replace c32 := Int.not_le.mp c32
      replace h := h.2 c32
      refine mm_s1 rfl ?_
      refine mm_s1 rfl ?_
      refine mm_s1 rfl ?_
      refine mm_s1 rfl ⟨(nn_c407 NN).1, ?_⟩
      refine nn_call (D := 3) (by decide) (h n L N) ?_
      intro v M38 q; clear L N h
      obtain ⟨rfl, L, N, h⟩ := q
      show mm_Go (mm_run 7) mc_M_flushes _ (41, [(0, .inr (.inr 407)), (1, .inl v1), (2, .inl v2)], [], M38)
      refine mm_s1 rfl ?_
      show mm_Go (mm_run 7) mc_M_flushes _ (44, [(0, .inr (.inr 407)), (1, .inl v1), (2, .inl (mm_w (v2 + 1)))], [], M38)
      refine mm_s1 rfl ?_
      show mm_Go (mm_run 7) mc_M_flushes _ (15, [(0, .inr (.inr 407)), (1, .inl v1), (2, .inl (mm_w (v2 + 1)))], [], M38)
      exact nn_go_ext (nn_xc rfl (nn_xc rfl (nn_xc rfl nn_xn))) (h n L N)
set_option maxRecDepth 20000 in
theorem ng_M_flushes_62 (v1 : Int) (v2 : Int) (M : mm_M) (R : Int → mm_M → Prop) (h : ((v2 < (nf_M_runAt v1 0) → (((0 : Int) ≤ (mm_w (v1 + 5)) ∧ (mm_w (v1 + 5)) < (32844 : Int)) ∧ (((0 : Int) ≤ (mm_w (v1 + 5)) ∧ (mm_w (v1 + 5)) < (32844 : Int)) ∧ (∀ M103 : mm_M, M103 = nn_ui M 408 (mm_w (v1 + 5)) (mm_w ((nn_ri M 408 (mm_w (v1 + 5))) + 1)) → (nr_M_number v1 M103 (fun r117 M117 => (((0 : Int) ≤ (nf_M_runAt v1 0) ∧ (nf_M_runAt v1 0) < (32844 : Int)) ∧ (∀ M120 : mm_M, M120 = nn_ui M117 408 (nf_M_runAt v1 0) r117 → (((0 : Int) ≤ (mm_w ((nf_M_runAt v1 0) + 1)) ∧ (mm_w ((nf_M_runAt v1 0) + 1)) < (32844 : Int)) ∧ (∀ M129 : mm_M, M129 = nn_ui M120 408 (mm_w ((nf_M_runAt v1 0) + 1)) 0 → (((0 : Int) ≤ (mm_w (v1 + 2)) ∧ (mm_w (v1 + 2)) < (32844 : Int)) ∧ (((0 : Int) ≤ (mm_w ((nf_M_runAt v1 0) + 2)) ∧ (mm_w ((nf_M_runAt v1 0) + 2)) < (32844 : Int)) ∧ (∀ M145 : mm_M, M145 = nn_ui M129 408 (mm_w ((nf_M_runAt v1 0) + 2)) (nn_ri M129 408 (mm_w (v1 + 2))) → (((0 : Int) ≤ (mm_w (v1 + 0)) ∧ (mm_w (v1 + 0)) < (32844 : Int)) ∧ (((0 : Int) ≤ (mm_w ((nf_M_runAt v1 0) + 3)) ∧ (mm_w ((nf_M_runAt v1 0) + 3)) < (32844 : Int)) ∧ (∀ M161 : mm_M, M161 = nn_ui M145 408 (mm_w ((nf_M_runAt v1 0) + 3)) (nn_ri M145 408 (mm_w (v1 + 0))) → nk_M_flushes_164 v1 (nf_M_runAt v1 0) 0 M161 R)))))))))))))))) ∧ ((nf_M_runAt v1 0) ≤ v2 → (((0 : Int) ≤ v2 ∧ v2 < (32844 : Int)) ∧ (((0 : Int) ≤ (mm_w (v2 + 68)) ∧ (mm_w (v2 + 68)) < (32844 : Int)) ∧ (∀ M85 : mm_M, M85 = nn_ui M 408 (mm_w (v2 + 68)) (nn_ri M 408 v2) → nk_M_flushes_62 v1 (mm_w (v2 + (-1))) M85 R)))))) : nk_M_flushes_62 v1 v2 M R := by
  intro n L N 
  have NN := nn_L_n L N
  show mm_Go (mm_run 7) mc_M_flushes _ (62, [(0, .inr (.inr 407)), (1, .inl v1), (2, .inl v2)], [], M)
  refine mm_s1 rfl ?_
  refine mm_s1 rfl ?_
  refine mm_s1 rfl ?_
  refine mm_s1 rfl ⟨trivial, ?_⟩
  refine np_M_runAt (by decide) L N ?_
  show mm_Go (mm_run 7) mc_M_flushes _ (68, [(0, .inr (.inr 407)), (1, .inl v1), (2, .inl v2)], [.inl (nf_M_runAt v1 0), .inl v2], M)
  refine mm_s1 rfl ⟨fun c68 => ?_, fun c68 => ?_⟩
  · show mm_Go (mm_run 7) mc_M_flushes _ (92, [(0, .inr (.inr 407)), (1, .inl v1), (2, .inl v2)], [], M)
    replace h := h.1 c68
    refine mm_s1 rfl ?_
    refine nn_getr rfl (nn_c407 NN).1 (lf_13_0 L N (nn_c407 NN)) ?_
    refine mm_s1 rfl ?_
    refine mm_s1 rfl ?_
    refine mm_s1 rfl ?_
    show mm_Go (mm_run 7) mc_M_flushes _ (99, [(0, .inr (.inr 407)), (1, .inl v1), (2, .inl v2)], [.inl (mm_w (v1 + 5)), .inr (.inr 408)], M)
    refine mm_s1 rfl ?_
    obtain ⟨b100, h⟩ := h
    refine mm_s1 rfl ⟨nn_bd (na_13_0 NN (nn_c407 NN)) b100, ?_⟩
    show mm_Go (mm_run 7) mc_M_flushes _ (101, [(0, .inr (.inr 407)), (1, .inl v1), (2, .inl v2)], [.inl (nn_ri M 408 (mm_w (v1 + 5))), .inl (mm_w (v1 + 5)), .inr (.inr 408)], M)
    refine mm_s1 rfl ?_
    refine mm_s1 rfl ?_
    obtain ⟨b103, h⟩ := h
    refine mm_s1 rfl ⟨nn_bd (na_13_0 NN (nn_c407 NN)) b103, ?_⟩
    show mm_Go (mm_run 7) mc_M_flushes _ (104, [(0, .inr (.inr 407)), (1, .inl v1), (2, .inl v2)], [], (nn_ui M 408 (mm_w (v1 + 5)) (mm_w ((nn_ri M 408 (mm_w (v1 + 5))) + 1))))
    have L : nn_L (nn_ui M 408 (mm_w (v1 + 5)) (mm_w ((nn_ri M 408 (mm_w (v1 + 5))) + 1))) := nn_L_ua L (congrArg Prod.fst (na_13_0 NN (nn_c407 NN))) (by decide)
    have N : (nn_ui M 408 (mm_w (v1 + 5)) (mm_w ((nn_ri M 408 (mm_w (v1 + 5))) + 1))).1 = n := N
    generalize e_M103 : (nn_ui M 408 (mm_w (v1 + 5)) (mm_w ((nn_ri M 408 (mm_w (v1 + 5))) + 1))) = M103 at L N ⊢
    replace h := h _ e_M103.symm
    show mm_Go (mm_run 7) mc_M_flushes _ (104, [(0, .inr (.inr 407)), (1, .inl v1), (2, .inl v2)], [], M103)
    refine mm_s1 rfl ?_
    refine mm_s1 rfl ?_
    refine mm_s1 rfl ⟨trivial, ?_⟩
    refine np_M_runAt (by decide) L N ?_
    show mm_Go (mm_run 7) mc_M_flushes _ (109, [(0, .inr (.inr 407)), (1, .inl v1), (2, .inl v2)], [.inl (nf_M_runAt v1 0)], M103)
    refine mm_s1 rfl ?_
    show mm_Go (mm_run 7) mc_M_flushes _ (110, [(0, .inr (.inr 407)), (1, .inl v1), (2, .inl (nf_M_runAt v1 0))], [], M103)
    refine mm_s1 rfl ?_
    refine nn_getr rfl (nn_c407 NN).1 (lf_13_0 L N (nn_c407 NN)) ?_
    refine mm_s1 rfl ?_
    refine mm_s1 rfl ?_
    refine mm_s1 rfl ?_
    show mm_Go (mm_run 7) mc_M_flushes _ (117, [(0, .inr (.inr 407)), (1, .inl v1), (2, .inl (nf_M_runAt v1 0))], [.inl v1, .inr (.inr 407), .inl (nf_M_runAt v1 0), .inr (.inr 408)], M103)
    refine mm_s1 rfl ⟨(nn_c407 NN).1, ?_⟩
    refine nn_call (D := 1) (by decide) (h n L N) ?_
    intro v M117 q; clear L N h
    obtain ⟨r117, rfl, L, N, h⟩ := q
    show mm_Go (mm_run 7) mc_M_flushes _ (120, [(0, .inr (.inr 407)), (1, .inl v1), (2, .inl (nf_M_runAt v1 0))], [.inl r117, .inl (nf_M_runAt v1 0), .inr (.inr 408)], M117)
    obtain ⟨b120, h⟩ := h
    refine mm_s1 rfl ⟨nn_bd (na_13_0 NN (nn_c407 NN)) b120, ?_⟩
    show mm_Go (mm_run 7) mc_M_flushes _ (121, [(0, .inr (.inr 407)), (1, .inl v1), (2, .inl (nf_M_runAt v1 0))], [], (nn_ui M117 408 (nf_M_runAt v1 0) r117))
    have L : nn_L (nn_ui M117 408 (nf_M_runAt v1 0) r117) := nn_L_ua L (congrArg Prod.fst (na_13_0 NN (nn_c407 NN))) (by decide)
    have N : (nn_ui M117 408 (nf_M_runAt v1 0) r117).1 = n := N
    generalize e_M120 : (nn_ui M117 408 (nf_M_runAt v1 0) r117) = M120 at L N ⊢
    replace h := h _ e_M120.symm
    show mm_Go (mm_run 7) mc_M_flushes _ (121, [(0, .inr (.inr 407)), (1, .inl v1), (2, .inl (nf_M_runAt v1 0))], [], M120)
    refine mm_s1 rfl ?_
    refine nn_getr rfl (nn_c407 NN).1 (lf_13_0 L N (nn_c407 NN)) ?_
    refine mm_s1 rfl ?_
    refine mm_s1 rfl ?_
    refine mm_s1 rfl ?_
    show mm_Go (mm_run 7) mc_M_flushes _ (128, [(0, .inr (.inr 407)), (1, .inl v1), (2, .inl (nf_M_runAt v1 0))], [.inl (mm_w ((nf_M_runAt v1 0) + 1)), .inr (.inr 408)], M120)
    refine mm_s1 rfl ?_
    obtain ⟨b129, h⟩ := h
    refine mm_s1 rfl ⟨nn_bd (na_13_0 NN (nn_c407 NN)) b129, ?_⟩
    show mm_Go (mm_run 7) mc_M_flushes _ (130, [(0, .inr (.inr 407)), (1, .inl v1), (2, .inl (nf_M_runAt v1 0))], [], (nn_ui M120 408 (mm_w ((nf_M_runAt v1 0) + 1)) 0))
    have L : nn_L (nn_ui M120 408 (mm_w ((nf_M_runAt v1 0) + 1)) 0) := nn_L_ua L (congrArg Prod.fst (na_13_0 NN (nn_c407 NN))) (by decide)
    have N : (nn_ui M120 408 (mm_w ((nf_M_runAt v1 0) + 1)) 0).1 = n := N
    generalize e_M129 : (nn_ui M120 408 (mm_w ((nf_M_runAt v1 0) + 1)) 0) = M129 at L N ⊢
    replace h := h _ e_M129.symm
    show mm_Go (mm_run 7) mc_M_flushes _ (130, [(0, .inr (.inr 407)), (1, .inl v1), (2, .inl (nf_M_runAt v1 0))], [], M129)
    refine mm_s1 rfl ?_
    refine nn_getr rfl (nn_c407 NN).1 (lf_13_0 L N (nn_c407 NN)) ?_
    refine mm_s1 rfl ?_
    refine mm_s1 rfl ?_
    refine mm_s1 rfl ?_
    show mm_Go (mm_run 7) mc_M_flushes _ (137, [(0, .inr (.inr 407)), (1, .inl v1), (2, .inl (nf_M_runAt v1 0))], [.inl (mm_w ((nf_M_runAt v1 0) + 2)), .inr (.inr 408)], M129)
    refine mm_s1 rfl ?_
    refine nn_getr rfl (nn_c407 NN).1 (lf_13_0 L N (nn_c407 NN)) ?_
    refine mm_s1 rfl ?_
    refine mm_s1 rfl ?_
    refine mm_s1 rfl ?_
    show mm_Go (mm_run 7) mc_M_flushes _ (144, [(0, .inr (.inr 407)), (1, .inl v1), (2, .inl (nf_M_runAt v1 0))], [.inl (mm_w (v1 + 2)), .inr (.inr 408), .inl (mm_w ((nf_M_runAt v1 0) + 2)), .inr (.inr 408)], M129)
    obtain ⟨b144, h⟩ := h
    refine mm_s1 rfl ⟨nn_bd (na_13_0 NN (nn_c407 NN)) b144, ?_⟩
    show mm_Go (mm_run 7) mc_M_flushes _ (145, [(0, .inr (.inr 407)), (1, .inl v1), (2, .inl (nf_M_runAt v1 0))], [.inl (nn_ri M129 408 (mm_w (v1 + 2))), .inl (mm_w ((nf_M_runAt v1 0) + 2)), .inr (.inr 408)], M129)
    obtain ⟨b145, h⟩ := h
    refine mm_s1 rfl ⟨nn_bd (na_13_0 NN (nn_c407 NN)) b145, ?_⟩
    show mm_Go (mm_run 7) mc_M_flushes _ (146, [(0, .inr (.inr 407)), (1, .inl v1), (2, .inl (nf_M_runAt v1 0))], [], (nn_ui M129 408 (mm_w ((nf_M_runAt v1 0) + 2)) (nn_ri M129 408 (mm_w (v1 + 2)))))
    have L : nn_L (nn_ui M129 408 (mm_w ((nf_M_runAt v1 0) + 2)) (nn_ri M129 408 (mm_w (v1 + 2)))) := nn_L_ua L (congrArg Prod.fst (na_13_0 NN (nn_c407 NN))) (by decide)
    have N : (nn_ui M129 408 (mm_w ((nf_M_runAt v1 0) + 2)) (nn_ri M129 408 (mm_w (v1 + 2)))).1 = n := N
    generalize e_M145 : (nn_ui M129 408 (mm_w ((nf_M_runAt v1 0) + 2)) (nn_ri M129 408 (mm_w (v1 + 2)))) = M145 at L N ⊢
    replace h := h _ e_M145.symm
    show mm_Go (mm_run 7) mc_M_flushes _ (146, [(0, .inr (.inr 407)), (1, .inl v1), (2, .inl (nf_M_runAt v1 0))], [], M145)
    refine mm_s1 rfl ?_
    refine nn_getr rfl (nn_c407 NN).1 (lf_13_0 L N (nn_c407 NN)) ?_
    refine mm_s1 rfl ?_
    refine mm_s1 rfl ?_
    refine mm_s1 rfl ?_
    show mm_Go (mm_run 7) mc_M_flushes _ (153, [(0, .inr (.inr 407)), (1, .inl v1), (2, .inl (nf_M_runAt v1 0))], [.inl (mm_w ((nf_M_runAt v1 0) + 3)), .inr (.inr 408)], M145)
    refine mm_s1 rfl ?_
    refine nn_getr rfl (nn_c407 NN).1 (lf_13_0 L N (nn_c407 NN)) ?_
    refine mm_s1 rfl ?_
    refine mm_s1 rfl ?_
    refine mm_s1 rfl ?_
    show mm_Go (mm_run 7) mc_M_flushes _ (160, [(0, .inr (.inr 407)), (1, .inl v1), (2, .inl (nf_M_runAt v1 0))], [.inl (mm_w (v1 + 0)), .inr (.inr 408), .inl (mm_w ((nf_M_runAt v1 0) + 3)), .inr (.inr 408)], M145)
    obtain ⟨b160, h⟩ := h
    refine mm_s1 rfl ⟨nn_bd (na_13_0 NN (nn_c407 NN)) b160, ?_⟩
    show mm_Go (mm_run 7) mc_M_flushes _ (161, [(0, .inr (.inr 407)), (1, .inl v1), (2, .inl (nf_M_runAt v1 0))], [.inl (nn_ri M145 408 (mm_w (v1 + 0))), .inl (mm_w ((nf_M_runAt v1 0) + 3)), .inr (.inr 408)], M145)
    obtain ⟨b161, h⟩ := h
    refine mm_s1 rfl ⟨nn_bd (na_13_0 NN (nn_c407 NN)) b161, ?_⟩
    show mm_Go (mm_run 7) mc_M_flushes _ (162, [(0, .inr (.inr 407)), (1, .inl v1), (2, .inl (nf_M_runAt v1 0))], [], (nn_ui M145 408 (mm_w ((nf_M_runAt v1 0) + 3)) (nn_ri M145 408 (mm_w (v1 + 0)))))
    have L : nn_L (nn_ui M145 408 (mm_w ((nf_M_runAt v1 0) + 3)) (nn_ri M145 408 (mm_w (v1 + 0)))) := nn_L_ua L (congrArg Prod.fst (na_13_0 NN (nn_c407 NN))) (by decide)
    have N : (nn_ui M145 408 (mm_w ((nf_M_runAt v1 0) + 3)) (nn_ri M145 408 (mm_w (v1 + 0)))).1 = n := N
    generalize e_M161 : (nn_ui M145 408 (mm_w ((nf_M_runAt v1 0) + 3)) (nn_ri M145 408 (mm_w (v1 + 0)))) = M161 at L N ⊢
    replace h := h _ e_M161.symm
    show mm_Go (mm_run 7) mc_M_flushes _ (162, [(0, .inr (.inr 407)), (1, .inl v1), (2, .inl (nf_M_runAt v1 0))], [], M161)
    refine mm_s1 rfl ?_
    refine mm_s1 rfl ?_
    show mm_Go (mm_run 7) mc_M_flushes _ (164, [(0, .inr (.inr 407)), (1, .inl v1), (2, .inl (nf_M_runAt v1 0)), (3, .inl 0)], [], M161)
    exact nn_go_ext (nn_xc rfl (nn_xc rfl (nn_xc rfl (nn_xc rfl nn_xn)))) (h n L N)
  · show mm_Go (mm_run 7) mc_M_flushes _ (71, [(0, .inr (.inr 407)), (1, .inl v1), (2, .inl v2)], [], M)
    replace c68 := Int.not_lt.mp c68
    replace h := h.2 c68
    refine mm_s1 rfl ?_
    refine nn_getr rfl (nn_c407 NN).1 (lf_13_0 L N (nn_c407 NN)) ?_
    refine mm_s1 rfl ?_
    refine mm_s1 rfl ?_
    refine mm_s1 rfl ?_
    show mm_Go (mm_run 7) mc_M_flushes _ (79, [(0, .inr (.inr 407)), (1, .inl v1), (2, .inl v2)], [.inl (mm_w (v2 + 68)), .inr (.inr 408)], M)
    refine mm_s1 rfl ?_
    refine nn_getr rfl (nn_c407 NN).1 (lf_13_0 L N (nn_c407 NN)) ?_
    refine mm_s1 rfl ?_
    obtain ⟨b84, h⟩ := h
    refine mm_s1 rfl ⟨nn_bd (na_13_0 NN (nn_c407 NN)) b84, ?_⟩
    show mm_Go (mm_run 7) mc_M_flushes _ (85, [(0, .inr (.inr 407)), (1, .inl v1), (2, .inl v2)], [.inl (nn_ri M 408 v2), .inl (mm_w (v2 + 68)), .inr (.inr 408)], M)
    obtain ⟨b85, h⟩ := h
    refine mm_s1 rfl ⟨nn_bd (na_13_0 NN (nn_c407 NN)) b85, ?_⟩
    show mm_Go (mm_run 7) mc_M_flushes _ (86, [(0, .inr (.inr 407)), (1, .inl v1), (2, .inl v2)], [], (nn_ui M 408 (mm_w (v2 + 68)) (nn_ri M 408 v2)))
    have L : nn_L (nn_ui M 408 (mm_w (v2 + 68)) (nn_ri M 408 v2)) := nn_L_ua L (congrArg Prod.fst (na_13_0 NN (nn_c407 NN))) (by decide)
    have N : (nn_ui M 408 (mm_w (v2 + 68)) (nn_ri M 408 v2)).1 = n := N
    generalize e_M85 : (nn_ui M 408 (mm_w (v2 + 68)) (nn_ri M 408 v2)) = M85 at L N ⊢
    replace h := h _ e_M85.symm
    show mm_Go (mm_run 7) mc_M_flushes _ (86, [(0, .inr (.inr 407)), (1, .inl v1), (2, .inl v2)], [], M85)
    refine mm_s1 rfl ?_
    show mm_Go (mm_run 7) mc_M_flushes _ (89, [(0, .inr (.inr 407)), (1, .inl v1), (2, .inl (mm_w (v2 + (-1))))], [], M85)
    refine mm_s1 rfl ?_
    show mm_Go (mm_run 7) mc_M_flushes _ (62, [(0, .inr (.inr 407)), (1, .inl v1), (2, .inl (mm_w (v2 + (-1))))], [], M85)
    exact nn_go_ext (nn_xc rfl (nn_xc rfl (nn_xc rfl nn_xn))) (h n L N)
set_option maxRecDepth 20000 in
theorem ng_M_flushes_164 (v1 : Int) (v2 : Int) (v3 : Int) (M : mm_M) (R : Int → mm_M → Prop) (h : ((64 ≤ v3 → (((0 : Int) ≤ (mm_w (v1 + 1)) ∧ (mm_w (v1 + 1)) < (32844 : Int)) ∧ (∀ M217 : mm_M, M217 = nn_ui M 408 (mm_w (v1 + 1)) 0 → nk_M_flushes_220 v1 (-1) M217 R))) ∧ (v3 < 64 → (((0 : Int) ≤ (mm_w ((mm_w (v1 + 24)) + v3)) ∧ (mm_w ((mm_w (v1 + 24)) + v3)) < (32844 : Int)) ∧ (((0 : Int) ≤ (mm_w ((mm_w (v2 + 4)) + v3)) ∧ (mm_w ((mm_w (v2 + 4)) + v3)) < (32844 : Int)) ∧ (∀ M190 : mm_M, M190 = nn_ui M 408 (mm_w ((mm_w (v2 + 4)) + v3)) (nn_ri M 408 (mm_w ((mm_w (v1 + 24)) + v3))) → (((0 : Int) ≤ (mm_w ((mm_w (v1 + 24)) + v3)) ∧ (mm_w ((mm_w (v1 + 24)) + v3)) < (32844 : Int)) ∧ (∀ M202 : mm_M, M202 = nn_ui M190 408 (mm_w ((mm_w (v1 + 24)) + v3)) 0 → nk_M_flushes_164 v1 v2 (mm_w (v3 + 1)) M202 R)))))))) : nk_M_flushes_164 v1 v2 v3 M R := by
  intro n L N 
  have NN := nn_L_n L N
  show mm_Go (mm_run 7) mc_M_flushes _ (164, [(0, .inr (.inr 407)), (1, .inl v1), (2, .inl v2), (3, .inl v3)], [], M)
  refine mm_s1 rfl ?_
  refine mm_s1 rfl ?_
  refine mm_s1 rfl ⟨fun c167 => ?_, fun c167 => ?_⟩
  · show mm_Go (mm_run 7) mc_M_flushes _ (209, [(0, .inr (.inr 407)), (1, .inl v1), (2, .inl v2), (3, .inl v3)], [], M)
    replace h := h.1 c167
    refine mm_s1 rfl ?_
    refine nn_getr rfl (nn_c407 NN).1 (lf_13_0 L N (nn_c407 NN)) ?_
    refine mm_s1 rfl ?_
    refine mm_s1 rfl ?_
    refine mm_s1 rfl ?_
    show mm_Go (mm_run 7) mc_M_flushes _ (216, [(0, .inr (.inr 407)), (1, .inl v1), (2, .inl v2), (3, .inl v3)], [.inl (mm_w (v1 + 1)), .inr (.inr 408)], M)
    refine mm_s1 rfl ?_
    obtain ⟨b217, h⟩ := h
    refine mm_s1 rfl ⟨nn_bd (na_13_0 NN (nn_c407 NN)) b217, ?_⟩
    show mm_Go (mm_run 7) mc_M_flushes _ (218, [(0, .inr (.inr 407)), (1, .inl v1), (2, .inl v2), (3, .inl v3)], [], (nn_ui M 408 (mm_w (v1 + 1)) 0))
    have L : nn_L (nn_ui M 408 (mm_w (v1 + 1)) 0) := nn_L_ua L (congrArg Prod.fst (na_13_0 NN (nn_c407 NN))) (by decide)
    have N : (nn_ui M 408 (mm_w (v1 + 1)) 0).1 = n := N
    generalize e_M217 : (nn_ui M 408 (mm_w (v1 + 1)) 0) = M217 at L N ⊢
    replace h := h _ e_M217.symm
    show mm_Go (mm_run 7) mc_M_flushes _ (218, [(0, .inr (.inr 407)), (1, .inl v1), (2, .inl v2), (3, .inl v3)], [], M217)
    refine mm_s1 rfl ?_
    refine mm_s1 rfl ?_
    show mm_Go (mm_run 7) mc_M_flushes _ (220, [(0, .inr (.inr 407)), (1, .inl v1), (2, .inl v2), (3, .inl (-1))], [], M217)
    exact nn_go_ext (nn_xc rfl (nn_xc rfl (nn_xc rfl nn_xn))) (h n L N)
  · show mm_Go (mm_run 7) mc_M_flushes _ (170, [(0, .inr (.inr 407)), (1, .inl v1), (2, .inl v2), (3, .inl v3)], [], M)
    replace c167 := Int.not_le.mp c167
    replace h := h.2 c167
    refine mm_s1 rfl ?_
    refine nn_getr rfl (nn_c407 NN).1 (lf_13_0 L N (nn_c407 NN)) ?_
    refine mm_s1 rfl ?_
    refine mm_s1 rfl ?_
    refine mm_s1 rfl ?_
    show mm_Go (mm_run 7) mc_M_flushes _ (177, [(0, .inr (.inr 407)), (1, .inl v1), (2, .inl v2), (3, .inl v3)], [.inl (mm_w (v2 + 4)), .inr (.inr 408)], M)
    refine mm_s1 rfl ?_
    refine mm_s1 rfl ?_
    refine mm_s1 rfl ?_
    refine nn_getr rfl (nn_c407 NN).1 (lf_13_0 L N (nn_c407 NN)) ?_
    refine mm_s1 rfl ?_
    show mm_Go (mm_run 7) mc_M_flushes _ (184, [(0, .inr (.inr 407)), (1, .inl v1), (2, .inl v2), (3, .inl v3)], [.inl v1, .inr (.inr 408), .inl (mm_w ((mm_w (v2 + 4)) + v3)), .inr (.inr 408)], M)
    refine mm_s1 rfl ?_
    refine mm_s1 rfl ?_
    refine mm_s1 rfl ?_
    refine mm_s1 rfl ?_
    obtain ⟨b189, h⟩ := h
    refine mm_s1 rfl ⟨nn_bd (na_13_0 NN (nn_c407 NN)) b189, ?_⟩
    show mm_Go (mm_run 7) mc_M_flushes _ (190, [(0, .inr (.inr 407)), (1, .inl v1), (2, .inl v2), (3, .inl v3)], [.inl (nn_ri M 408 (mm_w ((mm_w (v1 + 24)) + v3))), .inl (mm_w ((mm_w (v2 + 4)) + v3)), .inr (.inr 408)], M)
    obtain ⟨b190, h⟩ := h
    refine mm_s1 rfl ⟨nn_bd (na_13_0 NN (nn_c407 NN)) b190, ?_⟩
    show mm_Go (mm_run 7) mc_M_flushes _ (191, [(0, .inr (.inr 407)), (1, .inl v1), (2, .inl v2), (3, .inl v3)], [], (nn_ui M 408 (mm_w ((mm_w (v2 + 4)) + v3)) (nn_ri M 408 (mm_w ((mm_w (v1 + 24)) + v3)))))
    have L : nn_L (nn_ui M 408 (mm_w ((mm_w (v2 + 4)) + v3)) (nn_ri M 408 (mm_w ((mm_w (v1 + 24)) + v3)))) := nn_L_ua L (congrArg Prod.fst (na_13_0 NN (nn_c407 NN))) (by decide)
    have N : (nn_ui M 408 (mm_w ((mm_w (v2 + 4)) + v3)) (nn_ri M 408 (mm_w ((mm_w (v1 + 24)) + v3)))).1 = n := N
    generalize e_M190 : (nn_ui M 408 (mm_w ((mm_w (v2 + 4)) + v3)) (nn_ri M 408 (mm_w ((mm_w (v1 + 24)) + v3)))) = M190 at L N ⊢
    replace h := h _ e_M190.symm
    show mm_Go (mm_run 7) mc_M_flushes _ (191, [(0, .inr (.inr 407)), (1, .inl v1), (2, .inl v2), (3, .inl v3)], [], M190)
    refine mm_s1 rfl ?_
    refine nn_getr rfl (nn_c407 NN).1 (lf_13_0 L N (nn_c407 NN)) ?_
    refine mm_s1 rfl ?_
    refine mm_s1 rfl ?_
    refine mm_s1 rfl ?_
    show mm_Go (mm_run 7) mc_M_flushes _ (199, [(0, .inr (.inr 407)), (1, .inl v1), (2, .inl v2), (3, .inl v3)], [.inl (mm_w (v1 + 24)), .inr (.inr 408)], M190)
    refine mm_s1 rfl ?_
    refine mm_s1 rfl ?_
    refine mm_s1 rfl ?_
    obtain ⟨b202, h⟩ := h
    refine mm_s1 rfl ⟨nn_bd (na_13_0 NN (nn_c407 NN)) b202, ?_⟩
    show mm_Go (mm_run 7) mc_M_flushes _ (203, [(0, .inr (.inr 407)), (1, .inl v1), (2, .inl v2), (3, .inl v3)], [], (nn_ui M190 408 (mm_w ((mm_w (v1 + 24)) + v3)) 0))
    have L : nn_L (nn_ui M190 408 (mm_w ((mm_w (v1 + 24)) + v3)) 0) := nn_L_ua L (congrArg Prod.fst (na_13_0 NN (nn_c407 NN))) (by decide)
    have N : (nn_ui M190 408 (mm_w ((mm_w (v1 + 24)) + v3)) 0).1 = n := N
    generalize e_M202 : (nn_ui M190 408 (mm_w ((mm_w (v1 + 24)) + v3)) 0) = M202 at L N ⊢
    replace h := h _ e_M202.symm
    show mm_Go (mm_run 7) mc_M_flushes _ (203, [(0, .inr (.inr 407)), (1, .inl v1), (2, .inl v2), (3, .inl v3)], [], M202)
    refine mm_s1 rfl ?_
    show mm_Go (mm_run 7) mc_M_flushes _ (206, [(0, .inr (.inr 407)), (1, .inl v1), (2, .inl v2), (3, .inl (mm_w (v3 + 1)))], [], M202)
    refine mm_s1 rfl ?_
    show mm_Go (mm_run 7) mc_M_flushes _ (164, [(0, .inr (.inr 407)), (1, .inl v1), (2, .inl v2), (3, .inl (mm_w (v3 + 1)))], [], M202)
    exact nn_go_ext (nn_xc rfl (nn_xc rfl (nn_xc rfl (nn_xc rfl nn_xn)))) (h n L N)
set_option maxRecDepth 20000 in
theorem ng_M_flushes_220 (v1 : Int) (v3 : Int) (M : mm_M) (R : Int → mm_M → Prop) (h : ((4 ≤ v3 → R 1 M) ∧ (v3 < 4 → (((0 ≤ v3) → ((0 : Int) ≤ (mm_w ((nf_M_at v1 v3) + 0)) ∧ (mm_w ((nf_M_at v1 v3) + 0)) < (32844 : Int))) ∧ ((v3 < 0 ∨ (0 < (nn_ri M 408 (mm_w ((nf_M_at v1 v3) + 0))))) → (nr_M_mergesAll v1 v3 M (fun M247 => nk_M_flushes_220 v1 (mm_w (v3 + 1)) M247 R))) ∧ ((0 ≤ v3 ∧ ((nn_ri M 408 (mm_w ((nf_M_at v1 v3) + 0))) ≤ 0)) → nk_M_flushes_220 v1 (mm_w (v3 + 1)) M R))))) : nk_M_flushes_220 v1 v3 M R := by
  intro n L N 
  have NN := nn_L_n L N
  show mm_Go (mm_run 7) mc_M_flushes _ (220, [(0, .inr (.inr 407)), (1, .inl v1), (3, .inl v3)], [], M)
  refine mm_s1 rfl ?_
  refine mm_s1 rfl ?_
  refine mm_s1 rfl ⟨fun c222 => ?_, fun c222 => ?_⟩
  · show mm_Go (mm_run 7) mc_M_flushes _ (256, [(0, .inr (.inr 407)), (1, .inl v1), (3, .inl v3)], [], M)
    replace h := h.1 c222
    refine mm_s1 rfl ?_
    exact mm_s1 rfl ⟨(Or.inr rfl), _, rfl, (Or.inr rfl), L, N, h⟩
  · show mm_Go (mm_run 7) mc_M_flushes _ (225, [(0, .inr (.inr 407)), (1, .inl v1), (3, .inl v3)], [], M)
    replace c222 := Int.not_le.mp c222
    replace h := h.2 c222
    refine mm_s1 rfl ?_
    refine mm_s1 rfl ⟨fun c226 => ?_, fun c226 => ?_⟩
    · show mm_Go (mm_run 7) mc_M_flushes _ (244, [(0, .inr (.inr 407)), (1, .inl v1), (3, .inl v3)], [], M)
      refine mm_s1 rfl ?_
      refine mm_s1 rfl ?_
      refine mm_s1 rfl ?_
      replace h := h.2.1 (Or.inl c226)
      refine mm_s1 rfl ⟨(nn_c407 NN).1, ?_⟩
      refine nn_call (D := 7) (by decide) (h n L N) ?_
      intro v M247 q; clear L N h
      obtain ⟨rfl, L, N, h⟩ := q
      show mm_Go (mm_run 7) mc_M_flushes _ (250, [(0, .inr (.inr 407)), (1, .inl v1), (3, .inl v3)], [], M247)
      refine mm_s1 rfl ?_
      show mm_Go (mm_run 7) mc_M_flushes _ (253, [(0, .inr (.inr 407)), (1, .inl v1), (3, .inl (mm_w (v3 + 1)))], [], M247)
      refine mm_s1 rfl ?_
      show mm_Go (mm_run 7) mc_M_flushes _ (220, [(0, .inr (.inr 407)), (1, .inl v1), (3, .inl (mm_w (v3 + 1)))], [], M247)
      exact nn_go_ext (nn_xc rfl (nn_xc rfl (nn_xc rfl nn_xn))) (h n L N)
    · show mm_Go (mm_run 7) mc_M_flushes _ (229, [(0, .inr (.inr 407)), (1, .inl v1), (3, .inl v3)], [], M)
      replace c226 := Int.not_lt.mp c226
      refine mm_s1 rfl ?_
      refine nn_getr rfl (nn_c407 NN).1 (lf_13_0 L N (nn_c407 NN)) ?_
      refine mm_s1 rfl ?_
      refine mm_s1 rfl ?_
      refine mm_s1 rfl ⟨trivial, ?_⟩
      refine np_M_at (by decide) L N ?_
      show mm_Go (mm_run 7) mc_M_flushes _ (238, [(0, .inr (.inr 407)), (1, .inl v1), (3, .inl v3)], [.inl (nf_M_at v1 v3), .inr (.inr 408)], M)
      refine mm_s1 rfl ?_
      refine mm_s1 rfl ?_
      have b240 := h.1 c226
      refine mm_s1 rfl ⟨nn_bd (na_13_0 NN (nn_c407 NN)) b240, ?_⟩
      show mm_Go (mm_run 7) mc_M_flushes _ (241, [(0, .inr (.inr 407)), (1, .inl v1), (3, .inl v3)], [.inl (nn_ri M 408 (mm_w ((nf_M_at v1 v3) + 0)))], M)
      refine mm_s1 rfl ⟨fun c241 => ?_, fun c241 => ?_⟩
      · show mm_Go (mm_run 7) mc_M_flushes _ (250, [(0, .inr (.inr 407)), (1, .inl v1), (3, .inl v3)], [], M)
        refine mm_s1 rfl ?_
        show mm_Go (mm_run 7) mc_M_flushes _ (253, [(0, .inr (.inr 407)), (1, .inl v1), (3, .inl (mm_w (v3 + 1)))], [], M)
        refine mm_s1 rfl ?_
        show mm_Go (mm_run 7) mc_M_flushes _ (220, [(0, .inr (.inr 407)), (1, .inl v1), (3, .inl (mm_w (v3 + 1)))], [], M)
        replace h := h.2.2 ⟨c226, c241⟩
        exact nn_go_ext (nn_xc rfl (nn_xc rfl (nn_xc rfl nn_xn))) (h n L N)
      · show mm_Go (mm_run 7) mc_M_flushes _ (244, [(0, .inr (.inr 407)), (1, .inl v1), (3, .inl v3)], [], M)
        replace c241 := Int.not_le.mp c241
        refine mm_s1 rfl ?_
        refine mm_s1 rfl ?_
        refine mm_s1 rfl ?_
        replace h := h.2.1 (Or.inr c241)
        refine mm_s1 rfl ⟨(nn_c407 NN).1, ?_⟩
        refine nn_call (D := 7) (by decide) (h n L N) ?_
        intro v M247 q; clear L N h
        obtain ⟨rfl, L, N, h⟩ := q
        show mm_Go (mm_run 7) mc_M_flushes _ (250, [(0, .inr (.inr 407)), (1, .inl v1), (3, .inl v3)], [], M247)
        refine mm_s1 rfl ?_
        show mm_Go (mm_run 7) mc_M_flushes _ (253, [(0, .inr (.inr 407)), (1, .inl v1), (3, .inl (mm_w (v3 + 1)))], [], M247)
        refine mm_s1 rfl ?_
        show mm_Go (mm_run 7) mc_M_flushes _ (220, [(0, .inr (.inr 407)), (1, .inl v1), (3, .inl (mm_w (v3 + 1)))], [], M247)
        exact nn_go_ext (nn_xc rfl (nn_xc rfl (nn_xc rfl nn_xn))) (h n L N)
