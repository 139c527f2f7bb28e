/-! methods walked by program (wip/whole/dec.py) -/
def nr_Index_sure (v0 : Nat) (M : mm_M) (R : Int → mm_M → Prop) : Prop := ∀ n, nn_L M → M.1 = n → nn_C 5 v0 n → mm_run 3 mi_Index_sure [.inr (.inr v0)] M (nw_I n R)
set_option maxRecDepth 20000 in
theorem ng_Index_sure (v0 : Nat) (M : mm_M) (R : Int → mm_M → Prop) (h : (nr_Pile_leastRepaired (v0 + 8) 0 (nn_rf M (v0 + 8) 5) M (fun r12 M12 => (((nn_rf M12 v0 5) ≠ 1 → R (nf_LI_lesser r12 (-1)) M12) ∧ ((nn_rf M12 v0 5) = 1 → R (nf_LI_lesser r12 (nn_rf M12 v0 8)) M12))))) : nr_Index_sure v0 M R := by
  intro n L N C0
  have NN := nn_L_n L N
  show mm_Go (mm_run 2) mc_Index_sure _ (0, [(0, .inr (.inr v0))], [], M)
  refine mm_s1 rfl ?_
  refine nn_getr rfl C0.1 (lf_5_3 L N C0) ?_
  refine mm_s1 rfl ?_
  refine mm_s1 rfl ?_
  refine nn_getr rfl C0.1 (lf_5_3 L N C0) ?_
  show mm_Go (mm_run 2) mc_Index_sure _ (9, [(0, .inr (.inr v0))], [.inr (.inr (v0 + 8)), .inl 0, .inr (.inr (v0 + 8))], M)
  refine mm_s1 rfl ⟨(nc_5_3 NN C0).1, ?_⟩
  show mm_Go (mm_run 2) mc_Index_sure _ (12, [(0, .inr (.inr v0))], [.inl (nn_rf M (v0 + 8) 5), .inl 0, .inr (.inr (v0 + 8))], M)
  refine mm_s1 rfl ⟨(nc_5_3 NN C0).1, ?_⟩
  refine nn_call (D := 2) (by decide) (h n L N (nc_5_3 NN C0)) ?_
  intro v M12 q; clear L N h
  obtain ⟨r12, rfl, L, N, h⟩ := q
  show mm_Go (mm_run 2) mc_Index_sure _ (15, [(0, .inr (.inr v0))], [.inl r12], M12)
  refine mm_s1 rfl ?_
  refine mm_s1 rfl ⟨C0.1, ?_⟩
  show mm_Go (mm_run 2) mc_Index_sure _ (19, [(0, .inr (.inr v0))], [.inl (nn_rf M12 v0 5), .inl r12], M12)
  refine mm_s1 rfl ?_
  refine mm_s1 rfl ⟨fun c20 => ?_, fun c20 => ?_⟩
  · show mm_Go (mm_run 2) mc_Index_sure _ (30, [(0, .inr (.inr v0))], [.inl r12], M12)
    replace h := h.1 c20
    refine mm_s1 rfl ?_
    refine mm_s1 rfl ⟨trivial, ?_⟩
    refine np_LI_lesser (by decide) L N ?_
    show mm_Go (mm_run 2) mc_Index_sure _ (34, [(0, .inr (.inr v0))], [.inl (nf_LI_lesser r12 (-1))], M12)
    exact mm_s1 rfl ⟨_, rfl, L, N, h⟩
  · show mm_Go (mm_run 2) mc_Index_sure _ (23, [(0, .inr (.inr v0))], [.inl r12], M12)
    replace c20 := Decidable.not_not.mp c20
    replace h := h.2 c20
    refine mm_s1 rfl ?_
    refine mm_s1 rfl ⟨C0.1, ?_⟩
    show mm_Go (mm_run 2) mc_Index_sure _ (27, [(0, .inr (.inr v0))], [.inl (nn_rf M12 v0 8), .inl r12], M12)
    refine mm_s1 rfl ?_
    show mm_Go (mm_run 2) mc_Index_sure _ (31, [(0, .inr (.inr v0))], [.inl (nn_rf M12 v0 8), .inl r12], M12)
    refine mm_s1 rfl ⟨trivial, ?_⟩
    refine np_LI_lesser (by decide) L N ?_
    show mm_Go (mm_run 2) mc_Index_sure _ (34, [(0, .inr (.inr v0))], [.inl (nf_LI_lesser r12 (nn_rf M12 v0 8))], M12)
    exact mm_s1 rfl ⟨_, rfl, L, N, h⟩
def nr_Index_finish (v0 : Nat) (v1 : Nat) (M : mm_M) (R : mm_M → Prop) : Prop := ∀ n, nn_L M → M.1 = n → nn_C 5 v0 n → nn_C 10 v1 n → mm_run 3 mi_Index_finish [.inr (.inr v0), .inr (.inr v1)] M (nw_V n R)
set_option maxRecDepth 20000 in
theorem ng_Index_finish (v0 : Nat) (v1 : Nat) (M : mm_M) (R : mm_M → Prop) (h : (nr_LI_highest (v0 + 11) 0 (nn_rf M (v0 + 8) 5) M (fun r15 M15 => (nr_Table_newId v1 M15 (fun r42 M42 => (nr_Pile_putIn (v0 + 8) (nn_rf M15 (v0 + 8) 5) (v0 + 6) (mm_w (r15 + 1)) (nn_rf M15 v0 8) r42 M42 (fun M45 => (∀ M53 : mm_M, M53 = nn_uf M45 (v0 + 6) 1 0 → (∀ M58 : mm_M, M58 = nn_uf M53 v0 5 2 → R M58))))))))) : nr_Index_finish v0 v1 M R := by
  intro n L N C0 C1
  have NN := nn_L_n L N
  show mm_Go (mm_run 2) mc_Index_finish _ (0, [(0, .inr (.inr v0)), (1, .inr (.inr v1))], [], M)
  refine mm_s1 rfl ?_
  refine nn_getr rfl C0.1 (lf_5_3 L N C0) ?_
  refine nn_getr rfl (nc_5_3 NN C0).1 (lf_6_2 L N (nc_5_3 NN C0)) ?_
  refine mm_s1 rfl ?_
  refine mm_s1 rfl ?_
  show mm_Go (mm_run 2) mc_Index_finish _ (9, [(0, .inr (.inr v0)), (1, .inr (.inr v1))], [.inr (.inr v0), .inl 0, .inr (.inr (v0 + 11))], M)
  refine nn_getr rfl C0.1 (lf_5_3 L N C0) ?_
  refine mm_s1 rfl ⟨(nc_5_3 NN C0).1, ?_⟩
  show mm_Go (mm_run 2) mc_Index_finish _ (15, [(0, .inr (.inr v0)), (1, .inr (.inr v1))], [.inl (nn_rf M (v0 + 8) 5), .inl 0, .inr (.inr (v0 + 11))], M)
  refine mm_s1 rfl ⟨trivial, ?_⟩
  refine nn_call (D := 1) (by decide) (h n L N (nc_6_2 NN (nc_5_3 NN C0))) ?_
  intro v M15 q; clear L N h
  obtain ⟨r15, rfl, L, N, h⟩ := q
  show mm_Go (mm_run 2) mc_Index_finish _ (18, [(0, .inr (.inr v0)), (1, .inr (.inr v1))], [.inl r15], M15)
  refine mm_s1 rfl ?_
  refine mm_s1 rfl ?_
  refine mm_s1 rfl ?_
  show mm_Go (mm_run 2) mc_Index_finish _ (21, [(0, .inr (.inr v0)), (1, .inr (.inr v1)), (2, .inl (mm_w (r15 + 1)))], [], M15)
  refine mm_s1 rfl ?_
  refine nn_getr rfl C0.1 (lf_5_3 L N C0) ?_
  refine mm_s1 rfl ?_
  refine nn_getr rfl C0.1 (lf_5_3 L N C0) ?_
  refine mm_s1 rfl ⟨(nc_5_3 NN C0).1, ?_⟩
  show mm_Go (mm_run 2) mc_Index_finish _ (32, [(0, .inr (.inr v0)), (1, .inr (.inr v1)), (2, .inl (mm_w (r15 + 1)))], [.inl (nn_rf M15 (v0 + 8) 5), .inr (.inr (v0 + 8))], M15)
  refine mm_s1 rfl ?_
  refine nn_getr rfl C0.1 (lf_5_2 L N C0) ?_
  refine mm_s1 rfl ?_
  refine mm_s1 rfl ?_
  refine mm_s1 rfl ⟨C0.1, ?_⟩
  show mm_Go (mm_run 2) mc_Index_finish _ (41, [(0, .inr (.inr v0)), (1, .inr (.inr v1)), (2, .inl (mm_w (r15 + 1)))], [.inl (nn_rf M15 v0 8), .inl (mm_w (r15 + 1)), .inr (.inr (v0 + 6)), .inl (nn_rf M15 (v0 + 8) 5), .inr (.inr (v0 + 8))], M15)
  refine mm_s1 rfl ?_
  refine mm_s1 rfl ⟨C1.1, ?_⟩
  refine nn_call (D := 1) (by decide) (h n L N C1) ?_
  intro v M42 q; clear L N h
  obtain ⟨r42, rfl, L, N, h⟩ := q
  show mm_Go (mm_run 2) mc_Index_finish _ (45, [(0, .inr (.inr v0)), (1, .inr (.inr v1)), (2, .inl (mm_w (r15 + 1)))], [.inl r42, .inl (nn_rf M15 v0 8), .inl (mm_w (r15 + 1)), .inr (.inr (v0 + 6)), .inl (nn_rf M15 (v0 + 8) 5), .inr (.inr (v0 + 8))], M42)
  refine mm_s1 rfl ⟨(nc_5_3 NN C0).1, ?_⟩
  refine nn_call (D := 2) (by decide) (h n L N (nc_5_3 NN C0) (nc_5_2 NN C0)) ?_
  intro v M45 q; clear L N h
  obtain ⟨rfl, L, N, h⟩ := q
  show mm_Go (mm_run 2) mc_Index_finish _ (48, [(0, .inr (.inr v0)), (1, .inr (.inr v1)), (2, .inl (mm_w (r15 + 1)))], [], M45)
  refine mm_s1 rfl ?_
  refine nn_getr rfl C0.1 (lf_5_2 L N C0) ?_
  refine mm_s1 rfl ?_
  refine mm_s1 rfl ⟨(nc_5_2 NN C0).1, ?_⟩
  show mm_Go (mm_run 2) mc_Index_finish _ (56, [(0, .inr (.inr v0)), (1, .inr (.inr v1)), (2, .inl (mm_w (r15 + 1)))], [], (nn_uf M45 (v0 + 6) 1 0))
  have L : nn_L (nn_uf M45 (v0 + 6) 1 0) := nn_L_up L (nc_5_2 NN C0).1 rfl
  have N : (nn_uf M45 (v0 + 6) 1 0).1 = n := N
  generalize e_M53 : (nn_uf M45 (v0 + 6) 1 0) = M53 at L N ⊢
  replace h := h _ e_M53.symm
  show mm_Go (mm_run 2) mc_Index_finish _ (56, [(0, .inr (.inr v0)), (1, .inr (.inr v1)), (2, .inl (mm_w (r15 + 1)))], [], M53)
  refine mm_s1 rfl ?_
  refine mm_s1 rfl ?_
  refine mm_s1 rfl ⟨C0.1, ?_⟩
  show mm_Go (mm_run 2) mc_Index_finish _ (61, [(0, .inr (.inr v0)), (1, .inr (.inr v1)), (2, .inl (mm_w (r15 + 1)))], [], (nn_uf M53 v0 5 2))
  have L : nn_L (nn_uf M53 v0 5 2) := nn_L_up L C0.1 rfl
  have N : (nn_uf M53 v0 5 2).1 = n := N
  generalize e_M58 : (nn_uf M53 v0 5 2) = M58 at L N ⊢
  replace h := h _ e_M58.symm
  show mm_Go (mm_run 2) mc_Index_finish _ (61, [(0, .inr (.inr v0)), (1, .inr (.inr v1)), (2, .inl (mm_w (r15 + 1)))], [], M58)
  exact mm_s1 rfl ⟨rfl, L, N, h⟩
def nr_Index_stale (v0 : Nat) (v1 : Nat) (M : mm_M) (R : Int → mm_M → Prop) : Prop := ∀ n, nn_L M → M.1 = n → nn_C 5 v0 n → nn_C 12 v1 n → mm_run 3 mi_Index_stale [.inr (.inr v0), .inr (.inr v1)] M (nw_I n R)
def nk_Index_stale_4 (v0 : Nat) (v1 : Nat) (v2 : Int) (v3 : Int) (M : mm_M) (R : Int → mm_M → Prop) : Prop := ∀ n, nn_L M → M.1 = n → nn_C 5 v0 n → nn_C 12 v1 n → mm_Go (mm_run 2) mc_Index_stale (nw_I n R) (4, [(0, .inr (.inr v0)), (1, .inr (.inr v1)), (2, .inl v2), (3, .inl v3)], [], M)
def nk_Index_stale_47 (v0 : Nat) (v1 : Nat) (v2 : Int) (v3 : Int) (M : mm_M) (R : Int → mm_M → Prop) : Prop := ∀ n, nn_L M → M.1 = n → nn_C 5 v0 n → nn_C 12 v1 n → mm_Go (mm_run 2) mc_Index_stale (nw_I n R) (47, [(0, .inr (.inr v0)), (1, .inr (.inr v1)), (2, .inl v2), (3, .inl v3)], [], M)
set_option maxRecDepth 20000 in
theorem ng_Index_stale (v0 : Nat) (v1 : Nat) (M : mm_M) (R : Int → mm_M → Prop) (h : nk_Index_stale_4 v0 v1 0 0 M R) : nr_Index_stale v0 v1 M R := by
  intro n L N C0 C1
  have NN := nn_L_n L N
  show mm_Go (mm_run 2) mc_Index_stale _ (0, [(0, .inr (.inr v0)), (1, .inr (.inr v1))], [], M)
  refine mm_s1 rfl ?_
  refine mm_s1 rfl ?_
  show mm_Go (mm_run 2) mc_Index_stale _ (2, [(0, .inr (.inr v0)), (1, .inr (.inr v1)), (2, .inl 0)], [], M)
  refine mm_s1 rfl ?_
  refine mm_s1 rfl ?_
  show mm_Go (mm_run 2) mc_Index_stale _ (4, [(0, .inr (.inr v0)), (1, .inr (.inr v1)), (2, .inl 0), (3, .inl 0)], [], M)
  exact nn_go_ext (nn_xc rfl (nn_xc rfl (nn_xc rfl (nn_xc rfl nn_xn)))) (h n L N C0 C1)
set_option maxRecDepth 20000 in
theorem ng_Index_stale_4 (v0 : Nat) (v1 : Nat) (v2 : Int) (v3 : Int) (M : mm_M) (R : Int → mm_M → Prop) (h : (((nn_rf M (v0 + 4) 1) ≤ v3 → nk_Index_stale_47 v0 v1 v2 0 M R) ∧ (v3 < (nn_rf M (v0 + 4) 1) → (((0 : Int) ≤ v3 ∧ v3 < ((mm_kd (v0 + 5)).2 : Int)) ∧ ((nc_LI_isStale (nn_ri M (v0 + 5) v3) v1 M) ∧ (((nf_LI_isStale (nn_ri M (v0 + 5) v3) v1 M) = 0 → nk_Index_stale_4 v0 v1 (mm_w (v2 + 0)) (mm_w (v3 + 1)) M R) ∧ ((nf_LI_isStale (nn_ri M (v0 + 5) v3) v1 M) ≠ 0 → nk_Index_stale_4 v0 v1 (mm_w (v2 + 1)) (mm_w (v3 + 1)) M R))))))) : nk_Index_stale_4 v0 v1 v2 v3 M R := by
  intro n L N C0 C1
  have NN := nn_L_n L N
  show mm_Go (mm_run 2) mc_Index_stale _ (4, [(0, .inr (.inr v0)), (1, .inr (.inr v1)), (2, .inl v2), (3, .inl v3)], [], M)
  refine mm_s1 rfl ?_
  refine mm_s1 rfl ?_
  refine nn_getr rfl C0.1 (lf_5_1 L N C0) ?_
  refine mm_s1 rfl ⟨(nc_5_1 NN C0).1, ?_⟩
  show mm_Go (mm_run 2) mc_Index_stale _ (12, [(0, .inr (.inr v0)), (1, .inr (.inr v1)), (2, .inl v2), (3, .inl v3)], [.inl (nn_rf M (v0 + 4) 1), .inl v3], M)
  refine mm_s1 rfl ⟨fun c12 => ?_, fun c12 => ?_⟩
  · show mm_Go (mm_run 2) mc_Index_stale _ (45, [(0, .inr (.inr v0)), (1, .inr (.inr v1)), (2, .inl v2), (3, .inl v3)], [], M)
    replace h := h.1 c12
    refine mm_s1 rfl ?_
    refine mm_s1 rfl ?_
    show mm_Go (mm_run 2) mc_Index_stale _ (47, [(0, .inr (.inr v0)), (1, .inr (.inr v1)), (2, .inl v2), (3, .inl 0)], [], M)
    exact nn_go_ext (nn_xc rfl (nn_xc rfl (nn_xc rfl (nn_xc rfl nn_xn)))) (h n L N C0 C1)
  · show mm_Go (mm_run 2) mc_Index_stale _ (15, [(0, .inr (.inr v0)), (1, .inr (.inr v1)), (2, .inl v2), (3, .inl v3)], [], M)
    replace c12 := Int.not_le.mp c12
    replace h := h.2 c12
    refine mm_s1 rfl ?_
    refine mm_s1 rfl ?_
    refine nn_getr rfl C0.1 (lf_5_1 L N C0) ?_
    refine nn_getr rfl (nc_5_1 NN C0).1 (lf_4_0 L N (nc_5_1 NN C0)) ?_
    refine mm_s1 rfl ?_
    show mm_Go (mm_run 2) mc_Index_stale _ (24, [(0, .inr (.inr v0)), (1, .inr (.inr v1)), (2, .inl v2), (3, .inl v3)], [.inl v3, .inr (.inr (v0 + 5)), .inl v2], M)
    obtain ⟨b24, h⟩ := h
    refine mm_s1 rfl ⟨⟨(nc_4_0 NN (nc_5_1 NN C0)).1, b24⟩, ?_⟩
    show mm_Go (mm_run 2) mc_Index_stale _ (25, [(0, .inr (.inr v0)), (1, .inr (.inr v1)), (2, .inl v2), (3, .inl v3)], [.inr (.inl (nn_ri M (v0 + 5) v3)), .inl v2], M)
    refine mm_s1 rfl ?_
    obtain ⟨b26, h⟩ := h
    refine mm_s1 rfl ⟨trivial, ?_⟩
    refine np_LI_isStale (by decide) L N C1 b26 ?_
    show mm_Go (mm_run 2) mc_Index_stale _ (29, [(0, .inr (.inr v0)), (1, .inr (.inr v1)), (2, .inl v2), (3, .inl v3)], [.inl (nf_LI_isStale (nn_ri M (v0 + 5) v3) v1 M), .inl v2], M)
    refine mm_s1 rfl ⟨fun c29 => ?_, fun c29 => ?_⟩
    · show mm_Go (mm_run 2) mc_Index_stale _ (36, [(0, .inr (.inr v0)), (1, .inr (.inr v1)), (2, .inl v2), (3, .inl v3)], [.inl v2], M)
      replace h := h.1 c29
      refine mm_s1 rfl ?_
      refine mm_s1 rfl ?_
      refine mm_s1 rfl ?_
      show mm_Go (mm_run 2) mc_Index_stale _ (39, [(0, .inr (.inr v0)), (1, .inr (.inr v1)), (2, .inl (mm_w (v2 + 0))), (3, .inl v3)], [], M)
      refine mm_s1 rfl ?_
      show mm_Go (mm_run 2) mc_Index_stale _ (42, [(0, .inr (.inr v0)), (1, .inr (.inr v1)), (2, .inl (mm_w (v2 + 0))), (3, .inl (mm_w (v3 + 1)))], [], M)
      refine mm_s1 rfl ?_
      show mm_Go (mm_run 2) mc_Index_stale _ (4, [(0, .inr (.inr v0)), (1, .inr (.inr v1)), (2, .inl (mm_w (v2 + 0))), (3, .inl (mm_w (v3 + 1)))], [], M)
      exact nn_go_ext (nn_xc rfl (nn_xc rfl (nn_xc rfl (nn_xc rfl nn_xn)))) (h n L N C0 C1)
    · show mm_Go (mm_run 2) mc_Index_stale _ (32, [(0, .inr (.inr v0)), (1, .inr (.inr v1)), (2, .inl v2), (3, .inl v3)], [.inl v2], M)
      replace h := h.2 c29
      refine mm_s1 rfl ?_
      refine mm_s1 rfl ?_
      show mm_Go (mm_run 2) mc_Index_stale _ (37, [(0, .inr (.inr v0)), (1, .inr (.inr v1)), (2, .inl v2), (3, .inl v3)], [.inl 1, .inl v2], M)
      refine mm_s1 rfl ?_
      refine mm_s1 rfl ?_
      show mm_Go (mm_run 2) mc_Index_stale _ (39, [(0, .inr (.inr v0)), (1, .inr (.inr v1)), (2, .inl (mm_w (v2 + 1))), (3, .inl v3)], [], M)
      refine mm_s1 rfl ?_
      show mm_Go (mm_run 2) mc_Index_stale _ (42, [(0, .inr (.inr v0)), (1, .inr (.inr v1)), (2, .inl (mm_w (v2 + 1))), (3, .inl (mm_w (v3 + 1)))], [], M)
      refine mm_s1 rfl ?_
      show mm_Go (mm_run 2) mc_Index_stale _ (4, [(0, .inr (.inr v0)), (1, .inr (.inr v1)), (2, .inl (mm_w (v2 + 1))), (3, .inl (mm_w (v3 + 1)))], [], M)
      exact nn_go_ext (nn_xc rfl (nn_xc rfl (nn_xc rfl (nn_xc rfl nn_xn)))) (h n L N C0 C1)
set_option maxRecDepth 20000 in
theorem ng_Index_stale_47 (v0 : Nat) (v1 : Nat) (v2 : Int) (v3 : Int) (M : mm_M) (R : Int → mm_M → Prop) (h : (((nn_rf M (v0 + 8) 5) ≤ v3 → R v2 M) ∧ (v3 < (nn_rf M (v0 + 8) 5) → (nr_Pile_staleIn (v0 + 8) v3 v1 M (fun r65 M65 => nk_Index_stale_47 v0 v1 (mm_w (v2 + r65)) (mm_w (v3 + 1)) M65 R))))) : nk_Index_stale_47 v0 v1 v2 v3 M R := by
  intro n L N C0 C1
  have NN := nn_L_n L N
  show mm_Go (mm_run 2) mc_Index_stale _ (47, [(0, .inr (.inr v0)), (1, .inr (.inr v1)), (2, .inl v2), (3, .inl v3)], [], M)
  refine mm_s1 rfl ?_
  refine mm_s1 rfl ?_
  refine nn_getr rfl C0.1 (lf_5_3 L N C0) ?_
  refine mm_s1 rfl ⟨(nc_5_3 NN C0).1, ?_⟩
  show mm_Go (mm_run 2) mc_Index_stale _ (55, [(0, .inr (.inr v0)), (1, .inr (.inr v1)), (2, .inl v2), (3, .inl v3)], [.inl (nn_rf M (v0 + 8) 5), .inl v3], M)
  refine mm_s1 rfl ⟨fun c55 => ?_, fun c55 => ?_⟩
  · show mm_Go (mm_run 2) mc_Index_stale _ (76, [(0, .inr (.inr v0)), (1, .inr (.inr v1)), (2, .inl v2), (3, .inl v3)], [], M)
    replace h := h.1 c55
    refine mm_s1 rfl ?_
    exact mm_s1 rfl ⟨_, rfl, L, N, h⟩
  · show mm_Go (mm_run 2) mc_Index_stale _ (58, [(0, .inr (.inr v0)), (1, .inr (.inr v1)), (2, .inl v2), (3, .inl v3)], [], M)
    replace c55 := Int.not_le.mp c55
    replace h := h.2 c55
    refine mm_s1 rfl ?_
    refine mm_s1 rfl ?_
    refine nn_getr rfl C0.1 (lf_5_3 L N C0) ?_
    refine mm_s1 rfl ?_
    refine mm_s1 rfl ?_
    show mm_Go (mm_run 2) mc_Index_stale _ (65, [(0, .inr (.inr v0)), (1, .inr (.inr v1)), (2, .inl v2), (3, .inl v3)], [.inr (.inr v1), .inl v3, .inr (.inr (v0 + 8)), .inl v2], M)
    refine mm_s1 rfl ⟨(nc_5_3 NN C0).1, ?_⟩
    refine nn_call (D := 2) (by decide) (h n L N (nc_5_3 NN C0) C1) ?_
    intro v M65 q; clear L N h
    obtain ⟨r65, rfl, L, N, h⟩ := q
    show mm_Go (mm_run 2) mc_Index_stale _ (68, [(0, .inr (.inr v0)), (1, .inr (.inr v1)), (2, .inl v2), (3, .inl v3)], [.inl r65, .inl v2], M65)
    refine mm_s1 rfl ?_
    refine mm_s1 rfl ?_
    show mm_Go (mm_run 2) mc_Index_stale _ (70, [(0, .inr (.inr v0)), (1, .inr (.inr v1)), (2, .inl (mm_w (v2 + r65))), (3, .inl v3)], [], M65)
    refine mm_s1 rfl ?_
    show mm_Go (mm_run 2) mc_Index_stale _ (73, [(0, .inr (.inr v0)), (1, .inr (.inr v1)), (2, .inl (mm_w (v2 + r65))), (3, .inl (mm_w (v3 + 1)))], [], M65)
    refine mm_s1 rfl ?_
    show mm_Go (mm_run 2) mc_Index_stale _ (47, [(0, .inr (.inr v0)), (1, .inr (.inr v1)), (2, .inl (mm_w (v2 + r65))), (3, .inl (mm_w (v3 + 1)))], [], M65)
    exact nn_go_ext (nn_xc rfl (nn_xc rfl (nn_xc rfl (nn_xc rfl nn_xn)))) (h n L N C0 C1)
def nr_Index_copy (v0 : Nat) (v1 : Nat) (M : mm_M) (R : mm_M → Prop) : Prop := ∀ n, nn_L M → M.1 = n → nn_C 5 v0 n → nn_C 5 v1 n → mm_run 3 mi_Index_copy [.inr (.inr v0), .inr (.inr v1)] M (nw_V n R)
set_option maxRecDepth 20000 in
theorem ng_Index_copy (v0 : Nat) (v1 : Nat) (M : mm_M) (R : mm_M → Prop) (h : (∀ M5 : mm_M, M5 = nn_uf M v0 5 (nn_rf M v1 5) → (((nn_rf M5 v0 5) ≠ 0 → (nr_Rule_copy (v0 + 1) (v1 + 1) M5 (fun M24 => (nr_Entries_copy (v0 + 4) (v1 + 4) M24 (fun M35 => (nr_Entries_copy (v0 + 6) (v1 + 6) M35 (fun M46 => (nr_Pile_copy (v0 + 8) (v1 + 8) M46 (fun M57 => (((0 : Int) ≤ 0 ∧ (0 : Int) ≤ 0 ∧ (0 : Int) ≤ 32 ∧ (0 : Int) + 32 ≤ 32 ∧ (0 : Int) + 32 ≤ 32) ∧ (∀ M72 : mm_M, M72 = mm_cp M57 (v1 + 14) 0 (v0 + 14) 0 32 → (((nn_rf M72 v1 6) = 0 ∨ (nn_rf M72 v1 6) = 1) ∧ (∀ M80 : mm_M, M80 = nn_uf M72 v0 6 (nn_rf M72 v1 6) → (((nn_rf M80 v1 7) = 0 ∨ (nn_rf M80 v1 7) = 1) ∧ (∀ M88 : mm_M, M88 = nn_uf M80 v0 7 (nn_rf M80 v1 7) → (∀ M96 : mm_M, M96 = nn_uf M88 v0 8 (nn_rf M88 v1 8) → (∀ M104 : mm_M, M104 = nn_uf M96 v0 9 (nn_rf M96 v1 9) → R M104))))))))))))))))) ∧ ((nn_rf M5 v0 5) = 0 → R M5)))) : nr_Index_copy v0 v1 M R := by
  intro n L N C0 C1
  have NN := nn_L_n L N
  show mm_Go (mm_run 2) mc_Index_copy _ (0, [(0, .inr (.inr v0)), (1, .inr (.inr v1))], [], M)
  refine mm_s1 rfl ?_
  refine mm_s1 rfl ?_
  refine mm_s1 rfl ⟨C1.1, ?_⟩
  show mm_Go (mm_run 2) mc_Index_copy _ (5, [(0, .inr (.inr v0)), (1, .inr (.inr v1))], [.inl (nn_rf M v1 5), .inr (.inr v0)], M)
  refine mm_s1 rfl ⟨C0.1, ?_⟩
  show mm_Go (mm_run 2) mc_Index_copy _ (8, [(0, .inr (.inr v0)), (1, .inr (.inr v1))], [], (nn_uf M v0 5 (nn_rf M v1 5)))
  have L : nn_L (nn_uf M v0 5 (nn_rf M v1 5)) := nn_L_up L C0.1 rfl
  have N : (nn_uf M v0 5 (nn_rf M v1 5)).1 = n := N
  generalize e_M5 : (nn_uf M v0 5 (nn_rf M v1 5)) = M5 at L N ⊢
  replace h := h _ e_M5.symm
  show mm_Go (mm_run 2) mc_Index_copy _ (8, [(0, .inr (.inr v0)), (1, .inr (.inr v1))], [], M5)
  refine mm_s1 rfl ?_
  refine mm_s1 rfl ⟨C0.1, ?_⟩
  show mm_Go (mm_run 2) mc_Index_copy _ (12, [(0, .inr (.inr v0)), (1, .inr (.inr v1))], [.inl (nn_rf M5 v0 5)], M5)
  refine mm_s1 rfl ⟨fun c12 => ?_, fun c12 => ?_⟩
  · show mm_Go (mm_run 2) mc_Index_copy _ (16, [(0, .inr (.inr v0)), (1, .inr (.inr v1))], [], M5)
    replace h := h.1 c12
    refine mm_s1 rfl ?_
    refine nn_getr rfl C0.1 (lf_5_0 L N C0) ?_
    refine mm_s1 rfl ?_
    refine nn_getr rfl C1.1 (lf_5_0 L N C1) ?_
    refine mm_s1 rfl ⟨(nc_5_0 NN C0).1, ?_⟩
    refine nn_call (D := 1) (by decide) (h n L N (nc_5_0 NN C0) (nc_5_0 NN C1)) ?_
    intro v M24 q; clear L N h
    obtain ⟨rfl, L, N, h⟩ := q
    show mm_Go (mm_run 2) mc_Index_copy _ (27, [(0, .inr (.inr v0)), (1, .inr (.inr v1))], [], M24)
    refine mm_s1 rfl ?_
    refine nn_getr rfl C0.1 (lf_5_1 L N C0) ?_
    refine mm_s1 rfl ?_
    refine nn_getr rfl C1.1 (lf_5_1 L N C1) ?_
    refine mm_s1 rfl ⟨(nc_5_1 NN C0).1, ?_⟩
    refine nn_call (D := 1) (by decide) (h n L N (nc_5_1 NN C0) (nc_5_1 NN C1)) ?_
    intro v M35 q; clear L N h
    obtain ⟨rfl, L, N, h⟩ := q
    show mm_Go (mm_run 2) mc_Index_copy _ (38, [(0, .inr (.inr v0)), (1, .inr (.inr v1))], [], M35)
    refine mm_s1 rfl ?_
    refine nn_getr rfl C0.1 (lf_5_2 L N C0) ?_
    refine mm_s1 rfl ?_
    refine nn_getr rfl C1.1 (lf_5_2 L N C1) ?_
    refine mm_s1 rfl ⟨(nc_5_2 NN C0).1, ?_⟩
    refine nn_call (D := 1) (by decide) (h n L N (nc_5_2 NN C0) (nc_5_2 NN C1)) ?_
    intro v M46 q; clear L N h
    obtain ⟨rfl, L, N, h⟩ := q
    show mm_Go (mm_run 2) mc_Index_copy _ (49, [(0, .inr (.inr v0)), (1, .inr (.inr v1))], [], M46)
    refine mm_s1 rfl ?_
    refine nn_getr rfl C0.1 (lf_5_3 L N C0) ?_
    refine mm_s1 rfl ?_
    refine nn_getr rfl C1.1 (lf_5_3 L N C1) ?_
    refine mm_s1 rfl ⟨(nc_5_3 NN C0).1, ?_⟩
    refine nn_call (D := 2) (by decide) (h n L N (nc_5_3 NN C0) (nc_5_3 NN C1)) ?_
    intro v M57 q; clear L N h
    obtain ⟨rfl, L, N, h⟩ := q
    show mm_Go (mm_run 2) mc_Index_copy _ (60, [(0, .inr (.inr v0)), (1, .inr (.inr v1))], [], M57)
    refine mm_s1 rfl ?_
    refine nn_getr rfl C1.1 (lf_5_4 L N C1) ?_
    refine mm_s1 rfl ?_
    refine mm_s1 rfl ?_
    refine nn_getr rfl C0.1 (lf_5_4 L N C0) ?_
    show mm_Go (mm_run 2) mc_Index_copy _ (69, [(0, .inr (.inr v0)), (1, .inr (.inr v1))], [.inr (.inr (v0 + 14)), .inl 0, .inr (.inr (v1 + 14))], M57)
    refine mm_s1 rfl ?_
    refine mm_s1 rfl ?_
    obtain ⟨b72, h⟩ := h
    refine mm_s1 rfl ⟨nn_ac (nc_5_4 NN C1).1 (nc_5_4 NN C0).1 (by decide) (congrArg (fun q : Nat × Nat => ((q.2 : Nat) : Int)) (na_5_4 NN C1)) (congrArg (fun q : Nat × Nat => ((q.2 : Nat) : Int)) (na_5_4 NN C0)) b72, ?_⟩
    show mm_Go (mm_run 2) mc_Index_copy _ (75, [(0, .inr (.inr v0)), (1, .inr (.inr v1))], [], (mm_cp M57 (v1 + 14) 0 (v0 + 14) 0 32))
    have L : nn_L (mm_cp M57 (v1 + 14) 0 (v0 + 14) 0 32) := nn_L_cp L (nc_5_4 NN C0).1 (by decide)
    have N : (mm_cp M57 (v1 + 14) 0 (v0 + 14) 0 32).1 = n := N
    generalize e_M72 : (mm_cp M57 (v1 + 14) 0 (v0 + 14) 0 32) = M72 at L N ⊢
    replace h := h _ e_M72.symm
    show mm_Go (mm_run 2) mc_Index_copy _ (75, [(0, .inr (.inr v0)), (1, .inr (.inr v1))], [], M72)
    refine mm_s1 rfl ?_
    refine mm_s1 rfl ?_
    refine mm_s1 rfl ⟨C1.1, ?_⟩
    show mm_Go (mm_run 2) mc_Index_copy _ (80, [(0, .inr (.inr v0)), (1, .inr (.inr v1))], [.inl (nn_rf M72 v1 6), .inr (.inr v0)], M72)
    obtain ⟨b80, h⟩ := h
    refine mm_s1 rfl ⟨⟨C0.1, b80⟩, ?_⟩
    show mm_Go (mm_run 2) mc_Index_copy _ (83, [(0, .inr (.inr v0)), (1, .inr (.inr v1))], [], (nn_uf M72 v0 6 (nn_rf M72 v1 6)))
    have L : nn_L (nn_uf M72 v0 6 (nn_rf M72 v1 6)) := nn_L_up L C0.1 rfl
    have N : (nn_uf M72 v0 6 (nn_rf M72 v1 6)).1 = n := N
    generalize e_M80 : (nn_uf M72 v0 6 (nn_rf M72 v1 6)) = M80 at L N ⊢
    replace h := h _ e_M80.symm
    show mm_Go (mm_run 2) mc_Index_copy _ (83, [(0, .inr (.inr v0)), (1, .inr (.inr v1))], [], M80)
    refine mm_s1 rfl ?_
    refine mm_s1 rfl ?_
    refine mm_s1 rfl ⟨C1.1, ?_⟩
    show mm_Go (mm_run 2) mc_Index_copy _ (88, [(0, .inr (.inr v0)), (1, .inr (.inr v1))], [.inl (nn_rf M80 v1 7), .inr (.inr v0)], M80)
    obtain ⟨b88, h⟩ := h
    refine mm_s1 rfl ⟨⟨C0.1, b88⟩, ?_⟩
    show mm_Go (mm_run 2) mc_Index_copy _ (91, [(0, .inr (.inr v0)), (1, .inr (.inr v1))], [], (nn_uf M80 v0 7 (nn_rf M80 v1 7)))
    have L : nn_L (nn_uf M80 v0 7 (nn_rf M80 v1 7)) := nn_L_up L C0.1 rfl
    have N : (nn_uf M80 v0 7 (nn_rf M80 v1 7)).1 = n := N
    generalize e_M88 : (nn_uf M80 v0 7 (nn_rf M80 v1 7)) = M88 at L N ⊢
    replace h := h _ e_M88.symm
    show mm_Go (mm_run 2) mc_Index_copy _ (91, [(0, .inr (.inr v0)), (1, .inr (.inr v1))], [], M88)
    refine mm_s1 rfl ?_
    refine mm_s1 rfl ?_
    refine mm_s1 rfl ⟨C1.1, ?_⟩
    show mm_Go (mm_run 2) mc_Index_copy _ (96, [(0, .inr (.inr v0)), (1, .inr (.inr v1))], [.inl (nn_rf M88 v1 8), .inr (.inr v0)], M88)
    refine mm_s1 rfl ⟨C0.1, ?_⟩
    show mm_Go (mm_run 2) mc_Index_copy _ (99, [(0, .inr (.inr v0)), (1, .inr (.inr v1))], [], (nn_uf M88 v0 8 (nn_rf M88 v1 8)))
    have L : nn_L (nn_uf M88 v0 8 (nn_rf M88 v1 8)) := nn_L_up L C0.1 rfl
    have N : (nn_uf M88 v0 8 (nn_rf M88 v1 8)).1 = n := N
    generalize e_M96 : (nn_uf M88 v0 8 (nn_rf M88 v1 8)) = M96 at L N ⊢
    replace h := h _ e_M96.symm
    show mm_Go (mm_run 2) mc_Index_copy _ (99, [(0, .inr (.inr v0)), (1, .inr (.inr v1))], [], M96)
    refine mm_s1 rfl ?_
    refine mm_s1 rfl ?_
    refine mm_s1 rfl ⟨C1.1, ?_⟩
    show mm_Go (mm_run 2) mc_Index_copy _ (104, [(0, .inr (.inr v0)), (1, .inr (.inr v1))], [.inl (nn_rf M96 v1 9), .inr (.inr v0)], M96)
    refine mm_s1 rfl ⟨C0.1, ?_⟩
    show mm_Go (mm_run 2) mc_Index_copy _ (107, [(0, .inr (.inr v0)), (1, .inr (.inr v1))], [], (nn_uf M96 v0 9 (nn_rf M96 v1 9)))
    have L : nn_L (nn_uf M96 v0 9 (nn_rf M96 v1 9)) := nn_L_up L C0.1 rfl
    have N : (nn_uf M96 v0 9 (nn_rf M96 v1 9)).1 = n := N
    generalize e_M104 : (nn_uf M96 v0 9 (nn_rf M96 v1 9)) = M104 at L N ⊢
    replace h := h _ e_M104.symm
    show mm_Go (mm_run 2) mc_Index_copy _ (107, [(0, .inr (.inr v0)), (1, .inr (.inr v1))], [], M104)
    exact mm_s1 rfl ⟨rfl, L, N, h⟩
  · show mm_Go (mm_run 2) mc_Index_copy _ (15, [(0, .inr (.inr v0)), (1, .inr (.inr v1))], [], M5)
    replace c12 := Decidable.not_not.mp c12
    replace h := h.2 c12
    exact mm_s1 rfl ⟨rfl, L, N, h⟩
def nr_Pile_mergeRuns (v0 : Nat) (v1 : Int) (v2 : Int) (v3 : Int) (v4 : Int) (v5 : Nat) (M : mm_M) (R : mm_M → Prop) : Prop := ∀ n, nn_L M → M.1 = n → nn_C 6 v0 n → nn_C 10 v5 n → mm_run 3 mi_Pile_mergeRuns [.inr (.inr v0), .inl v1, .inl v2, .inl v3, .inl v4, .inr (.inr v5)] M (nw_V n R)
set_option maxRecDepth 20000 in
theorem ng_Pile_mergeRuns (v0 : Nat) (v1 : Int) (v2 : Int) (v3 : Int) (v4 : Int) (v5 : Nat) (M : mm_M) (R : mm_M → Prop) (h : (nr_Pile_leastRepaired v0 v1 v2 M (fun r3 M3 => (nr_Pile_takeOut v0 (mm_w (v1 + 1)) (mm_w (v2 - 1)) M3 (fun M15 => (nr_Pile_sort v0 v1 M15 (fun M20 => (nr_Pile_keptGreatest v0 v1 M20 (fun r27 M27 => (nr_Pile_cut v0 v1 r27 M27 (fun M30 => ((v4 = 0 → (((0 : Int) ≤ v1 ∧ v1 < (24 : Int)) ∧ (∀ M59 : mm_M, M59 = nn_ui M30 (v0 + 3) v1 v3 → ((v4 = 0 → (((0 : Int) ≤ v1 ∧ v1 < (24 : Int)) ∧ (∀ M80 : mm_M, M80 = nn_ui M59 (v0 + 4) v1 r3 → (nr_Table_newId v5 M80 (fun r88 M88 => (((0 : Int) ≤ v1 ∧ v1 < (24 : Int)) ∧ (∀ M91 : mm_M, M91 = nn_ui M88 (v0 + 5) v1 r88 → (nr_Pile_dropEmpty v0 v1 M91 (fun M94 => R M94))))))))) ∧ (v4 ≠ 0 → (((0 : Int) ≤ v1 ∧ v1 < (24 : Int)) ∧ (∀ M80 : mm_M, M80 = nn_ui M59 (v0 + 4) v1 (nn_rf M59 v5 6) → (nr_Table_newId v5 M80 (fun r88 M88 => (((0 : Int) ≤ v1 ∧ v1 < (24 : Int)) ∧ (∀ M91 : mm_M, M91 = nn_ui M88 (v0 + 5) v1 r88 → (nr_Pile_dropEmpty v0 v1 M91 (fun M94 => R M94))))))))))))) ∧ (v4 ≠ 0 → (nr_Pile_keptFresh v0 v1 (v5 + 4) M30 (fun r47 M47 => (nr_Pile_cut v0 v1 r47 M47 (fun M50 => (((0 : Int) ≤ v1 ∧ v1 < (24 : Int)) ∧ (∀ M59 : mm_M, M59 = nn_ui M50 (v0 + 3) v1 v3 → ((v4 = 0 → (((0 : Int) ≤ v1 ∧ v1 < (24 : Int)) ∧ (∀ M80 : mm_M, M80 = nn_ui M59 (v0 + 4) v1 r3 → (nr_Table_newId v5 M80 (fun r88 M88 => (((0 : Int) ≤ v1 ∧ v1 < (24 : Int)) ∧ (∀ M91 : mm_M, M91 = nn_ui M88 (v0 + 5) v1 r88 → (nr_Pile_dropEmpty v0 v1 M91 (fun M94 => R M94))))))))) ∧ (v4 ≠ 0 → (((0 : Int) ≤ v1 ∧ v1 < (24 : Int)) ∧ (∀ M80 : mm_M, M80 = nn_ui M59 (v0 + 4) v1 (nn_rf M59 v5 6) → (nr_Table_newId v5 M80 (fun r88 M88 => (((0 : Int) ≤ v1 ∧ v1 < (24 : Int)) ∧ (∀ M91 : mm_M, M91 = nn_ui M88 (v0 + 5) v1 r88 → (nr_Pile_dropEmpty v0 v1 M91 (fun M94 => R M94))))))))))))))))))))))))))))) : nr_Pile_mergeRuns v0 v1 v2 v3 v4 v5 M R := by
  intro n L N C0 C5
  have NN := nn_L_n L N
  show mm_Go (mm_run 2) mc_Pile_mergeRuns _ (0, [(0, .inr (.inr v0)), (1, .inl v1), (2, .inl v2), (3, .inl v3), (4, .inl v4), (5, .inr (.inr v5))], [], M)
  refine mm_s1 rfl ?_
  refine mm_s1 rfl ?_
  refine mm_s1 rfl ?_
  refine mm_s1 rfl ⟨C0.1, ?_⟩
  refine nn_call (D := 2) (by decide) (h n L N C0) ?_
  intro v M3 q; clear L N h
  obtain ⟨r3, rfl, L, N, h⟩ := q
  show mm_Go (mm_run 2) mc_Pile_mergeRuns _ (6, [(0, .inr (.inr v0)), (1, .inl v1), (2, .inl v2), (3, .inl v3), (4, .inl v4), (5, .inr (.inr v5))], [.inl r3], M3)
  refine mm_s1 rfl ?_
  show mm_Go (mm_run 2) mc_Pile_mergeRuns _ (8, [(0, .inr (.inr v0)), (1, .inl v1), (2, .inl v2), (3, .inl v3), (4, .inl v4), (5, .inr (.inr v5)), (6, .inl r3)], [], M3)
  refine mm_s1 rfl ?_
  refine mm_s1 rfl ?_
  refine mm_s1 rfl ?_
  refine mm_s1 rfl ?_
  refine mm_s1 rfl ?_
  show mm_Go (mm_run 2) mc_Pile_mergeRuns _ (13, [(0, .inr (.inr v0)), (1, .inl v1), (2, .inl v2), (3, .inl v3), (4, .inl v4), (5, .inr (.inr v5)), (6, .inl r3)], [.inl v2, .inl (mm_w (v1 + 1)), .inr (.inr v0)], M3)
  refine mm_s1 rfl ?_
  refine mm_s1 rfl ?_
  refine mm_s1 rfl ⟨C0.1, ?_⟩
  refine nn_call (D := 1) (by decide) (h n L N C0) ?_
  intro v M15 q; clear L N h
  obtain ⟨rfl, L, N, h⟩ := q
  show mm_Go (mm_run 2) mc_Pile_mergeRuns _ (18, [(0, .inr (.inr v0)), (1, .inl v1), (2, .inl v2), (3, .inl v3), (4, .inl v4), (5, .inr (.inr v5)), (6, .inl r3)], [], M15)
  refine mm_s1 rfl ?_
  refine mm_s1 rfl ?_
  refine mm_s1 rfl ⟨C0.1, ?_⟩
  refine nn_call (D := 1) (by decide) (h n L N C0) ?_
  intro v M20 q; clear L N h
  obtain ⟨rfl, L, N, h⟩ := q
  show mm_Go (mm_run 2) mc_Pile_mergeRuns _ (23, [(0, .inr (.inr v0)), (1, .inl v1), (2, .inl v2), (3, .inl v3), (4, .inl v4), (5, .inr (.inr v5)), (6, .inl r3)], [], M20)
  refine mm_s1 rfl ?_
  refine mm_s1 rfl ?_
  refine mm_s1 rfl ?_
  refine mm_s1 rfl ?_
  refine mm_s1 rfl ⟨C0.1, ?_⟩
  refine nn_call (D := 1) (by decide) (h n L N C0) ?_
  intro v M27 q; clear L N h
  obtain ⟨r27, rfl, L, N, h⟩ := q
  show mm_Go (mm_run 2) mc_Pile_mergeRuns _ (30, [(0, .inr (.inr v0)), (1, .inl v1), (2, .inl v2), (3, .inl v3), (4, .inl v4), (5, .inr (.inr v5)), (6, .inl r3)], [.inl r27, .inl v1, .inr (.inr v0)], M27)
  refine mm_s1 rfl ⟨C0.1, ?_⟩
  refine nn_call (D := 1) (by decide) (h n L N C0) ?_
  intro v M30 q; clear L N h
  obtain ⟨rfl, L, N, h⟩ := q
  show mm_Go (mm_run 2) mc_Pile_mergeRuns _ (33, [(0, .inr (.inr v0)), (1, .inl v1), (2, .inl v2), (3, .inl v3), (4, .inl v4), (5, .inr (.inr v5)), (6, .inl r3)], [], M30)
  refine mm_s1 rfl ?_
  refine mm_s1 rfl ⟨fun c35 => ?_, fun c35 => ?_⟩
  · show mm_Go (mm_run 2) mc_Pile_mergeRuns _ (53, [(0, .inr (.inr v0)), (1, .inl v1), (2, .inl v2), (3, .inl v3), (4, .inl v4), (5, .inr (.inr v5)), (6, .inl r3)], [], M30)
    replace h := h.1 c35
    refine mm_s1 rfl ?_
    refine nn_getr rfl C0.1 (lf_6_2 L N C0) ?_
    refine mm_s1 rfl ?_
    refine mm_s1 rfl ?_
    obtain ⟨b59, h⟩ := h
    refine mm_s1 rfl ⟨nn_bd (na_6_2 NN C0) b59, ?_⟩
    show mm_Go (mm_run 2) mc_Pile_mergeRuns _ (60, [(0, .inr (.inr v0)), (1, .inl v1), (2, .inl v2), (3, .inl v3), (4, .inl v4), (5, .inr (.inr v5)), (6, .inl r3)], [], (nn_ui M30 (v0 + 3) v1 v3))
    have L : nn_L (nn_ui M30 (v0 + 3) v1 v3) := nn_L_ua L (congrArg Prod.fst (na_6_2 NN C0)) (by decide)
    have N : (nn_ui M30 (v0 + 3) v1 v3).1 = n := N
    generalize e_M59 : (nn_ui M30 (v0 + 3) v1 v3) = M59 at L N ⊢
    replace h := h _ e_M59.symm
    show mm_Go (mm_run 2) mc_Pile_mergeRuns _ (60, [(0, .inr (.inr v0)), (1, .inl v1), (2, .inl v2), (3, .inl v3), (4, .inl v4), (5, .inr (.inr v5)), (6, .inl r3)], [], M59)
    refine mm_s1 rfl ?_
    refine nn_getr rfl C0.1 (lf_6_3 L N C0) ?_
    refine mm_s1 rfl ?_
    refine mm_s1 rfl ?_
    refine mm_s1 rfl ⟨fun c67 => ?_, fun c67 => ?_⟩
    · show mm_Go (mm_run 2) mc_Pile_mergeRuns _ (78, [(0, .inr (.inr v0)), (1, .inl v1), (2, .inl v2), (3, .inl v3), (4, .inl v4), (5, .inr (.inr v5)), (6, .inl r3)], [.inl v1, .inr (.inr (v0 + 4))], M59)
      replace h := h.1 c67
      refine mm_s1 rfl ?_
      obtain ⟨b80, h⟩ := h
      refine mm_s1 rfl ⟨nn_bd (na_6_3 NN C0) b80, ?_⟩
      show mm_Go (mm_run 2) mc_Pile_mergeRuns _ (81, [(0, .inr (.inr v0)), (1, .inl v1), (2, .inl v2), (3, .inl v3), (4, .inl v4), (5, .inr (.inr v5)), (6, .inl r3)], [], (nn_ui M59 (v0 + 4) v1 r3))
      have L : nn_L (nn_ui M59 (v0 + 4) v1 r3) := nn_L_ua L (congrArg Prod.fst (na_6_3 NN C0)) (by decide)
      have N : (nn_ui M59 (v0 + 4) v1 r3).1 = n := N
      generalize e_M80 : (nn_ui M59 (v0 + 4) v1 r3) = M80 at L N ⊢
      replace h := h _ e_M80.symm
      show mm_Go (mm_run 2) mc_Pile_mergeRuns _ (81, [(0, .inr (.inr v0)), (1, .inl v1), (2, .inl v2), (3, .inl v3), (4, .inl v4), (5, .inr (.inr v5)), (6, .inl r3)], [], M80)
      refine mm_s1 rfl ?_
      refine nn_getr rfl C0.1 (lf_6_4 L N C0) ?_
      refine mm_s1 rfl ?_
      refine mm_s1 rfl ?_
      refine mm_s1 rfl ⟨C5.1, ?_⟩
      refine nn_call (D := 1) (by decide) (h n L N C5) ?_
      intro v M88 q; clear L N h
      obtain ⟨r88, rfl, L, N, h⟩ := q
      show mm_Go (mm_run 2) mc_Pile_mergeRuns _ (91, [(0, .inr (.inr v0)), (1, .inl v1), (2, .inl v2), (3, .inl v3), (4, .inl v4), (5, .inr (.inr v5)), (6, .inl r3)], [.inl r88, .inl v1, .inr (.inr (v0 + 5))], M88)
      obtain ⟨b91, h⟩ := h
      refine mm_s1 rfl ⟨nn_bd (na_6_4 NN C0) b91, ?_⟩
      show mm_Go (mm_run 2) mc_Pile_mergeRuns _ (92, [(0, .inr (.inr v0)), (1, .inl v1), (2, .inl v2), (3, .inl v3), (4, .inl v4), (5, .inr (.inr v5)), (6, .inl r3)], [], (nn_ui M88 (v0 + 5) v1 r88))
      have L : nn_L (nn_ui M88 (v0 + 5) v1 r88) := nn_L_ua L (congrArg Prod.fst (na_6_4 NN C0)) (by decide)
      have N : (nn_ui M88 (v0 + 5) v1 r88).1 = n := N
      generalize e_M91 : (nn_ui M88 (v0 + 5) v1 r88) = M91 at L N ⊢
      replace h := h _ e_M91.symm
      show mm_Go (mm_run 2) mc_Pile_mergeRuns _ (92, [(0, .inr (.inr v0)), (1, .inl v1), (2, .inl v2), (3, .inl v3), (4, .inl v4), (5, .inr (.inr v5)), (6, .inl r3)], [], M91)
      refine mm_s1 rfl ?_
      refine mm_s1 rfl ?_
      refine mm_s1 rfl ⟨C0.1, ?_⟩
      refine nn_call (D := 2) (by decide) (h n L N C0) ?_
      intro v M94 q; clear L N h
      obtain ⟨rfl, L, N, h⟩ := q
      show mm_Go (mm_run 2) mc_Pile_mergeRuns _ (97, [(0, .inr (.inr v0)), (1, .inl v1), (2, .inl v2), (3, .inl v3), (4, .inl v4), (5, .inr (.inr v5)), (6, .inl r3)], [], M94)
      exact mm_s1 rfl ⟨rfl, L, N, h⟩
    · show mm_Go (mm_run 2) mc_Pile_mergeRuns _ (70, [(0, .inr (.inr v0)), (1, .inl v1), (2, .inl v2), (3, .inl v3), (4, .inl v4), (5, .inr (.inr v5)), (6, .inl r3)], [.inl v1, .inr (.inr (v0 + 4))], M59)
      replace h := h.2 c67
      refine mm_s1 rfl ?_
      refine mm_s1 rfl ⟨C5.1, ?_⟩
      show mm_Go (mm_run 2) mc_Pile_mergeRuns _ (75, [(0, .inr (.inr v0)), (1, .inl v1), (2, .inl v2), (3, .inl v3), (4, .inl v4), (5, .inr (.inr v5)), (6, .inl r3)], [.inl (nn_rf M59 v5 6), .inl v1, .inr (.inr (v0 + 4))], M59)
      refine mm_s1 rfl ?_
      show mm_Go (mm_run 2) mc_Pile_mergeRuns _ (80, [(0, .inr (.inr v0)), (1, .inl v1), (2, .inl v2), (3, .inl v3), (4, .inl v4), (5, .inr (.inr v5)), (6, .inl r3)], [.inl (nn_rf M59 v5 6), .inl v1, .inr (.inr (v0 + 4))], M59)
      obtain ⟨b80, h⟩ := h
      refine mm_s1 rfl ⟨nn_bd (na_6_3 NN C0) b80, ?_⟩
      show mm_Go (mm_run 2) mc_Pile_mergeRuns _ (81, [(0, .inr (.inr v0)), (1, .inl v1), (2, .inl v2), (3, .inl v3), (4, .inl v4), (5, .inr (.inr v5)), (6, .inl r3)], [], (nn_ui M59 (v0 + 4) v1 (nn_rf M59 v5 6)))
      have L : nn_L (nn_ui M59 (v0 + 4) v1 (nn_rf M59 v5 6)) := nn_L_ua L (congrArg Prod.fst (na_6_3 NN C0)) (by decide)
      have N : (nn_ui M59 (v0 + 4) v1 (nn_rf M59 v5 6)).1 = n := N
      generalize e_M80 : (nn_ui M59 (v0 + 4) v1 (nn_rf M59 v5 6)) = M80 at L N ⊢
      replace h := h _ e_M80.symm
      show mm_Go (mm_run 2) mc_Pile_mergeRuns _ (81, [(0, .inr (.inr v0)), (1, .inl v1), (2, .inl v2), (3, .inl v3), (4, .inl v4), (5, .inr (.inr v5)), (6, .inl r3)], [], M80)
      refine mm_s1 rfl ?_
      refine nn_getr rfl C0.1 (lf_6_4 L N C0) ?_
      refine mm_s1 rfl ?_
      refine mm_s1 rfl ?_
      refine mm_s1 rfl ⟨C5.1, ?_⟩
      refine nn_call (D := 1) (by decide) (h n L N C5) ?_
      intro v M88 q; clear L N h
      obtain ⟨r88, rfl, L, N, h⟩ := q
      show mm_Go (mm_run 2) mc_Pile_mergeRuns _ (91, [(0, .inr (.inr v0)), (1, .inl v1), (2, .inl v2), (3, .inl v3), (4, .inl v4), (5, .inr (.inr v5)), (6, .inl r3)], [.inl r88, .inl v1, .inr (.inr (v0 + 5))], M88)
      obtain ⟨b91, h⟩ := h
      refine mm_s1 rfl ⟨nn_bd (na_6_4 NN C0) b91, ?_⟩
      show mm_Go (mm_run 2) mc_Pile_mergeRuns _ (92, [(0, .inr (.inr v0)), (1, .inl v1), (2, .inl v2), (3, .inl v3), (4, .inl v4), (5, .inr (.inr v5)), (6, .inl r3)], [], (nn_ui M88 (v0 + 5) v1 r88))
      have L : nn_L (nn_ui M88 (v0 + 5) v1 r88) := nn_L_ua L (congrArg Prod.fst (na_6_4 NN C0)) (by decide)
      have N : (nn_ui M88 (v0 + 5) v1 r88).1 = n := N
      generalize e_M91 : (nn_ui M88 (v0 + 5) v1 r88) = M91 at L N ⊢
      replace h := h _ e_M91.symm
      show mm_Go (mm_run 2) mc_Pile_mergeRuns _ (92, [(0, .inr (.inr v0)), (1, .inl v1), (2, .inl v2), (3, .inl v3), (4, .inl v4), (5, .inr (.inr v5)), (6, .inl r3)], [], M91)
      refine mm_s1 rfl ?_
      refine mm_s1 rfl ?_
      refine mm_s1 rfl ⟨C0.1, ?_⟩
      refine nn_call (D := 2) (by decide) (h n L N C0) ?_
      intro v M94 q; clear L N h
      obtain ⟨rfl, L, N, h⟩ := q
      show mm_Go (mm_run 2) mc_Pile_mergeRuns _ (97, [(0, .inr (.inr v0)), (1, .inl v1), (2, .inl v2), (3, .inl v3), (4, .inl v4), (5, .inr (.inr v5)), (6, .inl r3)], [], M94)
      exact mm_s1 rfl ⟨rfl, L, N, h⟩
  · show mm_Go (mm_run 2) mc_Pile_mergeRuns _ (38, [(0, .inr (.inr v0)), (1, .inl v1), (2, .inl v2), (3, .inl v3), (4, .inl v4), (5, .inr (.inr v5)), (6, .inl r3)], [], M30)
    replace h := h.2 c35
    refine mm_s1 rfl ?_
    refine mm_s1 rfl ?_
    refine mm_s1 rfl ?_
    refine mm_s1 rfl ?_
    refine mm_s1 rfl ?_
    show mm_Go (mm_run 2) mc_Pile_mergeRuns _ (44, [(0, .inr (.inr v0)), (1, .inl v1), (2, .inl v2), (3, .inl v3), (4, .inl v4), (5, .inr (.inr v5)), (6, .inl r3)], [.inr (.inr v5), .inl v1, .inr (.inr v0), .inl v1, .inr (.inr v0)], M30)
    refine nn_getr rfl C5.1 (lf_10_1 L N C5) ?_
    refine mm_s1 rfl ⟨C0.1, ?_⟩
    refine nn_call (D := 2) (by decide) (h n L N C0 (nc_10_1 NN C5)) ?_
    intro v M47 q; clear L N h
    obtain ⟨r47, rfl, L, N, h⟩ := q
    show mm_Go (mm_run 2) mc_Pile_mergeRuns _ (50, [(0, .inr (.inr v0)), (1, .inl v1), (2, .inl v2), (3, .inl v3), (4, .inl v4), (5, .inr (.inr v5)), (6, .inl r3)], [.inl r47, .inl v1, .inr (.inr v0)], M47)
    refine mm_s1 rfl ⟨C0.1, ?_⟩
    refine nn_call (D := 1) (by decide) (h n L N C0) ?_
    intro v M50 q; clear L N h
    obtain ⟨rfl, L, N, h⟩ := q
    show mm_Go (mm_run 2) mc_Pile_mergeRuns _ (53, [(0, .inr (.inr v0)), (1, .inl v1), (2, .inl v2), (3, .inl v3), (4, .inl v4), (5, .inr (.inr v5)), (6, .inl r3)], [], M50)
    refine mm_s1 rfl ?_
    refine nn_getr rfl C0.1 (lf_6_2 L N C0) ?_
    refine mm_s1 rfl ?_
    refine mm_s1 rfl ?_
    obtain ⟨b59, h⟩ := h
    refine mm_s1 rfl ⟨nn_bd (na_6_2 NN C0) b59, ?_⟩
    show mm_Go (mm_run 2) mc_Pile_mergeRuns _ (60, [(0, .inr (.inr v0)), (1, .inl v1), (2, .inl v2), (3, .inl v3), (4, .inl v4), (5, .inr (.inr v5)), (6, .inl r3)], [], (nn_ui M50 (v0 + 3) v1 v3))
    have L : nn_L (nn_ui M50 (v0 + 3) v1 v3) := nn_L_ua L (congrArg Prod.fst (na_6_2 NN C0)) (by decide)
    have N : (nn_ui M50 (v0 + 3) v1 v3).1 = n := N
    generalize e_M59 : (nn_ui M50 (v0 + 3) v1 v3) = M59 at L N ⊢
    replace h := h _ e_M59.symm
    show mm_Go (mm_run 2) mc_Pile_mergeRuns _ (60, [(0, .inr (.inr v0)), (1, .inl v1), (2, .inl v2), (3, .inl v3), (4, .inl v4), (5, .inr (.inr v5)), (6, .inl r3)], [], M59)
    refine mm_s1 rfl ?_
    refine nn_getr rfl C0.1 (lf_6_3 L N C0) ?_
    refine mm_s1 rfl ?_
    refine mm_s1 rfl ?_
    refine mm_s1 rfl ⟨fun c67 => ?_, fun c67 => ?_⟩
    · show mm_Go (mm_run 2) mc_Pile_mergeRuns _ (78, [(0, .inr (.inr v0)), (1, .inl v1), (2, .inl v2), (3, .inl v3), (4, .inl v4), (5, .inr (.inr v5)), (6, .inl r3)], [.inl v1, .inr (.inr (v0 + 4))], M59)
      replace h := h.1 c67
      refine mm_s1 rfl ?_
      obtain ⟨b80, h⟩ := h
      refine mm_s1 rfl ⟨nn_bd (na_6_3 NN C0) b80, ?_⟩
      show mm_Go (mm_run 2) mc_Pile_mergeRuns _ (81, [(0, .inr (.inr v0)), (1, .inl v1), (2, .inl v2), (3, .inl v3), (4, .inl v4), (5, .inr (.inr v5)), (6, .inl r3)], [], (nn_ui M59 (v0 + 4) v1 r3))
      have L : nn_L (nn_ui M59 (v0 + 4) v1 r3) := nn_L_ua L (congrArg Prod.fst (na_6_3 NN C0)) (by decide)
      have N : (nn_ui M59 (v0 + 4) v1 r3).1 = n := N
      generalize e_M80 : (nn_ui M59 (v0 + 4) v1 r3) = M80 at L N ⊢
      replace h := h _ e_M80.symm
      show mm_Go (mm_run 2) mc_Pile_mergeRuns _ (81, [(0, .inr (.inr v0)), (1, .inl v1), (2, .inl v2), (3, .inl v3), (4, .inl v4), (5, .inr (.inr v5)), (6, .inl r3)], [], M80)
      refine mm_s1 rfl ?_
      refine nn_getr rfl C0.1 (lf_6_4 L N C0) ?_
      refine mm_s1 rfl ?_
      refine mm_s1 rfl ?_
      refine mm_s1 rfl ⟨C5.1, ?_⟩
      refine nn_call (D := 1) (by decide) (h n L N C5) ?_
      intro v M88 q; clear L N h
      obtain ⟨r88, rfl, L, N, h⟩ := q
      show mm_Go (mm_run 2) mc_Pile_mergeRuns _ (91, [(0, .inr (.inr v0)), (1, .inl v1), (2, .inl v2), (3, .inl v3), (4, .inl v4), (5, .inr (.inr v5)), (6, .inl r3)], [.inl r88, .inl v1, .inr (.inr (v0 + 5))], M88)
      obtain ⟨b91, h⟩ := h
      refine mm_s1 rfl ⟨nn_bd (na_6_4 NN C0) b91, ?_⟩
      show mm_Go (mm_run 2) mc_Pile_mergeRuns _ (92, [(0, .inr (.inr v0)), (1, .inl v1), (2, .inl v2), (3, .inl v3), (4, .inl v4), (5, .inr (.inr v5)), (6, .inl r3)], [], (nn_ui M88 (v0 + 5) v1 r88))
      have L : nn_L (nn_ui M88 (v0 + 5) v1 r88) := nn_L_ua L (congrArg Prod.fst (na_6_4 NN C0)) (by decide)
      have N : (nn_ui M88 (v0 + 5) v1 r88).1 = n := N
      generalize e_M91 : (nn_ui M88 (v0 + 5) v1 r88) = M91 at L N ⊢
      replace h := h _ e_M91.symm
      show mm_Go (mm_run 2) mc_Pile_mergeRuns _ (92, [(0, .inr (.inr v0)), (1, .inl v1), (2, .inl v2), (3, .inl v3), (4, .inl v4), (5, .inr (.inr v5)), (6, .inl r3)], [], M91)
      refine mm_s1 rfl ?_
      refine mm_s1 rfl ?_
      refine mm_s1 rfl ⟨C0.1, ?_⟩
      refine nn_call (D := 2) (by decide) (h n L N C0) ?_
      intro v M94 q; clear L N h
      obtain ⟨rfl, L, N, h⟩ := q
      show mm_Go (mm_run 2) mc_Pile_mergeRuns _ (97, [(0, .inr (.inr v0)), (1, .inl v1), (2, .inl v2), (3, .inl v3), (4, .inl v4), (5, .inr (.inr v5)), (6, .inl r3)], [], M94)
      exact mm_s1 rfl ⟨rfl, L, N, h⟩
    · show mm_Go (mm_run 2) mc_Pile_mergeRuns _ (70, [(0, .inr (.inr v0)), (1, .inl v1), (2, .inl v2), (3, .inl v3), (4, .inl v4), (5, .inr (.inr v5)), (6, .inl r3)], [.inl v1, .inr (.inr (v0 + 4))], M59)
      replace h := h.2 c67
      refine mm_s1 rfl ?_
      refine mm_s1 rfl ⟨C5.1, ?_⟩
      show mm_Go (mm_run 2) mc_Pile_mergeRuns _ (75, [(0, .inr (.inr v0)), (1, .inl v1), (2, .inl v2), (3, .inl v3), (4, .inl v4), (5, .inr (.inr v5)), (6, .inl r3)], [.inl (nn_rf M59 v5 6), .inl v1, .inr (.inr (v0 + 4))], M59)
      refine mm_s1 rfl ?_
      show mm_Go (mm_run 2) mc_Pile_mergeRuns _ (80, [(0, .inr (.inr v0)), (1, .inl v1), (2, .inl v2), (3, .inl v3), (4, .inl v4), (5, .inr (.inr v5)), (6, .inl r3)], [.inl (nn_rf M59 v5 6), .inl v1, .inr (.inr (v0 + 4))], M59)
      obtain ⟨b80, h⟩ := h
      refine mm_s1 rfl ⟨nn_bd (na_6_3 NN C0) b80, ?_⟩
      show mm_Go (mm_run 2) mc_Pile_mergeRuns _ (81, [(0, .inr (.inr v0)), (1, .inl v1), (2, .inl v2), (3, .inl v3), (4, .inl v4), (5, .inr (.inr v5)), (6, .inl r3)], [], (nn_ui M59 (v0 + 4) v1 (nn_rf M59 v5 6)))
      have L : nn_L (nn_ui M59 (v0 + 4) v1 (nn_rf M59 v5 6)) := nn_L_ua L (congrArg Prod.fst (na_6_3 NN C0)) (by decide)
      have N : (nn_ui M59 (v0 + 4) v1 (nn_rf M59 v5 6)).1 = n := N
      generalize e_M80 : (nn_ui M59 (v0 + 4) v1 (nn_rf M59 v5 6)) = M80 at L N ⊢
      replace h := h _ e_M80.symm
      show mm_Go (mm_run 2) mc_Pile_mergeRuns _ (81, [(0, .inr (.inr v0)), (1, .inl v1), (2, .inl v2), (3, .inl v3), (4, .inl v4), (5, .inr (.inr v5)), (6, .inl r3)], [], M80)
      refine mm_s1 rfl ?_
      refine nn_getr rfl C0.1 (lf_6_4 L N C0) ?_
      refine mm_s1 rfl ?_
      refine mm_s1 rfl ?_
      refine mm_s1 rfl ⟨C5.1, ?_⟩
      refine nn_call (D := 1) (by decide) (h n L N C5) ?_
      intro v M88 q; clear L N h
      obtain ⟨r88, rfl, L, N, h⟩ := q
      show mm_Go (mm_run 2) mc_Pile_mergeRuns _ (91, [(0, .inr (.inr v0)), (1, .inl v1), (2, .inl v2), (3, .inl v3), (4, .inl v4), (5, .inr (.inr v5)), (6, .inl r3)], [.inl r88, .inl v1, .inr (.inr (v0 + 5))], M88)
      obtain ⟨b91, h⟩ := h
      refine mm_s1 rfl ⟨nn_bd (na_6_4 NN C0) b91, ?_⟩
      show mm_Go (mm_run 2) mc_Pile_mergeRuns _ (92, [(0, .inr (.inr v0)), (1, .inl v1), (2, .inl v2), (3, .inl v3), (4, .inl v4), (5, .inr (.inr v5)), (6, .inl r3)], [], (nn_ui M88 (v0 + 5) v1 r88))
      have L : nn_L (nn_ui M88 (v0 + 5) v1 r88) := nn_L_ua L (congrArg Prod.fst (na_6_4 NN C0)) (by decide)
      have N : (nn_ui M88 (v0 + 5) v1 r88).1 = n := N
      generalize e_M91 : (nn_ui M88 (v0 + 5) v1 r88) = M91 at L N ⊢
      replace h := h _ e_M91.symm
      show mm_Go (mm_run 2) mc_Pile_mergeRuns _ (92, [(0, .inr (.inr v0)), (1, .inl v1), (2, .inl v2), (3, .inl v3), (4, .inl v4), (5, .inr (.inr v5)), (6, .inl r3)], [], M91)
      refine mm_s1 rfl ?_
      refine mm_s1 rfl ?_
      refine mm_s1 rfl ⟨C0.1, ?_⟩
      refine nn_call (D := 2) (by decide) (h n L N C0) ?_
      intro v M94 q; clear L N h
      obtain ⟨rfl, L, N, h⟩ := q
      show mm_Go (mm_run 2) mc_Pile_mergeRuns _ (97, [(0, .inr (.inr v0)), (1, .inl v1), (2, .inl v2), (3, .inl v3), (4, .inl v4), (5, .inr (.inr v5)), (6, .inl r3)], [], M94)
      exact mm_s1 rfl ⟨rfl, L, N, h⟩
def nr_Pile_repairRuns (v0 : Nat) (v1 : Nat) (M : mm_M) (R : Int → mm_M → Prop) : Prop := ∀ n, nn_L M → M.1 = n → nn_C 6 v0 n → nn_C 10 v1 n → mm_run 3 mi_Pile_repairRuns [.inr (.inr v0), .inr (.inr v1)] M (nw_I n R)
def nk_Pile_repairRuns_12 (v0 : Nat) (v1 : Nat) (v2 : Int) (v3 : Int) (M : mm_M) (R : Int → mm_M → Prop) : Prop := ∀ n, nn_L M → M.1 = n → nn_C 6 v0 n → nn_C 10 v1 n → mm_Go (mm_run 2) mc_Pile_repairRuns (nw_I n R) (12, [(0, .inr (.inr v0)), (1, .inr (.inr v1)), (2, .inl v2), (3, .inl v3)], [], M)
set_option maxRecDepth 20000 in
theorem ng_Pile_repairRuns (v0 : Nat) (v1 : Nat) (M : mm_M) (R : Int → mm_M → Prop) (h : ((nc_Pile_size v0 M) ∧ nk_Pile_repairRuns_12 v0 v1 (nf_Pile_size v0 M) (mm_w ((nn_rf M v0 5) - 1)) M R)) : nr_Pile_repairRuns v0 v1 M R := by
  intro n L N C0 C1
  have NN := nn_L_n L N
  show mm_Go (mm_run 2) mc_Pile_repairRuns _ (0, [(0, .inr (.inr v0)), (1, .inr (.inr v1))], [], M)
  refine mm_s1 rfl ?_
  obtain ⟨b1, h⟩ := h
  refine mm_s1 rfl ⟨C0.1, ?_⟩
  refine np_Pile_size (by decide) L N C0 b1 ?_
  show mm_Go (mm_run 2) mc_Pile_repairRuns _ (4, [(0, .inr (.inr v0)), (1, .inr (.inr v1))], [.inl (nf_Pile_size v0 M)], M)
  refine mm_s1 rfl ?_
  show mm_Go (mm_run 2) mc_Pile_repairRuns _ (5, [(0, .inr (.inr v0)), (1, .inr (.inr v1)), (2, .inl (nf_Pile_size v0 M))], [], M)
  refine mm_s1 rfl ?_
  refine mm_s1 rfl ⟨C0.1, ?_⟩
  show mm_Go (mm_run 2) mc_Pile_repairRuns _ (9, [(0, .inr (.inr v0)), (1, .inr (.inr v1)), (2, .inl (nf_Pile_size v0 M))], [.inl (nn_rf M v0 5)], M)
  refine mm_s1 rfl ?_
  refine mm_s1 rfl ?_
  refine mm_s1 rfl ?_
  show mm_Go (mm_run 2) mc_Pile_repairRuns _ (12, [(0, .inr (.inr v0)), (1, .inr (.inr v1)), (2, .inl (nf_Pile_size v0 M)), (3, .inl (mm_w ((nn_rf M v0 5) - 1)))], [], M)
  exact nn_go_ext (nn_xc rfl (nn_xc rfl (nn_xc rfl (nn_xc rfl nn_xn)))) (h n L N C0 C1)
set_option maxRecDepth 20000 in
theorem ng_Pile_repairRuns_12 (v0 : Nat) (v1 : Nat) (v2 : Int) (v3 : Int) (M : mm_M) (R : Int → mm_M → Prop) (h : ((v3 < 0 → ((nc_Pile_size v0 M) ∧ R (mm_w (v2 - (nf_Pile_size v0 M))) M)) ∧ (0 ≤ v3 → (nr_Pile_keptFresh v0 v3 (v1 + 4) M (fun r24 M24 => (nr_Pile_cut v0 v3 r24 M24 (fun M27 => (((0 : Int) ≤ v3 ∧ v3 < (24 : Int)) ∧ (∀ M39 : mm_M, M39 = nn_ui M27 (v0 + 4) v3 (nn_rf M27 v1 6) → (nr_Table_newId v1 M39 (fun r46 M46 => (((0 : Int) ≤ v3 ∧ v3 < (24 : Int)) ∧ (∀ M49 : mm_M, M49 = nn_ui M46 (v0 + 5) v3 r46 → (nr_Pile_dropEmpty v0 v3 M49 (fun M52 => nk_Pile_repairRuns_12 v0 v1 v2 (mm_w (v3 + (-1))) M52 R))))))))))))))) : nk_Pile_repairRuns_12 v0 v1 v2 v3 M R := by
  intro n L N C0 C1
  have NN := nn_L_n L N
  show mm_Go (mm_run 2) mc_Pile_repairRuns _ (12, [(0, .inr (.inr v0)), (1, .inr (.inr v1)), (2, .inl v2), (3, .inl v3)], [], M)
  refine mm_s1 rfl ?_
  refine mm_s1 rfl ⟨fun c13 => ?_, fun c13 => ?_⟩
  · show mm_Go (mm_run 2) mc_Pile_repairRuns _ (61, [(0, .inr (.inr v0)), (1, .inr (.inr v1)), (2, .inl v2), (3, .inl v3)], [], M)
    replace h := h.1 c13
    refine mm_s1 rfl ?_
    refine mm_s1 rfl ?_
    obtain ⟨b63, h⟩ := h
    refine mm_s1 rfl ⟨C0.1, ?_⟩
    refine np_Pile_size (by decide) L N C0 b63 ?_
    show mm_Go (mm_run 2) mc_Pile_repairRuns _ (66, [(0, .inr (.inr v0)), (1, .inr (.inr v1)), (2, .inl v2), (3, .inl v3)], [.inl (nf_Pile_size v0 M), .inl v2], M)
    refine mm_s1 rfl ?_
    exact mm_s1 rfl ⟨_, rfl, L, N, h⟩
  · show mm_Go (mm_run 2) mc_Pile_repairRuns _ (16, [(0, .inr (.inr v0)), (1, .inr (.inr v1)), (2, .inl v2), (3, .inl v3)], [], M)
    replace c13 := Int.not_lt.mp c13
    replace h := h.2 c13
    refine mm_s1 rfl ?_
    refine mm_s1 rfl ?_
    refine mm_s1 rfl ?_
    refine mm_s1 rfl ?_
    refine mm_s1 rfl ?_
    show mm_Go (mm_run 2) mc_Pile_repairRuns _ (21, [(0, .inr (.inr v0)), (1, .inr (.inr v1)), (2, .inl v2), (3, .inl v3)], [.inr (.inr v1), .inl v3, .inr (.inr v0), .inl v3, .inr (.inr v0)], M)
    refine nn_getr rfl C1.1 (lf_10_1 L N C1) ?_
    refine mm_s1 rfl ⟨C0.1, ?_⟩
    refine nn_call (D := 2) (by decide) (h n L N C0 (nc_10_1 NN C1)) ?_
    intro v M24 q; clear L N h
    obtain ⟨r24, rfl, L, N, h⟩ := q
    show mm_Go (mm_run 2) mc_Pile_repairRuns _ (27, [(0, .inr (.inr v0)), (1, .inr (.inr v1)), (2, .inl v2), (3, .inl v3)], [.inl r24, .inl v3, .inr (.inr v0)], M24)
    refine mm_s1 rfl ⟨C0.1, ?_⟩
    refine nn_call (D := 1) (by decide) (h n L N C0) ?_
    intro v M27 q; clear L N h
    obtain ⟨rfl, L, N, h⟩ := q
    show mm_Go (mm_run 2) mc_Pile_repairRuns _ (30, [(0, .inr (.inr v0)), (1, .inr (.inr v1)), (2, .inl v2), (3, .inl v3)], [], M27)
    refine mm_s1 rfl ?_
    refine nn_getr rfl C0.1 (lf_6_3 L N C0) ?_
    refine mm_s1 rfl ?_
    refine mm_s1 rfl ?_
    refine mm_s1 rfl ⟨C1.1, ?_⟩
    show mm_Go (mm_run 2) mc_Pile_repairRuns _ (39, [(0, .inr (.inr v0)), (1, .inr (.inr v1)), (2, .inl v2), (3, .inl v3)], [.inl (nn_rf M27 v1 6), .inl v3, .inr (.inr (v0 + 4))], M27)
    obtain ⟨b39, h⟩ := h
    refine mm_s1 rfl ⟨nn_bd (na_6_3 NN C0) b39, ?_⟩
    show mm_Go (mm_run 2) mc_Pile_repairRuns _ (40, [(0, .inr (.inr v0)), (1, .inr (.inr v1)), (2, .inl v2), (3, .inl v3)], [], (nn_ui M27 (v0 + 4) v3 (nn_rf M27 v1 6)))
    have L : nn_L (nn_ui M27 (v0 + 4) v3 (nn_rf M27 v1 6)) := nn_L_ua L (congrArg Prod.fst (na_6_3 NN C0)) (by decide)
    have N : (nn_ui M27 (v0 + 4) v3 (nn_rf M27 v1 6)).1 = n := N
    generalize e_M39 : (nn_ui M27 (v0 + 4) v3 (nn_rf M27 v1 6)) = M39 at L N ⊢
    replace h := h _ e_M39.symm
    show mm_Go (mm_run 2) mc_Pile_repairRuns _ (40, [(0, .inr (.inr v0)), (1, .inr (.inr v1)), (2, .inl v2), (3, .inl v3)], [], M39)
    refine mm_s1 rfl ?_
    refine nn_getr rfl C0.1 (lf_6_4 L N C0) ?_
    refine mm_s1 rfl ?_
    refine mm_s1 rfl ?_
    refine mm_s1 rfl ⟨C1.1, ?_⟩
    refine nn_call (D := 1) (by decide) (h n L N C1) ?_
    intro v M46 q; clear L N h
    obtain ⟨r46, rfl, L, N, h⟩ := q
    show mm_Go (mm_run 2) mc_Pile_repairRuns _ (49, [(0, .inr (.inr v0)), (1, .inr (.inr v1)), (2, .inl v2), (3, .inl v3)], [.inl r46, .inl v3, .inr (.inr (v0 + 5))], M46)
    obtain ⟨b49, h⟩ := h
    refine mm_s1 rfl ⟨nn_bd (na_6_4 NN C0) b49, ?_⟩
    show mm_Go (mm_run 2) mc_Pile_repairRuns _ (50, [(0, .inr (.inr v0)), (1, .inr (.inr v1)), (2, .inl v2), (3, .inl v3)], [], (nn_ui M46 (v0 + 5) v3 r46))
    have L : nn_L (nn_ui M46 (v0 + 5) v3 r46) := nn_L_ua L (congrArg Prod.fst (na_6_4 NN C0)) (by decide)
    have N : (nn_ui M46 (v0 + 5) v3 r46).1 = n := N
    generalize e_M49 : (nn_ui M46 (v0 + 5) v3 r46) = M49 at L N ⊢
    replace h := h _ e_M49.symm
    show mm_Go (mm_run 2) mc_Pile_repairRuns _ (50, [(0, .inr (.inr v0)), (1, .inr (.inr v1)), (2, .inl v2), (3, .inl v3)], [], M49)
    refine mm_s1 rfl ?_
    refine mm_s1 rfl ?_
    refine mm_s1 rfl ⟨C0.1, ?_⟩
    refine nn_call (D := 2) (by decide) (h n L N C0) ?_
    intro v M52 q; clear L N h
    obtain ⟨rfl, L, N, h⟩ := q
    show mm_Go (mm_run 2) mc_Pile_repairRuns _ (55, [(0, .inr (.inr v0)), (1, .inr (.inr v1)), (2, .inl v2), (3, .inl v3)], [], M52)
    refine mm_s1 rfl ?_
    show mm_Go (mm_run 2) mc_Pile_repairRuns _ (58, [(0, .inr (.inr v0)), (1, .inr (.inr v1)), (2, .inl v2), (3, .inl (mm_w (v3 + (-1))))], [], M52)
    refine mm_s1 rfl ?_
    show mm_Go (mm_run 2) mc_Pile_repairRuns _ (12, [(0, .inr (.inr v0)), (1, .inr (.inr v1)), (2, .inl v2), (3, .inl (mm_w (v3 + (-1))))], [], M52)
    exact nn_go_ext (nn_xc rfl (nn_xc rfl (nn_xc rfl (nn_xc rfl nn_xn)))) (h n L N C0 C1)
def nr_Pile_worst (v0 : Nat) (v1 : Nat) (M : mm_M) (R : Int → mm_M → Prop) : Prop := ∀ n, nn_L M → M.1 = n → nn_C 6 v0 n → nn_C 12 v1 n → mm_run 3 mi_Pile_worst [.inr (.inr v0), .inr (.inr v1)] M (nw_I n R)
def nk_Pile_worst_7 (v0 : Nat) (v1 : Nat) (v2 : Int) (v3 : Int) (v4 : Int) (M : mm_M) (R : Int → mm_M → Prop) : Prop := ∀ n, nn_L M → M.1 = n → nn_C 6 v0 n → nn_C 12 v1 n → mm_Go (mm_run 2) mc_Pile_worst (nw_I n R) (7, [(0, .inr (.inr v0)), (1, .inr (.inr v1)), (2, .inl v2), (3, .inl v3), (4, .inl v4)], [], M)
set_option maxRecDepth 20000 in
theorem ng_Pile_worst (v0 : Nat) (v1 : Nat) (M : mm_M) (R : Int → mm_M → Prop) (h : nk_Pile_worst_7 v0 v1 (-1) 0 0 M R) : nr_Pile_worst v0 v1 M R := by
  intro n L N C0 C1
  have NN := nn_L_n L N
  show mm_Go (mm_run 2) mc_Pile_worst _ (0, [(0, .inr (.inr v0)), (1, .inr (.inr v1))], [], M)
  refine mm_s1 rfl ?_
  refine mm_s1 rfl ?_
  show mm_Go (mm_run 2) mc_Pile_worst _ (2, [(0, .inr (.inr v0)), (1, .inr (.inr v1)), (2, .inl (-1))], [], M)
  refine mm_s1 rfl ?_
  refine mm_s1 rfl ?_
  show mm_Go (mm_run 2) mc_Pile_worst _ (4, [(0, .inr (.inr v0)), (1, .inr (.inr v1)), (2, .inl (-1)), (3, .inl 0)], [], M)
  refine mm_s1 rfl ?_
  refine mm_s1 rfl ?_
  show mm_Go (mm_run 2) mc_Pile_worst _ (7, [(0, .inr (.inr v0)), (1, .inr (.inr v1)), (2, .inl (-1)), (3, .inl 0), (4, .inl 0)], [], M)
  exact nn_go_ext (nn_xc rfl (nn_xc rfl (nn_xc rfl (nn_xc rfl (nn_xc rfl nn_xn))))) (h n L N C0 C1)
set_option maxRecDepth 20000 in
theorem ng_Pile_worst_7 (v0 : Nat) (v1 : Nat) (v2 : Int) (v3 : Int) (v4 : Int) (M : mm_M) (R : Int → mm_M → Prop) (h : (((nn_rf M v0 5) ≤ v4 → R v2 M) ∧ (v4 < (nn_rf M v0 5) → (nr_Pile_staleIn v0 v4 v1 M (fun r20 M20 => ((r20 ≤ v3 → nk_Pile_worst_7 v0 v1 v2 v3 (mm_w (v4 + 1)) M20 R) ∧ (v3 < r20 → nk_Pile_worst_7 v0 v1 v4 r20 (mm_w (v4 + 1)) M20 R))))))) : nk_Pile_worst_7 v0 v1 v2 v3 v4 M R := by
  intro n L N C0 C1
  have NN := nn_L_n L N
  show mm_Go (mm_run 2) mc_Pile_worst _ (7, [(0, .inr (.inr v0)), (1, .inr (.inr v1)), (2, .inl v2), (3, .inl v3), (4, .inl v4)], [], M)
  refine mm_s1 rfl ?_
  refine mm_s1 rfl ?_
  refine mm_s1 rfl ⟨C0.1, ?_⟩
  show mm_Go (mm_run 2) mc_Pile_worst _ (13, [(0, .inr (.inr v0)), (1, .inr (.inr v1)), (2, .inl v2), (3, .inl v3), (4, .inl v4)], [.inl (nn_rf M v0 5), .inl v4], M)
  refine mm_s1 rfl ⟨fun c13 => ?_, fun c13 => ?_⟩
  · show mm_Go (mm_run 2) mc_Pile_worst _ (43, [(0, .inr (.inr v0)), (1, .inr (.inr v1)), (2, .inl v2), (3, .inl v3), (4, .inl v4)], [], M)
    replace h := h.1 c13
    refine mm_s1 rfl ?_
    exact mm_s1 rfl ⟨_, rfl, L, N, h⟩
  · show mm_Go (mm_run 2) mc_Pile_worst _ (16, [(0, .inr (.inr v0)), (1, .inr (.inr v1)), (2, .inl v2), (3, .inl v3), (4, .inl v4)], [], M)
    replace c13 := Int.not_le.mp c13
    replace h := h.2 c13
    refine mm_s1 rfl ?_
    refine mm_s1 rfl ?_
    refine mm_s1 rfl ?_
    refine mm_s1 rfl ⟨C0.1, ?_⟩
    refine nn_call (D := 2) (by decide) (h n L N C0 C1) ?_
    intro v M20 q; clear L N h
    obtain ⟨r20, rfl, L, N, h⟩ := q
    show mm_Go (mm_run 2) mc_Pile_worst _ (23, [(0, .inr (.inr v0)), (1, .inr (.inr v1)), (2, .inl v2), (3, .inl v3), (4, .inl v4)], [.inl r20], M20)
    refine mm_s1 rfl ?_
    show mm_Go (mm_run 2) mc_Pile_worst _ (25, [(0, .inr (.inr v0)), (1, .inr (.inr v1)), (2, .inl v2), (3, .inl v3), (4, .inl v4), (5, .inl r20)], [], M20)
    refine mm_s1 rfl ?_
    refine mm_s1 rfl ?_
    refine mm_s1 rfl ⟨fun c28 => ?_, fun c28 => ?_⟩
    · show mm_Go (mm_run 2) mc_Pile_worst _ (37, [(0, .inr (.inr v0)), (1, .inr (.inr v1)), (2, .inl v2), (3, .inl v3), (4, .inl v4), (5, .inl r20)], [], M20)
      replace h := h.1 c28
      refine mm_s1 rfl ?_
      show mm_Go (mm_run 2) mc_Pile_worst _ (40, [(0, .inr (.inr v0)), (1, .inr (.inr v1)), (2, .inl v2), (3, .inl v3), (4, .inl (mm_w (v4 + 1))), (5, .inl r20)], [], M20)
      refine mm_s1 rfl ?_
      show mm_Go (mm_run 2) mc_Pile_worst _ (7, [(0, .inr (.inr v0)), (1, .inr (.inr v1)), (2, .inl v2), (3, .inl v3), (4, .inl (mm_w (v4 + 1))), (5, .inl r20)], [], M20)
      exact nn_go_ext (nn_xc rfl (nn_xc rfl (nn_xc rfl (nn_xc rfl (nn_xc rfl nn_xn))))) (h n L N C0 C1)
    · show mm_Go (mm_run 2) mc_Pile_worst _ (31, [(0, .inr (.inr v0)), (1, .inr (.inr v1)), (2, .inl v2), (3, .inl v3), (4, .inl v4), (5, .inl r20)], [], M20)
      replace c28 := Int.not_le.mp c28
      replace h := h.2 c28
      refine mm_s1 rfl ?_
      refine mm_s1 rfl ?_
      show mm_Go (mm_run 2) mc_Pile_worst _ (34, [(0, .inr (.inr v0)), (1, .inr (.inr v1)), (2, .inl v2), (3, .inl r20), (4, .inl v4), (5, .inl r20)], [], M20)
      refine mm_s1 rfl ?_
      refine mm_s1 rfl ?_
      show mm_Go (mm_run 2) mc_Pile_worst _ (37, [(0, .inr (.inr v0)), (1, .inr (.inr v1)), (2, .inl v4), (3, .inl r20), (4, .inl v4), (5, .inl r20)], [], M20)
      refine mm_s1 rfl ?_
      show mm_Go (mm_run 2) mc_Pile_worst _ (40, [(0, .inr (.inr v0)), (1, .inr (.inr v1)), (2, .inl v4), (3, .inl r20), (4, .inl (mm_w (v4 + 1))), (5, .inl r20)], [], M20)
      refine mm_s1 rfl ?_
      show mm_Go (mm_run 2) mc_Pile_worst _ (7, [(0, .inr (.inr v0)), (1, .inr (.inr v1)), (2, .inl v4), (3, .inl r20), (4, .inl (mm_w (v4 + 1))), (5, .inl r20)], [], M20)
      exact nn_go_ext (nn_xc rfl (nn_xc rfl (nn_xc rfl (nn_xc rfl (nn_xc rfl nn_xn))))) (h n L N C0 C1)
def nr_Reader_readSum (v1 : Nat) (v2 : Int) (M : mm_M) (R : Int → mm_M → Prop) : Prop := ∀ n, nn_L M → M.1 = n → nn_C 8 v1 n → mm_run 3 mi_Reader_readSum [.inr (.inr 402), .inr (.inr v1), .inl v2] M (nw_Z n R)
def nk_Reader_readSum_2 (v1 : Nat) (v2 : Int) (v3 : Int) (M : mm_M) (R : Int → mm_M → Prop) : Prop := ∀ n, nn_L M → M.1 = n → nn_C 8 v1 n → mm_Go (mm_run 2) mc_Reader_readSum (nw_Z n R) (2, [(0, .inr (.inr 402)), (1, .inr (.inr v1)), (2, .inl v2), (3, .inl v3)], [], M)
set_option maxRecDepth 20000 in
theorem ng_Reader_readSum (v1 : Nat) (v2 : Int) (M : mm_M) (R : Int → mm_M → Prop) (h : nk_Reader_readSum_2 v1 v2 0 M R) : nr_Reader_readSum v1 v2 M R := by
  intro n L N C1
  have NN := nn_L_n L N
  show mm_Go (mm_run 2) mc_Reader_readSum _ (0, [(0, .inr (.inr 402)), (1, .inr (.inr v1)), (2, .inl v2)], [], M)
  refine mm_s1 rfl ?_
  refine mm_s1 rfl ?_
  show mm_Go (mm_run 2) mc_Reader_readSum _ (2, [(0, .inr (.inr 402)), (1, .inr (.inr v1)), (2, .inl v2), (3, .inl 0)], [], M)
  exact nn_go_ext (nn_xc rfl (nn_xc rfl (nn_xc rfl (nn_xc rfl nn_xn)))) (h n L N C1)
set_option maxRecDepth 20000 in
theorem ng_Reader_readSum_2 (v1 : Nat) (v2 : Int) (v3 : Int) (M : mm_M) (R : Int → mm_M → Prop) (h : ((4 ≤ v3 → ((nc_Reader_beginsTerm M) ∧ (((nf_Reader_beginsTerm M) = 0 → (nr_Reader_fails 1 M (fun r52 M52 => R r52 M52))) ∧ ((nf_Reader_beginsTerm M) ≠ 0 → (nr_Reader_fails 2 M (fun r52 M52 => R r52 M52)))))) ∧ (v3 < 4 → (nr_Reader_readTerm v1 v2 M (fun r10 M10 => ((r10 ≠ 0 → (nr_Reader_passes 8 M10 (fun r25 M25 => ((r25 ≠ 0 → nk_Reader_readSum_2 v1 v2 (mm_w (v3 + 1)) M25 R) ∧ (r25 = 0 → R 1 M25))))) ∧ (r10 = 0 → (nr_Reader_fails 1 M10 (fun r18 M18 => R r18 M18))))))))) : nk_Reader_readSum_2 v1 v2 v3 M R := by
  intro n L N C1
  have NN := nn_L_n L N
  show mm_Go (mm_run 2) mc_Reader_readSum _ (2, [(0, .inr (.inr 402)), (1, .inr (.inr v1)), (2, .inl v2), (3, .inl v3)], [], M)
  refine mm_s1 rfl ?_
  refine mm_s1 rfl ?_
  refine mm_s1 rfl ⟨fun c4 => ?_, fun c4 => ?_⟩
  · show mm_Go (mm_run 2) mc_Reader_readSum _ (39, [(0, .inr (.inr 402)), (1, .inr (.inr v1)), (2, .inl v2), (3, .inl v3)], [], M)
    replace h := h.1 c4
    refine mm_s1 rfl ?_
    refine mm_s1 rfl ?_
    obtain ⟨b41, h⟩ := h
    refine mm_s1 rfl ⟨(nn_c402 NN).1, ?_⟩
    refine np_Reader_beginsTerm (by decide) L N b41 ?_
    show mm_Go (mm_run 2) mc_Reader_readSum _ (44, [(0, .inr (.inr 402)), (1, .inr (.inr v1)), (2, .inl v2), (3, .inl v3)], [.inl (nf_Reader_beginsTerm M), .inr (.inr 402)], M)
    refine mm_s1 rfl ⟨fun c44 => ?_, fun c44 => ?_⟩
    · show mm_Go (mm_run 2) mc_Reader_readSum _ (51, [(0, .inr (.inr 402)), (1, .inr (.inr v1)), (2, .inl v2), (3, .inl v3)], [.inr (.inr 402)], M)
      replace h := h.1 c44
      refine mm_s1 rfl ?_
      refine mm_s1 rfl ⟨(nn_c402 NN).1, ?_⟩
      refine nn_call (D := 1) (by decide) (h n L N) ?_
      intro v M52 q; clear L N h
      obtain ⟨r52, rfl, q52, L, N, h⟩ := q
      show mm_Go (mm_run 2) mc_Reader_readSum _ (55, [(0, .inr (.inr 402)), (1, .inr (.inr v1)), (2, .inl v2), (3, .inl v3)], [.inl r52], M52)
      exact mm_s1 rfl ⟨q52, _, rfl, q52, L, N, h⟩
    · show mm_Go (mm_run 2) mc_Reader_readSum _ (47, [(0, .inr (.inr 402)), (1, .inr (.inr v1)), (2, .inl v2), (3, .inl v3)], [.inr (.inr 402)], M)
      replace h := h.2 c44
      refine mm_s1 rfl ?_
      refine mm_s1 rfl ?_
      show mm_Go (mm_run 2) mc_Reader_readSum _ (52, [(0, .inr (.inr 402)), (1, .inr (.inr v1)), (2, .inl v2), (3, .inl v3)], [.inl 2, .inr (.inr 402)], M)
      refine mm_s1 rfl ⟨(nn_c402 NN).1, ?_⟩
      refine nn_call (D := 1) (by decide) (h n L N) ?_
      intro v M52 q; clear L N h
      obtain ⟨r52, rfl, q52, L, N, h⟩ := q
      show mm_Go (mm_run 2) mc_Reader_readSum _ (55, [(0, .inr (.inr 402)), (1, .inr (.inr v1)), (2, .inl v2), (3, .inl v3)], [.inl r52], M52)
      exact mm_s1 rfl ⟨q52, _, rfl, q52, L, N, h⟩
  · show mm_Go (mm_run 2) mc_Reader_readSum _ (7, [(0, .inr (.inr 402)), (1, .inr (.inr v1)), (2, .inl v2), (3, .inl v3)], [], M)
    replace c4 := Int.not_le.mp c4
    replace h := h.2 c4
    refine mm_s1 rfl ?_
    refine mm_s1 rfl ?_
    refine mm_s1 rfl ?_
    refine mm_s1 rfl ⟨(nn_c402 NN).1, ?_⟩
    refine nn_call (D := 2) (by decide) (h n L N C1) ?_
    intro v M10 q; clear L N h
    obtain ⟨r10, rfl, q10, L, N, h⟩ := q
    show mm_Go (mm_run 2) mc_Reader_readSum _ (13, [(0, .inr (.inr 402)), (1, .inr (.inr v1)), (2, .inl v2), (3, .inl v3)], [.inl r10], M10)
    refine mm_s1 rfl ⟨fun c13 => ?_, fun c13 => ?_⟩
    · show mm_Go (mm_run 2) mc_Reader_readSum _ (22, [(0, .inr (.inr 402)), (1, .inr (.inr v1)), (2, .inl v2), (3, .inl v3)], [], M10)
      replace h := h.1 c13
      refine mm_s1 rfl ?_
      refine mm_s1 rfl ?_
      refine mm_s1 rfl ⟨(nn_c402 NN).1, ?_⟩
      refine nn_call (D := 1) (by decide) (h n L N) ?_
      intro v M25 q; clear L N h
      obtain ⟨r25, rfl, q25, L, N, h⟩ := q
      show mm_Go (mm_run 2) mc_Reader_readSum _ (28, [(0, .inr (.inr 402)), (1, .inr (.inr v1)), (2, .inl v2), (3, .inl v3)], [.inl r25], M25)
      refine mm_s1 rfl ⟨fun c28 => ?_, fun c28 => ?_⟩
      · show mm_Go (mm_run 2) mc_Reader_readSum _ (33, [(0, .inr (.inr 402)), (1, .inr (.inr v1)), (2, .inl v2), (3, .inl v3)], [], M25)
        replace h := h.1 c28
        refine mm_s1 rfl ?_
        show mm_Go (mm_run 2) mc_Reader_readSum _ (36, [(0, .inr (.inr 402)), (1, .inr (.inr v1)), (2, .inl v2), (3, .inl (mm_w (v3 + 1)))], [], M25)
        refine mm_s1 rfl ?_
        show mm_Go (mm_run 2) mc_Reader_readSum _ (2, [(0, .inr (.inr 402)), (1, .inr (.inr v1)), (2, .inl v2), (3, .inl (mm_w (v3 + 1)))], [], M25)
        exact nn_go_ext (nn_xc rfl (nn_xc rfl (nn_xc rfl (nn_xc rfl nn_xn)))) (h n L N C1)
      · show mm_Go (mm_run 2) mc_Reader_readSum _ (31, [(0, .inr (.inr 402)), (1, .inr (.inr v1)), (2, .inl v2), (3, .inl v3)], [], M25)
        replace c28 := Decidable.not_not.mp c28
        replace h := h.2 c28
        refine mm_s1 rfl ?_
        exact mm_s1 rfl ⟨(Or.inr rfl), _, rfl, (Or.inr rfl), L, N, h⟩
    · show mm_Go (mm_run 2) mc_Reader_readSum _ (16, [(0, .inr (.inr 402)), (1, .inr (.inr v1)), (2, .inl v2), (3, .inl v3)], [], M10)
      replace c13 := Decidable.not_not.mp c13
      replace h := h.2 c13
      refine mm_s1 rfl ?_
      refine mm_s1 rfl ?_
      refine mm_s1 rfl ⟨(nn_c402 NN).1, ?_⟩
      refine nn_call (D := 1) (by decide) (h n L N) ?_
      intro v M18 q; clear L N h
      obtain ⟨r18, rfl, q18, L, N, h⟩ := q
      show mm_Go (mm_run 2) mc_Reader_readSum _ (21, [(0, .inr (.inr 402)), (1, .inr (.inr v1)), (2, .inl v2), (3, .inl v3)], [.inl r18], M18)
      exact mm_s1 rfl ⟨q18, _, rfl, q18, L, N, h⟩
def nr_Rule_valueOf (v0 : Nat) (v1 : Int) (M : mm_M) (R : Int → mm_M → Prop) : Prop := ∀ n, nn_L M → M.1 = n → nn_C 8 v0 n → mm_run 3 mi_Rule_valueOf [.inr (.inr v0), .inl v1] M (nw_I n R)
def nk_Rule_valueOf_2 (v0 : Nat) (v1 : Int) (v2 : Int) (M : mm_M) (R : Int → mm_M → Prop) : Prop := ∀ n, nn_L M → M.1 = n → nn_C 8 v0 n → mm_Go (mm_run 2) mc_Rule_valueOf (nw_I n R) (2, [(0, .inr (.inr v0)), (1, .inl v1), (2, .inl v2)], [], M)
set_option maxRecDepth 20000 in
theorem ng_Rule_valueOf (v0 : Nat) (v1 : Int) (M : mm_M) (R : Int → mm_M → Prop) (h : nk_Rule_valueOf_2 v0 v1 0 M R) : nr_Rule_valueOf v0 v1 M R := by
  intro n L N C0
  have NN := nn_L_n L N
  show mm_Go (mm_run 2) mc_Rule_valueOf _ (0, [(0, .inr (.inr v0)), (1, .inl v1)], [], M)
  refine mm_s1 rfl ?_
  refine mm_s1 rfl ?_
  show mm_Go (mm_run 2) mc_Rule_valueOf _ (2, [(0, .inr (.inr v0)), (1, .inl v1), (2, .inl 0)], [], M)
  exact nn_go_ext (nn_xc rfl (nn_xc rfl (nn_xc rfl nn_xn))) (h n L N C0)
set_option maxRecDepth 20000 in
theorem ng_Rule_valueOf_2 (v0 : Nat) (v1 : Int) (v2 : Int) (M : mm_M) (R : Int → mm_M → Prop) (h : (((nn_rf M v0 2) ≤ v2 → (nr_Rule_reckoned v0 0 v1 M (fun r112 M112 => R r112 M112))) ∧ (v2 < (nn_rf M v0 2) → (nr_Rule_reckoned v0 (mm_w ((mm_w (2 * v2)) + 1)) v1 M (fun r17 M17 => (nr_Rule_reckoned v0 (mm_w ((mm_w (2 * v2)) + 2)) v1 M17 (fun r28 M28 => (((0 : Int) ≤ v2 ∧ v2 < (3 : Int)) ∧ ((((nn_ri M28 (v0 + 2) v2) ≠ 10) → ((0 : Int) ≤ v2 ∧ v2 < (3 : Int))) ∧ ((((nn_ri M28 (v0 + 2) v2) ≠ 10 ∧ (((nn_ri M28 (v0 + 2) v2) ≠ 12 ∧ (r17 ≠ r28)) ∨ ((nn_ri M28 (v0 + 2) v2) = 12 ∧ (r17 ≤ r28)))) ∨ ((nn_ri M28 (v0 + 2) v2) = 10 ∧ (r28 ≤ r17))) → R (-1) M28) ∧ ((((nn_ri M28 (v0 + 2) v2) ≠ 10 ∧ (((nn_ri M28 (v0 + 2) v2) ≠ 12 ∧ (r17 = r28)) ∨ ((nn_ri M28 (v0 + 2) v2) = 12 ∧ (r28 < r17)))) ∨ ((nn_ri M28 (v0 + 2) v2) = 10 ∧ (r17 < r28))) → nk_Rule_valueOf_2 v0 v1 (mm_w (v2 + 1)) M28 R)))))))))) : nk_Rule_valueOf_2 v0 v1 v2 M R := by
  intro n L N C0
  have NN := nn_L_n L N
  show mm_Go (mm_run 2) mc_Rule_valueOf _ (2, [(0, .inr (.inr v0)), (1, .inl v1), (2, .inl v2)], [], M)
  refine mm_s1 rfl ?_
  refine mm_s1 rfl ?_
  refine mm_s1 rfl ⟨C0.1, ?_⟩
  show mm_Go (mm_run 2) mc_Rule_valueOf _ (7, [(0, .inr (.inr v0)), (1, .inl v1), (2, .inl v2)], [.inl (nn_rf M v0 2), .inl v2], M)
  refine mm_s1 rfl ⟨fun c7 => ?_, fun c7 => ?_⟩
  · show mm_Go (mm_run 2) mc_Rule_valueOf _ (109, [(0, .inr (.inr v0)), (1, .inl v1), (2, .inl v2)], [], M)
    replace h := h.1 c7
    refine mm_s1 rfl ?_
    refine mm_s1 rfl ?_
    refine mm_s1 rfl ?_
    refine mm_s1 rfl ⟨C0.1, ?_⟩
    refine nn_call (D := 2) (by decide) (h n L N C0) ?_
    intro v M112 q; clear L N h
    obtain ⟨r112, rfl, L, N, h⟩ := q
    show mm_Go (mm_run 2) mc_Rule_valueOf _ (115, [(0, .inr (.inr v0)), (1, .inl v1), (2, .inl v2)], [.inl r112], M112)
    exact mm_s1 rfl ⟨_, rfl, L, N, h⟩
  · show mm_Go (mm_run 2) mc_Rule_valueOf _ (10, [(0, .inr (.inr v0)), (1, .inl v1), (2, .inl v2)], [], M)
    replace c7 := Int.not_le.mp c7
    replace h := h.2 c7
    refine mm_s1 rfl ?_
    refine mm_s1 rfl ?_
    refine mm_s1 rfl ?_
    refine mm_s1 rfl ?_
    refine mm_s1 rfl ?_
    show mm_Go (mm_run 2) mc_Rule_valueOf _ (15, [(0, .inr (.inr v0)), (1, .inl v1), (2, .inl v2)], [.inl 1, .inl (mm_w (2 * v2)), .inr (.inr v0)], M)
    refine mm_s1 rfl ?_
    refine mm_s1 rfl ?_
    refine mm_s1 rfl ⟨C0.1, ?_⟩
    refine nn_call (D := 2) (by decide) (h n L N C0) ?_
    intro v M17 q; clear L N h
    obtain ⟨r17, rfl, L, N, h⟩ := q
    show mm_Go (mm_run 2) mc_Rule_valueOf _ (20, [(0, .inr (.inr v0)), (1, .inl v1), (2, .inl v2)], [.inl r17], M17)
    refine mm_s1 rfl ?_
    show mm_Go (mm_run 2) mc_Rule_valueOf _ (21, [(0, .inr (.inr v0)), (1, .inl v1), (2, .inl v2), (3, .inl r17)], [], M17)
    refine mm_s1 rfl ?_
    refine mm_s1 rfl ?_
    refine mm_s1 rfl ?_
    refine mm_s1 rfl ?_
    refine mm_s1 rfl ?_
    show mm_Go (mm_run 2) mc_Rule_valueOf _ (26, [(0, .inr (.inr v0)), (1, .inl v1), (2, .inl v2), (3, .inl r17)], [.inl 2, .inl (mm_w (2 * v2)), .inr (.inr v0)], M17)
    refine mm_s1 rfl ?_
    refine mm_s1 rfl ?_
    refine mm_s1 rfl ⟨C0.1, ?_⟩
    refine nn_call (D := 2) (by decide) (h n L N C0) ?_
    intro v M28 q; clear L N h
    obtain ⟨r28, rfl, L, N, h⟩ := q
    show mm_Go (mm_run 2) mc_Rule_valueOf _ (31, [(0, .inr (.inr v0)), (1, .inl v1), (2, .inl v2), (3, .inl r17)], [.inl r28], M28)
    refine mm_s1 rfl ?_
    show mm_Go (mm_run 2) mc_Rule_valueOf _ (33, [(0, .inr (.inr v0)), (1, .inl v1), (2, .inl v2), (3, .inl r17), (4, .inl r28)], [], M28)
    refine mm_s1 rfl ?_
    refine nn_getr rfl C0.1 (lf_8_1 L N C0) ?_
    refine mm_s1 rfl ?_
    obtain ⟨b38, h⟩ := h
    refine mm_s1 rfl ⟨nn_bd (na_8_1 NN C0) b38, ?_⟩
    show mm_Go (mm_run 2) mc_Rule_valueOf _ (39, [(0, .inr (.inr v0)), (1, .inl v1), (2, .inl v2), (3, .inl r17), (4, .inl r28)], [.inl (nn_ri M28 (v0 + 2) v2)], M28)
    refine mm_s1 rfl ?_
    refine mm_s1 rfl ⟨fun c41 => ?_, fun c41 => ?_⟩
    · show mm_Go (mm_run 2) mc_Rule_valueOf _ (58, [(0, .inr (.inr v0)), (1, .inl v1), (2, .inl v2), (3, .inl r17), (4, .inl r28)], [], M28)
      refine mm_s1 rfl ?_
      refine nn_getr rfl C0.1 (lf_8_1 L N C0) ?_
      refine mm_s1 rfl ?_
      have b63 := h.1 c41
      refine mm_s1 rfl ⟨nn_bd (na_8_1 NN C0) b63, ?_⟩
      show mm_Go (mm_run 2) mc_Rule_valueOf _ (64, [(0, .inr (.inr v0)), (1, .inl v1), (2, .inl v2), (3, .inl r17), (4, .inl r28)], [.inl (nn_ri M28 (v0 + 2) v2)], M28)
      refine mm_s1 rfl ?_
      refine mm_s1 rfl ⟨fun c66 => ?_, fun c66 => ?_⟩
      · show mm_Go (mm_run 2) mc_Rule_valueOf _ (83, [(0, .inr (.inr v0)), (1, .inl v1), (2, .inl v2), (3, .inl r17), (4, .inl r28)], [], M28)
        refine mm_s1 rfl ?_
        refine mm_s1 rfl ?_
        refine mm_s1 rfl ⟨fun c86 => ?_, fun c86 => ?_⟩
        · show mm_Go (mm_run 2) mc_Rule_valueOf _ (93, [(0, .inr (.inr v0)), (1, .inl v1), (2, .inl v2), (3, .inl r17), (4, .inl r28)], [], M28)
          refine mm_s1 rfl ?_
          refine mm_s1 rfl ?_
          show mm_Go (mm_run 2) mc_Rule_valueOf _ (96, [(0, .inr (.inr v0)), (1, .inl v1), (2, .inl v2), (3, .inl r17), (4, .inl r28), (5, .inl 0)], [], M28)
          refine mm_s1 rfl ?_
          refine mm_s1 rfl ⟨fun c => absurd c (show ¬ ((0 : Int) ≠ 0) by decide), fun _ => ?_⟩
          show mm_Go (mm_run 2) mc_Rule_valueOf _ (101, [(0, .inr (.inr v0)), (1, .inl v1), (2, .inl v2), (3, .inl r17), (4, .inl r28), (5, .inl 0)], [], M28)
          refine mm_s1 rfl ?_
          replace h := h.2.1 (Or.inl ⟨c41, (Or.inl ⟨c66, c86⟩)⟩)
          exact mm_s1 rfl ⟨_, rfl, L, N, h⟩
        · show mm_Go (mm_run 2) mc_Rule_valueOf _ (89, [(0, .inr (.inr v0)), (1, .inl v1), (2, .inl v2), (3, .inl r17), (4, .inl r28)], [], M28)
          replace c86 := Decidable.not_not.mp c86
          refine mm_s1 rfl ?_
          refine mm_s1 rfl ?_
          show mm_Go (mm_run 2) mc_Rule_valueOf _ (94, [(0, .inr (.inr v0)), (1, .inl v1), (2, .inl v2), (3, .inl r17), (4, .inl r28)], [.inl 1], M28)
          refine mm_s1 rfl ?_
          show mm_Go (mm_run 2) mc_Rule_valueOf _ (96, [(0, .inr (.inr v0)), (1, .inl v1), (2, .inl v2), (3, .inl r17), (4, .inl r28), (5, .inl 1)], [], M28)
          refine mm_s1 rfl ?_
          refine mm_s1 rfl ⟨fun _ => ?_, fun c => absurd (show (1 : Int) ≠ 0 by decide) c⟩
          show mm_Go (mm_run 2) mc_Rule_valueOf _ (103, [(0, .inr (.inr v0)), (1, .inl v1), (2, .inl v2), (3, .inl r17), (4, .inl r28), (5, .inl 1)], [], M28)
          refine mm_s1 rfl ?_
          show mm_Go (mm_run 2) mc_Rule_valueOf _ (106, [(0, .inr (.inr v0)), (1, .inl v1), (2, .inl (mm_w (v2 + 1))), (3, .inl r17), (4, .inl r28), (5, .inl 1)], [], M28)
          refine mm_s1 rfl ?_
          show mm_Go (mm_run 2) mc_Rule_valueOf _ (2, [(0, .inr (.inr v0)), (1, .inl v1), (2, .inl (mm_w (v2 + 1))), (3, .inl r17), (4, .inl r28), (5, .inl 1)], [], M28)
          replace h := h.2.2 (Or.inl ⟨c41, (Or.inl ⟨c66, c86⟩)⟩)
          exact nn_go_ext (nn_xc rfl (nn_xc rfl (nn_xc rfl nn_xn))) (h n L N C0)
      · show mm_Go (mm_run 2) mc_Rule_valueOf _ (69, [(0, .inr (.inr v0)), (1, .inl v1), (2, .inl v2), (3, .inl r17), (4, .inl r28)], [], M28)
        replace c66 := Decidable.not_not.mp c66
        refine mm_s1 rfl ?_
        refine mm_s1 rfl ?_
        refine mm_s1 rfl ⟨fun c72 => ?_, fun c72 => ?_⟩
        · show mm_Go (mm_run 2) mc_Rule_valueOf _ (79, [(0, .inr (.inr v0)), (1, .inl v1), (2, .inl v2), (3, .inl r17), (4, .inl r28)], [], M28)
          refine mm_s1 rfl ?_
          refine mm_s1 rfl ?_
          show mm_Go (mm_run 2) mc_Rule_valueOf _ (94, [(0, .inr (.inr v0)), (1, .inl v1), (2, .inl v2), (3, .inl r17), (4, .inl r28)], [.inl 0], M28)
          refine mm_s1 rfl ?_
          show mm_Go (mm_run 2) mc_Rule_valueOf _ (96, [(0, .inr (.inr v0)), (1, .inl v1), (2, .inl v2), (3, .inl r17), (4, .inl r28), (5, .inl 0)], [], M28)
          refine mm_s1 rfl ?_
          refine mm_s1 rfl ⟨fun c => absurd c (show ¬ ((0 : Int) ≠ 0) by decide), fun _ => ?_⟩
          show mm_Go (mm_run 2) mc_Rule_valueOf _ (101, [(0, .inr (.inr v0)), (1, .inl v1), (2, .inl v2), (3, .inl r17), (4, .inl r28), (5, .inl 0)], [], M28)
          refine mm_s1 rfl ?_
          replace h := h.2.1 (Or.inl ⟨c41, (Or.inr ⟨c66, c72⟩)⟩)
          exact mm_s1 rfl ⟨_, rfl, L, N, h⟩
        · show mm_Go (mm_run 2) mc_Rule_valueOf _ (75, [(0, .inr (.inr v0)), (1, .inl v1), (2, .inl v2), (3, .inl r17), (4, .inl r28)], [], M28)
          replace c72 := Int.not_le.mp c72
          refine mm_s1 rfl ?_
          refine mm_s1 rfl ?_
          show mm_Go (mm_run 2) mc_Rule_valueOf _ (94, [(0, .inr (.inr v0)), (1, .inl v1), (2, .inl v2), (3, .inl r17), (4, .inl r28)], [.inl 1], M28)
          refine mm_s1 rfl ?_
          show mm_Go (mm_run 2) mc_Rule_valueOf _ (96, [(0, .inr (.inr v0)), (1, .inl v1), (2, .inl v2), (3, .inl r17), (4, .inl r28), (5, .inl 1)], [], M28)
          refine mm_s1 rfl ?_
          refine mm_s1 rfl ⟨fun _ => ?_, fun c => absurd (show (1 : Int) ≠ 0 by decide) c⟩
          show mm_Go (mm_run 2) mc_Rule_valueOf _ (103, [(0, .inr (.inr v0)), (1, .inl v1), (2, .inl v2), (3, .inl r17), (4, .inl r28), (5, .inl 1)], [], M28)
          refine mm_s1 rfl ?_
          show mm_Go (mm_run 2) mc_Rule_valueOf _ (106, [(0, .inr (.inr v0)), (1, .inl v1), (2, .inl (mm_w (v2 + 1))), (3, .inl r17), (4, .inl r28), (5, .inl 1)], [], M28)
          refine mm_s1 rfl ?_
          show mm_Go (mm_run 2) mc_Rule_valueOf _ (2, [(0, .inr (.inr v0)), (1, .inl v1), (2, .inl (mm_w (v2 + 1))), (3, .inl r17), (4, .inl r28), (5, .inl 1)], [], M28)
          replace h := h.2.2 (Or.inl ⟨c41, (Or.inr ⟨c66, c72⟩)⟩)
          exact nn_go_ext (nn_xc rfl (nn_xc rfl (nn_xc rfl nn_xn))) (h n L N C0)
    · show mm_Go (mm_run 2) mc_Rule_valueOf _ (44, [(0, .inr (.inr v0)), (1, .inl v1), (2, .inl v2), (3, .inl r17), (4, .inl r28)], [], M28)
      replace c41 := Decidable.not_not.mp c41
      refine mm_s1 rfl ?_
      refine mm_s1 rfl ?_
      refine mm_s1 rfl ⟨fun c47 => ?_, fun c47 => ?_⟩
      · show mm_Go (mm_run 2) mc_Rule_valueOf _ (54, [(0, .inr (.inr v0)), (1, .inl v1), (2, .inl v2), (3, .inl r17), (4, .inl r28)], [], M28)
        refine mm_s1 rfl ?_
        refine mm_s1 rfl ?_
        show mm_Go (mm_run 2) mc_Rule_valueOf _ (94, [(0, .inr (.inr v0)), (1, .inl v1), (2, .inl v2), (3, .inl r17), (4, .inl r28)], [.inl 0], M28)
        refine mm_s1 rfl ?_
        show mm_Go (mm_run 2) mc_Rule_valueOf _ (96, [(0, .inr (.inr v0)), (1, .inl v1), (2, .inl v2), (3, .inl r17), (4, .inl r28), (5, .inl 0)], [], M28)
        refine mm_s1 rfl ?_
        refine mm_s1 rfl ⟨fun c => absurd c (show ¬ ((0 : Int) ≠ 0) by decide), fun _ => ?_⟩
        show mm_Go (mm_run 2) mc_Rule_valueOf _ (101, [(0, .inr (.inr v0)), (1, .inl v1), (2, .inl v2), (3, .inl r17), (4, .inl r28), (5, .inl 0)], [], M28)
        refine mm_s1 rfl ?_
        replace h := h.2.1 (Or.inr ⟨c41, c47⟩)
        exact mm_s1 rfl ⟨_, rfl, L, N, h⟩
      · show mm_Go (mm_run 2) mc_Rule_valueOf _ (50, [(0, .inr (.inr v0)), (1, .inl v1), (2, .inl v2), (3, .inl r17), (4, .inl r28)], [], M28)
        replace c47 := Int.not_le.mp c47
        refine mm_s1 rfl ?_
        refine mm_s1 rfl ?_
        show mm_Go (mm_run 2) mc_Rule_valueOf _ (94, [(0, .inr (.inr v0)), (1, .inl v1), (2, .inl v2), (3, .inl r17), (4, .inl r28)], [.inl 1], M28)
        refine mm_s1 rfl ?_
        show mm_Go (mm_run 2) mc_Rule_valueOf _ (96, [(0, .inr (.inr v0)), (1, .inl v1), (2, .inl v2), (3, .inl r17), (4, .inl r28), (5, .inl 1)], [], M28)
        refine mm_s1 rfl ?_
        refine mm_s1 rfl ⟨fun _ => ?_, fun c => absurd (show (1 : Int) ≠ 0 by decide) c⟩
        show mm_Go (mm_run 2) mc_Rule_valueOf _ (103, [(0, .inr (.inr v0)), (1, .inl v1), (2, .inl v2), (3, .inl r17), (4, .inl r28), (5, .inl 1)], [], M28)
        refine mm_s1 rfl ?_
        show mm_Go (mm_run 2) mc_Rule_valueOf _ (106, [(0, .inr (.inr v0)), (1, .inl v1), (2, .inl (mm_w (v2 + 1))), (3, .inl r17), (4, .inl r28), (5, .inl 1)], [], M28)
        refine mm_s1 rfl ?_
        show mm_Go (mm_run 2) mc_Rule_valueOf _ (2, [(0, .inr (.inr v0)), (1, .inl v1), (2, .inl (mm_w (v2 + 1))), (3, .inl r17), (4, .inl r28), (5, .inl 1)], [], M28)
        replace h := h.2.2 (Or.inr ⟨c41, c47⟩)
        exact nn_go_ext (nn_xc rfl (nn_xc rfl (nn_xc rfl nn_xn))) (h n L N C0)
def nf_Store_changed (v0 : Nat) (v1 : Int) (v2 : Int) (v3 : Int) (M : mm_M) : Int := (if (nf_Versions_isThere (v0 + 7) v1 M) ≠ 0 then mm_or (mm_and (nn_ri M (v0 + 8) v1) (mm_xor (mm_shl 15 (mm_w (4 * v2))) (-1))) (mm_shl v3 (mm_w (4 * v2))) else (-1))
def nc_Store_changed (v0 : Nat) (v1 : Int) (v2 : Int) (v3 : Int) (M : mm_M) : Prop := ((nc_Versions_isThere (v0 + 7) v1 M) ∧ ((nf_Versions_isThere (v0 + 7) v1 M) ≠ 0 → ((0 : Int) ≤ v1 ∧ v1 < (32 : Int))))
set_option maxRecDepth 20000 in
theorem np_Store_changed {v0 : Nat} {v1 : Int} {v2 : Int} {v3 : Int} {M : mm_M} {n d : Nat} {P : mm_P} (hd : 3 ≤ d) (L : nn_L M) (N : M.1 = n) (C0 : nn_C 9 v0 n) (b : nc_Store_changed v0 v1 v2 v3 M) (h : P (some (.inl (nf_Store_changed v0 v1 v2 v3 M))) M) : mm_run d mi_Store_changed [.inr (.inr v0), .inl v1, .inl v2, .inl v3] M P := by
  have NN := nn_L_n L N
  unfold nc_Store_changed at b
  unfold nf_Store_changed at h
  refine nn_run_le hd ?_
  show mm_Go (mm_run 2) mc_Store_changed _ (0, [(0, .inr (.inr v0)), (1, .inl v1), (2, .inl v2), (3, .inl v3)], [], M)
  refine mm_s1 rfl ?_
  refine nn_getr rfl C0.1 (lf_9_1 L N C0) ?_
  refine nn_getr rfl (nc_9_1 NN C0).1 (lf_10_1 L N (nc_9_1 NN C0)) ?_
  refine mm_s1 rfl ?_
  obtain ⟨b8, b⟩ := b
  refine mm_s1 rfl ⟨(nc_10_1 NN (nc_9_1 NN C0)).1, ?_⟩
  refine np_Versions_isThere (by decide) L N (nc_10_1 NN (nc_9_1 NN C0)) b8 ?_
  show mm_Go (mm_run 2) mc_Store_changed _ (11, [(0, .inr (.inr v0)), (1, .inl v1), (2, .inl v2), (3, .inl v3)], [.inl (nf_Versions_isThere (v0 + 7) v1 M)], M)
  refine mm_s1 rfl ⟨fun c11 => ?_, fun c11 => ?_⟩
  · show mm_Go (mm_run 2) mc_Store_changed _ (16, [(0, .inr (.inr v0)), (1, .inl v1), (2, .inl v2), (3, .inl v3)], [], M)
    rw [if_pos (show (nf_Versions_isThere (v0 + 7) v1 M) ≠ 0 from c11)] at h
    replace b := b c11
    refine mm_s1 rfl ?_
    refine mm_s1 rfl ?_
    refine mm_s1 rfl ?_
    refine mm_s1 rfl ?_
    show mm_Go (mm_run 2) mc_Store_changed _ (21, [(0, .inr (.inr v0)), (1, .inl v1), (2, .inl v2), (3, .inl v3), (4, .inl (mm_w (4 * v2)))], [], M)
    refine mm_s1 rfl ?_
    refine nn_getr rfl C0.1 (lf_9_1 L N C0) ?_
    refine nn_getr rfl (nc_9_1 NN C0).1 (lf_10_1 L N (nc_9_1 NN C0)) ?_
    refine nn_getr rfl (nc_10_1 NN (nc_9_1 NN C0)).1 (lf_12_0 L N (nc_10_1 NN (nc_9_1 NN C0))) ?_
    refine mm_s1 rfl ?_
    have b32 := b
    refine mm_s1 rfl ⟨nn_bd (na_12_0 NN (nc_10_1 NN (nc_9_1 NN C0))) b32, ?_⟩
    show mm_Go (mm_run 2) mc_Store_changed _ (33, [(0, .inr (.inr v0)), (1, .inl v1), (2, .inl v2), (3, .inl v3), (4, .inl (mm_w (4 * v2)))], [.inl (nn_ri M (v0 + 8) v1)], M)
    refine mm_s1 rfl ?_
    refine mm_s1 rfl ?_
    refine mm_s1 rfl ?_
    refine mm_s1 rfl ?_
    refine mm_s1 rfl ?_
    refine mm_s1 rfl ?_
    refine mm_s1 rfl ?_
    refine mm_s1 rfl ?_
    refine mm_s1 rfl ?_
    refine mm_s1 rfl ?_
    exact mm_s1 rfl h
  · show mm_Go (mm_run 2) mc_Store_changed _ (14, [(0, .inr (.inr v0)), (1, .inl v1), (2, .inl v2), (3, .inl v3)], [], M)
    rw [if_neg (show ¬ ((nf_Versions_isThere (v0 + 7) v1 M) ≠ 0) from c11)] at h
    replace c11 := Decidable.not_not.mp c11
    refine mm_s1 rfl ?_
    exact mm_s1 rfl h
def nr_Store_opened (v0 : Nat) (v1 : Nat) (v2 : Int) (v3 : Int) (M : mm_M) (R : Int → mm_M → Prop) : Prop := ∀ n, nn_L M → M.1 = n → nn_C 9 v0 n → nn_C 5 v1 n → mm_run 3 mi_Store_opened [.inr (.inr v0), .inr (.inr v1), .inl v2, .inl v3] M (nw_I n R)
def nk_Store_opened_3 (v0 : Nat) (v1 : Nat) (v2 : Int) (v3 : Int) (v4 : Int) (M : mm_M) (R : Int → mm_M → Prop) : Prop := ∀ n, nn_L M → M.1 = n → nn_C 9 v0 n → nn_C 5 v1 n → mm_Go (mm_run 2) mc_Store_opened (nw_I n R) (3, [(0, .inr (.inr v0)), (1, .inr (.inr v1)), (2, .inl v2), (3, .inl v3), (4, .inl v4)], [], M)
set_option maxRecDepth 20000 in
theorem ng_Store_opened (v0 : Nat) (v1 : Nat) (v2 : Int) (v3 : Int) (M : mm_M) (R : Int → mm_M → Prop) (h : nk_Store_opened_3 v0 v1 v2 v3 0 M R) : nr_Store_opened v0 v1 v2 v3 M R := by
  intro n L N C0 C1
  have NN := nn_L_n L N
  show mm_Go (mm_run 2) mc_Store_opened _ (0, [(0, .inr (.inr v0)), (1, .inr (.inr v1)), (2, .inl v2), (3, .inl v3)], [], M)
  refine mm_s1 rfl ?_
  refine mm_s1 rfl ?_
  show mm_Go (mm_run 2) mc_Store_opened _ (3, [(0, .inr (.inr v0)), (1, .inr (.inr v1)), (2, .inl v2), (3, .inl v3), (4, .inl 0)], [], M)
  exact nn_go_ext (nn_xc rfl (nn_xc rfl (nn_xc rfl (nn_xc rfl (nn_xc rfl nn_xn))))) (h n L N C0 C1)
set_option maxRecDepth 20000 in
theorem ng_Store_opened_3 (v0 : Nat) (v1 : Nat) (v2 : Int) (v3 : Int) (v4 : Int) (M : mm_M) (R : Int → mm_M → Prop) (h : ((3 ≤ v4 → ((v4 ≠ 3 → (((0 : Int) ≤ v4 ∧ v4 < (3 : Int)) ∧ (nr_Store_gather v0 v1 v2 v3 M (fun r51 M51 => (nr_Cursor_begin (v0 + 150 + 3 * (v4).toNat) (v0 + 89) r51 M51 (fun M54 => (((0 : Int) ≤ v4 ∧ v4 < (3 : Int)) ∧ (nr_Cursor_hold (v0 + 150 + 3 * (v4).toNat) (v0 + 12) (nn_rf M54 (v0 + 3) 5) M54 (fun M78 => (((0 : Int) ≤ v4 ∧ v4 < (3 : Int)) ∧ (nr_Cursor_hold (v0 + 150 + 3 * (v4).toNat) (v1 + 13) (nn_rf M78 (v1 + 8) 5) M78 (fun M102 => R v4 M102)))))))))))) ∧ (v4 = 3 → R (-1) M))) ∧ (v4 < 3 → (((0 : Int) ≤ v4 ∧ v4 < (3 : Int)) ∧ (((nn_rf M (v0 + 150 + 3 * (v4).toNat) 2) = 0 → ((v4 ≠ 3 → (((0 : Int) ≤ v4 ∧ v4 < (3 : Int)) ∧ (nr_Store_gather v0 v1 v2 v3 M (fun r51 M51 => (nr_Cursor_begin (v0 + 150 + 3 * (v4).toNat) (v0 + 89) r51 M51 (fun M54 => (((0 : Int) ≤ v4 ∧ v4 < (3 : Int)) ∧ (nr_Cursor_hold (v0 + 150 + 3 * (v4).toNat) (v0 + 12) (nn_rf M54 (v0 + 3) 5) M54 (fun M78 => (((0 : Int) ≤ v4 ∧ v4 < (3 : Int)) ∧ (nr_Cursor_hold (v0 + 150 + 3 * (v4).toNat) (v1 + 13) (nn_rf M78 (v1 + 8) 5) M78 (fun M102 => R v4 M102)))))))))))) ∧ (v4 = 3 → R (-1) M))) ∧ ((nn_rf M (v0 + 150 + 3 * (v4).toNat) 2) ≠ 0 → nk_Store_opened_3 v0 v1 v2 v3 (mm_w (v4 + 1)) M R)))))) : nk_Store_opened_3 v0 v1 v2 v3 v4 M R := by
  intro n L N C0 C1
  have NN := nn_L_n L N
  show mm_Go (mm_run 2) mc_Store_opened _ (3, [(0, .inr (.inr v0)), (1, .inr (.inr v1)), (2, .inl v2), (3, .inl v3), (4, .inl v4)], [], M)
  refine mm_s1 rfl ?_
  refine mm_s1 rfl ?_
  refine mm_s1 rfl ⟨fun c6 => ?_, fun c6 => ?_⟩
  · show mm_Go (mm_run 2) mc_Store_opened _ (28, [(0, .inr (.inr v0)), (1, .inr (.inr v1)), (2, .inl v2), (3, .inl v3), (4, .inl v4)], [], M)
    replace h := h.1 c6
    refine mm_s1 rfl ?_
    refine mm_s1 rfl ?_
    refine mm_s1 rfl ⟨fun c31 => ?_, fun c31 => ?_⟩
    · show mm_Go (mm_run 2) mc_Store_opened _ (36, [(0, .inr (.inr v0)), (1, .inr (.inr v1)), (2, .inl v2), (3, .inl v3), (4, .inl v4)], [], M)
      replace h := h.1 c31
      refine mm_s1 rfl ?_
      refine nn_getr rfl C0.1 (lf_9_3 L N C0) ?_
      refine mm_s1 rfl ?_
      obtain ⟨b42, h⟩ := h
      have C42 : nn_C 3 (v0 + 150 + 3 * (v4).toNat) n := (nn_arr NN (nc_9_3 NN C0).2).2.1 (nc_9_3 NN C0).1 _ (nn_tn b42 (by decide))
      refine nn_aald rfl (nn_bd30 (na_9_3 NN C0) (by decide) b42) (nn_l33 L N (nc_9_3 NN C0) b42) ?_
      show mm_Go (mm_run 2) mc_Store_opened _ (43, [(0, .inr (.inr v0)), (1, .inr (.inr v1)), (2, .inl v2), (3, .inl v3), (4, .inl v4)], [.inr (.inr (v0 + 150 + 3 * (v4).toNat))], M)
      refine mm_s1 rfl ?_
      refine nn_getr rfl C0.1 (lf_9_6 L N C0) ?_
      refine mm_s1 rfl ?_
      refine mm_s1 rfl ?_
      refine mm_s1 rfl ?_
      show mm_Go (mm_run 2) mc_Store_opened _ (50, [(0, .inr (.inr v0)), (1, .inr (.inr v1)), (2, .inl v2), (3, .inl v3), (4, .inl v4)], [.inl v2, .inr (.inr v1), .inr (.inr v0), .inr (.inr (v0 + 89)), .inr (.inr (v0 + 150 + 3 * (v4).toNat))], M)
      refine mm_s1 rfl ?_
      refine mm_s1 rfl ⟨C0.1, ?_⟩
      refine nn_call (D := 2) (by decide) (h n L N C0 C1) ?_
      intro v M51 q; clear L N h
      obtain ⟨r51, rfl, L, N, h⟩ := q
      show mm_Go (mm_run 2) mc_Store_opened _ (54, [(0, .inr (.inr v0)), (1, .inr (.inr v1)), (2, .inl v2), (3, .inl v3), (4, .inl v4)], [.inl r51, .inr (.inr (v0 + 89)), .inr (.inr (v0 + 150 + 3 * (v4).toNat))], M51)
      refine mm_s1 rfl ⟨C42.1, ?_⟩
      refine nn_call (D := 1) (by decide) (h n L N C42 (nc_9_6 NN C0)) ?_
      intro v M54 q; clear L N h
      obtain ⟨rfl, L, N, h⟩ := q
      show mm_Go (mm_run 2) mc_Store_opened _ (57, [(0, .inr (.inr v0)), (1, .inr (.inr v1)), (2, .inl v2), (3, .inl v3), (4, .inl v4)], [], M54)
      refine mm_s1 rfl ?_
      refine nn_getr rfl C0.1 (lf_9_3 L N C0) ?_
      refine mm_s1 rfl ?_
      obtain ⟨b63, h⟩ := h
      have C63 : nn_C 3 (v0 + 150 + 3 * (v4).toNat) n := (nn_arr NN (nc_9_3 NN C0).2).2.1 (nc_9_3 NN C0).1 _ (nn_tn b63 (by decide))
      refine nn_aald rfl (nn_bd30 (na_9_3 NN C0) (by decide) b63) (nn_l33 L N (nc_9_3 NN C0) b63) ?_
      show mm_Go (mm_run 2) mc_Store_opened _ (64, [(0, .inr (.inr v0)), (1, .inr (.inr v1)), (2, .inl v2), (3, .inl v3), (4, .inl v4)], [.inr (.inr (v0 + 150 + 3 * (v4).toNat))], M54)
      refine mm_s1 rfl ?_
      refine nn_getr rfl C0.1 (lf_9_1 L N C0) ?_
      refine nn_getr rfl (nc_9_1 NN C0).1 (lf_10_4 L N (nc_9_1 NN C0)) ?_
      refine mm_s1 rfl ?_
      refine nn_getr rfl C0.1 (lf_9_1 L N C0) ?_
      show mm_Go (mm_run 2) mc_Store_opened _ (75, [(0, .inr (.inr v0)), (1, .inr (.inr v1)), (2, .inl v2), (3, .inl v3), (4, .inl v4)], [.inr (.inr (v0 + 3)), .inr (.inr (v0 + 12)), .inr (.inr (v0 + 150 + 3 * (v4).toNat))], M54)
      refine mm_s1 rfl ⟨(nc_9_1 NN C0).1, ?_⟩
      show mm_Go (mm_run 2) mc_Store_opened _ (78, [(0, .inr (.inr v0)), (1, .inr (.inr v1)), (2, .inl v2), (3, .inl v3), (4, .inl v4)], [.inl (nn_rf M54 (v0 + 3) 5), .inr (.inr (v0 + 12)), .inr (.inr (v0 + 150 + 3 * (v4).toNat))], M54)
      refine mm_s1 rfl ⟨C63.1, ?_⟩
      refine nn_call (D := 1) (by decide) (h n L N C63 (nc_10_4 NN (nc_9_1 NN C0))) ?_
      intro v M78 q; clear L N h
      obtain ⟨rfl, L, N, h⟩ := q
      show mm_Go (mm_run 2) mc_Store_opened _ (81, [(0, .inr (.inr v0)), (1, .inr (.inr v1)), (2, .inl v2), (3, .inl v3), (4, .inl v4)], [], M78)
      refine mm_s1 rfl ?_
      refine nn_getr rfl C0.1 (lf_9_3 L N C0) ?_
      refine mm_s1 rfl ?_
      obtain ⟨b87, h⟩ := h
      have C87 : nn_C 3 (v0 + 150 + 3 * (v4).toNat) n := (nn_arr NN (nc_9_3 NN C0).2).2.1 (nc_9_3 NN C0).1 _ (nn_tn b87 (by decide))
      refine nn_aald rfl (nn_bd30 (na_9_3 NN C0) (by decide) b87) (nn_l33 L N (nc_9_3 NN C0) b87) ?_
      show mm_Go (mm_run 2) mc_Store_opened _ (88, [(0, .inr (.inr v0)), (1, .inr (.inr v1)), (2, .inl v2), (3, .inl v3), (4, .inl v4)], [.inr (.inr (v0 + 150 + 3 * (v4).toNat))], M78)
      refine mm_s1 rfl ?_
      refine nn_getr rfl C1.1 (lf_5_3 L N C1) ?_
      refine nn_getr rfl (nc_5_3 NN C1).1 (lf_6_4 L N (nc_5_3 NN C1)) ?_
      refine mm_s1 rfl ?_
      refine nn_getr rfl C1.1 (lf_5_3 L N C1) ?_
      show mm_Go (mm_run 2) mc_Store_opened _ (99, [(0, .inr (.inr v0)), (1, .inr (.inr v1)), (2, .inl v2), (3, .inl v3), (4, .inl v4)], [.inr (.inr (v1 + 8)), .inr (.inr (v1 + 13)), .inr (.inr (v0 + 150 + 3 * (v4).toNat))], M78)
      refine mm_s1 rfl ⟨(nc_5_3 NN C1).1, ?_⟩
      show mm_Go (mm_run 2) mc_Store_opened _ (102, [(0, .inr (.inr v0)), (1, .inr (.inr v1)), (2, .inl v2), (3, .inl v3), (4, .inl v4)], [.inl (nn_rf M78 (v1 + 8) 5), .inr (.inr (v1 + 13)), .inr (.inr (v0 + 150 + 3 * (v4).toNat))], M78)
      refine mm_s1 rfl ⟨C87.1, ?_⟩
      refine nn_call (D := 1) (by decide) (h n L N C87 (nc_6_4 NN (nc_5_3 NN C1))) ?_
      intro v M102 q; clear L N h
      obtain ⟨rfl, L, N, h⟩ := q
      show mm_Go (mm_run 2) mc_Store_opened _ (105, [(0, .inr (.inr v0)), (1, .inr (.inr v1)), (2, .inl v2), (3, .inl v3), (4, .inl v4)], [], M102)
      refine mm_s1 rfl ?_
      exact mm_s1 rfl ⟨_, rfl, L, N, h⟩
    · show mm_Go (mm_run 2) mc_Store_opened _ (34, [(0, .inr (.inr v0)), (1, .inr (.inr v1)), (2, .inl v2), (3, .inl v3), (4, .inl v4)], [], M)
      replace c31 := Decidable.not_not.mp c31
      replace h := h.2 c31
      refine mm_s1 rfl ?_
      exact mm_s1 rfl ⟨_, rfl, L, N, h⟩
  · show mm_Go (mm_run 2) mc_Store_opened _ (9, [(0, .inr (.inr v0)), (1, .inr (.inr v1)), (2, .inl v2), (3, .inl v3), (4, .inl v4)], [], M)
    replace c6 := Int.not_le.mp c6
    replace h := h.2 c6
    refine mm_s1 rfl ?_
    refine nn_getr rfl C0.1 (lf_9_3 L N C0) ?_
    refine mm_s1 rfl ?_
    obtain ⟨b15, h⟩ := h
    have C15 : nn_C 3 (v0 + 150 + 3 * (v4).toNat) n := (nn_arr NN (nc_9_3 NN C0).2).2.1 (nc_9_3 NN C0).1 _ (nn_tn b15 (by decide))
    refine nn_aald rfl (nn_bd30 (na_9_3 NN C0) (by decide) b15) (nn_l33 L N (nc_9_3 NN C0) b15) ?_
    show mm_Go (mm_run 2) mc_Store_opened _ (16, [(0, .inr (.inr v0)), (1, .inr (.inr v1)), (2, .inl v2), (3, .inl v3), (4, .inl v4)], [.inr (.inr (v0 + 150 + 3 * (v4).toNat))], M)
    refine mm_s1 rfl ⟨C15.1, ?_⟩
    show mm_Go (mm_run 2) mc_Store_opened _ (19, [(0, .inr (.inr v0)), (1, .inr (.inr v1)), (2, .inl v2), (3, .inl v3), (4, .inl v4)], [.inl (nn_rf M (v0 + 150 + 3 * (v4).toNat) 2)], M)
    refine mm_s1 rfl ⟨fun c19 => ?_, fun c19 => ?_⟩
    · show mm_Go (mm_run 2) mc_Store_opened _ (28, [(0, .inr (.inr v0)), (1, .inr (.inr v1)), (2, .inl v2), (3, .inl v3), (4, .inl v4)], [], M)
      replace h := h.1 c19
      refine mm_s1 rfl ?_
      refine mm_s1 rfl ?_
      refine mm_s1 rfl ⟨fun c31 => ?_, fun c31 => ?_⟩
      · show mm_Go (mm_run 2) mc_Store_opened _ (36, [(0, .inr (.inr v0)), (1, .inr (.inr v1)), (2, .inl v2), (3, .inl v3), (4, .inl v4)], [], M)
        replace h := h.1 c31
        refine mm_s1 rfl ?_
        refine nn_getr rfl C0.1 (lf_9_3 L N C0) ?_
        refine mm_s1 rfl ?_
        obtain ⟨b42, h⟩ := h
        have C42 : nn_C 3 (v0 + 150 + 3 * (v4).toNat) n := (nn_arr NN (nc_9_3 NN C0).2).2.1 (nc_9_3 NN C0).1 _ (nn_tn b42 (by decide))
        refine nn_aald rfl (nn_bd30 (na_9_3 NN C0) (by decide) b42) (nn_l33 L N (nc_9_3 NN C0) b42) ?_
        show mm_Go (mm_run 2) mc_Store_opened _ (43, [(0, .inr (.inr v0)), (1, .inr (.inr v1)), (2, .inl v2), (3, .inl v3), (4, .inl v4)], [.inr (.inr (v0 + 150 + 3 * (v4).toNat))], M)
        refine mm_s1 rfl ?_
        refine nn_getr rfl C0.1 (lf_9_6 L N C0) ?_
        refine mm_s1 rfl ?_
        refine mm_s1 rfl ?_
        refine mm_s1 rfl ?_
        show mm_Go (mm_run 2) mc_Store_opened _ (50, [(0, .inr (.inr v0)), (1, .inr (.inr v1)), (2, .inl v2), (3, .inl v3), (4, .inl v4)], [.inl v2, .inr (.inr v1), .inr (.inr v0), .inr (.inr (v0 + 89)), .inr (.inr (v0 + 150 + 3 * (v4).toNat))], M)
        refine mm_s1 rfl ?_
        refine mm_s1 rfl ⟨C0.1, ?_⟩
        refine nn_call (D := 2) (by decide) (h n L N C0 C1) ?_
        intro v M51 q; clear L N h
        obtain ⟨r51, rfl, L, N, h⟩ := q
        show mm_Go (mm_run 2) mc_Store_opened _ (54, [(0, .inr (.inr v0)), (1, .inr (.inr v1)), (2, .inl v2), (3, .inl v3), (4, .inl v4)], [.inl r51, .inr (.inr (v0 + 89)), .inr (.inr (v0 + 150 + 3 * (v4).toNat))], M51)
        refine mm_s1 rfl ⟨C42.1, ?_⟩
        refine nn_call (D := 1) (by decide) (h n L N C42 (nc_9_6 NN C0)) ?_
        intro v M54 q; clear L N h
        obtain ⟨rfl, L, N, h⟩ := q
        show mm_Go (mm_run 2) mc_Store_opened _ (57, [(0, .inr (.inr v0)), (1, .inr (.inr v1)), (2, .inl v2), (3, .inl v3), (4, .inl v4)], [], M54)
        refine mm_s1 rfl ?_
        refine nn_getr rfl C0.1 (lf_9_3 L N C0) ?_
        refine mm_s1 rfl ?_
        obtain ⟨b63, h⟩ := h
        have C63 : nn_C 3 (v0 + 150 + 3 * (v4).toNat) n := (nn_arr NN (nc_9_3 NN C0).2).2.1 (nc_9_3 NN C0).1 _ (nn_tn b63 (by decide))
        refine nn_aald rfl (nn_bd30 (na_9_3 NN C0) (by decide) b63) (nn_l33 L N (nc_9_3 NN C0) b63) ?_
        show mm_Go (mm_run 2) mc_Store_opened _ (64, [(0, .inr (.inr v0)), (1, .inr (.inr v1)), (2, .inl v2), (3, .inl v3), (4, .inl v4)], [.inr (.inr (v0 + 150 + 3 * (v4).toNat))], M54)
        refine mm_s1 rfl ?_
        refine nn_getr rfl C0.1 (lf_9_1 L N C0) ?_
        refine nn_getr rfl (nc_9_1 NN C0).1 (lf_10_4 L N (nc_9_1 NN C0)) ?_
        refine mm_s1 rfl ?_
        refine nn_getr rfl C0.1 (lf_9_1 L N C0) ?_
        show mm_Go (mm_run 2) mc_Store_opened _ (75, [(0, .inr (.inr v0)), (1, .inr (.inr v1)), (2, .inl v2), (3, .inl v3), (4, .inl v4)], [.inr (.inr (v0 + 3)), .inr (.inr (v0 + 12)), .inr (.inr (v0 + 150 + 3 * (v4).toNat))], M54)
        refine mm_s1 rfl ⟨(nc_9_1 NN C0).1, ?_⟩
        show mm_Go (mm_run 2) mc_Store_opened _ (78, [(0, .inr (.inr v0)), (1, .inr (.inr v1)), (2, .inl v2), (3, .inl v3), (4, .inl v4)], [.inl (nn_rf M54 (v0 + 3) 5), .inr (.inr (v0 + 12)), .inr (.inr (v0 + 150 + 3 * (v4).toNat))], M54)
        refine mm_s1 rfl ⟨C63.1, ?_⟩
        refine nn_call (D := 1) (by decide) (h n L N C63 (nc_10_4 NN (nc_9_1 NN C0))) ?_
        intro v M78 q; clear L N h
        obtain ⟨rfl, L, N, h⟩ := q
        show mm_Go (mm_run 2) mc_Store_opened _ (81, [(0, .inr (.inr v0)), (1, .inr (.inr v1)), (2, .inl v2), (3, .inl v3), (4, .inl v4)], [], M78)
        refine mm_s1 rfl ?_
        refine nn_getr rfl C0.1 (lf_9_3 L N C0) ?_
        refine mm_s1 rfl ?_
        obtain ⟨b87, h⟩ := h
        have C87 : nn_C 3 (v0 + 150 + 3 * (v4).toNat) n := (nn_arr NN (nc_9_3 NN C0).2).2.1 (nc_9_3 NN C0).1 _ (nn_tn b87 (by decide))
        refine nn_aald rfl (nn_bd30 (na_9_3 NN C0) (by decide) b87) (nn_l33 L N (nc_9_3 NN C0) b87) ?_
        show mm_Go (mm_run 2) mc_Store_opened _ (88, [(0, .inr (.inr v0)), (1, .inr (.inr v1)), (2, .inl v2), (3, .inl v3), (4, .inl v4)], [.inr (.inr (v0 + 150 + 3 * (v4).toNat))], M78)
        refine mm_s1 rfl ?_
        refine nn_getr rfl C1.1 (lf_5_3 L N C1) ?_
        refine nn_getr rfl (nc_5_3 NN C1).1 (lf_6_4 L N (nc_5_3 NN C1)) ?_
        refine mm_s1 rfl ?_
        refine nn_getr rfl C1.1 (lf_5_3 L N C1) ?_
        show mm_Go (mm_run 2) mc_Store_opened _ (99, [(0, .inr (.inr v0)), (1, .inr (.inr v1)), (2, .inl v2), (3, .inl v3), (4, .inl v4)], [.inr (.inr (v1 + 8)), .inr (.inr (v1 + 13)), .inr (.inr (v0 + 150 + 3 * (v4).toNat))], M78)
        refine mm_s1 rfl ⟨(nc_5_3 NN C1).1, ?_⟩
        show mm_Go (mm_run 2) mc_Store_opened _ (102, [(0, .inr (.inr v0)), (1, .inr (.inr v1)), (2, .inl v2), (3, .inl v3), (4, .inl v4)], [.inl (nn_rf M78 (v1 + 8) 5), .inr (.inr (v1 + 13)), .inr (.inr (v0 + 150 + 3 * (v4).toNat))], M78)
        refine mm_s1 rfl ⟨C87.1, ?_⟩
        refine nn_call (D := 1) (by decide) (h n L N C87 (nc_6_4 NN (nc_5_3 NN C1))) ?_
        intro v M102 q; clear L N h
        obtain ⟨rfl, L, N, h⟩ := q
        show mm_Go (mm_run 2) mc_Store_opened _ (105, [(0, .inr (.inr v0)), (1, .inr (.inr v1)), (2, .inl v2), (3, .inl v3), (4, .inl v4)], [], M102)
        refine mm_s1 rfl ?_
        exact mm_s1 rfl ⟨_, rfl, L, N, h⟩
      · show mm_Go (mm_run 2) mc_Store_opened _ (34, [(0, .inr (.inr v0)), (1, .inr (.inr v1)), (2, .inl v2), (3, .inl v3), (4, .inl v4)], [], M)
        replace c31 := Decidable.not_not.mp c31
        replace h := h.2 c31
        refine mm_s1 rfl ?_
        exact mm_s1 rfl ⟨_, rfl, L, N, h⟩
    · show mm_Go (mm_run 2) mc_Store_opened _ (22, [(0, .inr (.inr v0)), (1, .inr (.inr v1)), (2, .inl v2), (3, .inl v3), (4, .inl v4)], [], M)
      replace h := h.2 c19
      refine mm_s1 rfl ?_
      show mm_Go (mm_run 2) mc_Store_opened _ (25, [(0, .inr (.inr v0)), (1, .inr (.inr v1)), (2, .inl v2), (3, .inl v3), (4, .inl (mm_w (v4 + 1)))], [], M)
      refine mm_s1 rfl ?_
      show mm_Go (mm_run 2) mc_Store_opened _ (3, [(0, .inr (.inr v0)), (1, .inr (.inr v1)), (2, .inl v2), (3, .inl v3), (4, .inl (mm_w (v4 + 1)))], [], M)
      exact nn_go_ext (nn_xc rfl (nn_xc rfl (nn_xc rfl (nn_xc rfl (nn_xc rfl nn_xn))))) (h n L N C0 C1)
def nr_Store_leftOver (v0 : Nat) (M : mm_M) (R : Int → mm_M → Prop) : Prop := ∀ n, nn_L M → M.1 = n → nn_C 9 v0 n → mm_run 3 mi_Store_leftOver [.inr (.inr v0)] M (nw_I n R)
def nk_Store_leftOver_4 (v0 : Nat) (v1 : Int) (v2 : Int) (M : mm_M) (R : Int → mm_M → Prop) : Prop := ∀ n, nn_L M → M.1 = n → nn_C 9 v0 n → mm_Go (mm_run 2) mc_Store_leftOver (nw_I n R) (4, [(0, .inr (.inr v0)), (1, .inl v1), (2, .inl v2)], [], M)
def nk_Store_leftOver_11 (v0 : Nat) (v1 : Int) (v2 : Int) (v3 : Int) (M : mm_M) (R : Int → mm_M → Prop) : Prop := ∀ n, nn_L M → M.1 = n → nn_C 9 v0 n → mm_Go (mm_run 2) mc_Store_leftOver (nw_I n R) (11, [(0, .inr (.inr v0)), (1, .inl v1), (2, .inl v2), (3, .inl v3)], [], M)
set_option maxRecDepth 20000 in
theorem ng_Store_leftOver (v0 : Nat) (M : mm_M) (R : Int → mm_M → Prop) (h : nk_Store_leftOver_4 v0 0 0 M R) : nr_Store_leftOver v0 M R := by
  intro n L N C0
  have NN := nn_L_n L N
  show mm_Go (mm_run 2) mc_Store_leftOver _ (0, [(0, .inr (.inr v0))], [], M)
  refine mm_s1 rfl ?_
  refine mm_s1 rfl ?_
  show mm_Go (mm_run 2) mc_Store_leftOver _ (2, [(0, .inr (.inr v0)), (1, .inl 0)], [], M)
  refine mm_s1 rfl ?_
  refine mm_s1 rfl ?_
  show mm_Go (mm_run 2) mc_Store_leftOver _ (4, [(0, .inr (.inr v0)), (1, .inl 0), (2, .inl 0)], [], M)
  exact nn_go_ext (nn_xc rfl (nn_xc rfl (nn_xc rfl nn_xn))) (h n L N C0)
set_option maxRecDepth 20000 in
theorem ng_Store_leftOver_4 (v0 : Nat) (v1 : Int) (v2 : Int) (M : mm_M) (R : Int → mm_M → Prop) (h : ((3 ≤ v2 → R v1 M) ∧ (v2 < 3 → nk_Store_leftOver_11 v0 v1 v2 0 M R))) : nk_Store_leftOver_4 v0 v1 v2 M R := by
  intro n L N C0
  have NN := nn_L_n L N
  show mm_Go (mm_run 2) mc_Store_leftOver _ (4, [(0, .inr (.inr v0)), (1, .inl v1), (2, .inl v2)], [], M)
  refine mm_s1 rfl ?_
  refine mm_s1 rfl ?_
  refine mm_s1 rfl ⟨fun c6 => ?_, fun c6 => ?_⟩
  · show mm_Go (mm_run 2) mc_Store_leftOver _ (83, [(0, .inr (.inr v0)), (1, .inl v1), (2, .inl v2)], [], M)
    replace h := h.1 c6
    refine mm_s1 rfl ?_
    exact mm_s1 rfl ⟨_, rfl, L, N, h⟩
  · show mm_Go (mm_run 2) mc_Store_leftOver _ (9, [(0, .inr (.inr v0)), (1, .inl v1), (2, .inl v2)], [], M)
    replace c6 := Int.not_le.mp c6
    replace h := h.2 c6
    refine mm_s1 rfl ?_
    refine mm_s1 rfl ?_
    show mm_Go (mm_run 2) mc_Store_leftOver _ (11, [(0, .inr (.inr v0)), (1, .inl v1), (2, .inl v2), (3, .inl 0)], [], M)
    exact nn_go_ext (nn_xc rfl (nn_xc rfl (nn_xc rfl (nn_xc rfl nn_xn)))) (h n L N C0)
set_option maxRecDepth 20000 in
theorem ng_Store_leftOver_11 (v0 : Nat) (v1 : Int) (v2 : Int) (v3 : Int) (M : mm_M) (R : Int → mm_M → Prop) (h : (((0 : Int) ≤ v2 ∧ v2 < (3 : Int)) ∧ (((nn_rf M (v0 + 150 + 3 * (v2).toNat) 5) ≤ v3 → nk_Store_leftOver_4 v0 v1 (mm_w (v2 + 1)) M R) ∧ (v3 < (nn_rf M (v0 + 150 + 3 * (v2).toNat) 5) → (((0 : Int) ≤ v2 ∧ v2 < (3 : Int)) ∧ (((0 : Int) ≤ v3 ∧ v3 < (48 : Int)) ∧ (∀ x4_35 : Int, x4_35 = nn_ri M ((v0 + 150 + 3 * (v2).toNat) + 2) v3 → (((0 : Int) ≤ v2 ∧ v2 < (3 : Int)) ∧ (((nn_rf M (v0 + 150 + 3 * (v2).toNat) 2) = 0 → nk_Store_leftOver_11 v0 v1 v2 (mm_w (v3 + 1)) M R) ∧ ((nn_rf M (v0 + 150 + 3 * (v2).toNat) 2) ≠ 0 → (nr_Store_stands v0 x4_35 M (fun r52 M52 => ((r52 ≠ 0 → nk_Store_leftOver_11 v0 v1 v2 (mm_w (v3 + 1)) M52 R) ∧ (r52 = 0 → (nr_Store_isHeldAhead v0 x4_35 v2 M52 (fun r62 M62 => ((r62 ≠ 0 → nk_Store_leftOver_11 v0 v1 v2 (mm_w (v3 + 1)) M62 R) ∧ (r62 = 0 → nk_Store_leftOver_11 v0 (mm_w (v1 + 1)) v2 (mm_w (v3 + 1)) M62 R)))))))))))))))))) : nk_Store_leftOver_11 v0 v1 v2 v3 M R := by
  intro n L N C0
  have NN := nn_L_n L N
  show mm_Go (mm_run 2) mc_Store_leftOver _ (11, [(0, .inr (.inr v0)), (1, .inl v1), (2, .inl v2), (3, .inl v3)], [], M)
  refine mm_s1 rfl ?_
  refine mm_s1 rfl ?_
  refine nn_getr rfl C0.1 (lf_9_3 L N C0) ?_
  refine mm_s1 rfl ?_
  obtain ⟨b17, h⟩ := h
  have C17 : nn_C 3 (v0 + 150 + 3 * (v2).toNat) n := (nn_arr NN (nc_9_3 NN C0).2).2.1 (nc_9_3 NN C0).1 _ (nn_tn b17 (by decide))
  refine nn_aald rfl (nn_bd30 (na_9_3 NN C0) (by decide) b17) (nn_l33 L N (nc_9_3 NN C0) b17) ?_
  show mm_Go (mm_run 2) mc_Store_leftOver _ (18, [(0, .inr (.inr v0)), (1, .inl v1), (2, .inl v2), (3, .inl v3)], [.inr (.inr (v0 + 150 + 3 * (v2).toNat)), .inl v3], M)
  refine mm_s1 rfl ⟨C17.1, ?_⟩
  show mm_Go (mm_run 2) mc_Store_leftOver _ (21, [(0, .inr (.inr v0)), (1, .inl v1), (2, .inl v2), (3, .inl v3)], [.inl (nn_rf M (v0 + 150 + 3 * (v2).toNat) 5), .inl v3], M)
  refine mm_s1 rfl ⟨fun c21 => ?_, fun c21 => ?_⟩
  · show mm_Go (mm_run 2) mc_Store_leftOver _ (77, [(0, .inr (.inr v0)), (1, .inl v1), (2, .inl v2), (3, .inl v3)], [], M)
    replace h := h.1 c21
    refine mm_s1 rfl ?_
    show mm_Go (mm_run 2) mc_Store_leftOver _ (80, [(0, .inr (.inr v0)), (1, .inl v1), (2, .inl (mm_w (v2 + 1))), (3, .inl v3)], [], M)
    refine mm_s1 rfl ?_
    show mm_Go (mm_run 2) mc_Store_leftOver _ (4, [(0, .inr (.inr v0)), (1, .inl v1), (2, .inl (mm_w (v2 + 1))), (3, .inl v3)], [], M)
    exact nn_go_ext (nn_xc rfl (nn_xc rfl (nn_xc rfl nn_xn))) (h n L N C0)
  · show mm_Go (mm_run 2) mc_Store_leftOver _ (24, [(0, .inr (.inr v0)), (1, .inl v1), (2, .inl v2), (3, .inl v3)], [], M)
    replace c21 := Int.not_le.mp c21
    replace h := h.2 c21
    refine mm_s1 rfl ?_
    refine nn_getr rfl C0.1 (lf_9_3 L N C0) ?_
    refine mm_s1 rfl ?_
    obtain ⟨b29, h⟩ := h
    have C29 : nn_C 3 (v0 + 150 + 3 * (v2).toNat) n := (nn_arr NN (nc_9_3 NN C0).2).2.1 (nc_9_3 NN C0).1 _ (nn_tn b29 (by decide))
    refine nn_aald rfl (nn_bd30 (na_9_3 NN C0) (by decide) b29) (nn_l33 L N (nc_9_3 NN C0) b29) ?_
    show mm_Go (mm_run 2) mc_Store_leftOver _ (30, [(0, .inr (.inr v0)), (1, .inl v1), (2, .inl v2), (3, .inl v3)], [.inr (.inr (v0 + 150 + 3 * (v2).toNat))], M)
    refine nn_getr rfl C29.1 (lf_3_1 L N C29) ?_
    refine mm_s1 rfl ?_
    obtain ⟨b34, h⟩ := h
    refine mm_s1 rfl ⟨nn_bd (na_3_1 NN C29) b34, ?_⟩
    show mm_Go (mm_run 2) mc_Store_leftOver _ (35, [(0, .inr (.inr v0)), (1, .inl v1), (2, .inl v2), (3, .inl v3)], [.inl (nn_ri M ((v0 + 150 + 3 * (v2).toNat) + 2) v3)], M)
    refine mm_s1 rfl ?_
    show mm_Go (mm_run 2) mc_Store_leftOver _ (37, [(0, .inr (.inr v0)), (1, .inl v1), (2, .inl v2), (3, .inl v3), (4, .inl (nn_ri M ((v0 + 150 + 3 * (v2).toNat) + 2) v3))], [], M)
    generalize e_x4_35 : (nn_ri M ((v0 + 150 + 3 * (v2).toNat) + 2) v3) = x4_35
    replace h := h _ e_x4_35.symm
    show mm_Go (mm_run 2) mc_Store_leftOver _ (37, [(0, .inr (.inr v0)), (1, .inl v1), (2, .inl v2), (3, .inl v3), (4, .inl x4_35)], [], M)
    refine mm_s1 rfl ?_
    refine nn_getr rfl C0.1 (lf_9_3 L N C0) ?_
    refine mm_s1 rfl ?_
    obtain ⟨b42, h⟩ := h
    have C42 : nn_C 3 (v0 + 150 + 3 * (v2).toNat) n := (nn_arr NN (nc_9_3 NN C0).2).2.1 (nc_9_3 NN C0).1 _ (nn_tn b42 (by decide))
    refine nn_aald rfl (nn_bd30 (na_9_3 NN C0) (by decide) b42) (nn_l33 L N (nc_9_3 NN C0) b42) ?_
    show mm_Go (mm_run 2) mc_Store_leftOver _ (43, [(0, .inr (.inr v0)), (1, .inl v1), (2, .inl v2), (3, .inl v3), (4, .inl x4_35)], [.inr (.inr (v0 + 150 + 3 * (v2).toNat))], M)
    refine mm_s1 rfl ⟨C42.1, ?_⟩
    show mm_Go (mm_run 2) mc_Store_leftOver _ (46, [(0, .inr (.inr v0)), (1, .inl v1), (2, .inl v2), (3, .inl v3), (4, .inl x4_35)], [.inl (nn_rf M (v0 + 150 + 3 * (v2).toNat) 2)], M)
    refine mm_s1 rfl ⟨fun c46 => ?_, fun c46 => ?_⟩
    · show mm_Go (mm_run 2) mc_Store_leftOver _ (71, [(0, .inr (.inr v0)), (1, .inl v1), (2, .inl v2), (3, .inl v3), (4, .inl x4_35)], [], M)
      replace h := h.1 c46
      refine mm_s1 rfl ?_
      show mm_Go (mm_run 2) mc_Store_leftOver _ (74, [(0, .inr (.inr v0)), (1, .inl v1), (2, .inl v2), (3, .inl (mm_w (v3 + 1))), (4, .inl x4_35)], [], M)
      refine mm_s1 rfl ?_
      show mm_Go (mm_run 2) mc_Store_leftOver _ (11, [(0, .inr (.inr v0)), (1, .inl v1), (2, .inl v2), (3, .inl (mm_w (v3 + 1))), (4, .inl x4_35)], [], M)
      exact nn_go_ext (nn_xc rfl (nn_xc rfl (nn_xc rfl (nn_xc rfl nn_xn)))) (h n L N C0)
    · show mm_Go (mm_run 2) mc_Store_leftOver _ (49, [(0, .inr (.inr v0)), (1, .inl v1), (2, .inl v2), (3, .inl v3), (4, .inl x4_35)], [], M)
      replace h := h.2 c46
      refine mm_s1 rfl ?_
      refine mm_s1 rfl ?_
      refine mm_s1 rfl ⟨C0.1, ?_⟩
      refine nn_call (D := 2) (by decide) (h n L N C0) ?_
      intro v M52 q; clear L N h
      obtain ⟨r52, rfl, q52, L, N, h⟩ := q
      show mm_Go (mm_run 2) mc_Store_leftOver _ (55, [(0, .inr (.inr v0)), (1, .inl v1), (2, .inl v2), (3, .inl v3), (4, .inl x4_35)], [.inl r52], M52)
      refine mm_s1 rfl ⟨fun c55 => ?_, fun c55 => ?_⟩
      · show mm_Go (mm_run 2) mc_Store_leftOver _ (71, [(0, .inr (.inr v0)), (1, .inl v1), (2, .inl v2), (3, .inl v3), (4, .inl x4_35)], [], M52)
        replace h := h.1 c55
        refine mm_s1 rfl ?_
        show mm_Go (mm_run 2) mc_Store_leftOver _ (74, [(0, .inr (.inr v0)), (1, .inl v1), (2, .inl v2), (3, .inl (mm_w (v3 + 1))), (4, .inl x4_35)], [], M52)
        refine mm_s1 rfl ?_
        show mm_Go (mm_run 2) mc_Store_leftOver _ (11, [(0, .inr (.inr v0)), (1, .inl v1), (2, .inl v2), (3, .inl (mm_w (v3 + 1))), (4, .inl x4_35)], [], M52)
        exact nn_go_ext (nn_xc rfl (nn_xc rfl (nn_xc rfl (nn_xc rfl nn_xn)))) (h n L N C0)
      · show mm_Go (mm_run 2) mc_Store_leftOver _ (58, [(0, .inr (.inr v0)), (1, .inl v1), (2, .inl v2), (3, .inl v3), (4, .inl x4_35)], [], M52)
        replace c55 := Decidable.not_not.mp c55
        replace h := h.2 c55
        refine mm_s1 rfl ?_
        refine mm_s1 rfl ?_
        refine mm_s1 rfl ?_
        refine mm_s1 rfl ⟨C0.1, ?_⟩
        refine nn_call (D := 2) (by decide) (h n L N C0) ?_
        intro v M62 q; clear L N h
        obtain ⟨r62, rfl, q62, L, N, h⟩ := q
        show mm_Go (mm_run 2) mc_Store_leftOver _ (65, [(0, .inr (.inr v0)), (1, .inl v1), (2, .inl v2), (3, .inl v3), (4, .inl x4_35)], [.inl r62], M62)
        refine mm_s1 rfl ⟨fun c65 => ?_, fun c65 => ?_⟩
        · show mm_Go (mm_run 2) mc_Store_leftOver _ (71, [(0, .inr (.inr v0)), (1, .inl v1), (2, .inl v2), (3, .inl v3), (4, .inl x4_35)], [], M62)
          replace h := h.1 c65
          refine mm_s1 rfl ?_
          show mm_Go (mm_run 2) mc_Store_leftOver _ (74, [(0, .inr (.inr v0)), (1, .inl v1), (2, .inl v2), (3, .inl (mm_w (v3 + 1))), (4, .inl x4_35)], [], M62)
          refine mm_s1 rfl ?_
          show mm_Go (mm_run 2) mc_Store_leftOver _ (11, [(0, .inr (.inr v0)), (1, .inl v1), (2, .inl v2), (3, .inl (mm_w (v3 + 1))), (4, .inl x4_35)], [], M62)
          exact nn_go_ext (nn_xc rfl (nn_xc rfl (nn_xc rfl (nn_xc rfl nn_xn)))) (h n L N C0)
        · show mm_Go (mm_run 2) mc_Store_leftOver _ (68, [(0, .inr (.inr v0)), (1, .inl v1), (2, .inl v2), (3, .inl v3), (4, .inl x4_35)], [], M62)
          replace c65 := Decidable.not_not.mp c65
          replace h := h.2 c65
          refine mm_s1 rfl ?_
          show mm_Go (mm_run 2) mc_Store_leftOver _ (71, [(0, .inr (.inr v0)), (1, .inl (mm_w (v1 + 1))), (2, .inl v2), (3, .inl v3), (4, .inl x4_35)], [], M62)
          refine mm_s1 rfl ?_
          show mm_Go (mm_run 2) mc_Store_leftOver _ (74, [(0, .inr (.inr v0)), (1, .inl (mm_w (v1 + 1))), (2, .inl v2), (3, .inl (mm_w (v3 + 1))), (4, .inl x4_35)], [], M62)
          refine mm_s1 rfl ?_
          show mm_Go (mm_run 2) mc_Store_leftOver _ (11, [(0, .inr (.inr v0)), (1, .inl (mm_w (v1 + 1))), (2, .inl v2), (3, .inl (mm_w (v3 + 1))), (4, .inl x4_35)], [], M62)
          exact nn_go_ext (nn_xc rfl (nn_xc rfl (nn_xc rfl (nn_xc rfl nn_xn)))) (h n L N C0)
def nr_Table_mergeRuns (v0 : Nat) (v1 : Int) (v2 : Int) (v3 : Int) (v4 : Int) (M : mm_M) (R : mm_M → Prop) : Prop := ∀ n, nn_L M → M.1 = n → nn_C 10 v0 n → mm_run 3 mi_Table_mergeRuns [.inr (.inr v0), .inl v1, .inl v2, .inl v3, .inl v4] M (nw_V n R)
def nk_Table_mergeRuns_13 (v0 : Nat) (v1 : Int) (v2 : Int) (v3 : Int) (v4 : Int) (v5 : Nat) (v6 : Int) (M : mm_M) (R : mm_M → Prop) : Prop := ∀ n, nn_L M → M.1 = n → nn_C 10 v0 n → ((∃ j, j < 24 ∧ v5 = v0 + 7 + 3 + 3 * j) ∧ nn_C 12 v5 n) → mm_Go (mm_run 2) mc_Table_mergeRuns (nw_V n R) (13, [(0, .inr (.inr v0)), (1, .inl v1), (2, .inl v2), (3, .inl v3), (4, .inl v4), (5, .inr (.inr v5)), (6, .inl v6)], [], M)
set_option maxRecDepth 20000 in
theorem ng_Table_mergeRuns (v0 : Nat) (v1 : Int) (v2 : Int) (v3 : Int) (v4 : Int) (M : mm_M) (R : mm_M → Prop) (h : (((0 : Int) ≤ v1 ∧ v1 < (24 : Int)) ∧ nk_Table_mergeRuns_13 v0 v1 v2 v3 v4 (nn_rr M (v0 + 7) v1) (mm_w (v1 + 1)) M R)) : nr_Table_mergeRuns v0 v1 v2 v3 v4 M R := by
  intro n L N C0
  have NN := nn_L_n L N
  show mm_Go (mm_run 2) mc_Table_mergeRuns _ (0, [(0, .inr (.inr v0)), (1, .inl v1), (2, .inl v2), (3, .inl v3), (4, .inl v4)], [], M)
  refine mm_s1 rfl ?_
  refine nn_getr rfl C0.1 (lf_10_2 L N C0) ?_
  refine mm_s1 rfl ?_
  obtain ⟨b5, h⟩ := h
  have C5 := (nn_l42 L N (nc_10_2 NN C0) b5).2
  refine nn_aald rfl (nn_bd30 (na_10_2 NN C0) (by decide) b5) (nn_l42 L N (nc_10_2 NN C0) b5).1 ?_
  show mm_Go (mm_run 2) mc_Table_mergeRuns _ (6, [(0, .inr (.inr v0)), (1, .inl v1), (2, .inl v2), (3, .inl v3), (4, .inl v4)], [.inr (.inr (nn_rr M (v0 + 7) v1))], M)
  refine mm_s1 rfl ?_
  show mm_Go (mm_run 2) mc_Table_mergeRuns _ (8, [(0, .inr (.inr v0)), (1, .inl v1), (2, .inl v2), (3, .inl v3), (4, .inl v4), (5, .inr (.inr (nn_rr M (v0 + 7) v1)))], [], M)
  refine mm_s1 rfl ?_
  refine mm_s1 rfl ?_
  refine mm_s1 rfl ?_
  refine mm_s1 rfl ?_
  show mm_Go (mm_run 2) mc_Table_mergeRuns _ (13, [(0, .inr (.inr v0)), (1, .inl v1), (2, .inl v2), (3, .inl v3), (4, .inl v4), (5, .inr (.inr (nn_rr M (v0 + 7) v1))), (6, .inl (mm_w (v1 + 1)))], [], M)
  exact nn_go_ext (nn_xc rfl (nn_xc rfl (nn_xc rfl (nn_xc rfl (nn_xc rfl (nn_xc rfl (nn_xc rfl nn_xn))))))) (h n L N C0 ⟨C5.1, C5.2⟩)
set_option maxRecDepth 20000 in
theorem ng_Table_mergeRuns_13 (v0 : Nat) (v1 : Int) (v2 : Int) (v3 : Int) (v4 : Int) (v5 : Nat) (v6 : Int) (M : mm_M) (R : mm_M → Prop) (h : (((mm_w (v1 + v2)) ≤ v6 → (((mm_w (v1 + v2)) ≠ (nn_rf M v0 5) → (((0 : Int) ≤ v1 ∧ v1 < (24 : Int)) ∧ (∀ M63 : mm_M, M63 = nn_ui M (v0 + 8) v1 v3 → (nr_Table_newId v0 M63 (fun r70 M70 => (((0 : Int) ≤ v1 ∧ v1 < (24 : Int)) ∧ (∀ M73 : mm_M, M73 = nn_ui M70 (v0 + 9) v1 r70 → (((nn_rf M73 v5 2) ≠ 0 → (nr_Table_takeOut v0 (mm_w (v1 + 1)) (mm_w (v2 - 1)) M73 (fun M98 => R M98))) ∧ ((nn_rf M73 v5 2) = 0 → (nr_Table_takeOut v0 (mm_w (v1 + 0)) (mm_w (v2 - 0)) M73 (fun M98 => R M98))))))))))) ∧ ((mm_w (v1 + v2)) = (nn_rf M v0 5) → (nr_Table_forgetGone v0 v5 v4 M (fun M54 => (((0 : Int) ≤ v1 ∧ v1 < (24 : Int)) ∧ (∀ M63 : mm_M, M63 = nn_ui M54 (v0 + 8) v1 v3 → (nr_Table_newId v0 M63 (fun r70 M70 => (((0 : Int) ≤ v1 ∧ v1 < (24 : Int)) ∧ (∀ M73 : mm_M, M73 = nn_ui M70 (v0 + 9) v1 r70 → (((nn_rf M73 v5 2) ≠ 0 → (nr_Table_takeOut v0 (mm_w (v1 + 1)) (mm_w (v2 - 1)) M73 (fun M98 => R M98))) ∧ ((nn_rf M73 v5 2) = 0 → (nr_Table_takeOut v0 (mm_w (v1 + 0)) (mm_w (v2 - 0)) M73 (fun M98 => R M98))))))))))))))) ∧ (v6 < (mm_w (v1 + v2)) → (((0 : Int) ≤ v6 ∧ v6 < (24 : Int)) ∧ (nr_Versions_takeOlder v5 (nn_rr M (v0 + 7) v6) M (fun M30 => nk_Table_mergeRuns_13 v0 v1 v2 v3 v4 v5 (mm_w (v6 + 1)) M30 R)))))) : nk_Table_mergeRuns_13 v0 v1 v2 v3 v4 v5 v6 M R := by
  intro n L N C0 C5
  have NN := nn_L_n L N
  show mm_Go (mm_run 2) mc_Table_mergeRuns _ (13, [(0, .inr (.inr v0)), (1, .inl v1), (2, .inl v2), (3, .inl v3), (4, .inl v4), (5, .inr (.inr v5)), (6, .inl v6)], [], M)
  refine mm_s1 rfl ?_
  refine mm_s1 rfl ?_
  refine mm_s1 rfl ?_
  refine mm_s1 rfl ?_
  refine mm_s1 rfl ⟨fun c18 => ?_, fun c18 => ?_⟩
  · show mm_Go (mm_run 2) mc_Table_mergeRuns _ (39, [(0, .inr (.inr v0)), (1, .inl v1), (2, .inl v2), (3, .inl v3), (4, .inl v4), (5, .inr (.inr v5)), (6, .inl v6)], [], M)
    replace h := h.1 c18
    refine mm_s1 rfl ?_
    refine mm_s1 rfl ?_
    refine mm_s1 rfl ?_
    refine mm_s1 rfl ?_
    refine mm_s1 rfl ⟨C0.1, ?_⟩
    show mm_Go (mm_run 2) mc_Table_mergeRuns _ (46, [(0, .inr (.inr v0)), (1, .inl v1), (2, .inl v2), (3, .inl v3), (4, .inl v4), (5, .inr (.inr v5)), (6, .inl v6)], [.inl (nn_rf M v0 5), .inl (mm_w (v1 + v2))], M)
    refine mm_s1 rfl ⟨fun c46 => ?_, fun c46 => ?_⟩
    · show mm_Go (mm_run 2) mc_Table_mergeRuns _ (57, [(0, .inr (.inr v0)), (1, .inl v1), (2, .inl v2), (3, .inl v3), (4, .inl v4), (5, .inr (.inr v5)), (6, .inl v6)], [], M)
      replace h := h.1 c46
      refine mm_s1 rfl ?_
      refine nn_getr rfl C0.1 (lf_10_3 L N C0) ?_
      refine mm_s1 rfl ?_
      refine mm_s1 rfl ?_
      obtain ⟨b63, h⟩ := h
      refine mm_s1 rfl ⟨nn_bd (na_10_3 NN C0) b63, ?_⟩
      show mm_Go (mm_run 2) mc_Table_mergeRuns _ (64, [(0, .inr (.inr v0)), (1, .inl v1), (2, .inl v2), (3, .inl v3), (4, .inl v4), (5, .inr (.inr v5)), (6, .inl v6)], [], (nn_ui M (v0 + 8) v1 v3))
      have L : nn_L (nn_ui M (v0 + 8) v1 v3) := nn_L_ua L (congrArg Prod.fst (na_10_3 NN C0)) (by decide)
      have N : (nn_ui M (v0 + 8) v1 v3).1 = n := N
      generalize e_M63 : (nn_ui M (v0 + 8) v1 v3) = M63 at L N ⊢
      replace h := h _ e_M63.symm
      show mm_Go (mm_run 2) mc_Table_mergeRuns _ (64, [(0, .inr (.inr v0)), (1, .inl v1), (2, .inl v2), (3, .inl v3), (4, .inl v4), (5, .inr (.inr v5)), (6, .inl v6)], [], M63)
      refine mm_s1 rfl ?_
      refine nn_getr rfl C0.1 (lf_10_4 L N C0) ?_
      refine mm_s1 rfl ?_
      refine mm_s1 rfl ?_
      refine mm_s1 rfl ⟨C0.1, ?_⟩
      refine nn_call (D := 1) (by decide) (h n L N C0) ?_
      intro v M70 q; clear L N h
      obtain ⟨r70, rfl, L, N, h⟩ := q
      show mm_Go (mm_run 2) mc_Table_mergeRuns _ (73, [(0, .inr (.inr v0)), (1, .inl v1), (2, .inl v2), (3, .inl v3), (4, .inl v4), (5, .inr (.inr v5)), (6, .inl v6)], [.inl r70, .inl v1, .inr (.inr (v0 + 9))], M70)
      obtain ⟨b73, h⟩ := h
      refine mm_s1 rfl ⟨nn_bd (na_10_4 NN C0) b73, ?_⟩
      show mm_Go (mm_run 2) mc_Table_mergeRuns _ (74, [(0, .inr (.inr v0)), (1, .inl v1), (2, .inl v2), (3, .inl v3), (4, .inl v4), (5, .inr (.inr v5)), (6, .inl v6)], [], (nn_ui M70 (v0 + 9) v1 r70))
      have L : nn_L (nn_ui M70 (v0 + 9) v1 r70) := nn_L_ua L (congrArg Prod.fst (na_10_4 NN C0)) (by decide)
      have N : (nn_ui M70 (v0 + 9) v1 r70).1 = n := N
      generalize e_M73 : (nn_ui M70 (v0 + 9) v1 r70) = M73 at L N ⊢
      replace h := h _ e_M73.symm
      show mm_Go (mm_run 2) mc_Table_mergeRuns _ (74, [(0, .inr (.inr v0)), (1, .inl v1), (2, .inl v2), (3, .inl v3), (4, .inl v4), (5, .inr (.inr v5)), (6, .inl v6)], [], M73)
      refine mm_s1 rfl ?_
      refine mm_s1 rfl ⟨C5.2.1, ?_⟩
      show mm_Go (mm_run 2) mc_Table_mergeRuns _ (79, [(0, .inr (.inr v0)), (1, .inl v1), (2, .inl v2), (3, .inl v3), (4, .inl v4), (5, .inr (.inr v5)), (6, .inl v6)], [.inl (nn_rf M73 v5 2)], M73)
      refine mm_s1 rfl ⟨fun c79 => ?_, fun c79 => ?_⟩
      · show mm_Go (mm_run 2) mc_Table_mergeRuns _ (86, [(0, .inr (.inr v0)), (1, .inl v1), (2, .inl v2), (3, .inl v3), (4, .inl v4), (5, .inr (.inr v5)), (6, .inl v6)], [], M73)
        replace h := h.1 c79
        refine mm_s1 rfl ?_
        refine mm_s1 rfl ?_
        show mm_Go (mm_run 2) mc_Table_mergeRuns _ (89, [(0, .inr (.inr v0)), (1, .inl v1), (2, .inl v2), (3, .inl v3), (4, .inl v4), (5, .inr (.inr v5)), (6, .inl 1)], [], M73)
        refine mm_s1 rfl ?_
        refine mm_s1 rfl ?_
        refine mm_s1 rfl ?_
        refine mm_s1 rfl ?_
        refine mm_s1 rfl ?_
        show mm_Go (mm_run 2) mc_Table_mergeRuns _ (95, [(0, .inr (.inr v0)), (1, .inl v1), (2, .inl v2), (3, .inl v3), (4, .inl v4), (5, .inr (.inr v5)), (6, .inl 1)], [.inl v2, .inl (mm_w (v1 + 1)), .inr (.inr v0)], M73)
        refine mm_s1 rfl ?_
        refine mm_s1 rfl ?_
        refine mm_s1 rfl ⟨C0.1, ?_⟩
        refine nn_call (D := 1) (by decide) (h n L N C0) ?_
        intro v M98 q; clear L N h
        obtain ⟨rfl, L, N, h⟩ := q
        show mm_Go (mm_run 2) mc_Table_mergeRuns _ (101, [(0, .inr (.inr v0)), (1, .inl v1), (2, .inl v2), (3, .inl v3), (4, .inl v4), (5, .inr (.inr v5)), (6, .inl 1)], [], M98)
        exact mm_s1 rfl ⟨rfl, L, N, h⟩
      · show mm_Go (mm_run 2) mc_Table_mergeRuns _ (82, [(0, .inr (.inr v0)), (1, .inl v1), (2, .inl v2), (3, .inl v3), (4, .inl v4), (5, .inr (.inr v5)), (6, .inl v6)], [], M73)
        replace c79 := Decidable.not_not.mp c79
        replace h := h.2 c79
        refine mm_s1 rfl ?_
        refine mm_s1 rfl ?_
        show mm_Go (mm_run 2) mc_Table_mergeRuns _ (87, [(0, .inr (.inr v0)), (1, .inl v1), (2, .inl v2), (3, .inl v3), (4, .inl v4), (5, .inr (.inr v5)), (6, .inl v6)], [.inl 0], M73)
        refine mm_s1 rfl ?_
        show mm_Go (mm_run 2) mc_Table_mergeRuns _ (89, [(0, .inr (.inr v0)), (1, .inl v1), (2, .inl v2), (3, .inl v3), (4, .inl v4), (5, .inr (.inr v5)), (6, .inl 0)], [], M73)
        refine mm_s1 rfl ?_
        refine mm_s1 rfl ?_
        refine mm_s1 rfl ?_
        refine mm_s1 rfl ?_
        refine mm_s1 rfl ?_
        show mm_Go (mm_run 2) mc_Table_mergeRuns _ (95, [(0, .inr (.inr v0)), (1, .inl v1), (2, .inl v2), (3, .inl v3), (4, .inl v4), (5, .inr (.inr v5)), (6, .inl 0)], [.inl v2, .inl (mm_w (v1 + 0)), .inr (.inr v0)], M73)
        refine mm_s1 rfl ?_
        refine mm_s1 rfl ?_
        refine mm_s1 rfl ⟨C0.1, ?_⟩
        refine nn_call (D := 1) (by decide) (h n L N C0) ?_
        intro v M98 q; clear L N h
        obtain ⟨rfl, L, N, h⟩ := q
        show mm_Go (mm_run 2) mc_Table_mergeRuns _ (101, [(0, .inr (.inr v0)), (1, .inl v1), (2, .inl v2), (3, .inl v3), (4, .inl v4), (5, .inr (.inr v5)), (6, .inl 0)], [], M98)
        exact mm_s1 rfl ⟨rfl, L, N, h⟩
    · show mm_Go (mm_run 2) mc_Table_mergeRuns _ (49, [(0, .inr (.inr v0)), (1, .inl v1), (2, .inl v2), (3, .inl v3), (4, .inl v4), (5, .inr (.inr v5)), (6, .inl v6)], [], M)
      replace c46 := Decidable.not_not.mp c46
      replace h := h.2 c46
      refine mm_s1 rfl ?_
      refine mm_s1 rfl ?_
      refine mm_s1 rfl ?_
      refine mm_s1 rfl ⟨C0.1, ?_⟩
      refine nn_call (D := 2) (by decide) (h n L N C0 C5.2) ?_
      intro v M54 q; clear L N h
      obtain ⟨rfl, L, N, h⟩ := q
      show mm_Go (mm_run 2) mc_Table_mergeRuns _ (57, [(0, .inr (.inr v0)), (1, .inl v1), (2, .inl v2), (3, .inl v3), (4, .inl v4), (5, .inr (.inr v5)), (6, .inl v6)], [], M54)
      refine mm_s1 rfl ?_
      refine nn_getr rfl C0.1 (lf_10_3 L N C0) ?_
      refine mm_s1 rfl ?_
      refine mm_s1 rfl ?_
      obtain ⟨b63, h⟩ := h
      refine mm_s1 rfl ⟨nn_bd (na_10_3 NN C0) b63, ?_⟩
      show mm_Go (mm_run 2) mc_Table_mergeRuns _ (64, [(0, .inr (.inr v0)), (1, .inl v1), (2, .inl v2), (3, .inl v3), (4, .inl v4), (5, .inr (.inr v5)), (6, .inl v6)], [], (nn_ui M54 (v0 + 8) v1 v3))
      have L : nn_L (nn_ui M54 (v0 + 8) v1 v3) := nn_L_ua L (congrArg Prod.fst (na_10_3 NN C0)) (by decide)
      have N : (nn_ui M54 (v0 + 8) v1 v3).1 = n := N
      generalize e_M63 : (nn_ui M54 (v0 + 8) v1 v3) = M63 at L N ⊢
      replace h := h _ e_M63.symm
      show mm_Go (mm_run 2) mc_Table_mergeRuns _ (64, [(0, .inr (.inr v0)), (1, .inl v1), (2, .inl v2), (3, .inl v3), (4, .inl v4), (5, .inr (.inr v5)), (6, .inl v6)], [], M63)
      refine mm_s1 rfl ?_
      refine nn_getr rfl C0.1 (lf_10_4 L N C0) ?_
      refine mm_s1 rfl ?_
      refine mm_s1 rfl ?_
      refine mm_s1 rfl ⟨C0.1, ?_⟩
      refine nn_call (D := 1) (by decide) (h n L N C0) ?_
      intro v M70 q; clear L N h
      obtain ⟨r70, rfl, L, N, h⟩ := q
      show mm_Go (mm_run 2) mc_Table_mergeRuns _ (73, [(0, .inr (.inr v0)), (1, .inl v1), (2, .inl v2), (3, .inl v3), (4, .inl v4), (5, .inr (.inr v5)), (6, .inl v6)], [.inl r70, .inl v1, .inr (.inr (v0 + 9))], M70)
      obtain ⟨b73, h⟩ := h
      refine mm_s1 rfl ⟨nn_bd (na_10_4 NN C0) b73, ?_⟩
      show mm_Go (mm_run 2) mc_Table_mergeRuns _ (74, [(0, .inr (.inr v0)), (1, .inl v1), (2, .inl v2), (3, .inl v3), (4, .inl v4), (5, .inr (.inr v5)), (6, .inl v6)], [], (nn_ui M70 (v0 + 9) v1 r70))
      have L : nn_L (nn_ui M70 (v0 + 9) v1 r70) := nn_L_ua L (congrArg Prod.fst (na_10_4 NN C0)) (by decide)
      have N : (nn_ui M70 (v0 + 9) v1 r70).1 = n := N
      generalize e_M73 : (nn_ui M70 (v0 + 9) v1 r70) = M73 at L N ⊢
      replace h := h _ e_M73.symm
      show mm_Go (mm_run 2) mc_Table_mergeRuns _ (74, [(0, .inr (.inr v0)), (1, .inl v1), (2, .inl v2), (3, .inl v3), (4, .inl v4), (5, .inr (.inr v5)), (6, .inl v6)], [], M73)
      refine mm_s1 rfl ?_
      refine mm_s1 rfl ⟨C5.2.1, ?_⟩
      show mm_Go (mm_run 2) mc_Table_mergeRuns _ (79, [(0, .inr (.inr v0)), (1, .inl v1), (2, .inl v2), (3, .inl v3), (4, .inl v4), (5, .inr (.inr v5)), (6, .inl v6)], [.inl (nn_rf M73 v5 2)], M73)
      refine mm_s1 rfl ⟨fun c79 => ?_, fun c79 => ?_⟩
      · show mm_Go (mm_run 2) mc_Table_mergeRuns _ (86, [(0, .inr (.inr v0)), (1, .inl v1), (2, .inl v2), (3, .inl v3), (4, .inl v4), (5, .inr (.inr v5)), (6, .inl v6)], [], M73)
        replace h := h.1 c79
        refine mm_s1 rfl ?_
        refine mm_s1 rfl ?_
        show mm_Go (mm_run 2) mc_Table_mergeRuns _ (89, [(0, .inr (.inr v0)), (1, .inl v1), (2, .inl v2), (3, .inl v3), (4, .inl v4), (5, .inr (.inr v5)), (6, .inl 1)], [], M73)
        refine mm_s1 rfl ?_
        refine mm_s1 rfl ?_
        refine mm_s1 rfl ?_
        refine mm_s1 rfl ?_
        refine mm_s1 rfl ?_
        show mm_Go (mm_run 2) mc_Table_mergeRuns _ (95, [(0, .inr (.inr v0)), (1, .inl v1), (2, .inl v2), (3, .inl v3), (4, .inl v4), (5, .inr (.inr v5)), (6, .inl 1)], [.inl v2, .inl (mm_w (v1 + 1)), .inr (.inr v0)], M73)
        refine mm_s1 rfl ?_
        refine mm_s1 rfl ?_
        refine mm_s1 rfl ⟨C0.1, ?_⟩
        refine nn_call (D := 1) (by decide) (h n L N C0) ?_
        intro v M98 q; clear L N h
        obtain ⟨rfl, L, N, h⟩ := q
        show mm_Go (mm_run 2) mc_Table_mergeRuns _ (101, [(0, .inr (.inr v0)), (1, .inl v1), (2, .inl v2), (3, .inl v3), (4, .inl v4), (5, .inr (.inr v5)), (6, .inl 1)], [], M98)
        exact mm_s1 rfl ⟨rfl, L, N, h⟩
      · show mm_Go (mm_run 2) mc_Table_mergeRuns _ (82, [(0, .inr (.inr v0)), (1, .inl v1), (2, .inl v2), (3, .inl v3), (4, .inl v4), (5, .inr (.inr v5)), (6, .inl v6)], [], M73)
        replace c79 := Decidable.not_not.mp c79
        replace h := h.2 c79
        refine mm_s1 rfl ?_
        refine mm_s1 rfl ?_
        show mm_Go (mm_run 2) mc_Table_mergeRuns _ (87, [(0, .inr (.inr v0)), (1, .inl v1), (2, .inl v2), (3, .inl v3), (4, .inl v4), (5, .inr (.inr v5)), (6, .inl v6)], [.inl 0], M73)
        refine mm_s1 rfl ?_
        show mm_Go (mm_run 2) mc_Table_mergeRuns _ (89, [(0, .inr (.inr v0)), (1, .inl v1), (2, .inl v2), (3, .inl v3), (4, .inl v4), (5, .inr (.inr v5)), (6, .inl 0)], [], M73)
        refine mm_s1 rfl ?_
        refine mm_s1 rfl ?_
        refine mm_s1 rfl ?_
        refine mm_s1 rfl ?_
        refine mm_s1 rfl ?_
        show mm_Go (mm_run 2) mc_Table_mergeRuns _ (95, [(0, .inr (.inr v0)), (1, .inl v1), (2, .inl v2), (3, .inl v3), (4, .inl v4), (5, .inr (.inr v5)), (6, .inl 0)], [.inl v2, .inl (mm_w (v1 + 0)), .inr (.inr v0)], M73)
        refine mm_s1 rfl ?_
        refine mm_s1 rfl ?_
        refine mm_s1 rfl ⟨C0.1, ?_⟩
        refine nn_call (D := 1) (by decide) (h n L N C0) ?_
        intro v M98 q; clear L N h
        obtain ⟨rfl, L, N, h⟩ := q
        show mm_Go (mm_run 2) mc_Table_mergeRuns _ (101, [(0, .inr (.inr v0)), (1, .inl v1), (2, .inl v2), (3, .inl v3), (4, .inl v4), (5, .inr (.inr v5)), (6, .inl 0)], [], M98)
        exact mm_s1 rfl ⟨rfl, L, N, h⟩
  · show mm_Go (mm_run 2) mc_Table_mergeRuns _ (21, [(0, .inr (.inr v0)), (1, .inl v1), (2, .inl v2), (3, .inl v3), (4, .inl v4), (5, .inr (.inr v5)), (6, .inl v6)], [], M)
    replace c18 := Int.not_le.mp c18
    replace h := h.2 c18
    refine mm_s1 rfl ?_
    refine mm_s1 rfl ?_
    refine nn_getr rfl C0.1 (lf_10_2 L N C0) ?_
    refine mm_s1 rfl ?_
    obtain ⟨b29, h⟩ := h
    have C29 := (nn_l42 L N (nc_10_2 NN C0) b29).2
    refine nn_aald rfl (nn_bd30 (na_10_2 NN C0) (by decide) b29) (nn_l42 L N (nc_10_2 NN C0) b29).1 ?_
    show mm_Go (mm_run 2) mc_Table_mergeRuns _ (30, [(0, .inr (.inr v0)), (1, .inl v1), (2, .inl v2), (3, .inl v3), (4, .inl v4), (5, .inr (.inr v5)), (6, .inl v6)], [.inr (.inr (nn_rr M (v0 + 7) v6)), .inr (.inr v5)], M)
    refine mm_s1 rfl ⟨C5.2.1, ?_⟩
    refine nn_call (D := 2) (by decide) (h n L N C5.2 C29.2) ?_
    intro v M30 q; clear L N h
    obtain ⟨rfl, L, N, h⟩ := q
    show mm_Go (mm_run 2) mc_Table_mergeRuns _ (33, [(0, .inr (.inr v0)), (1, .inl v1), (2, .inl v2), (3, .inl v3), (4, .inl v4), (5, .inr (.inr v5)), (6, .inl v6)], [], M30)
    refine mm_s1 rfl ?_
    show mm_Go (mm_run 2) mc_Table_mergeRuns _ (36, [(0, .inr (.inr v0)), (1, .inl v1), (2, .inl v2), (3, .inl v3), (4, .inl v4), (5, .inr (.inr v5)), (6, .inl (mm_w (v6 + 1)))], [], M30)
    refine mm_s1 rfl ?_
    show mm_Go (mm_run 2) mc_Table_mergeRuns _ (13, [(0, .inr (.inr v0)), (1, .inl v1), (2, .inl v2), (3, .inl v3), (4, .inl v4), (5, .inr (.inr v5)), (6, .inl (mm_w (v6 + 1)))], [], M30)
    exact nn_go_ext (nn_xc rfl (nn_xc rfl (nn_xc rfl (nn_xc rfl (nn_xc rfl (nn_xc rfl (nn_xc rfl nn_xn))))))) (h n L N C0 ⟨C5.1, C5.2⟩)
